theorem r_would {σ : ft_St} {A : AA} {a : Int32} {Φ : Int32 → ft_St → Prop} (hR : RepR σ A) (hok : AOk A) (h : ∀ σ', RepR σ' (wouldF A a).2 → Φ (wouldF A a).1 σ') : w_X10_would a σ Φ := by
  unfold w_X10_would
  unfold wouldF at h
  have hM := hR.1.1
  refine r_isDeed (fun y => ⟨fun _ => ?_, fun z => absurd z (by decide)⟩) (fun y => ⟨fun z => absurd rfl z, fun _ => ?_⟩)
  rotate_left
  · rw [cif_f y] at h; exact r_badA hR h
  rw [cif_t y] at h
  obtain ⟨d, hd, rfl⟩ := y
  have hcl : cl (nI d) = d := nI_clamp (by omega)
  rw [hcl] at h
  refine r_isSeen (by omega) ?_
  rw [hM.2.1]
  cases es : bt (mS (zM A.1)) d
  · rw [cif_f (by rw [es]; decide)] at h
    exact ⟨fun z => absurd rfl z, fun _ => r_noA hR h⟩
  · rw [cif_t es] at h
    refine ⟨fun _ => ?_, fun z => absurd z (by decide)⟩
    rw [hR.1.2.1]
    refine r_sawBy hM hok.1.1 (by omega) ⟨fun z => ?_, fun z => ?_⟩
    · rw [if_neg z] at h; exact r_verdict (h σ hR)
    · rw [if_pos z] at h; exact h σ hR
theorem r_sight {σ : ft_St} {A : AA} {k : Int32} {Φ : Int32 → ft_St → Prop} (hR : RepR σ A) (hok : AOk A) (h : ∀ σ', RepR σ' (sightF A k).2 → Φ (sightF A k).1 σ') : w_X10_sight k σ Φ := by
  unfold w_X10_sight
  unfold sightF at h
  have hc8 := hok.1.2.1
  refine ⟨fun y => ?_, fun y => ?_⟩
  · rw [cif_t y] at h
    rw [hR.1.2.2.1]
    refine ⟨fun z => by rw [cif_t z] at h; exact h σ hR, fun z => ?_⟩
    rw [cif_f z] at h
    have hk : ∃ n, n < zC A.1 ∧ k = nI n := by
      have e0 : (0 : Int32).toInt = 0 := by decide
      have ec := nI_toInt (show zC A.1 < 2 ^ 31 by omega)
      rw [Int32.le_iff_toInt_le] at y z
      rw [e0] at y
      rw [ec] at z
      refine ⟨k.toInt.toNat, by omega, ?_⟩
      apply Int32.toInt_inj.mp
      rw [nI_toInt (by omega)]
      omega
    obtain ⟨n, hn, rfl⟩ := hk
    have hcl : (nI n).toNatClampNeg = n := nI_clamp (by omega)
    have h := h σ hR
    have h : Φ (zG A.1 (nI n).toNatClampNeg) σ := h
    rw [hcl] at h ⊢
    refine ⟨vp_in_nI (by omega) (by decide), ?_⟩
    rw [hR.1.2.2.2 n hn]; exact h
  · rw [cif_f y] at h; exact r_badA hR h
theorem ds4 {k : Int32} (h : isN k 3) : k = 0 ∨ k = 1 ∨ k = 2 ∨ k = 3 := by
  obtain ⟨n, hn, rfl⟩ := h
  have : n = 0 ∨ n = 1 ∨ n = 2 ∨ n = 3 := by omega
  rcases this with e | e | e | e <;> subst e
  · exact Or.inl rfl
  · exact Or.inr (Or.inl rfl)
  · exact Or.inr (Or.inr (Or.inl rfl))
  · exact Or.inr (Or.inr (Or.inr rfl))
theorem b_v2 {x : Int32} {i j : Nat} (hi : i < 32) (hj : j < 32) : ((x >>> (nI i &&& 31)) &&& 1) + ((x >>> (nI j &&& 31)) &&& 1) ≤ 0 ↔ (bt x i || bt x j) = false := by
  rw [b_val hi, b_val hj]
  cases bt x i <;> cases bt x j <;> decide
theorem r_of {σ : ft_St} {A : AA} {w k : Int32} {Φ : Int32 → ft_St → Prop} (hR : RepR σ A) (hok : AOk A) (h : ∀ σ', RepR σ' (ofF A w k).2 → Φ (ofF A w k).1 σ') : w_X10_of w k σ Φ := by
  unfold w_X10_of
  unfold ofF at h
  have hM := hR.1.1
  have hokM := hok.1.1
  have h24 := hokM.1
  have bad : ¬ (isW (zM A.1) w ∧ isN k 3) → w_X10_bad σ (fun (r3 : Int32) (s4 : ft_St) => Φ r3 s4) := fun y => by
    rw [cif_f y] at h
    exact r_badA hR h
  refine r_inW hM hokM (fun y1 J2 hJ2 => ⟨fun z => absurd z (by decide), fun _ => ?_⟩) (fun y1 J2 hJ2 => ⟨fun _ => hJ2 (bad (fun w => y1 w.1)), fun z => absurd rfl z⟩)
  refine r_in (m := 3) (by decide) (fun y2 => ⟨fun _ => ?_, fun z => absurd z (by decide)⟩) (fun y2 => ⟨fun z => absurd rfl z, fun _ => hJ2 (bad (fun w => y2 w.2))⟩)
  rw [cif_t ⟨y1, y2⟩] at h
  obtain ⟨n, hn, rfl⟩ := y1
  have hcl : cl (nI n) = n := nI_clamp (by omega)
  have hcl' : (nI n).toNatClampNeg = n := hcl
  rw [hcl] at h
  have h := h σ hR
  have hin : vp_in (nI n) 24 := vp_in_nI (by omega) (by decide)
  obtain ⟨r1, r2, r3⟩ := hM.2.2.2 n hn
  rw [hcl', r1, r2, r3]
  unfold ofV at h
  rcases ds4 y2 with e | e | e | e <;> subst e
  · rw [if_pos rfl] at h
    exact ⟨fun _ => ⟨fun z => absurd rfl z, fun _ => ⟨hin, h⟩⟩, fun z => absurd z (by decide)⟩
  · rw [if_neg (by decide), if_pos rfl] at h
    exact ⟨fun _ => ⟨fun _ => ⟨fun z => absurd rfl z, fun _ => ⟨hin, h⟩⟩, fun z => absurd z (by decide)⟩, fun z => absurd z (by decide)⟩
  · rw [if_neg (by decide), if_neg (by decide), if_pos rfl] at h
    exact ⟨fun _ => ⟨fun _ => ⟨fun _ => ⟨hin, h⟩, fun z => absurd z (by decide)⟩, fun z => absurd z (by decide)⟩, fun z => absurd z (by decide)⟩
  · rw [if_neg (by decide), if_neg (by decide), if_neg (by decide)] at h
    refine ⟨fun z => absurd rfl z, fun _ => ?_⟩
    have b10 := (hokM.2.1 n hn).1
    refine r_allMarks hM hokM ⟨hin, hin, ?_⟩
    rw [show nI (mF (zM A.1) n) + 10 = nI (mF (zM A.1) n + 10) from nI_add _ 10, b_v2 (by omega) (by omega)]
    refine ⟨fun z => by rw [z] at h; exact h, fun z => ?_⟩
    have : (bt (MKS (zM A.1)) (mF (zM A.1) n) || bt (MKS (zM A.1)) (mF (zM A.1) n + 10)) = true := by
      cases e : (bt (MKS (zM A.1)) (mF (zM A.1) n) || bt (MKS (zM A.1)) (mF (zM A.1) n + 10))
      · exact absurd e z
      · rfl
    rw [this] at h; exact h
theorem ds6 {k : Int32} (h : isN k 5) : k = 0 ∨ k = 1 ∨ k = 2 ∨ k = 3 ∨ k = 4 ∨ k = 5 := by
  obtain ⟨n, hn, rfl⟩ := h
  have : n ≤ 4 ∨ n = 5 := by omega
  rcases this with e | e
  · rcases ds5 ⟨n, e, rfl⟩ with e | e | e | e | e <;> rw [e] <;> simp
  · subst e; exact Or.inr (Or.inr (Or.inr (Or.inr (Or.inr rfl))))
theorem r_all {σ : ft_St} {A : AA} {k : Int32} {Φ : Int32 → ft_St → Prop} (hR : RepR σ A) (hok : AOk A) (h : ∀ σ', RepR σ' (allF A k).2 → Φ (allF A k).1 σ') : w_X10_all k σ Φ := by
  unfold w_X10_all
  unfold allF at h
  have hM := hR.1.1
  have hokM := hok.1.1
  refine r_in (m := 5) (by decide) (fun y => ⟨fun z => absurd z (by decide), fun _ => ?_⟩) (fun y => ⟨fun _ => ?_, fun z => absurd rfl z⟩)
  rotate_left
  · rw [cif_f y] at h; exact r_badA hR h
  rw [cif_t y] at h
  have h : ∀ σ', KeepR σ σ' → Φ (allV (zM A.1) k) σ' := fun σ' q => h σ' (hR.keep q)
  unfold allV at h
  unfold w_X10_allBy
  have n1 : ∀ a b : Int32, a ≠ b → ¬ a = b := fun _ _ q => q
  rcases ds6 y with e | e | e | e | e | e <;> subst e
  · rw [if_pos rfl] at h
    exact ⟨fun z => absurd rfl z, fun _ => r_allMarks hM hokM (h σ (KeepR.refl σ))⟩
  · rw [if_neg (by decide), if_pos rfl] at h
    refine ⟨fun _ => ⟨fun z => absurd z (by decide), fun _ => r_findsSets hM hokM (fun s4 hL hK => ⟨fun z => absurd rfl z, fun _ => ?_⟩)⟩, fun z => absurd z (by decide)⟩
    rw [hL.2.1]; exact h s4 hK
  · rw [if_neg (by decide), if_neg (by decide), if_pos rfl] at h
    refine ⟨fun _ => ⟨fun z => absurd z (by decide), fun _ => r_findsSets hM hokM (fun s4 hL hK => ⟨fun _ J6 hJ6 => ⟨fun z => absurd rfl z, fun _ => hJ6 2 (r_setsWith hL (h s4 hK))⟩, fun z => absurd z (by decide)⟩)⟩, fun z => absurd z (by decide)⟩
  · rw [if_neg (by decide), if_neg (by decide), if_neg (by decide), if_pos rfl] at h
    refine ⟨fun _ => ⟨fun z => absurd z (by decide), fun _ => r_findsSets hM hokM (fun s4 hL hK => ⟨fun _ J6 hJ6 => ⟨fun _ => hJ6 1 (r_setsWith hL (h s4 hK)), fun z => absurd z (by decide)⟩, fun z => absurd z (by decide)⟩)⟩, fun z => absurd z (by decide)⟩
  · rw [if_neg (by decide), if_neg (by decide), if_neg (by decide), if_neg (by decide), if_pos rfl] at h
    refine ⟨fun _ => ⟨fun _ => r_findsPairs hM hokM (fun f h01 hf => ⟨fun z => absurd rfl z, fun _ => r_pairMany (by rw [sA_s]; exact h01) ?_⟩), fun z => absurd (by decide) z⟩, fun z => absurd z (by decide)⟩
    have := h _ (KeepR.sA σ f (by decide) (k := 9))
    rw [sA_s, cnt_congr (fun e he => hf e he)]
    exact this
  · rw [if_neg (by decide), if_neg (by decide), if_neg (by decide), if_neg (by decide), if_neg (by decide)] at h
    refine ⟨fun _ => ⟨fun _ => r_findsPairs hM hokM (fun f h01 hf => ⟨fun _ => r_doubtMany (by rw [sA_s]; exact h01) ?_, fun z => absurd z (by decide)⟩), fun z => absurd (by decide) z⟩, fun z => absurd z (by decide)⟩
    have := h _ (KeepR.sA σ f (by decide) (k := 9))
    rw [sA_s, cnt_congr (fun e he => hf (100 + e) (by omega))]
    exact this
theorem ds2 {k : Int32} (h : isN k 1) : k = 0 ∨ k = 1 := by
  obtain ⟨n, hn, rfl⟩ := h
  have : n = 0 ∨ n = 1 := by omega
  rcases this with e | e <;> subst e
  · exact Or.inl rfl
  · exact Or.inr rfl
theorem r_apart {σ : ft_St} {A : AA} {k : Int32} {Φ : Int32 → ft_St → Prop} (hR : RepR σ A) (hok : AOk A) (h : ∀ σ', RepR σ' (apartF A k).2 → Φ (apartF A k).1 σ') : w_X10_apart k σ Φ := by
  unfold w_X10_apart
  unfold apartF at h
  have hM := hR.1.1
  have hokM := hok.1.1
  refine r_in (m := 1) (by decide) (fun y => ⟨fun z => absurd z (by decide), fun _ => ?_⟩) (fun y => ⟨fun _ => ?_, fun z => absurd rfl z⟩)
  rotate_left
  · rw [cif_f y] at h; exact r_badA hR h
  rw [cif_t y] at h
  have h : ∀ σ', KeepR σ σ' → Φ (apartV (zM A.1) k) σ' := fun σ' q => h σ' (hR.keep q)
  unfold apartV at h
  unfold w_X10_apartBy
  refine r_isApart hM hokM (fun s2 hK => ?_)
  rcases ds2 y with e | e <;> subst e
  · rw [if_pos rfl] at h
    refine ⟨fun z => absurd rfl z, fun _ => ?_⟩
    have h := h s2 hK
    cases er : ringB (zM A.1) (mS (zM A.1))
    · rw [er] at h; exact ⟨fun z => absurd z (by decide), fun _ => h⟩
    · rw [er] at h; exact ⟨fun _ => h, fun z => absurd rfl z⟩
  · rw [if_neg (by decide)] at h
    refine ⟨fun _ => ?_, fun z => absurd z (by decide)⟩
    cases er : ringB (zM A.1) (mS (zM A.1))
    · refine ⟨fun z => absurd z (by decide), fun _ => ?_⟩
      refine r_delay (hM.keep hK) hokM (by rw [← ringB_t, er]; decide) (fun r s hd hK2 => ?_)
      have h := h s (hK.trans hK2)
      rw [dlyV_e hd] at h; exact h
    · refine ⟨fun _ => ?_, fun z => absurd rfl z⟩
      have hd : IsDly (zM A.1) (mS (zM A.1)) (-1) := Or.inl ⟨rfl, (ring_iff hokM).mp (ringB_t.mp er)⟩
      have h := h s2 hK
      rw [dlyV_e hd] at h; exact h
theorem r_soonestA {σ : ft_St} {A : AA} {k : Int32} {Φ : Int32 → ft_St → Prop} (hR : RepR σ A) (hok : AOk A) (h : ∀ σ', RepR σ' (soonestF A k).2 → Φ (soonestF A k).1 σ') : w_X10_soonest k σ Φ := by
  unfold soonestF at h
  refine r_soonest hR.1.1 hok.1.1 (fun y r s hs hK => ?_) (fun y => ?_)
  · rw [cif_t y] at h
    have h := h s (hR.keep hK)
    have h : Φ (soonV (BFS (zM A.1)) (vA k)) s := h
    rw [soonV_e hs] at h; exact h
  · rw [cif_f y] at h; exact r_badA hR h
theorem r_enough {σ : ft_St} {A : AA} {e : Int32} {Φ : Int32 → ft_St → Prop} (hR : RepR σ A) (hok : AOk A) (h : ∀ σ', RepR σ' (enoughF A e).2 → Φ (enoughF A e).1 σ') : w_X10_enough e σ Φ := by
  unfold w_X10_enough
  unfold enoughF at h
  refine r_areEyes hR.1.1 (fun y => ⟨fun _ => ?_, fun z => absurd z (by decide)⟩) (fun y => ⟨fun z => absurd rfl z, fun _ => ?_⟩)
  · rw [cif_t y] at h
    refine r_isApartWith hR.1.1 hok.1.1 y (fun s hK => ?_)
    have h := h s (hR.keep hK)
    have h : Φ (b01 (!ringB (zM A.1) (mS (zM A.1) ||| e))) s := h
    cases er : ringB (zM A.1) (mS (zM A.1) ||| e)
    · rw [er] at h; exact ⟨fun z => absurd z (by decide), fun _ => h⟩
    · rw [er] at h; exact ⟨fun _ => h, fun z => absurd rfl z⟩
  · rw [cif_f y] at h; exact r_badA hR h
theorem r_fewestA {σ : ft_St} {A : AA} {k : Int32} {Φ : Int32 → ft_St → Prop} (hR : RepR σ A) (hok : AOk A) (h : ∀ σ', RepR σ' (fewestF A k).2 → Φ (fewestF A k).1 σ') : w_X10_fewest k σ Φ := by
  unfold fewestF at h
  refine r_fewest hR.1.1 hok.1.1 (fun y r s hs hK => ?_) (fun y => ?_)
  · rw [cif_t y] at h
    have h := h s (hR.keep hK)
    have h : Φ (fewA k (fewV (zM A.1))) s := h
    rw [fewV_e hs] at h; exact h
  · rw [cif_f y] at h; exact r_badA hR h
theorem r_pair {σ : ft_St} {A : AA} {m p : Int32} {Φ : Int32 → ft_St → Prop} (hR : RepR σ A) (hok : AOk A) (h : ∀ σ', RepR σ' (pairF A m p).2 → Φ (pairF A m p).1 σ') : w_X10_pair m p σ Φ := by
  unfold w_X10_pair
  unfold pairF at h
  have hM := hR.1.1
  have hokM := hok.1.1
  have bad : ¬ (isN m 19 ∧ isN p 9) → w_X10_bad σ (fun (r3 : Int32) (s4 : ft_St) => Φ r3 s4) := fun y => by
    rw [cif_f y] at h
    exact r_badA hR h
  refine r_in (m := 19) (by decide) (fun y1 J2 hJ2 => ⟨fun z => absurd z (by decide), fun _ => ?_⟩) (fun y1 J2 hJ2 => ⟨fun _ => hJ2 (bad (fun w => y1 w.1)), fun z => absurd rfl z⟩)
  refine r_isPlace (fun y2 => ⟨fun _ => ?_, fun z => absurd z (by decide)⟩) (fun y2 => ⟨fun z => absurd rfl z, fun _ => hJ2 (bad (fun w => y2 w.2))⟩)
  rw [cif_t ⟨y1, y2⟩] at h
  obtain ⟨a, ha, rfl⟩ := y1
  obtain ⟨b, hb, rfl⟩ := y2
  have ca : cl (nI a) = a := nI_clamp (by omega)
  have cb : cl (nI b) = b := nI_clamp (by omega)
  rw [ca, cb] at h
  have h : ∀ σ', KeepR σ σ' → Φ (pairV (zM A.1) a b) σ' := fun σ' q => h σ' (hR.keep q)
  unfold pairV at h
  have e10 : (10 : Int32) * nI a + nI b = nI (10 * a + b) := by
    rw [show (10 : Int32) = nI 10 from rfl, pk_mul, nI_add]
  have hc : (nI (10 * a + b)).toNatClampNeg = 10 * a + b := nI_clamp (by omega)
  rw [e10, hc]
  refine r_findsLeads hM hokM (fun s6 hL hK => ⟨vp_in_nI (by omega) (by decide), fun z => ?_, fun z => ?_⟩)
  · have z1 : s6.2.1 9 (10 * a + b) = 1 := (hL.1 (10 * a + b) (by omega)).elim (fun q => absurd q z) id
    have hp : Pc (zM A.1) (mS (zM A.1)) (10 * a + b) := (hL.2.1 _ (by omega)).mp z1
    rw [cif_t hp] at h
    refine r_goesOn2 hokM hL (fun s7 e1 e2 hL2 => ?_)
    have h := h s7 (hK.trans ⟨fun j _ _ _ => by rw [e1], fun a _ => by rw [e2]⟩)
    have hlt : nI a < 10 ↔ a < 10 := nI_ltI (b := 10) (by omega) (by decide)
    rw [hlt]
    intro J8 hJ8
    refine ⟨fun w => hJ8 ?_, fun w => ?_⟩
    · rw [if_neg (fun q => by omega)] at h; exact h
    · have e3 : (10 : Int32) * (nI a - 10) + nI b = nI (10 * (a - 10) + b) := by
        rw [show nI a - 10 = nI (a - 10) from nI_sub (b := 10) (by omega), show (10 : Int32) = nI 10 from rfl, pk_mul, nI_add]
      rw [e3]
      have hcd : CD (zM A.1) (mS (zM A.1)) (10 * (a - 10) + b) := ⟨by omega, by
        rw [show 100 + (10 * (a - 10) + b) = 10 * a + b by omega]; exact hp⟩
      refine r_isOfRing hokM hL2 hcd ?_
      cases er : rngB (zM A.1) (mS (zM A.1)) (10 * (a - 10) + b)
      · rw [if_neg (fun q => by rw [er] at q; exact absurd q.2 (by decide))] at h
        exact ⟨fun _ => hJ8 h, fun q => absurd rfl q⟩
      · rw [if_pos ⟨by omega, er⟩] at h
        exact ⟨fun q => absurd q (by decide), fun _ => h⟩
  · have hp : ¬ Pc (zM A.1) (mS (zM A.1)) (10 * a + b) := by
      rw [← hL.2.1 _ (by omega), z]; decide
    rw [cif_f hp] at h
    exact h s6 hK
