theorem t_foundSets {σ : ft_St} {A : AA} {Φ : ft_St → Prop} (hR : RepC σ A) (hok : AOk A) (h : ∀ σ', RepC σ' A → RepLC σ' (BFS (zM A.1)) → Φ σ') : w_X9_foundSets σ Φ := by
  unfold w_X9_foundSets
  obtain ⟨h1, h2, h3, h4⟩ := id hR
  intro J2 hJ2
  refine ⟨fun y => hJ2 σ (h σ hR (h3.1 y)), fun y => ?_⟩
  refine t_findS hok.1.1 h2.1 h2.2.1 (fun s3 hL hF s4 g4 => hJ2 s4 (h s4 ?_ ?_))
  · have hF4 : FrC (fun a => a = 0) s3 s4 := by rw [g4]; exact FrC.sF _ _ _ rfl
    have e : ∀ j, j ≠ 12 → s4.1 0 j = σ.1 0 j := fun j hj => by
      rw [g4, sF_1, if_neg hj, (hF 0 (by unfold stc; decide)).1]
    refine ⟨(h1.frame hF (fun a q => by unfold sc at q; unfold stc; omega)).frame hF4 (fun a q => by unfold sc at q; omega), (h2.frame hF (fun a q1 q2 => by unfold stc; omega)).frame hF4 (fun a q1 q2 => by omega), ⟨fun _ => hL.frame hF4 (fun a q => by unfold stc at q; omega), fun z => ?_, fun z => ?_⟩, ?_⟩
    · rw [e 13 (by decide)] at z
      exact ((h3.2.1 z).frame hF (fun a q => by unfold tc at q; unfold stc; omega)).frame hF4 (fun a q => by unfold tc at q; omega)
    · rw [e 14 (by decide)] at z
      rw [e 11 (by decide)]; exact h3.2.2 z
    · exact (h4.frame hF (fun a q => by unfold stc; omega)).same hF4 (fun a q => by omega) (by rw [g4, sF_1, if_neg (by decide)]) (by rw [g4, sF_1, if_neg (by decide)]) (by rw [g4, sF_1, if_neg (by decide)])
  · have hF4 : FrC (fun a => a = 0) s3 s4 := by rw [g4]; exact FrC.sF _ _ _ rfl
    exact hL.frame hF4 (fun a q => by unfold stc at q; omega)
theorem t_foundTwins {σ : ft_St} {A : AA} {Φ : ft_St → Prop} (hR : RepC σ A) (hok : AOk A) (h : ∀ σ', RepC σ' A → RepT σ' 59 (zM A.1) (mS (zM A.1)) → Φ σ') : w_X9_foundTwins σ Φ := by
  unfold w_X9_foundTwins
  obtain ⟨h1, h2, h3, h4⟩ := id hR
  have hM : RepM σ 2 (zM A.1) := h1.1
  intro J2 hJ2
  refine ⟨fun y => hJ2 σ (h σ hR (h3.2.1 y)), fun y => ?_⟩
  rw [hM.2.1]
  refine t_find (Or.inl rfl) hM hok.1.1 (fun s3 hT hF s4 g4 => hJ2 s4 (h s4 ?_ ?_))
  · have hF4 : FrC (fun a => a = 0) s3 s4 := by rw [g4]; exact FrC.sF _ _ _ rfl
    have e : ∀ j, j ≠ 13 → s4.1 0 j = σ.1 0 j := fun j hj => by
      rw [g4, sF_1, if_neg hj, (hF 0 (by unfold tc; decide)).1]
    refine ⟨(h1.frame hF (fun a q => by unfold sc at q; unfold tc; omega)).frame hF4 (fun a q => by unfold sc at q; omega), (h2.frame hF (fun a q1 q2 => by unfold tc; omega)).frame hF4 (fun a q1 q2 => by omega), ⟨fun z => ?_, fun _ => hT.frame hF4 (fun a q => by unfold tc at q; omega), fun z => ?_⟩, ?_⟩
    · rw [e 12 (by decide)] at z
      exact ((h3.1 z).frame hF (fun a q => by unfold stc at q; unfold tc; omega)).frame hF4 (fun a q => by unfold stc at q; omega)
    · rw [e 14 (by decide)] at z
      rw [e 11 (by decide)]; exact h3.2.2 z
    · exact (h4.frame hF (fun a q => by unfold tc; omega)).same hF4 (fun a q => by omega) (by rw [g4, sF_1, if_neg (by decide)]) (by rw [g4, sF_1, if_neg (by decide)]) (by rw [g4, sF_1, if_neg (by decide)])
  · have hF4 : FrC (fun a => a = 0) s3 s4 := by rw [g4]; exact FrC.sF _ _ _ rfl
    exact hT.frame hF4 (fun a q => by unfold tc at q; omega)
theorem o_all {σ : ft_St} {A : AA} {k : Int32} {Φ : Int32 → ft_St → Prop} (hR : RepC σ A) (hok : AOk A) (h : ∀ σ', RepC σ' (allF A k).2 → Φ (allF A k).1 σ') : w_X9_all k σ Φ := by
  unfold w_X9_all
  unfold allF at h
  refine t_within (m := 5) (by decide) (fun y => ⟨fun _ => ?_, fun z => absurd z (by decide)⟩) (fun y => ⟨fun z => absurd rfl z, fun _ => ?_⟩)
  rotate_left
  · rw [cif_f y] at h; exact t_badA hR h
  rw [cif_t y] at h
  have h : ∀ σ', RepC σ' A → Φ (allV (zM A.1) k) σ' := h
  unfold allV at h
  rcases ds6 y with e | e | e | e | e | e <;> subst e
  · rw [if_pos rfl] at h
    refine ⟨fun _ => ?_, fun z => absurd z (by decide), fun z => absurd z (by decide), fun z => absurd z (by decide), fun z => absurd z (by decide), fun z => absurd z (by decide)⟩
    rw [hR.2.1.2.2]; exact h σ hR
  · rw [if_neg (by decide), if_pos rfl] at h
    refine ⟨fun z => absurd z (by decide), fun _ => t_foundSets hR hok (fun s4 hR4 hL => ?_), fun z => absurd z (by decide), fun z => absurd z (by decide), fun z => absurd z (by decide), fun z => absurd z (by decide)⟩
    rw [hL.2.1]; exact h s4 hR4
  · rw [if_neg (by decide), if_neg (by decide), if_pos rfl] at h
    exact ⟨fun z => absurd z (by decide), fun z => absurd z (by decide), fun _ => t_foundSets hR hok (fun s4 hR4 hL => t_countOfS hL (h s4 hR4)), fun z => absurd z (by decide), fun z => absurd z (by decide), fun z => absurd z (by decide)⟩
  · rw [if_neg (by decide), if_neg (by decide), if_neg (by decide), if_pos rfl] at h
    exact ⟨fun z => absurd z (by decide), fun z => absurd z (by decide), fun z => absurd z (by decide), fun _ => t_foundSets hR hok (fun s4 hR4 hL => t_countOfS hL (h s4 hR4)), fun z => absurd z (by decide), fun z => absurd z (by decide)⟩
  · rw [if_neg (by decide), if_neg (by decide), if_neg (by decide), if_neg (by decide), if_pos rfl] at h
    refine ⟨fun z => absurd z (by decide), fun z => absurd z (by decide), fun z => absurd z (by decide), fun z => absurd z (by decide), fun _ => t_foundTwins hR hok (fun s9 hR9 hT => t_countFrom (a := 0) (Or.inl rfl) hT (Or.inl rfl) ?_), fun z => absurd z (by decide)⟩
    have h := h s9 hR9
    rw [cnt_congr (Q := fun e => Pc (zM A.1) (mS (zM A.1)) e) (fun e _ => by rw [show 10 * 0 + e = e by omega])]
    exact h
  · rw [if_neg (by decide), if_neg (by decide), if_neg (by decide), if_neg (by decide), if_neg (by decide)] at h
    exact ⟨fun z => absurd z (by decide), fun z => absurd z (by decide), fun z => absurd z (by decide), fun z => absurd z (by decide), fun z => absurd z (by decide), fun _ => t_foundTwins hR hok (fun s9 hR9 hT => t_countFrom (a := 10) (Or.inl rfl) hT (Or.inr rfl) (h s9 hR9))⟩
theorem o_apart {σ : ft_St} {A : AA} {k : Int32} {Φ : Int32 → ft_St → Prop} (hR : RepC σ A) (hok : AOk A) (h : ∀ σ', RepC σ' (apartF A k).2 → Φ (apartF A k).1 σ') : w_X9_apart k σ Φ := by
  unfold w_X9_apart
  unfold apartF at h
  refine t_within (m := 1) (by decide) (fun y => ⟨fun _ => ?_, fun z => absurd z (by decide)⟩) (fun y => ⟨fun z => absurd rfl z, fun _ => ?_⟩)
  rotate_left
  · rw [cif_f y] at h; exact t_badA hR h
  rw [cif_t y] at h
  have h : ∀ σ', RepC σ' A → Φ (apartV (zM A.1) k) σ' := h
  unfold apartV at h
  refine t_foundTwins hR hok (fun s2 hR2 hT => ?_)
  have h := h s2 hR2
  have hd := hT.2.2.2.2
  rcases ds2 y with e | e <;> subst e
  · rw [if_pos rfl] at h
    refine ⟨fun z => absurd rfl z, fun _ J4 hJ4 => ?_⟩
    have ap := hd.apart hok.1.1
    have j : J4 (b01 (!ringB (zM A.1) (mS (zM A.1)))) := hJ4 _ (t_isOne h)
    refine ⟨fun z => ?_, fun z => ?_⟩
    · rw [ringB_t.mpr (ap.mp z)] at j; exact j
    · have : ringB (zM A.1) (mS (zM A.1)) = false := by
        cases er : ringB (zM A.1) (mS (zM A.1))
        · rfl
        · exact absurd (ap.mpr (ringB_t.mp er)) z
      rw [this] at j; exact j
  · rw [if_neg (by decide), dlyV_e hd] at h
    exact ⟨fun _ => h, fun z => absurd z (by decide)⟩
theorem o_soonest {σ : ft_St} {A : AA} {k : Int32} {Φ : Int32 → ft_St → Prop} (hR : RepC σ A) (hok : AOk A) (h : ∀ σ', RepC σ' (soonestF A k).2 → Φ (soonestF A k).1 σ') : w_X9_soonest k σ Φ := by
  unfold w_X9_soonest
  unfold soonestF at h
  refine t_within (m := 1) (by decide) (fun y => ⟨fun _ => ?_, fun z => absurd z (by decide)⟩) (fun y => ⟨fun z => absurd rfl z, fun _ => ?_⟩)
  rotate_left
  · rw [cif_f y] at h; exact t_badA hR h
  rw [cif_t y] at h
  have h : ∀ σ', RepC σ' A → Φ (soonV (BFS (zM A.1)) (vA k)) σ' := h
  refine t_foundSets hR hok (fun s2 hR2 hL J4 hJ4 => ?_)
  have h := h s2 hR2
  have j : J4 (vA k) := hJ4 _ (t_fewestSights hL (fun r hr => by rw [soonV_e hr] at h; exact h))
  unfold vA at j
  exact ⟨fun z => by rw [if_neg z] at j; exact j, fun z => by rw [if_pos z] at j; exact j⟩
theorem o_enough {σ : ft_St} {A : AA} {e : Int32} {Φ : Int32 → ft_St → Prop} (hR : RepC σ A) (hok : AOk A) (h : ∀ σ', RepC σ' (enoughF A e).2 → Φ (enoughF A e).1 σ') : w_X9_enough e σ Φ := by
  unfold w_X9_enough
  unfold enoughF at h
  have hM : RepM σ 2 (zM A.1) := hR.1.1
  refine t_eyesFree hM ?_
  rw [EyO_c]
  refine ⟨fun y => ?_, fun y => ?_⟩
  · rw [cif_t y] at h
    refine t_areEnough hM hok.1.1 (fun s hF => t_isOne (h s (hR.frame hF (fun a q => by unfold tc; omega))))
  · rw [cif_f y] at h; exact t_badA hR h
theorem o_fewest {σ : ft_St} {A : AA} {k : Int32} {Φ : Int32 → ft_St → Prop} (hR : RepC σ A) (hok : AOk A) (h : ∀ σ', RepC σ' (fewestF A k).2 → Φ (fewestF A k).1 σ') : w_X9_fewest k σ Φ := by
  unfold w_X9_fewest
  unfold fewestF at h
  have hM : RepM σ 2 (zM A.1) := hR.1.1
  refine t_within (m := 1) (by decide) (fun y => ⟨fun _ => ?_, fun z => absurd z (by decide)⟩) (fun y => ⟨fun z => absurd rfl z, fun _ => ?_⟩)
  rotate_left
  · rw [cif_f y] at h; exact t_badA hR h
  rw [cif_t y] at h
  have h : ∀ σ', RepC σ' A → Φ (fewA k (fewV (zM A.1))) σ' := h
  intro J3 hJ3
  have main : ∀ s2, RepC s2 A → IsFew (zM A.1) (s2.1 0 11) → J3 s2 := by
    intro s2 hR2 hf
    refine hJ3 s2 (fun J4 hJ4 => ?_)
    have h := h s2 hR2
    rw [fewV_e hf] at h
    unfold fewA at h
    refine ⟨fun z => hJ4 (by rw [if_pos (Or.inl z)] at h; exact h), fun z => ⟨fun z2 => ?_, fun z2 => hJ4 (by rw [if_pos (Or.inr z2)] at h; exact h)⟩⟩
    rw [if_neg (fun q => q.elim z z2)] at h
    refine t_bitCount (fun i hi => ?_) h
    rcases hf with ⟨q, -⟩ | ⟨n, hn, q, -⟩
    · exact absurd q z2
    · rw [q] at hi
      have := n8_bits hn hi
      omega
  have few : ∃ r, IsFew (zM A.1) r := by
    -- the search finds one
    have := t_findFewest (Φ := fun r _ => IsFew (zM A.1) r) hM hok.1.1 (fun r s hr _ => hr)
    exact ⟨_, Classical.epsilon_spec (p := fun r => IsFew (zM A.1) r) (by
      rcases Classical.em (∃ e, EyV (zM A.1) e) with ⟨e, he⟩ | hno
      · obtain ⟨n, hn, rfl⟩ := low8 (fun i hi => (he.1 i hi).1)
        -- the least by count, then by number
        have least : ∀ (f : Nat → Nat) (P : Nat → Prop) (m : Nat), P m → ∃ a, P a ∧ ∀ b, P b → f a ≤ f b := by
          intro f P m hm
          induction hk : f m using Nat.strongRecOn generalizing m with
          | _ k ih =>
            rcases Classical.em (∃ b, P b ∧ f b < f m) with ⟨b, hb, hlt⟩ | hno
            · exact ih (f b) (by omega) b hb rfl
            · exact ⟨m, hm, fun b hb => Nat.le_of_not_lt (fun z => hno ⟨b, hb, z⟩)⟩
        obtain ⟨a, ⟨ha, va⟩, hmin⟩ := least (fun m => bc (nI m) * 256 + m) (fun m => m < 256 ∧ EyV (zM A.1) (nI m)) n ⟨hn, he⟩
        refine ⟨nI a, Or.inr ⟨a, ha, rfl, va, fun m hm vm => ?_⟩⟩
        have := hmin m ⟨hm, vm⟩
        omega
      · exact ⟨-1, Or.inl ⟨rfl, fun e he => Classical.byContradiction (fun q => hno ⟨e, he, q⟩)⟩⟩)⟩
  refine ⟨fun y2 => main σ hR ?_, fun y2 => ?_⟩
  · obtain ⟨r, hr⟩ := few
    rw [hR.2.2.1.2.2 y2, fewV_e hr]; exact hr
  · refine t_findFewest hM hok.1.1 (fun r s7 hr hF s8 g8 s9 g9 => main s9 ?_ ?_)
    · have hR7 : RepC s7 A := hR.frame hF (fun a q => by unfold tc; omega)
      obtain ⟨h1, h2, h3, h4⟩ := hR7
      have hF9 : FrC (fun a => a = 0) s7 s9 := by rw [g9, g8]; exact (FrC.sF (P := fun a => a = 0) _ _ _ rfl).trans (FrC.sF (P := fun a => a = 0) _ _ _ rfl)
      have e : ∀ j, j ≠ 11 → j ≠ 14 → s9.1 0 j = s7.1 0 j := fun j q1 q2 => by
        rw [g9, sF_1, if_neg q2, g8, sF_1, if_neg q1]
      refine ⟨h1.frame hF9 (fun a q => by unfold sc at q; omega), h2.frame hF9 (fun a q1 q2 => by omega), ⟨fun z => ?_, fun z => ?_, fun _ => ?_⟩, h4.same hF9 (fun a q => by omega) (e 8 (by decide) (by decide)) (e 9 (by decide) (by decide)) (e 10 (by decide) (by decide))⟩
      · rw [e 12 (by decide) (by decide)] at z
        exact (h3.1 z).frame hF9 (fun a q => by unfold stc at q; omega)
      · rw [e 13 (by decide) (by decide)] at z
        exact (h3.2.1 z).frame hF9 (fun a q => by unfold tc at q; omega)
      · rw [fewV_e hr, g9, sF_1, if_neg (by decide), g8, sF_s]
    · rw [g9, sF_1, if_neg (by decide), g8, sF_s]; exact hr
