theorem t_keepA' {σ : ft_St} {A : AA} {Φ : ft_St → Prop} (hR : RepC σ A) (hok : AOk A) (h : ∀ σ', RepC σ' (A.1, keptB A) → FrC hcells σ σ' → Φ σ') : w_X0_keep 8 1 σ Φ := by
  obtain ⟨h1, h2, h3, h4, h5, h6⟩ := hR
  refine t_keep h1 hok.1 h4 (fun σ' hH hF => h σ' ⟨h1.frame hF (fun a q => by unfold sc at q; unfold hcells; omega), h2.frame hF (fun a q1 q2 => by unfold hcells; omega), h3.frame hF (fun a q => by unfold hcells; omega), hH, h5.frame hF (by unfold hcells; decide) (by unfold hcells; decide), ?_⟩ hF)
  rw [(hF 0 (by unfold hcells; decide)).1]; exact h6
theorem o_pair {σ : ft_St} {A : AA} {m p : Int32} {Φ : Int32 → ft_St → Prop} (hR : RepC σ A) (hok : AOk A) (h : ∀ σ', RepC σ' (pairF A m p).2 → Φ (pairF A m p).1 σ') : w_X9_pair m p σ Φ := by
  unfold w_X9_pair
  unfold pairF at h
  have bad : ¬ (isN m 19 ∧ isN p 9) → w_X9_refuse (-2) σ (fun (r3 : Int32) (s4 : ft_St) => Φ r3 s4) := fun y => by
    rw [cif_f y] at h
    exact t_badA hR h
  refine t_within (m := 19) (by decide) (fun y1 J2 hJ2 => ⟨fun z => absurd z (by decide), fun _ => ?_⟩) (fun y1 J2 hJ2 => ⟨fun _ => hJ2 (bad (fun w => y1 w.1)), fun z => absurd rfl z⟩)
  refine t_isPlace (fun y2 => ⟨fun _ => ?_, fun z => absurd z (by decide)⟩) (fun y2 => ⟨fun z => absurd rfl z, fun _ => hJ2 (bad (fun w => y2 w.2))⟩)
  rw [cif_t ⟨y1, y2⟩] at h
  obtain ⟨a, ha, rfl⟩ := y1
  obtain ⟨b, hb, rfl⟩ := y2
  have ca : cl (nI a) = a := nI_clamp (by omega)
  have cb : cl (nI b) = b := nI_clamp (by omega)
  have ca' : (nI a).toNatClampNeg = a := ca
  rw [ca, cb] at h
  have h : ∀ σ', RepC σ' A → Φ (pairV (zM A.1) a b) σ' := h
  unfold pairV at h
  refine t_foundTwins hR hok (fun s6 hR6 hT => ⟨vp_in_nI (by omega) (by decide), ?_⟩)
  have tp : bt (s6.2.1 62 a) b = true ↔ Pc (zM A.1) (mS (zM A.1)) (10 * a + b) := by
    have := hT.2.2.2.1 a (by omega) b
    rw [this]
    exact ⟨fun q => q.2, fun q => ⟨by omega, q⟩⟩
  rw [ca', b_val (show b < 32 by omega)]
  cases eb : bt (s6.2.1 62 a) b
  · refine ⟨fun z => absurd rfl z, fun _ => ?_⟩
    rw [cif_f (fun q => by rw [tp.mpr q] at eb; cases eb)] at h
    exact h s6 hR6
  · refine ⟨fun _ => ?_, fun z => absurd z (by decide)⟩
    rw [cif_t (tp.mp eb)] at h
    have hlt : nI a < 10 ↔ a < 10 := nI_ltI (b := 10) (by omega) (by decide)
    rw [hlt]
    intro J8 hJ8
    refine ⟨fun w => hJ8 s6 ?_, fun w => ?_⟩
    · rw [if_neg (fun q => by omega)] at h; exact h s6 hR6
    · rw [show nI a - 10 = nI (a - 10) from nI_sub (b := 10) (by omega)]
      have hM6 : RepM s6 2 (zM A.1) := hR6.1.1
      refine t_isOfRing (Or.inl rfl) hM6 hok.1.1 hT (by omega) (by omega) (fun s10 hT10 hF10 => ?_)
      have hR10 : RepC s10 A := by
        obtain ⟨h1, h2, h3, h4⟩ := hR6
        have e0 := (hF10 0 (by unfold tc; decide)).1
        refine ⟨h1.frame hF10 (fun a q => by unfold sc at q; unfold tc; omega), h2.frame hF10 (fun a q1 q2 => by unfold tc; omega), ⟨fun z => ?_, fun _ => hT10, fun z => ?_⟩, h4.frame hF10 (fun a q => by unfold tc; omega)⟩
        · rw [e0] at z; exact (h3.1 z).frame hF10 (fun a q => by unfold stc at q; unfold tc; omega)
        · rw [e0] at z ⊢; exact h3.2.2 z
      cases er : rngB (zM A.1) (mS (zM A.1)) (10 * (a - 10) + b)
      · rw [if_neg (fun q => by rw [er] at q; exact absurd q.2 (by decide))] at h
        exact ⟨fun _ => hJ8 s10 (h s10 hR10), fun q => absurd rfl q⟩
      · rw [if_pos ⟨by omega, er⟩] at h
        exact ⟨fun q => absurd q (by decide), fun _ => h s10 hR10⟩
theorem nar_b : ∀ n, n ≤ 127 → vp_nar .byte (((nI n).toInt8).toInt32) = nI n := by decide +kernel
theorem o_type {σ : ft_St} {A : AA} {c : Int32} {Φ : Int32 → ft_St → Prop} (hR : RepC σ A) (hok : AOk A) (h : ∀ σ', RepC σ' (typeF A c).2 → Φ (typeF A c).1 σ') : w_X9_type c σ Φ := by
  unfold w_X9_type
  unfold typeF at h
  have htl : tlA A ≤ 120 := hok.2.2.1
  obtain ⟨h1, h2, h3, h4, h5, h6⟩ := id hR
  refine t_within (m := 127) (by decide) (fun y => ⟨fun _ => ?_, fun z => absurd z (by decide)⟩) (fun y => ⟨fun z => absurd rfl z, fun _ => ?_⟩)
  rotate_left
  · rw [cif_f y] at h; exact t_badA hR h
  rw [cif_t y] at h
  obtain ⟨n, hn, rfl⟩ := y
  have hcl : cl (nI n) = n := nI_clamp (by omega)
  rw [hcl] at h
  have e73 : σ.1 73 1 = nI (tlA A) := h5.1
  have hlt' : nI (tlA A) < 120 ↔ tlA A < 120 := nI_ltI (b := 120) (by omega) (by decide)
  rw [e73, hlt']
  refine ⟨fun z => ?_, fun z => ?_⟩
  · rw [cif_t z] at h
    have hct : (nI (tlA A)).toNatClampNeg = tlA A := nI_clamp (by omega)
    rw [hct, nar_b n hn]
    refine ⟨vp_in_nI z (by decide), fun s2 g2 s3 g3 => ?_⟩
    have f2 : s2.1 73 1 = nI (tlA A) := by rw [g2]; exact e73
    rw [f2, nI_1 (tlA A)] at g3
    have f3 : s3.1 73 1 = nI (tlA A + 1) := by rw [g3, sF_s]
    rw [f3]
    have hF : FrC (fun a => a = 73 ∨ a = 74) σ s3 := by
      rw [g3, g2]; exact (FrC.sA (P := fun a => a = 73 ∨ a = 74) _ _ (Or.inr rfl)).trans (FrC.sF (P := fun a => a = 73 ∨ a = 74) _ _ _ (Or.inl rfl))
    refine h s3 ⟨h1.frame hF (fun a q => by unfold sc at q; omega), h2.frame hF (fun a q1 q2 => by omega), h3.frame hF (fun a q => by omega), h4.frame hF (fun a q => by unfold hcells at q; omega), ⟨f3, fun i hi => ?_⟩, ?_⟩
    · have hi : i < tlA A + 1 := hi
      have r74 : s3.2.1 74 = upd (σ.2.1 74) (tlA A) (nI n) := by rw [g3, sF_2, g2, sA_s]
      rw [r74]
      show upd (σ.2.1 74) (tlA A) (nI n) i = nI (va_up (TA A) (tlA A) n i)
      by_cases e : i = tlA A
      · rw [e, upd_s, up_s]
      · rw [upd_n e, up_n e]; exact h5.2 i (show i < tlA A by omega)
    · rw [(hF 0 (by decide)).1]; exact h6
  · rw [cif_f z] at h; exact t_fullA hR h
theorem o_clear {σ : ft_St} {A : AA} {Φ : Int32 → ft_St → Prop} (hR : RepC σ A) (h : ∀ σ', RepC σ' (clearF A).2 → Φ (clearF A).1 σ') : w_X9_clear σ Φ := by
  unfold w_X9_clear
  intro s1 g1
  obtain ⟨h1, h2, h3, h4, h5, h6⟩ := hR
  have hF : FrC (fun a => a = 73) σ s1 := by rw [g1]; exact FrC.sF (P := fun a => a = 73) _ _ _ rfl
  rw [h5.1]
  refine h s1 ⟨h1.frame hF (fun a q => by unfold sc at q; omega), h2.frame hF (fun a q1 q2 => by omega), h3.frame hF (fun a q => by omega), h4.frame hF (fun a q => by unfold hcells at q; omega), ⟨by rw [g1, sF_s]; rfl, fun i hi => absurd hi (Nat.not_lt_zero _)⟩, ?_⟩
  rw [(hF 0 (by decide)).1]; exact h6
theorem o_reads {σ : ft_St} {A : AA} {Φ : Int32 → ft_St → Prop} (hR : RepC σ A) (hok : AOk A) (h : ∀ σ', RepC σ' (readsF A).2 → Φ (readsF A).1 σ') : w_X9_reads σ Φ := by
  unfold w_X9_reads
  unfold readsF at h
  have hM : RepM σ 2 (zM A.1) := hR.1.1
  have hT : RepTx σ (tlA A) (TA A) := hR.2.2.2.2.1
  refine t_follow hM hok.1.1 hT hok.2.2 (fun p hp e σ' hF => ?_) (fun n D hn hD e σ' hM76 hF => ?_)
  · rw [e] at h
    refine ⟨fun z => absurd z ?_, fun _ => h σ' (hR.frame hF (fun a q => by unfold rdc; omega))⟩
    exact (by decide +kernel : ∀ p, p ≤ 120 → ¬ 0 ≤ (-10 : Int32) - nI p) p hp
  · rw [e] at h
    refine ⟨fun _ => ?_, fun z => absurd ?_ z⟩
    · have hR2 : RepC σ' A := hR.frame hF (fun a q => by unfold rdc; omega)
      refine t_keepA' hR2 hok (fun s3 hR3 hF3 => ?_)
      have hM3 : RepM s3 76 D := hM76.frame hF3 (fun a q => by unfold mc at q; unfold hcells; omega)
      refine t_takeM hM3 hD (Or.inr (by decide)) (fun s4 hM4 hF4 => ?_)
      exact t_beginA hM4 hD (mc2_sep hR3.2.2.2 hF4) (fun s5 hR5 _ => h s5 hR5)
    · exact (nI_leI (a := 0) (by decide) (by omega)).mpr (Nat.zero_le n)
theorem o_back {σ : ft_St} {A : AA} {Φ : Int32 → ft_St → Prop} (hR : RepC σ A) (hok : AOk A) (h : ∀ σ', RepC σ' (backF A).2 → Φ (backF A).1 σ') : w_X9_back σ Φ := by
  unfold w_X9_back
  unfold backF at h
  obtain ⟨h1, h2, h3, h4, h5, h6⟩ := id hR
  obtain ⟨nx, q1, q2, q3, q4, q5⟩ := id h4
  have e82 : σ.1 8 2 = nI (hcA A) := q4
  have q2 : hcA A ≤ 6 := q2
  have ez : nI (hcA A) = 0 ↔ hcA A = 0 := nI_eq (b := 0) (by omega) (by decide)
  rw [e82, ez]
  refine ⟨fun z => ?_, fun z => by rw [if_pos z] at h; exact t_noA hR h⟩
  rw [if_neg z] at h
  refine t_giveBack h4 (Nat.pos_of_ne_zero z) (hok.2.1 0 (Nat.pos_of_ne_zero z)) (fun s1 hS1 hH1 hF1 => ?_)
  have hok0 := hok.2.1 0 (Nat.pos_of_ne_zero z)
  refine t_lookAnew hS1.1 hok0.1 (fun s2 hV2 hC2 hF2 e0 => ?_)
  have e0' : ∀ j, j ≠ 12 → j ≠ 13 → j ≠ 14 → s2.1 0 j = σ.1 0 j := fun j a b c => (e0 j a b c).trans (by rw [(hF1 0 (by unfold sc; omega)).1])
  have hH2 : RepH s2 (hcA A - 1) (fun i => hiA A (i + 1)) := hH1.frame hF2 (fun a q => by unfold hcells at q; unfold lkc; omega)
  have e2 : s2.1 8 2 = nI (hcA A - 1) := by
    obtain ⟨nx', p1, p2, p3, p4, p5⟩ := hH2
    exact p4
  rw [e2]
  refine h s2 ⟨hS1.frame hF2 (fun a q => by unfold sc at q; unfold lkc; omega), hV2, hC2, hH2, (h5.frame hF1 (by unfold sc; omega) (by unfold sc; omega)).frame hF2 (by unfold lkc; decide) (by unfold lkc; decide), ?_⟩
  rw [e0' 8 (by decide) (by decide) (by decide), e0' 9 (by decide) (by decide) (by decide), e0' 10 (by decide) (by decide) (by decide)]; exact h6
