theorem t_isOne {q : Bool} {Φ : Int32 → Prop} (h : Φ (b01 q)) : w_X9_isOne (b01 q) Φ := by
  unfold w_X9_isOne
  cases q
  · exact ⟨fun _ => h, fun z => absurd rfl z⟩
  · exact ⟨fun z => absurd z (by decide), fun _ => h⟩
theorem t_hasPlace {S : Int32} {p : Nat} {Φ : Int32 → Prop} (hp : p < 10) (h : Φ (b01 (bt S p || bt S (p + 10)))) : w_X9_hasPlace S (nI p) Φ := by
  unfold w_X9_hasPlace
  rw [show nI p + 10 = nI (p + 10) from nI_add p 10, b_tst (by omega), b_tst (by omega)]
  intro J hJ
  refine ⟨fun y => hJ ?_, fun y => ⟨fun z => ?_, fun z => hJ ?_⟩⟩
  · rw [y, Bool.true_or] at h; exact h
  · have e1 : bt S p = false := by cases e : bt S p; rfl; exact absurd e y
    have e2 : bt S (p + 10) = false := by cases e : bt S (p + 10); rfl; exact absurd e z
    rw [e1, e2] at h; exact h
  · rw [z, Bool.or_true] at h; exact h
theorem t_sight {σ : ft_St} {A : AA} {k : Int32} {Φ : Int32 → ft_St → Prop} (hR : RepC σ A) (hok : AOk A) (h : ∀ σ', RepC σ' (sightF A k).2 → Φ (sightF A k).1 σ') : w_X9_sight k σ Φ := by
  unfold w_X9_sight
  unfold sightF at h
  have hc8 := hok.1.2.1
  have hW : RepW σ 6 A.1 := hR.1.2
  refine ⟨fun y => ?_, fun y => ?_⟩
  · rw [cif_t y] at h
    rw [hW.1]
    refine ⟨fun z => by rw [cif_t z] at h; exact h σ hR, fun z => ?_⟩
    rw [cif_f z] at h
    have hk : ∃ n, n < zC A.1 ∧ k = nI n := by
      have e0 : (0 : Int32).toInt = 0 := by decide
      have ec := nI_toInt (show zC A.1 < 2 ^ 31 by omega)
      rw [Int32.le_iff_toInt_le] at y z
      rw [e0] at y
      rw [ec] at z
      refine ⟨k.toInt.toNat, by omega, ?_⟩
      apply Int32.toInt_inj.mp
      rw [nI_toInt (by omega)]
      omega
    obtain ⟨n, hn, rfl⟩ := hk
    have hcl : (nI n).toNatClampNeg = n := nI_clamp (by omega)
    have h := h σ hR
    have h : Φ (zG A.1 (nI n).toNatClampNeg) σ := h
    rw [hcl] at h ⊢
    refine ⟨vp_in_nI (by omega) (by decide), ?_⟩
    have e7 : σ.2.1 7 n = zG A.1 n := hW.2.2 n hn
    rw [e7]; exact h
  · rw [cif_f y] at h; exact t_badA hR h
theorem t_of {σ : ft_St} {A : AA} {w k : Int32} {Φ : Int32 → ft_St → Prop} (hR : RepC σ A) (hok : AOk A) (h : ∀ σ', RepC σ' (ofF A w k).2 → Φ (ofF A w k).1 σ') : w_X9_of w k σ Φ := by
  unfold w_X9_of
  unfold ofF at h
  have hM : RepM σ 2 (zM A.1) := hR.1.1
  have hokM := hok.1.1
  have h24 := hokM.1
  have bad : ¬ (isW (zM A.1) w ∧ isN k 3) → w_X9_refuse (-2) σ (fun (r3 : Int32) (s4 : ft_St) => Φ r3 s4) := fun y => by
    rw [cif_f y] at h
    exact t_badA hR h
  refine t_isWay hM hokM (fun y1 J2 hJ2 => ⟨fun z => absurd z (by decide), fun _ => ?_⟩) (fun y1 J2 hJ2 => ⟨fun _ => hJ2 (bad (fun w => y1 w.1)), fun z => absurd rfl z⟩)
  refine t_within (m := 3) (by decide) (fun y2 => ⟨fun _ => ?_, fun z => absurd z (by decide)⟩) (fun y2 => ⟨fun z => absurd rfl z, fun _ => hJ2 (bad (fun w => y2 w.2))⟩)
  rw [cif_t ⟨y1, y2⟩] at h
  obtain ⟨n, hn, rfl⟩ := y1
  have hcl : cl (nI n) = n := nI_clamp (by omega)
  have hcl' : (nI n).toNatClampNeg = n := hcl
  rw [hcl] at h
  have h := h σ hR
  have hin : vp_in (nI n) 24 := vp_in_nI (by omega) (by decide)
  have r1 : σ.2.1 3 n = nI (mF (zM A.1) n) := (hM.2.2.2 n hn).1
  have r2 : σ.2.1 4 n = nI (mD (zM A.1) n) := (hM.2.2.2 n hn).2.1
  have r3 : σ.2.1 5 n = nI (mT (zM A.1) n) := (hM.2.2.2 n hn).2.2
  rw [hcl', r1, r2, r3]
  unfold ofV at h
  rcases ds4 y2 with e | e | e | e <;> subst e
  · rw [if_pos rfl] at h
    exact ⟨fun _ => ⟨hin, h⟩, fun z => absurd z (by decide), fun z => absurd z (by decide), fun z => absurd z (by decide)⟩
  · rw [if_neg (by decide), if_pos rfl] at h
    exact ⟨fun z => absurd z (by decide), fun _ => ⟨hin, h⟩, fun z => absurd z (by decide), fun z => absurd z (by decide)⟩
  · rw [if_neg (by decide), if_neg (by decide), if_pos rfl] at h
    exact ⟨fun z => absurd z (by decide), fun z => absurd z (by decide), fun _ => ⟨hin, h⟩, fun z => absurd z (by decide)⟩
  · rw [if_neg (by decide), if_neg (by decide), if_neg (by decide)] at h
    refine ⟨fun z => absurd z (by decide), fun z => absurd z (by decide), fun z => absurd z (by decide), fun _ => ⟨hin, ?_⟩⟩
    rw [hR.2.1.2.2]
    exact t_hasPlace (hokM.2.1 n hn).1 (t_isOne h)
theorem t_canGoUnseen {σ : ft_St} {M : MM} {S : Int32} {Φ : Int32 → Prop} (hM : RepM σ 2 M) (hok : MOk M) (h : Φ (b01 (unsB M S))) : w_X9_canGoUnseen S σ Φ := by
  unfold w_X9_canGoUnseen
  have h24 := hok.1
  refine LP1.rule (fun x1 => ∃ w, x1 = nI w ∧ w ≤ mN M ∧ ∀ v, v < w → ¬ (bt (mS M) (mD M v) = false ∧ (bt S (mF M v) = true ∨ bt S (mF M v + 10) = true))) (fun x1 => 24 - x1.toNatClampNeg) ?_ ⟨0, rfl, Nat.zero_le _, fun v hv => absurd hv (Nat.not_lt_zero _)⟩
  rintro X2 x1 ⟨w, rfl, hw, hall⟩ ih
  have hc : (nI w).toNatClampNeg = w := nI_clamp (by omega)
  have hle : σ.1 2 3 ≤ nI w ↔ mN M ≤ w := by rw [hM.1]; exact nI_leI (by omega) (by omega)
  rw [hle, hc]
  refine ⟨fun y => ?_, fun y => ?_⟩
  · have : unsB M S = false := by
      cases e : unsB M S
      · rfl
      · obtain ⟨v, hv, q⟩ := unsB_t.mp e
        exact absurd q (hall v (by omega))
    rw [this] at h; exact h
  · have hlt : w < mN M := by omega
    have hin : vp_in (nI w) 24 := vp_in_nI (by omega) (by decide)
    have r1 : σ.2.1 3 w = nI (mF M w) := (hM.2.2.2 w hlt).1
    have r2 : σ.2.1 4 w = nI (mD M w) := (hM.2.2.2 w hlt).2.1
    obtain ⟨b1, b2, b3⟩ := hok.2.1 w hlt
    rw [r1, r2]
    have go : ¬ (bt (mS M) (mD M w) = false ∧ (bt S (mF M w) = true ∨ bt S (mF M w + 10) = true)) → X2 (nI w + 1) := fun q => ih _ ⟨w + 1, nI_1 w, hlt, fun v hv => by
      by_cases e : v = w
      · rw [e]; exact q
      · exact hall v (by omega)⟩ (by rw [nI_1 w, nI_clamp (by omega), hc]; omega)
    refine ⟨hin, t_isSeen (by omega) ?_⟩
    rw [hM.2.1]
    cases es : bt (mS M) (mD M w)
    · refine ⟨fun z => absurd rfl z, fun _ => ⟨hin, t_hasPlace b1 ?_⟩⟩
      cases ep : (bt S (mF M w) || bt S (mF M w + 10))
      · refine ⟨fun _ => go (fun q => ?_), fun z => absurd rfl z⟩
        rw [← Bool.or_eq_true, ep] at q; exact absurd q.2 (by decide)
      · refine ⟨fun z => absurd z (by decide), fun _ => ?_⟩
        rw [unsB_t.mpr ⟨w, hlt, es, by rw [← Bool.or_eq_true]; exact ep⟩] at h; exact h
    · exact ⟨fun _ => go (fun q => by rw [es] at q; exact absurd q.1 (by decide)), fun z => absurd z (by decide)⟩
theorem o_known {σ : ft_St} {A : AA} {k : Int32} {Φ : Int32 → ft_St → Prop} (hR : RepC σ A) (hok : AOk A) (h : ∀ σ', RepC σ' (knownF A k).2 → Φ (knownF A k).1 σ') : w_X9_known k σ Φ := by
  unfold w_X9_known
  unfold knownF at h
  have hM : RepM σ 2 (zM A.1) := hR.1.1
  have hW : RepW σ 6 A.1 := hR.1.2
  refine t_within (m := 4) (by decide) (fun y => ⟨fun _ => ?_, fun z => absurd z (by decide)⟩) (fun y => ⟨fun z => absurd rfl z, fun _ => ?_⟩)
  rotate_left
  · rw [cif_f y] at h; exact t_badA hR h
  rw [cif_t y] at h
  have h : Φ (knownV A.1 k) σ := h σ hR
  unfold knownV at h
  rw [hW.2.1]
  rcases ds5 y with e | e | e | e | e <;> subst e
  · rw [if_pos rfl] at h
    exact ⟨fun _ => h, fun z => absurd z (by decide), fun z => absurd z (by decide), fun z => absurd z (by decide), fun z => absurd z (by decide)⟩
  · rw [if_neg (by decide), if_pos rfl] at h
    exact ⟨fun z => absurd z (by decide), fun _ => t_verdict h, fun z => absurd z (by decide), fun z => absurd z (by decide), fun z => absurd z (by decide)⟩
  · rw [if_neg (by decide), if_neg (by decide), if_pos rfl] at h
    exact ⟨fun z => absurd z (by decide), fun z => absurd z (by decide), fun _ => t_bitCount hok.1.2.2.1 h, fun z => absurd z (by decide), fun z => absurd z (by decide)⟩
  · rw [if_neg (by decide), if_neg (by decide), if_neg (by decide), if_pos rfl] at h
    exact ⟨fun z => absurd z (by decide), fun z => absurd z (by decide), fun z => absurd z (by decide), fun _ => t_nextSights hok.1.1 hR.2.1.2.1 h, fun z => absurd z (by decide)⟩
  · rw [if_neg (by decide), if_neg (by decide), if_neg (by decide), if_neg (by decide)] at h
    exact ⟨fun z => absurd z (by decide), fun z => absurd z (by decide), fun z => absurd z (by decide), fun z => absurd z (by decide), fun _ => t_canGoUnseen hM hok.1.1 (t_isOne h)⟩
theorem t_told {σ : ft_St} {A : AA} {k : Int32} {Φ : Int32 → ft_St → Prop} (hR : RepC σ A) (h : ∀ σ', RepC σ' (toldF A k).2 → Φ (toldF A k).1 σ') : w_X9_told k σ Φ := by
  unfold w_X9_told
  unfold toldF at h
  have hM : RepM σ 2 (zM A.1) := hR.1.1
  obtain ⟨h4, h5, h6, h7, h8⟩ := hR.2.2.2
  obtain ⟨nx, q1, q2, q3, q4, q5⟩ := h4
  have e82 : σ.1 8 2 = nI (hcA A) := q4
  have e73 : σ.1 73 1 = nI (tlA A) := h5.1
  refine t_within (m := 7) (by decide) (fun y => ⟨fun _ => ?_, fun z => absurd z (by decide)⟩) (fun y => ⟨fun z => absurd rfl z, fun _ => ?_⟩)
  rotate_left
  · rw [cif_f y] at h; exact t_badA hR h
  rw [cif_t y] at h
  have h : Φ (toldV A k) σ := h σ hR
  rw [h6, h7, h8, hM.1, hM.2.1, hM.2.2.1, e82, e73]
  rcases ds8 y with e | e | e | e | e | e | e | e <;> subst e
  · exact ⟨fun _ => h, fun z => absurd z (by decide), fun z => absurd z (by decide), fun z => absurd z (by decide), fun z => absurd z (by decide), fun z => absurd z (by decide), fun z => absurd z (by decide), fun z => absurd z (by decide)⟩
  · exact ⟨fun z => absurd z (by decide), fun _ => h, fun z => absurd z (by decide), fun z => absurd z (by decide), fun z => absurd z (by decide), fun z => absurd z (by decide), fun z => absurd z (by decide), fun z => absurd z (by decide)⟩
  · exact ⟨fun z => absurd z (by decide), fun z => absurd z (by decide), fun _ => h, fun z => absurd z (by decide), fun z => absurd z (by decide), fun z => absurd z (by decide), fun z => absurd z (by decide), fun z => absurd z (by decide)⟩
  · exact ⟨fun z => absurd z (by decide), fun z => absurd z (by decide), fun z => absurd z (by decide), fun _ => h, fun z => absurd z (by decide), fun z => absurd z (by decide), fun z => absurd z (by decide), fun z => absurd z (by decide)⟩
  · exact ⟨fun z => absurd z (by decide), fun z => absurd z (by decide), fun z => absurd z (by decide), fun z => absurd z (by decide), fun _ => h, fun z => absurd z (by decide), fun z => absurd z (by decide), fun z => absurd z (by decide)⟩
  · exact ⟨fun z => absurd z (by decide), fun z => absurd z (by decide), fun z => absurd z (by decide), fun z => absurd z (by decide), fun z => absurd z (by decide), fun _ => h, fun z => absurd z (by decide), fun z => absurd z (by decide)⟩
  · exact ⟨fun z => absurd z (by decide), fun z => absurd z (by decide), fun z => absurd z (by decide), fun z => absurd z (by decide), fun z => absurd z (by decide), fun z => absurd z (by decide), fun _ => h, fun z => absurd z (by decide)⟩
  · exact ⟨fun z => absurd z (by decide), fun z => absurd z (by decide), fun z => absurd z (by decide), fun z => absurd z (by decide), fun z => absurd z (by decide), fun z => absurd z (by decide), fun z => absurd z (by decide), fun _ => h⟩
