/-! the class's object -/
def RestC (σ : ft_St) (B : BB) : Prop := RepH σ B.1 B.2.1 ∧ RepTx σ B.2.2.1.1 B.2.2.1.2 ∧ σ.1 0 8 = B.2.2.2.1 ∧ σ.1 0 9 = B.2.2.2.2.1 ∧ σ.1 0 10 = B.2.2.2.2.2
def CacC (σ : ft_St) (M : MM) : Prop := (¬ σ.1 0 12 = 0 → RepLC σ (BFS M)) ∧ (¬ σ.1 0 13 = 0 → RepT σ 59 M (mS M)) ∧ (¬ σ.1 0 14 = 0 → σ.1 0 11 = fewV M)
def RepC (σ : ft_St) (A : AA) : Prop := RepS σ 1 A.1 ∧ RepV σ (zM A.1) ∧ CacC σ (zM A.1) ∧ RestC σ A.2
theorem RepV.frame {P : Nat → Prop} {σ σ' : ft_St} {M : MM} (h : RepV σ M) (hf : FrC P σ σ') (hd : ∀ a, 52 ≤ a → a ≤ 54 → ¬ P a) : RepV σ' M := by
  obtain ⟨h1, h2, h3⟩ := h
  refine ⟨?_, ?_, ?_⟩
  · rw [(hf 53 (hd 53 (by decide) (by decide))).2]; exact h1
  · rw [(hf 54 (hd 54 (by decide) (by decide))).2]; exact h2
  · rw [(hf 52 (hd 52 (by decide) (by decide))).1]; exact h3
theorem RepT.frame {P : Nat → Prop} {σ σ' : ft_St} {k : Nat} {M : MM} {sn : Int32} (h : RepT σ k M sn) (hf : FrC P σ σ') (hd : ∀ a, tc k a → ¬ P a) : RepT σ' k M sn := by
  obtain ⟨h1, h2, h3, h4, h5⟩ := h
  have e0 := (hf k (hd k ⟨Nat.le_refl _, by omega⟩)).1
  refine ⟨?_, ?_, ?_, ?_, ?_⟩
  · rw [e0]; exact h1
  · rw [(hf (k + 1) (hd _ ⟨by omega, by omega⟩)).2]; exact h2
  · rw [(hf (k + 2) (hd _ ⟨by omega, by omega⟩)).2]; exact h3
  · rw [(hf (k + 3) (hd _ ⟨by omega, by omega⟩)).2]; exact h4
  · rw [e0]; exact h5
theorem RepLC.frame {P : Nat → Prop} {σ σ' : ft_St} {L : LL} (h : RepLC σ L) (hf : FrC P σ σ') (hd : ∀ a, stc a → ¬ P a) : RepLC σ' L := by
  obtain ⟨h1, h2, h3⟩ := h
  refine ⟨h1, ?_, fun j hj => ?_⟩
  · rw [(hf 55 (hd 55 (by unfold stc; decide))).1]; exact h2
  · rw [(hf 56 (hd 56 (by unfold stc; decide))).2, (hf 57 (hd 57 (by unfold stc; decide))).2]; exact h3 j hj
theorem CacC.frame {P : Nat → Prop} {σ σ' : ft_St} {M : MM} (h : CacC σ M) (hf : FrC P σ σ') (hd : ∀ a, (a = 0 ∨ (55 ≤ a ∧ a ≤ 65)) → ¬ P a) : CacC σ' M := by
  have e0 := (hf 0 (hd 0 (Or.inl rfl))).1
  refine ⟨fun y => ?_, fun y => ?_, fun y => ?_⟩
  · rw [e0] at y; exact (h.1 y).frame hf (fun a q => hd a (by unfold stc at q; omega))
  · rw [e0] at y; exact (h.2.1 y).frame hf (fun a q => hd a (by unfold tc at q; omega))
  · rw [e0] at y ⊢; exact h.2.2 y
theorem RestC.frame {P : Nat → Prop} {σ σ' : ft_St} {B : BB} (h : RestC σ B) (hf : FrC P σ σ') (hd : ∀ a, (a = 0 ∨ (8 ≤ a ∧ a ≤ 51) ∨ a = 73 ∨ a = 74) → ¬ P a) : RestC σ' B := by
  have e0 := (hf 0 (hd 0 (Or.inl rfl))).1
  refine ⟨h.1.frame hf (fun a q => hd a (by unfold hcells at q; omega)), h.2.1.frame hf (hd 73 (by decide)) (hd 74 (by decide)), ?_⟩
  rw [e0]; exact h.2.2
/-- of cell 0 only fields beyond these change -/
theorem RestC.same {P : Nat → Prop} {σ σ' : ft_St} {B : BB} (h : RestC σ B) (hf : FrC P σ σ') (hd : ∀ a, ((8 ≤ a ∧ a ≤ 51) ∨ a = 73 ∨ a = 74) → ¬ P a) (e8 : σ'.1 0 8 = σ.1 0 8) (e9 : σ'.1 0 9 = σ.1 0 9) (e10 : σ'.1 0 10 = σ.1 0 10) : RestC σ' B := by
  refine ⟨h.1.frame hf (fun a q => hd a (by unfold hcells at q; omega)), h.2.1.frame hf (hd 73 (by decide)) (hd 74 (by decide)), ?_⟩
  rw [e8, e9, e10]; exact h.2.2
theorem RepC.frame {P : Nat → Prop} {σ σ' : ft_St} {A : AA} (h : RepC σ A) (hf : FrC P σ σ') (hd : ∀ a, (a ≤ 65 ∨ a = 73 ∨ a = 74) → ¬ P a) : RepC σ' A := ⟨h.1.frame hf (fun a q => hd a (by unfold sc at q; omega)), h.2.1.frame hf (fun a q1 q2 => hd a (by omega)), h.2.2.1.frame hf (fun a q => hd a (by omega)), h.2.2.2.frame hf (fun a q => hd a (by omega))⟩
theorem RepS.f0 {σ : ft_St} {z : SS} (h : RepS σ 1 z) (j : Nat) (v : Int32) : RepS (ft_sF σ 0 j v) 1 z := h.frame (P := fun a => a = 0) (FrC.sF σ j v rfl) (fun a q e => by unfold sc at q; omega)
theorem RepV.f0 {σ : ft_St} {M : MM} (h : RepV σ M) (j : Nat) (v : Int32) : RepV (ft_sF σ 0 j v) M := h.frame (P := fun a => a = 0) (FrC.sF σ j v rfl) (fun a q1 q2 e => by omega)
theorem t_refuseA {σ : ft_St} {A A' : AA} {w : Int32} {Φ : Int32 → ft_St → Prop} (hR : RepC σ A) (hw : (w = -2 ∧ A' = badA A) ∨ (w = -3 ∧ A' = noA A) ∨ (w = -4 ∧ A' = fullA A)) (h : ∀ σ', RepC σ' A' → Φ w σ') : w_X9_refuse w σ Φ := by
  unfold w_X9_refuse
  obtain ⟨h1, h2, h3, h4, h5, h6, h7, h8⟩ := hR
  have cc : ∀ j v, j = 8 ∨ j = 9 ∨ j = 10 → CacC (ft_sF σ 0 j v) (zM A.1) := fun j v hj => by
    have e : ∀ i, i ≠ j → (ft_sF σ 0 j v).1 0 i = σ.1 0 i := fun i hi => by rw [sF_1, if_neg hi]
    refine ⟨fun y => ?_, fun y => ?_, fun y => ?_⟩
    · rw [e 12 (by omega)] at y; exact (h3.1 y).frame (P := fun a => a = 0) (FrC.sF σ j v rfl) (fun a q => by unfold stc at q; omega)
    · rw [e 13 (by omega)] at y; exact (h3.2.1 y).frame (P := fun a => a = 0) (FrC.sF σ j v rfl) (fun a q => by unfold tc at q; omega)
    · rw [e 14 (by omega)] at y; rw [e 11 (by omega)]; exact h3.2.2 y
  have hh : ∀ j v, RepH (ft_sF σ 0 j v) A.2.1 A.2.2.1 := fun j v => h4.frame (P := fun a => a = 0) (FrC.sF σ j v rfl) (fun a q => by unfold hcells at q; omega)
  rcases hw with ⟨rfl, rfl⟩ | ⟨rfl, rfl⟩ | ⟨rfl, rfl⟩
  · refine ⟨fun z => absurd rfl z, fun _ s3 g3 => h s3 ?_⟩
    rw [g3]
    refine ⟨h1.f0 _ _, h2.f0 _ _, cc _ _ (by decide), hh _ _, h5, ?_, ?_, ?_⟩
    · rw [sF_s, h6]; rfl
    · rw [sF_1, if_neg (by decide)]; exact h7
    · rw [sF_1, if_neg (by decide)]; exact h8
  · refine ⟨fun _ => ⟨fun z => absurd rfl z, fun _ s3 g3 => h s3 ?_⟩, fun z => absurd z (by decide)⟩
    rw [g3]
    refine ⟨h1.f0 _ _, h2.f0 _ _, cc _ _ (by decide), hh _ _, h5, ?_, ?_, ?_⟩
    · rw [sF_1, if_neg (by decide)]; exact h6
    · rw [sF_s, h7]; rfl
    · rw [sF_1, if_neg (by decide)]; exact h8
  · refine ⟨fun _ => ⟨fun _ s3 g3 => h s3 ?_, fun z => absurd z (by decide)⟩, fun z => absurd z (by decide)⟩
    rw [g3]
    refine ⟨h1.f0 _ _, h2.f0 _ _, cc _ _ (by decide), hh _ _, h5, ?_, ?_, ?_⟩
    · rw [sF_1, if_neg (by decide)]; exact h6
    · rw [sF_1, if_neg (by decide)]; exact h7
    · rw [sF_s, h8]; rfl
theorem t_badA {σ : ft_St} {A : AA} {Φ : Int32 → ft_St → Prop} (hR : RepC σ A) (h : ∀ σ', RepC σ' (badA A) → Φ (-2) σ') : w_X9_refuse (-2) σ Φ := t_refuseA hR (Or.inl ⟨rfl, rfl⟩) h
theorem t_noA {σ : ft_St} {A : AA} {Φ : Int32 → ft_St → Prop} (hR : RepC σ A) (h : ∀ σ', RepC σ' (noA A) → Φ (-3) σ') : w_X9_refuse (-3) σ Φ := t_refuseA hR (Or.inr (Or.inl ⟨rfl, rfl⟩)) h
theorem t_fullA {σ : ft_St} {A : AA} {Φ : Int32 → ft_St → Prop} (hR : RepC σ A) (h : ∀ σ', RepC σ' (fullA A) → Φ (-4) σ') : w_X9_refuse (-4) σ Φ := t_refuseA hR (Or.inr (Or.inr ⟨rfl, rfl⟩)) h
def lkc : Nat → Prop := fun a => a = 0 ∨ (52 ≤ a ∧ a ≤ 54)
theorem t_lookAnew {σ : ft_St} {M : MM} {Φ : ft_St → Prop} (hM : RepM σ 2 M) (hok : MOk M) (h : ∀ σ', RepV σ' M → CacC σ' M → FrC lkc σ σ' → (∀ j, j ≠ 12 → j ≠ 13 → j ≠ 14 → σ'.1 0 j = σ.1 0 j) → Φ σ') : w_X9_lookAnew σ Φ := by
  unfold w_X9_lookAnew
  refine t_look hM hok (fun U B hU hB s2 g2 s3 g3 s4 g4 => ?_)
  obtain ⟨s1, g1⟩ : ∃ s1, s1 = ft_sF (ft_sA (ft_sA σ 53 U) 54 B) 52 2 (MKS M) := ⟨_, rfl⟩
  rw [← g1] at g2
  have hF1 : FrC lkc σ s1 := by
    rw [g1]
    exact ((FrC.sA σ U (by unfold lkc; decide)).trans (FrC.sA _ B (by unfold lkc; decide))).trans (FrC.sF _ _ _ (by unfold lkc; decide))
  have hF4 : FrC lkc σ s4 := by
    rw [g4, g3, g2]
    exact ((hF1.trans (FrC.sF _ _ _ (Or.inl rfl))).trans (FrC.sF _ _ _ (Or.inl rfl))).trans (FrC.sF _ _ _ (Or.inl rfl))
  have c12 : s4.1 0 12 = 0 := by rw [g4, sF_1, if_neg (by decide), g3, sF_1, if_neg (by decide), g2, sF_s]
  have c13 : s4.1 0 13 = 0 := by rw [g4, sF_1, if_neg (by decide), g3, sF_s]
  have c14 : s4.1 0 14 = 0 := by rw [g4, sF_s]
  refine h s4 ?_ ⟨fun y => absurd c12 y, fun y => absurd c13 y, fun y => absurd c14 y⟩ hF4 (fun j q1 q2 q3 => ?_)
  · rw [g4, g3, g2, g1]
    refine ⟨?_, ?_, ?_⟩
    · show VwU M (if (53 : Nat) = 54 then B else if (53 : Nat) = 53 then U else σ.2.1 53)
      rw [if_neg (by decide), if_pos rfl]; exact hU
    · show VwB M (if (54 : Nat) = 54 then B else if (54 : Nat) = 53 then U else σ.2.1 54)
      rw [if_pos rfl]; exact hB
    · rw [sF_n _ _ _ (by decide), sF_n _ _ _ (by decide), sF_n _ _ _ (by decide), sF_s]
  · rw [g4, sF_1, if_neg q3, g3, sF_1, if_neg q2, g2, sF_1, if_neg q1, g1, sF_n _ _ _ (by decide)]; rfl
theorem t_beginA {σ : ft_St} {M : MM} {B : BB} {Φ : ft_St → Prop} (hM : RepM σ 2 M) (hok : MOk M) (hB : RestC σ B) (h : ∀ σ', RepC σ' (newZ M (FST M), B) → σ'.1 2 3 = nI (mN M) → Φ σ') : w_X9_beginAnew σ Φ := by
  unfold w_X9_beginAnew
  refine t_lookAnew hM hok (fun s1 hV hC hF e0 => ?_)
  refine t_first hok hV.1 (t_begin (fun s3 g3 => ?_))
  have hF3 : FrC (fun a => a = 6) s1 s3 := by
    rw [g3]; exact (FrC.sF (P := fun a => a = 6) s1 _ _ rfl).trans (FrC.sF (P := fun a => a = 6) _ _ _ rfl)
  have hM1 : RepM s1 2 M := hM.frame hF (fun a q => by unfold mc at q; unfold lkc; omega)
  have hM3 : RepM s3 2 M := hM1.frame hF3 (fun a q => by unfold mc at q; omega)
  have hB1 : RestC s1 B := hB.same hF (fun a q => by unfold lkc; omega) (e0 8 (by decide) (by decide) (by decide)) (e0 9 (by decide) (by decide) (by decide)) (e0 10 (by decide) (by decide) (by decide))
  refine h s3 ⟨⟨hM3, ?_, ?_, fun i hi => absurd hi (Nat.not_lt_zero _)⟩, hV.frame hF3 (fun a q1 q2 => by omega), hC.frame hF3 (fun a q => by omega), hB1.frame hF3 (fun a q => by omega)⟩ hM3.1
  · show s3.1 6 1 = 0
    rw [g3, sF_1, if_neg (by decide), sF_s]
  · show s3.1 6 2 = FST M
    rw [g3, sF_s]
theorem t_keepA {σ : ft_St} {A : AA} {Φ : ft_St → Prop} (hR : RepC σ A) (hok : AOk A) (h : ∀ σ', RepC σ' (A.1, keptB A) → Φ σ') : w_X0_keep 8 1 σ Φ := by
  obtain ⟨h1, h2, h3, h4, h5, h6⟩ := hR
  refine t_keep h1 hok.1 h4 (fun σ' hH hF => h σ' ⟨h1.frame hF (fun a q => by unfold sc at q; unfold hcells; omega), h2.frame hF (fun a q1 q2 => by unfold hcells; omega), h3.frame hF (fun a q => by unfold hcells; omega), hH, h5.frame hF (by unfold hcells; decide) (by unfold hcells; decide), ?_⟩)
  rw [(hF 0 (by unfold hcells; decide)).1]; exact h6
