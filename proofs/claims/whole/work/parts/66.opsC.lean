/-! the class's calls -/
theorem mc2_sep {σ σ' : ft_St} {B : BB} (h : RestC σ B) (hF : FrC (mc 2) σ σ') : RestC σ' B := h.frame hF (fun a q => by unfold mc; omega)
theorem t_way {σ : ft_St} {A : AA} {a d b : Int32} {Φ : Int32 → ft_St → Prop} (hR : RepC σ A) (hok : AOk A) (h : ∀ σ', RepC σ' (wayF A a d b).2 → Φ (wayF A a d b).1 σ') : w_X9_way a d b σ Φ := by
  unfold w_X9_way
  unfold wayF at h
  have hM := hR.1.1
  have hokM := hok.1.1
  have h24 := hokM.1
  have bad : ¬ (isN a 9 ∧ isN d 7 ∧ isN b 9) → w_X9_refuse (-2) σ (fun (r3 : Int32) (s4 : ft_St) => Φ r3 s4) := fun y => by
    rw [cif_f y] at h
    exact t_badA hR h
  refine t_isPlace (fun y1 J2 hJ2 => ⟨fun z => absurd z (by decide), fun _ => ?_⟩) (fun y1 J2 hJ2 => ⟨fun _ => hJ2 (bad (fun w => y1 w.1)), fun z => absurd rfl z⟩)
  refine t_isDeed (fun y2 => ⟨fun z => absurd z (by decide), fun _ => ?_⟩) (fun y2 => ⟨fun _ => hJ2 (bad (fun w => y2 w.2.1)), fun z => absurd rfl z⟩)
  refine t_isPlace (fun y3 => ⟨fun _ => ?_, fun z => absurd z (by decide)⟩) (fun y3 => ⟨fun z => absurd rfl z, fun _ => hJ2 (bad (fun w => y3 w.2.2))⟩)
  rw [cif_t ⟨y1, y2, y3⟩] at h
  obtain ⟨ba, ea⟩ := y1.cl (by decide)
  obtain ⟨bd, ed⟩ := y2.cl (by decide)
  obtain ⟨bb, eb⟩ := y3.cl (by decide)
  have key : w_X1_has 2 (nI (cl a)) (nI (cl d)) (nI (cl b)) σ (fun (r7 : Int32) => (r7 = 0 → w_X1_isFull 2 σ (fun (r8 : Int32) => (r8 = 0 → w_X0_keep 8 1 σ (fun (s9 : ft_St) => w_X1_add 2 (nI (cl a)) (nI (cl d)) (nI (cl b)) s9 (fun (s10 : ft_St) => w_X9_beginAnew s10 (fun (s11 : ft_St) => Φ ((s11.1 2 3) - 1) s11)))) ∧ (¬ r8 = 0 → w_X9_refuse (-4) σ (fun (r12 : Int32) (s13 : ft_St) => Φ r12 s13)))) ∧ (¬ r7 = 0 → w_X9_refuse (-3) σ (fun (r14 : Int32) (s15 : ft_St) => Φ r14 s15))) := by
    refine t_has hM hokM (by omega) (by omega) (by omega) ?_
    cases hb : hasB (zM A.1) (cl a) (cl d) (cl b)
    · rw [cif_f (by rw [hb]; decide)] at h
      refine ⟨fun _ => ?_, fun z => absurd rfl z⟩
      refine t_isFull hM hokM ?_
      by_cases hlt : mN (zM A.1) < 24
      · rw [cif_t hlt] at h
        rw [if_pos hlt]
        refine ⟨fun _ => ?_, fun z => absurd rfl z⟩
        refine t_keepA hR hok (fun s9 hR9 => ?_)
        have hM9 : RepM s9 2 (zM A.1) := hR9.1.1
        refine t_add hM9 hokM hlt (fun s10 hM10 hF10 => ?_)
        refine t_beginA hM10 (addW_ok hokM hlt (by omega) (by omega) (by omega)) (mc2_sep hR9.2.2.2 hF10) (fun s11 hR11 e1 => ?_)
        rw [e1, show nI (mN (addW (zM A.1) (cl a) (cl d) (cl b))) - 1 = nI (mN (zM A.1)) from nI_sub1 (Nat.succ_pos _)]
        exact h s11 hR11
      · rw [cif_f hlt] at h
        rw [if_neg hlt]
        exact ⟨fun z => absurd z (by decide), fun _ => t_fullA hR h⟩
    · rw [cif_t hb] at h
      exact ⟨fun z => absurd z (by decide), fun _ => t_noA hR h⟩
  rw [← ea, ← ed, ← eb] at key
  exact key
theorem t_isWay {σ : ft_St} {M : MM} {a : Int32} {Φ : Int32 → Prop} (hM : RepM σ 2 M) (hok : MOk M) (h1 : isW M a → Φ 1) (h0 : ¬ isW M a → Φ 0) : w_X9_isWay a σ Φ := by
  unfold w_X9_isWay
  have h24 := hok.1
  rw [hM.1]
  have e0 : (0 : Int32).toInt = 0 := by decide
  have iff : isW M a ↔ ¬ a < 0 ∧ ¬ nI (mN M) ≤ a := by
    rw [Int32.lt_iff_toInt_lt, Int32.le_iff_toInt_le, e0, nI_toInt (show mN M < 2 ^ 31 by omega)]
    constructor
    · rintro ⟨n, hn, rfl⟩
      rw [nI_toInt (show n < 2 ^ 31 by omega)]; omega
    · rintro ⟨q1, q2⟩
      refine ⟨a.toInt.toNat, by omega, ?_⟩
      apply Int32.toInt_inj.mp
      rw [nI_toInt (by omega)]
      omega
  rw [iff] at h1 h0
  intro J hJ
  exact ⟨fun y => hJ (h0 (fun z => z.1 y)), fun y => ⟨fun y2 => hJ (h0 (fun z => z.2 y2)), fun y2 => h1 ⟨y, y2⟩⟩⟩
theorem t_drop {σ : ft_St} {A : AA} {w : Int32} {Φ : Int32 → ft_St → Prop} (hR : RepC σ A) (hok : AOk A) (h : ∀ σ', RepC σ' (dropF A w).2 → Φ (dropF A w).1 σ') : w_X9_drop w σ Φ := by
  unfold w_X9_drop
  unfold dropF at h
  have hokM := hok.1.1
  have h24 := hokM.1
  refine t_isWay hR.1.1 hokM (fun y => ⟨fun _ => ?_, fun z => absurd z (by decide)⟩) (fun y => ⟨fun z => absurd rfl z, fun _ => ?_⟩)
  rotate_left
  · rw [cif_f y] at h; exact t_badA hR h
  rw [cif_t y] at h
  obtain ⟨n, hn, rfl⟩ := y
  have hcl : cl (nI n) = n := nI_clamp (by omega)
  rw [hcl] at h
  refine t_keepA hR hok (fun s2 hR2 => ?_)
  have hM2 : RepM s2 2 (zM A.1) := hR2.1.1
  refine t_remove hM2 hokM hn (fun s3 hM3 hF3 => ?_)
  refine t_beginA hM3 (remW_ok hokM hn) (mc2_sep hR2.2.2.2 hF3) (fun s4 hR4 e1 => ?_)
  rw [e1]
  exact h s4 hR4
theorem chg_c {b d v : Int32} (hd : isN d 7) (hv : isN v 1) : (b &&& ((1 <<< (d &&& 31)) ^^^ (-1))) ||| (v <<< (d &&& 31)) = chg b d v := by
  obtain ⟨k, hk, rfl⟩ := hd
  have hk32 : k < 32 := by omega
  unfold chg
  rcases ds2 hv with e | e <;> subst e
  · rw [if_neg (by decide)]
    have e0 : (0 : Int32) <<< (nI k &&& 31) = 0 := (by decide +kernel : ∀ k, k < 8 → (0 : Int32) <<< (nI k &&& 31) = 0) k (by omega)
    rw [e0]
    apply b_ext
    intro i _
    rw [b_or, b_0, Bool.or_false]
  · rw [if_pos rfl]
    apply b_extI
    intro i hi
    rw [b_orI, b_orI, b_and, b_not _ hi, Bool.and_eq_true]
    have := b_bitI hk32 hi
    constructor
    · rintro (q | q)
      · exact Or.inl q.1
      · exact Or.inr q
    · rintro (q | q)
      · cases e : bt (1 <<< (nI k &&& 31)) i
        · exact Or.inl ⟨q, rfl⟩
        · exact Or.inr rfl
      · exact Or.inr q
theorem t_deed {σ : ft_St} {A : AA} {d k v : Int32} {Φ : Int32 → ft_St → Prop} (hR : RepC σ A) (hok : AOk A) (h : ∀ σ', RepC σ' (deedF A d k v).2 → Φ (deedF A d k v).1 σ') : w_X9_deed d k v σ Φ := by
  unfold w_X9_deed
  unfold deedF at h
  have hokM := hok.1.1
  have bad : ¬ (isN d 7 ∧ isN k 1 ∧ isN v 1) → w_X9_refuse (-2) σ (fun (r3 : Int32) (s4 : ft_St) => Φ r3 s4) := fun y => by
    rw [cif_f y] at h
    exact t_badA hR h
  refine t_isDeed (fun y1 J2 hJ2 => ⟨fun z => absurd z (by decide), fun _ => ?_⟩) (fun y1 J2 hJ2 => ⟨fun _ => hJ2 (bad (fun w => y1 w.1)), fun z => absurd rfl z⟩)
  refine t_within (m := 1) (by decide) (fun y2 => ⟨fun z => absurd z (by decide), fun _ => ?_⟩) (fun y2 => ⟨fun _ => hJ2 (bad (fun w => y2 w.2.1)), fun z => absurd rfl z⟩)
  refine t_within (m := 1) (by decide) (fun y3 => ⟨fun _ => ?_, fun z => absurd z (by decide)⟩) (fun y3 => ⟨fun z => absurd rfl z, fun _ => hJ2 (bad (fun w => y3 w.2.2))⟩)
  rw [cif_t ⟨y1, y2, y3⟩] at h
  refine t_keepA hR hok (fun s7 hR7 => ?_)
  have hM7 : RepM s7 2 (zM A.1) := hR7.1.1
  rw [hM7.2.1, hM7.2.2.1]
  obtain ⟨M, eM⟩ : ∃ M, M = zM A.1 := ⟨_, rfl⟩
  rw [← eM] at hM7 hokM h ⊢
  have fin : ∀ x8 s11, x8 = (if k = 0 then mS M else mX M) → RepM s11 2 (deedM M d k v) → FrC (mc 2) s7 s11 → w_X9_beginAnew s11 (fun (s13 : ft_St) => Φ ((x8 >>> (d &&& 31)) &&& 1) s13) := by
    intro x8 s11 e8 hM11 hF11
    rw [e8]
    exact t_beginA hM11 (deedM_ok hokM y1) (mc2_sep hR7.2.2.2 hF11) (fun s13 hR13 _ => h s13 hR13)
  intro J9 hJ9
  rcases ds2 y2 with e | e
  · subst e
    have dm : deedM M d 0 v = withS M (chg (mS M) d v) := if_pos rfl
    refine ⟨fun z => absurd rfl z, fun _ => hJ9 _ (fun x10 e10 J12 hJ12 => ⟨fun z => absurd rfl z, fun _ s15 g15 => hJ12 _ (fin _ s15 (if_pos rfl).symm ?_ ?_)⟩)⟩
    · rw [dm, g15, e10, chg_c y1 y3]
      refine ⟨?_, sF_s _ _ _ _, ?_, hM7.2.2.2⟩
      · rw [sF_1, if_neg (by decide)]; exact hM7.1
      · rw [sF_1, if_neg (by decide)]; exact hM7.2.2.1
    · rw [g15]; exact FrC.sF _ _ _ (by unfold mc; decide)
  · subst e
    have n10 : ¬ (1 : Int32) = 0 := by decide
    have dm : deedM M d 1 v = withX M (chg (mX M) d v) := if_neg n10
    refine ⟨fun _ => hJ9 _ (fun x10 e10 J12 hJ12 => ⟨fun _ s14 g14 => hJ12 _ (fin _ s14 (if_neg n10).symm ?_ ?_), fun z => absurd z n10⟩), fun z => absurd z n10⟩
    · rw [dm, g14, e10, chg_c y1 y3]
      refine ⟨?_, ?_, sF_s _ _ _ _, hM7.2.2.2⟩
      · rw [sF_1, if_neg (by decide)]; exact hM7.1
      · rw [sF_1, if_neg (by decide)]; exact hM7.2.1
    · rw [g14]; exact FrC.sF _ _ _ (by unfold mc; decide)
theorem t_draw {σ : ft_St} {A : AA} {s n : Int32} {Φ : Int32 → ft_St → Prop} (hR : RepC σ A) (hok : AOk A) (h : ∀ σ', RepC σ' (drawF A s n).2 → Φ (drawF A s n).1 σ') : w_X9_draw s n σ Φ := by
  unfold w_X9_draw
  unfold drawF at h
  have hokM := hok.1.1
  have bad : ¬ (isN s 999999 ∧ is24 n) → w_X9_refuse (-2) σ (fun (r3 : Int32) (s4 : ft_St) => Φ r3 s4) := fun y => by
    rw [cif_f y] at h
    exact t_badA hR h
  have e1 : (1 : Int32).toInt = 1 := by decide
  have e24 : (24 : Int32).toInt = 24 := by decide
  have iff : is24 n ↔ ¬ n < 1 ∧ n ≤ 24 := by
    rw [Int32.lt_iff_toInt_lt, Int32.le_iff_toInt_le, e1, e24]
    constructor
    · rintro ⟨k, h1, h2, rfl⟩
      have en := nI_toInt (show k < 2 ^ 31 by omega)
      rw [en]; omega
    · rintro ⟨h1, h2⟩
      refine ⟨n.toInt.toNat, by omega, by omega, ?_⟩
      apply Int32.toInt_inj.mp
      rw [nI_toInt (by omega)]
      omega
  refine t_within (m := 999999) (by decide) (fun y1 J2 hJ2 => ⟨fun z => absurd z (by decide), fun _ => ?_⟩) (fun y1 J2 hJ2 => ⟨fun _ => hJ2 (bad (fun w => y1 w.1)), fun z => absurd rfl z⟩)
  refine ⟨fun z => hJ2 (bad (fun w => (iff.mp w.2).1 z)), fun z => ⟨fun z2 => ?_, fun z2 => hJ2 (bad (fun w => z2 (iff.mp w.2).2))⟩⟩
  have y2 : is24 n := iff.mpr ⟨z, z2⟩
  rw [cif_t ⟨y1, y2⟩] at h
  obtain ⟨k, hk1, hk2, rfl⟩ := y2
  obtain ⟨x, hx, rfl⟩ := y1
  have hclk : cl (nI k) = k := nI_clamp (by omega)
  have hclx : cl (nI x) = x := nI_clamp (by omega)
  rw [hclk, hclx] at h
  refine t_keepA hR hok (fun s5 hR5 => ?_)
  have hM5 : RepM s5 2 (zM A.1) := hR5.1.1
  refine t_drawWays hM5 hokM (by omega) hk2 (fun s6 hM6 hok6 hF6 => ?_)
  refine t_beginA hM6 hok6 (mc2_sep hR5.2.2.2 hF6) (fun s7 hR7 e7 => ?_)
  rw [e7]
  exact h s7 hR7
theorem anewM_ok {M : MM} : MOk (anewM M) := ⟨Nat.zero_le _, fun w hw => absurd hw (Nat.not_lt_zero _), fun i hi => by
    have hi : bt 255 i = true := hi
    rw [b_255] at hi; exact of_decide_eq_true hi, fun i hi => b0_8 i hi⟩
theorem t_anew {σ : ft_St} {A : AA} {Φ : Int32 → ft_St → Prop} (hR : RepC σ A) (hok : AOk A) (h : ∀ σ', RepC σ' (anewF A).2 → Φ (anewF A).1 σ') : w_X9_anew σ Φ := by
  unfold w_X9_anew
  refine t_keepA hR hok (fun s1 hR1 s2 g2 s3 g3 s4 g4 => ?_)
  have hM1 : RepM s1 2 (zM A.1) := hR1.1.1
  rw [hM1.1]
  have hM4 : RepM s4 2 (anewM (zM A.1)) := by
    rw [g4, g3, g2]
    refine ⟨?_, ?_, sF_s _ _ _ _, fun w hw => absurd hw (Nat.not_lt_zero _)⟩
    · rw [sF_1, if_neg (by decide), sF_1, if_neg (by decide), sF_s]; rfl
    · rw [sF_1, if_neg (by decide), sF_s]; rfl
  have hF4 : FrC (mc 2) s1 s4 := by
    rw [g4, g3, g2]
    exact ((FrC.sF _ _ _ (by unfold mc; decide)).trans (FrC.sF _ _ _ (by unfold mc; decide))).trans (FrC.sF _ _ _ (by unfold mc; decide))
  exact t_beginA hM4 anewM_ok (mc2_sep hR1.2.2.2 hF4) (fun s5 hR5 _ => h s5 hR5)
theorem t_restarts {σ : ft_St} {A : AA} {Φ : Int32 → ft_St → Prop} (hR : RepC σ A) (hok : AOk A) (h : ∀ σ', RepC σ' (restartsF A).2 → Φ (restartsF A).1 σ') : w_X9_restarts σ Φ := by
  unfold w_X9_restarts
  refine t_keepA hR hok (fun s1 hR1 => ?_)
  obtain ⟨⟨hM1, hW1⟩, hV1, hC1, hB1⟩ := hR1
  refine t_first hok.1.1 hV1.1 (t_begin (fun s3 g3 => ?_))
  have hF3 : FrC (fun a => a = 6) s1 s3 := by
    rw [g3]; exact (FrC.sF (P := fun a => a = 6) s1 _ _ rfl).trans (FrC.sF (P := fun a => a = 6) _ _ _ rfl)
  have e2 : s3.1 6 2 = FST (zM A.1) := by rw [g3, sF_s]
  rw [e2]
  refine t_verdict (h s3 ⟨⟨hM1.frame hF3 (fun a q => by unfold mc at q; omega), ?_, e2, fun i hi => absurd hi (Nat.not_lt_zero _)⟩, hV1.frame hF3 (fun a q1 q2 => by omega), hC1.frame hF3 (fun a q => by omega), hB1.frame hF3 (fun a q => by omega)⟩)
  show s3.1 6 1 = 0
  rw [g3, sF_1, if_neg (by decide), sF_s]
theorem t_sees {σ : ft_St} {A : AA} {a : Int32} {Φ : Int32 → ft_St → Prop} (hR : RepC σ A) (hok : AOk A) (h : ∀ σ', RepC σ' (seesF A a).2 → Φ (seesF A a).1 σ') : w_X9_sees a σ Φ := by
  unfold w_X9_sees
  unfold seesF at h
  have hM : RepM σ 2 (zM A.1) := hR.1.1
  have hW : RepW σ 6 A.1 := hR.1.2
  refine t_isDeed (fun y => ⟨fun _ => ?_, fun z => absurd z (by decide)⟩) (fun y => ⟨fun z => absurd rfl z, fun _ => ?_⟩)
  rotate_left
  · rw [cif_f y] at h; exact t_badA hR h
  rw [cif_t y] at h
  obtain ⟨d, hd, rfl⟩ := y
  have hcl : cl (nI d) = d := nI_clamp (by omega)
  rw [hcl] at h
  refine t_isSeen (by omega) ?_
  rw [hM.2.1]
  cases es : bt (mS (zM A.1)) d
  · refine ⟨fun z => absurd rfl z, fun _ => ?_⟩
    rw [cif_t (by unfold AFC; rw [if_neg (by rw [es]; decide)])] at h
    exact t_noA hR h
  · refine ⟨fun _ => ?_, fun z => absurd z (by decide)⟩
    rw [hW.2.1]
    refine t_after hok.1.1 hR.2.1.2.1 (by omega) ⟨fun z => ?_, fun z => ?_⟩
    · rw [cif_f z] at h
      refine t_keepA hR hok (fun s4 hR4 => ?_)
      obtain ⟨⟨hM4, hW4⟩, hV4, hC4, hB4⟩ := hR4
      refine t_addW hW4 hok.1.2.1 (fun s5 hW5 hF5 => ?_)
      exact t_verdict (h s5 ⟨⟨hM4.frame hF5 (fun a q => by unfold mc at q; unfold wc; omega), hW5⟩, hV4.frame hF5 (fun a q1 q2 => by unfold wc; omega), hC4.frame hF5 (fun a q => by unfold wc; omega), hB4.frame hF5 (fun a q => by unfold wc; omega)⟩)
    · rw [cif_t z] at h; exact t_noA hR h
theorem t_would {σ : ft_St} {A : AA} {a : Int32} {Φ : Int32 → ft_St → Prop} (hR : RepC σ A) (hok : AOk A) (h : ∀ σ', RepC σ' (wouldF A a).2 → Φ (wouldF A a).1 σ') : w_X9_would a σ Φ := by
  unfold w_X9_would
  unfold wouldF at h
  have hM : RepM σ 2 (zM A.1) := hR.1.1
  have hW : RepW σ 6 A.1 := hR.1.2
  refine t_isDeed (fun y => ⟨fun _ => ?_, fun z => absurd z (by decide)⟩) (fun y => ⟨fun z => absurd rfl z, fun _ => ?_⟩)
  rotate_left
  · rw [cif_f y] at h; exact t_badA hR h
  rw [cif_t y] at h
  obtain ⟨d, hd, rfl⟩ := y
  have hcl : cl (nI d) = d := nI_clamp (by omega)
  rw [hcl] at h
  refine t_isSeen (by omega) ?_
  rw [hM.2.1]
  cases es : bt (mS (zM A.1)) d
  · rw [cif_f (by rw [es]; decide)] at h
    exact ⟨fun z => absurd rfl z, fun _ => t_noA hR h⟩
  · rw [cif_t es] at h
    refine ⟨fun _ => ?_, fun z => absurd z (by decide)⟩
    rw [hW.2.1]
    refine t_after hok.1.1 hR.2.1.2.1 (by omega) ?_
    unfold AFC
    rw [if_pos es]
    refine ⟨fun z => ?_, fun z => ?_⟩
    · rw [if_neg z] at h; exact t_verdict (h σ hR)
    · rw [if_pos z] at h; exact h σ hR
