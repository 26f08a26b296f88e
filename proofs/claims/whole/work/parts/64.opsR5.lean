theorem r_type {σ : ft_St} {A : AA} {c : Int32} {Φ : Int32 → ft_St → Prop} (hR : RepR σ A) (hok : AOk A) (h : ∀ σ', RepR σ' (typeF A c).2 → Φ (typeF A c).1 σ') : w_X10_type c σ Φ := by
  unfold w_X10_type
  unfold typeF at h
  have htl := hok.2.2.1
  obtain ⟨h1, h2, h3, h4⟩ := id hR
  refine r_in (m := 127) (by decide) (fun y => ⟨fun _ => ?_, fun z => absurd z (by decide)⟩) (fun y => ⟨fun z => absurd rfl z, fun _ => ?_⟩)
  rotate_left
  · rw [cif_f y] at h; exact r_badA hR h
  rw [cif_t y] at h
  obtain ⟨n, hn, rfl⟩ := y
  have hcl : cl (nI n) = n := nI_clamp (by omega)
  rw [hcl] at h
  have e22 : σ.1 0 22 = nI (tlA A) := h3.1
  have e120 : σ.1 0 22 = 120 ↔ tlA A = 120 := by rw [e22]; exact nI_eq (b := 120) (by omega) (by decide)
  rw [e120]
  refine ⟨fun z => ?_, fun z => ?_⟩
  · have hlt : tlA A < 120 := by omega
    rw [cif_t hlt] at h
    have hct : (nI (tlA A)).toNatClampNeg = tlA A := nI_clamp (by omega)
    rw [e22, hct]
    refine ⟨vp_in_nI hlt (by decide), fun s2 g2 s3 g3 => ?_⟩
    have f2 : s2.1 0 22 = nI (tlA A) := by rw [g2]; exact e22
    rw [f2, nI_1 (tlA A)] at g3
    have f3 : s3.1 0 22 = nI (tlA A + 1) := by rw [g3, sF_s]
    rw [f3]
    refine h s3 ?_
    have r15 : s3.2.1 15 = upd (σ.2.1 15) (tlA A) (nI n) := by rw [g3, sF_2, g2, sA_s]
    have fl : ∀ j, j ≠ 22 → s3.1 0 j = σ.1 0 j := fun j hj => by rw [g3, sF_1, if_neg hj, g2]; rfl
    have rw' : ∀ b, b ≠ 15 → s3.2.1 b = σ.2.1 b := fun b hb => by rw [g3, sF_2, g2, sA_n _ _ hb]
    obtain ⟨m1, m2, m3, m4⟩ := h1
    refine ⟨⟨rm_of m1 (fl 1 (by decide)) (fl 5 (by decide)) (fl 6 (by decide)) (rw' 2 (by decide)) (rw' 3 (by decide)) (rw' 4 (by decide)), by rw [fl 7 (by decide)]; exact m2, by rw [fl 8 (by decide)]; exact m3, fun i hi => by rw [rw' 5 (by decide)]; exact m4 i hi⟩, ⟨h2.1, by rw [fl 10 (by decide)]; exact h2.2.1, fun i hi => by rw [rw' 6 (by decide)]; exact h2.2.2 i hi⟩, ⟨f3, fun i hi => ?_⟩, ?_⟩
    · have hi : i < tlA A + 1 := hi
      rw [r15]
      show upd (σ.2.1 15) (tlA A) (nI n) i = nI (va_up (TA A) (tlA A) n i)
      by_cases e : i = tlA A
      · rw [e, upd_s, up_s]
      · rw [upd_n e, up_n e]; exact h3.2 i (show i < tlA A by omega)
    · rw [rw' 1 (by decide)]; exact h4
  · rw [cif_f (by omega)] at h; exact r_fullA hR h
theorem r_clear {σ : ft_St} {A : AA} {Φ : Int32 → ft_St → Prop} (hR : RepR σ A) (h : ∀ σ', RepR σ' (clearF A).2 → Φ (clearF A).1 σ') : w_X10_clear σ Φ := by
  unfold w_X10_clear
  intro s1 g1
  obtain ⟨h1, h2, h3, h4⟩ := hR
  rw [h3.1]
  refine h s1 ?_
  rw [g1]
  refine ⟨⟨h1.1.f _ (by decide), h1.2⟩, h2, ⟨sF_s _ _ _ _, fun i hi => absurd hi (Nat.not_lt_zero _)⟩, h4⟩
theorem r_back {σ : ft_St} {A : AA} {Φ : Int32 → ft_St → Prop} (hR : RepR σ A) (hok : AOk A) (h : ∀ σ', RepR σ' (backF A).2 → Φ (backF A).1 σ') : w_X10_back σ Φ := by
  unfold backF at h
  by_cases e : hcA A = 0
  · rw [if_pos e] at h
    unfold w_X10_back
    have e10 : σ.1 0 10 = 0 := by
      have := hR.2.1.2.1
      rw [this]
      show nI (hcA A) = 0
      rw [e]; rfl
    exact ⟨fun z => absurd e10 z, fun _ => r_noA hR h⟩
  · rw [if_neg e] at h
    refine r_backOk hR.2.1 (Nat.pos_of_ne_zero e) (hok.2.1 0 (Nat.pos_of_ne_zero e)) (fun σ' g1 g2 g3 => h σ' ⟨g1, g2, ?_, ?_⟩)
    · exact ⟨by rw [g3.2.2]; exact hR.2.2.1.1, fun i hi => by rw [g3.2.1]; exact hR.2.2.1.2 i hi⟩
    · rw [g3.1]; exact hR.2.2.2
theorem ds8 {k : Int32} (h : isN k 7) : k = 0 ∨ k = 1 ∨ k = 2 ∨ k = 3 ∨ k = 4 ∨ k = 5 ∨ k = 6 ∨ k = 7 := by
  obtain ⟨n, hn, rfl⟩ := h
  have : n ≤ 5 ∨ n = 6 ∨ n = 7 := by omega
  rcases this with e | e | e
  · rcases ds6 ⟨n, e, rfl⟩ with e | e | e | e | e | e <;> rw [e] <;> simp
  · subst e; exact Or.inr (Or.inr (Or.inr (Or.inr (Or.inr (Or.inr (Or.inl rfl))))))
  · subst e; exact Or.inr (Or.inr (Or.inr (Or.inr (Or.inr (Or.inr (Or.inr rfl))))))
theorem r_toldV {σ : ft_St} {A : AA} {k : Int32} {Φ : Int32 → Prop} (hR : RepR σ A) (hk : isN k 7) (h : Φ (toldV A k)) : w_X10_toldBy k σ Φ := by
  unfold w_X10_toldBy
  obtain ⟨h1, h2, h3, h4, h5, h6⟩ := hR
  have e10 : σ.1 0 10 = nI (hcA A) := h2.2.1
  have e22 : σ.1 0 22 = nI (tlA A) := h3.1
  rw [h1.1.1, h1.1.2.1, h1.1.2.2.1, e10, e22]
  have c0 : (0 : Int32).toNatClampNeg = 0 := by decide
  have c1 : (1 : Int32).toNatClampNeg = 1 := by decide
  have c2 : (2 : Int32).toNatClampNeg = 2 := by decide
  rcases ds8 hk with e | e | e | e | e | e | e | e <;> subst e
  · refine ⟨fun z => absurd z (by decide), fun _ => ⟨vp_in_nI (n := 0) (by decide) (by decide), ?_⟩⟩
    rw [c0, h4]; exact h
  · refine ⟨fun z => absurd z (by decide), fun _ => ⟨vp_in_nI (n := 1) (by decide) (by decide), ?_⟩⟩
    rw [c1, h5]; exact h
  · refine ⟨fun z => absurd z (by decide), fun _ => ⟨vp_in_nI (n := 2) (by decide) (by decide), ?_⟩⟩
    rw [c2, h6]; exact h
  · exact ⟨fun _ => ⟨fun z => absurd rfl z, fun _ => h⟩, fun z => absurd (by decide) z⟩
  · exact ⟨fun _ => ⟨fun _ => ⟨fun z => absurd rfl z, fun _ => h⟩, fun z => absurd z (by decide)⟩, fun z => absurd (by decide) z⟩
  · exact ⟨fun _ => ⟨fun _ => ⟨fun _ => ⟨fun z => absurd rfl z, fun _ => h⟩, fun z => absurd z (by decide)⟩, fun z => absurd z (by decide)⟩, fun z => absurd (by decide) z⟩
  · exact ⟨fun _ => ⟨fun _ => ⟨fun _ => ⟨fun _ => ⟨fun z => absurd rfl z, fun _ => h⟩, fun z => absurd z (by decide)⟩, fun z => absurd z (by decide)⟩, fun z => absurd z (by decide)⟩, fun z => absurd (by decide) z⟩
  · exact ⟨fun _ => ⟨fun _ => ⟨fun _ => ⟨fun _ => ⟨fun _ => h, fun z => absurd z (by decide)⟩, fun z => absurd z (by decide)⟩, fun z => absurd z (by decide)⟩, fun z => absurd z (by decide)⟩, fun z => absurd (by decide) z⟩
theorem r_told {σ : ft_St} {A : AA} {k : Int32} {Φ : Int32 → ft_St → Prop} (hR : RepR σ A) (h : ∀ σ', RepR σ' (toldF A k).2 → Φ (toldF A k).1 σ') : w_X10_told k σ Φ := by
  unfold w_X10_told
  unfold toldF at h
  refine r_in (m := 7) (by decide) (fun y => ⟨fun z => absurd z (by decide), fun _ => ?_⟩) (fun y => ⟨fun _ => ?_, fun z => absurd rfl z⟩)
  · rw [cif_t y] at h; exact r_toldV hR y (h σ hR)
  · rw [cif_f y] at h; exact r_badA hR h
theorem r_reads {σ : ft_St} {A : AA} {Φ : Int32 → ft_St → Prop} (hR : RepR σ A) (hok : AOk A) (h : ∀ σ', RepR σ' (readsF A).2 → Φ (readsF A).1 σ') : w_X10_reads σ Φ := by
  unfold w_X10_reads
  have hTo := hok.2.2
  have htl := hTo.1
  have hT : RepRT σ (tlA A) (TA A) := hR.2.2.1
  obtain ⟨M, eM⟩ : ∃ M, M = zM A.1 := ⟨_, rfl⟩
  obtain ⟨tl, etl⟩ : ∃ tl, tl = tlA A := ⟨_, rfl⟩
  obtain ⟨T, eT⟩ : ∃ T, T = TA A := ⟨_, rfl⟩
  have hokM := hok.1.1
  have hM := hR.1.1
  unfold readsF at h
  rw [← etl, ← eT] at hT hTo h
  rw [← etl] at htl
  rw [← eM] at h hM hokM
  have h0 : ∀ p s', RES T tl 0 (q0 M) = .inl p → RepR s' A → Φ ((-10) - nI p) s' := fun p s' e hr => by
    rw [e] at h; exact h s' hr
  have h1 : ∀ n D s', RES T tl 0 (q0 M) = .inr (n, D) → RepR s' (newA A D) → Φ (nI n) s' := fun n D s' e hr => by
    rw [e] at h; exact h s' hr
  clear h
  intro s1 g1
  have R1 : Rd σ s1 M M := by rw [g1]; exact ⟨hM.f _ (by decide), Oth.f _ (by decide), Ext.refl M⟩
  have rt : ∀ {s'}, Rf σ s' M → RepRT s' tl T := fun {s'} q => hT.oth q.1
  have f1 : s1.1 0 23 = nI 0 := by rw [g1, sF_s]; rfl
  refine r_here (rt R1.rf) hTo (Nat.zero_le _) f1 (fun hb => ⟨fun z => absurd rfl z, fun _ => ?_⟩) (fun p0 hp0 hb hn0 => ⟨fun _ => ?_, fun z => absurd z (nI_ne_m1' (by have := hTo.2 p0 hp0; omega))⟩)
  · have R3 : Rd σ (ft_sF s1 0 23 (nI tl)) M M := R1.f _ (Or.inl rfl)
    rw [(rt R3.rf).1]
    refine h0 tl _ ?_ (hR.of (eM ▸ R3.1) R3.2.1)
    rw [hb.res (Nat.le_refl _), RES_end, if_neg (fun q => q.2 rfl)]
  obtain ⟨s3, g3⟩ : ∃ s3, s3 = ft_sF s1 0 23 (nI p0) := ⟨_, rfl⟩
  have R3 : Rd σ s3 M M := by rw [g3]; exact R1.f _ (Or.inl rfl)
  have f3 : s3.1 0 23 = nI p0 := by rw [g3, sF_s]
  rw [← g3, R3.1.1, R3.1.2.1, R3.1.2.2.1]
  refine LP3.rule (fun x4 x5 s6 => (x5 = 1 ∧ ∃ pos q, pos ≤ tl ∧ q.1 = 0 ∧ x4 = nI q.2.1 ∧ QOk pos q ∧ Rd σ s6 M q.2.2.2.2.2.2 ∧ s6.1 0 23 = nI pos ∧ RES T tl 0 (q0 M) = RES T tl pos q ∧ (q.2.1 = 0 → pos < tl ∧ ¬ T pos = 32)) ∨ (x5 = 0 ∧ ∃ p, p ≤ 120 ∧ RES T tl 0 (q0 M) = .inl p ∧ Rf σ s6 M ∧ s6.1 0 24 = nI p)) (fun _ x5 s6 => if x5 = 0 then 0 else 1 + (120 - (s6.1 0 23).toNatClampNeg)) ?_ (Or.inl ⟨rfl, p0, q0 M, Nat.le_of_lt hp0, rfl, rfl, ⟨⟨Nat.zero_le _, Nat.zero_le _, Nat.zero_le _⟩, (q0_ok hokM).2⟩, R3, f3, hb.res (Nat.le_of_lt hp0) _, fun _ => ⟨hp0, hn0⟩⟩)
  rintro X7 x4 x5 s6 (⟨rfl, pos, q, hp, hq0, rfl, hQ, hR6, f6, hres, hz⟩ | ⟨rfl, p, hp, hres, hR6, f24⟩) ih
  · intro J9 hJ9
    refine ⟨fun w => absurd w (by decide), fun _ => ?_⟩
    refine r_here (rt hR6.rf) hTo hp f6 (fun hb2 => ⟨fun _ => ?_, fun w => absurd rfl w⟩) (fun p2 hp2 hb2 hn2 => ⟨fun w => absurd w (nI_ne_m1' (by have := hTo.2 p2 hp2; omega)), fun _ => ?_⟩)
    · -- all orders were read
      have hn0' : q.2.1 ≠ 0 := fun e => by
        obtain ⟨w1, w2⟩ := hz e
        exact w2 (hb2.2 pos (Nat.le_refl _) w1)
      obtain ⟨D, eD⟩ : ∃ D, D = q.2.2.2.2.2.2 := ⟨_, rfl⟩
      rw [← eD] at hR6
      have hfin : RES T tl 0 (q0 M) = .inr (q.2.1, D) := by
        rw [hres, hb2.res (Nat.le_refl _), RES_end, if_pos ⟨hq0, hn0'⟩, eD]
      have hokD : MOk D := by rw [eD]; exact hQ.2.2.2.2
      have R8 : Rd σ (ft_sF s6 0 23 (nI tl)) M D := hR6.f _ (Or.inl rfl)
      obtain ⟨s8, g8⟩ : ∃ s8, s8 = ft_sF s6 0 23 (nI tl) := ⟨_, rfl⟩
      rw [← g8] at R8 ⊢
      refine hJ9 s8 ⟨fun _ => ?_, fun w => absurd w (by decide)⟩
      intro s10 g10 s11 g11 s12 g12
      have hM12 : RepRM s12 M := by
        rw [g12, g11, g10]
        refine ⟨?_, ?_, sF_s _ _ _ _, R8.rf.2⟩
        · rw [sF_1, if_neg (by decide), sF_1, if_neg (by decide), sF_s]
        · rw [sF_1, if_neg (by decide), sF_s]
      have hO12 : Oth σ s12 := by
        rw [g12, g11, g10]
        exact ((R8.2.1.trans (Oth.f _ (by decide))).trans (Oth.f _ (by decide))).trans (Oth.f _ (by decide))
      refine r_leavesA (hR.of (eM ▸ hM12) hO12) hok (fun s13 hR13 k1 k2 s14 g14 s15 g15 s16 g16 => ?_)
      have hM16 : RepRM s16 D := by
        rw [g16, g15, g14, R8.1.1, R8.1.2.1, R8.1.2.2.1]
        refine ⟨?_, ?_, sF_s _ _ _ _, fun w hw => ?_⟩
        · rw [sF_1, if_neg (by decide), sF_1, if_neg (by decide), sF_s]
        · rw [sF_1, if_neg (by decide), sF_s]
        · rw [sF_2, sF_2, sF_2, k2 2 (by decide), k2 3 (by decide), k2 4 (by decide), g12, g11, g10]
          exact R8.1.2.2.2 w hw
      have hO16 : Oth s13 s16 := by
        rw [g16, g15, g14]
        exact ((Oth.f _ (by decide)).trans (Oth.f _ (by decide))).trans (Oth.f _ (by decide))
      exact r_beginsA hM16 hokD (hR13.2.oth hO16) (fun s17 hR17 _ => h1 _ D s17 hfin hR17)
    · have hb21 := hb2.1
      have hres2 := hres.trans (hb2.res (Nat.le_of_lt hp2) q)
      obtain ⟨st, n, wp, a, d, l, D⟩ := q
      have hq0 : st = 0 := hq0
      subst hq0
      have hQ2 : QOk p2 (0, n, wp, a, d, l, D) := ⟨⟨hQ.1.1, Nat.le_trans hQ.1.2.1 hb21, Nat.le_trans hQ.1.2.2 hb21⟩, hQ.2⟩
      have hn1 : n ≤ pos := hQ.1.2.1
      refine r_readsOrder hT hTo (hR6.f _ (Or.inl rfl)) (sF_s _ _ _ _) hp2 hn2 hQ2 (fun p s' g1' g2' g3' g4' => ?_) (fun pos' q' s' u1 u2 u3 u4 u5 u6 u7 u8 => ?_)
      · refine ih _ _ _ (Or.inr ⟨rfl, p, g1', hres2.trans g2', g3', g4'⟩) ?_
        rw [if_pos rfl, if_neg (by decide)]; omega
      · refine ih _ _ _ (Or.inl ⟨rfl, pos', q', u2, u3, by rw [u4]; exact nI_1 n, u5, u7, u8, hres2.trans u6, fun e => absurd e (by rw [u4]; omega)⟩) ?_
        rw [if_neg (by decide), if_neg (by decide), u8, f6, nI_clamp (by omega), nI_clamp (by omega)]
        omega
  · intro J9 hJ9
    refine ⟨fun _ => hJ9 s6 ⟨fun w => absurd rfl w, fun _ s18 g18 s19 g19 s20 g20 => ?_⟩, fun w => absurd rfl w⟩
    have hM20 : RepRM s20 M := by
      rw [g20, g19, g18]
      refine ⟨?_, ?_, sF_s _ _ _ _, hR6.2⟩
      · rw [sF_1, if_neg (by decide), sF_1, if_neg (by decide), sF_s]
      · rw [sF_1, if_neg (by decide), sF_s]
    have hO20 : Oth σ s20 := by
      rw [g20, g19, g18]
      exact ((hR6.1.trans (Oth.f _ (by decide))).trans (Oth.f _ (by decide))).trans (Oth.f _ (by decide))
    have e24 : s20.1 0 24 = nI p := by
      rw [g20, sF_1, if_neg (by decide), g19, sF_1, if_neg (by decide), g18, sF_1, if_neg (by decide)]; exact f24
    rw [e24]
    exact h0 p s20 hres (hR.of (eM ▸ hM20) hO20)
