theorem r_changed {b d v : Int32} {Φ : Int32 → Prop} (h : Φ (chg b d v)) : w_X10_changed b d v Φ := by
  unfold w_X10_changed
  unfold chg at h
  exact ⟨fun y => by rw [if_neg y] at h; exact h, fun y => by rw [if_pos y] at h; exact h⟩
theorem chg_8 {b d v : Int32} (hb : ∀ i, bt b i = true → i < 8) (hd : isN d 7) : ∀ i, bt (chg b d v) i = true → i < 8 := by
  obtain ⟨k, hk, rfl⟩ := hd
  unfold chg
  intro i hi
  split at hi
  · exact b_set8 hb (by omega) i hi
  · rw [b_and, Bool.and_eq_true] at hi; exact hb i hi.1
theorem deedM_ok {M : MM} {d k v : Int32} (hok : MOk M) (hd : isN d 7) : MOk (deedM M d k v) := by
  unfold deedM
  split
  · exact withS_ok hok (chg_8 hok.2.2.1 hd)
  · exact withX_ok hok (chg_8 hok.2.2.2 hd)
theorem r_deed {σ : ft_St} {A : AA} {d k v : Int32} {Φ : Int32 → ft_St → Prop} (hR : RepR σ A) (hok : AOk A) (h : ∀ σ', RepR σ' (deedF A d k v).2 → Φ (deedF A d k v).1 σ') : w_X10_deed d k v σ Φ := by
  unfold w_X10_deed
  unfold deedF at h
  have hokM := hok.1.1
  have bad : ¬ (isN d 7 ∧ isN k 1 ∧ isN v 1) → w_X10_bad σ (fun (r3 : Int32) (s4 : ft_St) => Φ r3 s4) := fun y => by
    rw [cif_f y] at h
    exact r_badA hR h
  refine r_isDeed (fun y1 J2 hJ2 => ⟨fun z => absurd z (by decide), fun _ => ?_⟩) (fun y1 J2 hJ2 => ⟨fun _ => hJ2 (bad (fun w => y1 w.1)), fun z => absurd rfl z⟩)
  refine r_in (m := 1) (by decide) (fun y2 => ⟨fun z => absurd z (by decide), fun _ => ?_⟩) (fun y2 => ⟨fun _ => hJ2 (bad (fun w => y2 w.2.1)), fun z => absurd rfl z⟩)
  refine r_in (m := 1) (by decide) (fun y3 => ⟨fun _ => ?_, fun z => absurd z (by decide)⟩) (fun y3 => ⟨fun z => absurd rfl z, fun _ => hJ2 (bad (fun w => y3 w.2.2))⟩)
  rw [cif_t ⟨y1, y2, y3⟩] at h
  refine r_leavesA hR hok (fun s7 hR7 k1 k2 => ?_)
  have hM7 : RepRM s7 (zM A.1) := hR7.1.1
  rw [hM7.2.1, hM7.2.2.1]
  obtain ⟨M, eM⟩ : ∃ M, M = zM A.1 := ⟨_, rfl⟩
  rw [← eM] at hM7 hokM h ⊢
  have fin : ∀ x8 x10 x13 s12 s15, x8 = (if k = 0 then mS M else mX M) → s12 = ft_sF s7 0 5 x10 → s15 = ft_sF s12 0 6 x13 → x10 = mS (deedM M d k v) → x13 = mX (deedM M d k v) → mN (deedM M d k v) = mN M ∧ mF (deedM M d k v) = mF M ∧ mD (deedM M d k v) = mD M ∧ mT (deedM M d k v) = mT M → w_X10_begins s15 (fun (s16 : ft_St) => Φ ((x8 >>> (d &&& 31)) &&& 1) s16) := by
    intro x8 x10 x13 s12 s15 e8 g12 g15 e10 e13 ⟨q1, q2, q3, q4⟩
    have hM15 : RepRM s15 (deedM M d k v) := by
      rw [g15, g12]
      refine ⟨?_, ?_, ?_, fun w hw => ?_⟩
      · rw [sF_1, if_neg (by decide), sF_1, if_neg (by decide), q1]; exact hM7.1
      · rw [sF_1, if_neg (by decide), sF_s]; exact e10
      · rw [sF_s]; exact e13
      · rw [q1] at hw
        rw [q2, q3, q4]; exact hM7.2.2.2 w hw
    have hO : Oth s7 s15 := by
      rw [g15, g12]; exact (Oth.f _ (by decide)).trans (Oth.f _ (by decide))
    rw [e8]
    exact r_beginsA hM15 (deedM_ok hokM y1) (hR7.2.oth hO) (fun s16 hR16 _ => h s16 hR16)
  have k01 : k = 0 ∨ k = 1 := by
    obtain ⟨n, hn, rfl⟩ := y2
    have : n = 0 ∨ n = 1 := by omega
    rcases this with e | e <;> subst e
    · exact Or.inl rfl
    · exact Or.inr rfl
  intro J9 hJ9
  rcases k01 with e | e
  · subst e
    have dm : deedM M d 0 v = withS M (chg (mS M) d v) := if_pos rfl
    refine ⟨fun z => absurd rfl z, fun _ => hJ9 _ (fun J11 hJ11 => ⟨fun z => absurd rfl z, fun _ => r_changed (hJ11 _ (fun s12 g12 J14 hJ14 => ⟨fun _ => hJ14 _ (fun s15 g15 => fin _ _ _ s12 s15 (if_pos rfl).symm g12 g15 (by rw [dm]; rfl) (by rw [dm, g12, sF_1, if_neg (by decide)]; exact hM7.2.2.1) (by rw [dm]; exact ⟨rfl, rfl, rfl, rfl⟩)), fun z => absurd z (by decide)⟩))⟩)⟩
  · subst e
    have n10 : ¬ (1 : Int32) = 0 := by decide
    have dm : deedM M d 1 v = withX M (chg (mX M) d v) := if_neg n10
    refine ⟨fun _ => hJ9 _ (fun J11 hJ11 => ⟨fun _ => hJ11 _ (fun s12 g12 J14 hJ14 => ⟨fun z => absurd rfl z, fun _ => ?_⟩), fun z => absurd z n10⟩), fun z => absurd z n10⟩
    have e6 : s12.1 0 6 = mX M := by rw [g12, sF_1, if_neg (by decide)]; exact hM7.2.2.1
    rw [e6]
    exact r_changed (hJ14 _ (fun s15 g15 => fin _ _ _ s12 s15 (if_neg n10).symm g12 g15 (by rw [dm]; rfl) (by rw [dm]; rfl) (by rw [dm]; exact ⟨rfl, rfl, rfl, rfl⟩)))
theorem drawM_s (n x : Nat) (M : MM) : drawM (n + 1) x M = drawM n (lcg x) (if hasB M (lcg x / 65536 % 6) (lcg x / 1024 % 8) (lcg x / 32768 % 6) = true then M else addW M (lcg x / 65536 % 6) (lcg x / 1024 % 8) (lcg x / 32768 % 6)) := rfl
theorem r_draw {σ : ft_St} {A : AA} {s n : Int32} {Φ : Int32 → ft_St → Prop} (hR : RepR σ A) (hok : AOk A) (h : ∀ σ', RepR σ' (drawF A s n).2 → Φ (drawF A s n).1 σ') : w_X10_draw s n σ Φ := by
  unfold w_X10_draw
  unfold drawF at h
  have hokM := hok.1.1
  have bad : ¬ (isN s 999999 ∧ is24 n) → w_X10_bad σ (fun (r3 : Int32) (s4 : ft_St) => Φ r3 s4) := fun y => by
    rw [cif_f y] at h
    exact r_badA hR h
  refine r_in (m := 999999) (by decide) (fun y1 J2 hJ2 => ⟨fun z => absurd z (by decide), fun _ => ?_⟩) (fun y1 J2 hJ2 => ⟨fun _ => hJ2 (bad (fun w => y1 w.1)), fun z => absurd rfl z⟩)
  have hin : ∀ Ψ : Int32 → Prop, (is24 n → Ψ 1) → (¬ is24 n → Ψ 0) → w_X10_in n 1 24 Ψ := by
    intro Ψ g1 g0
    unfold w_X10_in
    have e1 : (1 : Int32).toInt = 1 := by decide
    have e24 : (24 : Int32).toInt = 24 := by decide
    have iff : is24 n ↔ ¬ n < 1 ∧ ¬ 24 < n := by
      rw [Int32.lt_iff_toInt_lt, Int32.lt_iff_toInt_lt, e1, e24]
      constructor
      · rintro ⟨k, h1, h2, rfl⟩
        have en := nI_toInt (show k < 2 ^ 31 by omega)
        rw [en]; omega
      · rintro ⟨h1, h2⟩
        refine ⟨n.toInt.toNat, by omega, by omega, ?_⟩
        apply Int32.toInt_inj.mp
        rw [nI_toInt (by omega)]
        omega
    rw [iff] at g1 g0
    intro J hJ
    exact ⟨fun y => hJ (g0 (fun z => z.1 y)), fun y => ⟨fun y2 => hJ (g0 (fun z => z.2 y2)), fun y2 => g1 ⟨y, y2⟩⟩⟩
  refine hin _ (fun y2 => ⟨fun _ => ?_, fun z => absurd z (by decide)⟩) (fun y2 => ⟨fun z => absurd rfl z, fun _ => hJ2 (bad (fun w => y2 w.2))⟩)
  rw [cif_t ⟨y1, y2⟩] at h
  obtain ⟨k, hk1, hk2, rfl⟩ := y2
  obtain ⟨x, hx, rfl⟩ := y1
  have hclk : cl (nI k) = k := nI_clamp (by omega)
  have hclx : cl (nI x) = x := nI_clamp (by omega)
  rw [hclk, hclx] at h
  refine r_leavesA hR hok (fun s6 hR6 k1 k2 s7 g7 => ?_)
  have hM6 : RepRM s6 (zM A.1) := hR6.1.1
  have hM7 : RepRM s7 (zeroM (zM A.1)) := by
    rw [g7]
    refine ⟨sF_s _ _ _ _, ?_, ?_, fun w hw => absurd hw (Nat.not_lt_zero _)⟩
    · rw [sF_1, if_neg (by decide)]; exact hM6.2.1
    · rw [sF_1, if_neg (by decide)]; exact hM6.2.2.1
  have hO7 : Oth s6 s7 := by rw [g7]; exact Oth.f _ (by decide)
  have hok7 : MOk (zeroM (zM A.1)) := ⟨Nat.zero_le _, fun w hw => absurd hw (Nat.not_lt_zero _), hokM.2.2.1, hokM.2.2.2⟩
  obtain ⟨R, eR⟩ : ∃ R, R = drawM k x (zeroM (zM A.1)) := ⟨_, rfl⟩
  rw [← eR] at h
  have ex : Int32.toInt64 (nI x) = lN x := nI_l (by omega)
  rw [ex]
  refine LP3.rule (fun y8 x9 s10 => ∃ (j u : Nat) (D : MM), y8 = lN u ∧ u < 2147483648 ∧ x9 = nI j ∧ j ≤ k ∧ RepRM s10 D ∧ MOk D ∧ mN D ≤ j ∧ Oth s6 s10 ∧ drawM (k - j) u D = R) (fun _ x9 _ => 24 - x9.toNatClampNeg) ?_ ⟨0, x, zeroM (zM A.1), rfl, by omega, rfl, Nat.zero_le _, hM7, hok7, Nat.le_refl _, hO7, eR.symm⟩
  rintro X11 y8 x9 s10 ⟨j, u, D, rfl, hu, rfl, hj, hMD, hokD, hDj, hO, hdr⟩ ih
  have hcj : (nI j).toNatClampNeg = j := nI_clamp (by omega)
  have hle : nI k ≤ nI j ↔ k ≤ j := nI_leI (by omega) (by omega)
  rw [hle]
  refine ⟨fun z => ?_, fun z => ?_⟩
  · have e : j = k := by omega
    subst e
    rw [Nat.sub_self] at hdr
    have hdr : D = R := hdr
    rw [hdr] at hMD hokD
    refine r_beginsA hMD hokD (hR6.2.oth hO) (fun s12 hR12 e1 => ?_)
    rw [e1, hMD.1]
    exact h s12 hR12
  · intro y13 e13
    rw [lcg_J hu] at e13
    have hl := lcg_lt u
    obtain ⟨t, ht⟩ : ∃ t, t = lcg u := ⟨_, rfl⟩
    rw [← ht] at e13 hl
    intro x14 e14 x15 e15 x16 e16
    rw [e13, lcg_d (a := 65536) (b := 6) (la := 65536) (lb := 6) hl rfl rfl (by decide) (by decide) (by decide) (by decide)] at e14
    rw [e13, lcg_d (a := 1024) (b := 8) (la := 1024) (lb := 8) hl rfl rfl (by decide) (by decide) (by decide) (by decide)] at e15
    rw [e13, lcg_d (a := 32768) (b := 6) (la := 32768) (lb := 6) hl rfl rfl (by decide) (by decide) (by decide) (by decide)] at e16
    rw [e14, e15, e16, e13]
    have m1 := Nat.mod_lt (t / 65536) (show 6 > 0 by decide)
    have m2 := Nat.mod_lt (t / 1024) (show 8 > 0 by decide)
    have m3 := Nat.mod_lt (t / 32768) (show 6 > 0 by decide)
    have hmu : 24 - (nI j + 1).toNatClampNeg < 24 - (nI j).toNatClampNeg := by
      rw [nI_1 j, nI_clamp (by omega), hcj]; omega
    rw [show k - j = (k - (j + 1)) + 1 by omega, drawM_s, ← ht] at hdr
    refine r_isThere hMD hokD (by omega) (by omega) (by omega) ?_
    cases hb : hasB D (t / 65536 % 6) (t / 1024 % 8) (t / 32768 % 6)
    · rw [if_neg (by rw [hb]; decide)] at hdr
      refine ⟨fun w => absurd rfl w, fun _ => ?_⟩
      refine r_comesWay hMD (by omega) (fun s18 hM18 hO18 => ?_)
      exact ih _ _ _ ⟨j + 1, t, _, rfl, hl, nI_1 j, by omega, hM18, addW_ok hokD (by omega) (by omega) (by omega) (by omega), Nat.succ_le_succ hDj, hO.trans hO18, hdr⟩ hmu
    · rw [if_pos hb] at hdr
      refine ⟨fun _ => ?_, fun w => absurd w (by decide)⟩
      exact ih _ _ _ ⟨j + 1, t, D, rfl, hl, nI_1 j, by omega, hMD, hokD, by omega, hO, hdr⟩ hmu
