theorem r_comesWay' {σ : ft_St} {M : MM} {a d b : Nat} {Φ : ft_St → Prop} (hM : RepRM σ M) (hn : mN M < 24) (h : ∀ σ', RepRM σ' (addW M a d b) → Oth σ σ' → σ'.1 0 23 = σ.1 0 23 → Φ σ') : w_X10_comesWay (nI a) (nI d) (nI b) σ Φ := by
  unfold w_X10_comesWay
  have hin : vp_in (nI (mN M)) 24 := vp_in_nI hn (by decide)
  have hc : (nI (mN M)).toNatClampNeg = mN M := nI_clamp (by omega)
  rw [hM.1, hc]
  refine ⟨hin, fun s2 h2 => ?_⟩
  have e2 : s2.1 = σ.1 := by rw [h2]; rfl
  rw [e2, hM.1, hc]
  refine ⟨hin, fun s3 h3 => ?_⟩
  have e3 : s3.1 = σ.1 := by rw [h3]; exact e2
  rw [e3, hM.1, hc]
  refine ⟨hin, fun s4 h4 s5 h5 => ?_⟩
  have e4 : s4.1 = σ.1 := by rw [h4]; exact e3
  rw [e4, hM.1] at h5
  have ee : s5 = ft_sF (ft_sA (ft_sA (ft_sA σ 2 (upd (σ.2.1 2) (mN M) (nI a))) 3 (upd (σ.2.1 3) (mN M) (nI d))) 4 (upd (σ.2.1 4) (mN M) (nI b))) 0 1 (nI (mN M) + 1) := by
    rw [h5, h4, h3, h2]; rfl
  refine h s5 ⟨?_, ?_, ?_, fun w hw => ?_⟩ ?_ ?_
  · rw [ee, sF_s]; exact nI_add (mN M) 1
  · rw [ee]; exact hM.2.1
  · rw [ee]; exact hM.2.2.1
  · have hw : w < mN M + 1 := hw
    rw [ee]
    show upd (σ.2.1 2) (mN M) (nI a) w = nI (va_up (mF M) (mN M) a w) ∧ upd (σ.2.1 3) (mN M) (nI d) w = nI (va_up (mD M) (mN M) d w) ∧ upd (σ.2.1 4) (mN M) (nI b) w = nI (va_up (mT M) (mN M) b w)
    by_cases e : w = mN M
    · rw [e, upd_s, upd_s, upd_s, up_s, up_s, up_s]; exact ⟨rfl, rfl, rfl⟩
    · rw [upd_n e, upd_n e, upd_n e, up_n e, up_n e, up_n e]; exact hM.2.2.2 w (by omega)
  · rw [ee]; exact ⟨⟨rfl, rfl, rfl⟩, ⟨rfl, rfl⟩, rfl, rfl, rfl⟩
  · rw [ee]; rfl
theorem r_wrong {v : Int32} {s : ft_St} {Φ : Int32 → ft_St → Prop} (h : Φ 0 (ft_sF s 0 24 v)) : w_X10_wrong v s (fun (r : Int32) (s' : ft_St) => ft_bz r ∧ Φ r s') := by
  unfold w_X10_wrong
  rintro s1 rfl
  exact ⟨Or.inl rfl, h⟩
section
variable {n wp a d pos c : Nat} {l : Int32} {D : MM}
theorem qs_fig (h : 48 ≤ c ∧ c ≤ 57) (hn : mN D < 24) : qstep c pos (0, n, wp, a, d, l, D) = .inr (1, n, pos, c - 48, d, l, D) := by
  unfold qstep; dsimp only
  rw [if_pos rfl, if_neg (by omega), if_neg (by omega), if_pos ⟨h, hn⟩]
theorem qs_full (h : 48 ≤ c ∧ c ≤ 57) (hn : ¬ mN D < 24) : qstep c pos (0, n, wp, a, d, l, D) = .inl pos := by
  unfold qstep; dsimp only
  rw [if_pos rfl, if_neg (by omega), if_neg (by omega), if_neg (fun y => hn y.2)]
theorem qs_33 : qstep 33 pos (0, n, wp, a, d, l, D) = .inr (4, n, wp, a, d, 0, D) := by
  unfold qstep; dsimp only
  rw [if_pos rfl, if_pos rfl]
theorem qs_63 : qstep 63 pos (0, n, wp, a, d, l, D) = .inr (5, n, wp, a, d, 0, D) := by
  unfold qstep; dsimp only
  rw [if_pos rfl, if_neg (by decide), if_pos rfl]
theorem qs_no (h1 : ¬ c = 33) (h2 : ¬ c = 63) (h : ¬ (48 ≤ c ∧ c ≤ 57)) : qstep c pos (0, n, wp, a, d, l, D) = .inl pos := by
  unfold qstep; dsimp only
  rw [if_pos rfl, if_neg h1, if_neg h2, if_neg (fun y => h y.1)]
theorem qs_let (h : 97 ≤ c ∧ c ≤ 104) : qstep c pos (1, n, wp, a, d, l, D) = .inr (2, n, wp, a, c - 97, l, D) := by
  unfold qstep; dsimp only
  rw [if_neg (by decide), if_pos rfl, if_pos h]
theorem qs_nlet (h : ¬ (97 ≤ c ∧ c ≤ 104)) : qstep c pos (1, n, wp, a, d, l, D) = .inl pos := by
  unfold qstep; dsimp only
  rw [if_neg (by decide), if_pos rfl, if_neg h]
theorem qs_to (h : 48 ≤ c ∧ c ≤ 57) (hb : hasB D a d (c - 48) = false) : qstep c pos (2, n, wp, a, d, l, D) = .inr (3, n, wp, a, d, l, addW D a d (c - 48)) := by
  unfold qstep; dsimp only
  rw [if_neg (by decide), if_neg (by decide), if_pos rfl, if_pos h, if_neg (by rw [hb]; decide)]
theorem qs_has (h : 48 ≤ c ∧ c ≤ 57) (hb : hasB D a d (c - 48) = true) : qstep c pos (2, n, wp, a, d, l, D) = .inl wp := by
  unfold qstep; dsimp only
  rw [if_neg (by decide), if_neg (by decide), if_pos rfl, if_pos h, if_pos hb]
theorem qs_nto (h : ¬ (48 ≤ c ∧ c ≤ 57)) : qstep c pos (2, n, wp, a, d, l, D) = .inl pos := by
  unfold qstep; dsimp only
  rw [if_neg (by decide), if_neg (by decide), if_pos rfl, if_neg h]
theorem qs_e (h : c = 59) : qstep c pos (3, n, wp, a, d, l, D) = .inr (0, n + 1, wp, a, d, l, D) := by
  unfold qstep; dsimp only
  rw [if_neg (by decide), if_neg (by decide), if_neg (by decide), if_pos rfl, if_pos h]
theorem qs_ne (h : ¬ c = 59) : qstep c pos (3, n, wp, a, d, l, D) = .inl pos := by
  unfold qstep; dsimp only
  rw [if_neg (by decide), if_neg (by decide), if_neg (by decide), if_pos rfl, if_neg h]
theorem qs_l {st : Nat} (hs : 3 < st) (h : 97 ≤ c ∧ c ≤ 104) : qstep c pos (st, n, wp, a, d, l, D) = .inr (st, n, wp, a, d, l ||| (1 <<< (nI (c - 97) &&& 31)), D) := by
  unfold qstep; dsimp only
  rw [if_neg (by omega), if_neg (by omega), if_neg (by omega), if_neg (by omega), if_pos h]
theorem qs_le {st : Nat} (hs : 3 < st) (h : c = 59) : qstep c pos (st, n, wp, a, d, l, D) = .inr (0, n + 1, wp, a, d, l, endD st l D) := by
  unfold qstep; dsimp only
  rw [if_neg (by omega), if_neg (by omega), if_neg (by omega), if_neg (by omega), if_neg (by omega), if_pos h]
theorem qs_ln {st : Nat} (hs : 3 < st) (h1 : ¬ (97 ≤ c ∧ c ≤ 104)) (h : ¬ c = 59) : qstep c pos (st, n, wp, a, d, l, D) = .inl pos := by
  unfold qstep; dsimp only
  rw [if_neg (by omega), if_neg (by omega), if_neg (by omega), if_neg (by omega), if_neg h1, if_neg h]
end
theorem RES_endn {T : Nat → Nat} {tl : Nat} {q : QS} (h : ¬ q.1 = 0) : RES T tl tl q = .inl tl := by
  rw [RES_end, if_neg (fun y => h y.1)]
theorem r_readsWay {σ0 s : ft_St} {M D : MM} {tl pos n wp a d : Nat} {l : Int32} {T : Nat → Nat} {Φ : Int32 → ft_St → Prop} (hT : RepRT σ0 tl T) (hTo : TOk tl T) (hR : Rd σ0 s M D) (e23 : s.1 0 23 = nI pos) (hp : pos < tl) (hn32 : ¬ T pos = 32) (hfig : 48 ≤ T pos ∧ T pos ≤ 57) (hQ : QOk pos (0, n, wp, a, d, l, D)) (h0 : ∀ p s', p ≤ 120 → RES T tl pos (0, n, wp, a, d, l, D) = .inl p → Rf σ0 s' M → s'.1 0 24 = nI p → Φ 0 s') (h1 : ∀ pos' q' s', pos < pos' → pos' ≤ tl → q'.1 = 0 → q'.2.1 = n + 1 → QOk pos' q' → RES T tl pos (0, n, wp, a, d, l, D) = RES T tl pos' q' → Rd σ0 s' M q'.2.2.2.2.2.2 → s'.1 0 23 = nI pos' → Φ 1 s') : w_X10_readsWay s Φ := by
  unfold w_X10_readsWay
  have htl := hTo.1
  have hD : MOk D := hQ.2.2.2.2
  have hD24 := hD.1
  have e24 : s.1 0 1 = 24 ↔ mN D = 24 := by rw [hR.1.1]; exact nI_eq (b := 24) (by omega) (by decide)
  rw [e24]
  have rt : ∀ {s'}, Rf σ0 s' M → RepRT s' tl T := fun {s'} q => hT.oth q.1
  refine ⟨fun y => ?_, fun y => ?_⟩
  rotate_left
  · rw [e23]
    refine r_wrong (h0 pos _ (by omega) (RES_l hp hn32 (qs_full hfig (by omega))) (hR.rf.f _ (by decide)) (sF_s _ _ _ _))
  have hlt24 : mN D < 24 := by omega
  have hcp : (nI pos).toNatClampNeg = pos := nI_clamp (by omega)
  rw [e23, hcp, (rt hR.rf).2 pos hp]
  refine ⟨vp_in_nI (by omega) (by decide), ?_⟩
  rintro _ rfl s2 g2
  rw [show nI (T pos) - 48 = nI (T pos - 48) from nI_sub hfig.1]
  rw [nI_1 pos] at g2
  have q1 := RES_r hp hn32 (qs_fig (pos := pos) (n := n) (wp := wp) (a := a) (d := d) (l := l) hfig hlt24)
  have R2 : Rd σ0 s2 M D := by rw [g2]; exact hR.f _ (Or.inl rfl)
  have f2 : s2.1 0 23 = nI (pos + 1) := by rw [g2, sF_s]
  have ok1 := qstep_ok hQ (qs_fig (pos := pos) (n := n) (wp := wp) (a := a) (d := d) (l := l) hfig hlt24)
  refine r_here (rt R2.rf) hTo hp f2 (fun hb => ?_) (fun p1 hp1 hb hn1 => ?_)
  · refine r_isDeed (fun z => absurd z subm97) (fun _ => ⟨fun z => absurd rfl z, fun _ => ?_⟩)
    rw [sF_s]
    refine r_wrong (h0 tl _ (by omega) (q1.trans ((hb.res (Nat.le_refl _) _).trans (RES_endn (by show ¬ (1 = 0); decide)))) ((R2.rf.f _ (by decide)).f _ (by decide)) (sF_s _ _ _ _))
  have hc1 := hTo.2 p1 hp1
  have q1 := q1.trans (hb.res (Nat.le_of_lt hp1) _)
  have hp01 := hb.1
  refine r_isDeed (fun z => ⟨fun _ => ?_, fun z2 => absurd z2 (by decide)⟩) (fun z => ⟨fun z2 => absurd rfl z2, fun _ => ?_⟩)
  rotate_left
  · rw [sF_s]
    exact r_wrong (h0 p1 _ (by omega) (q1.trans (RES_l hp1 hn1 (qs_nlet (fun w => z ((sub97 hc1).mpr w))))) ((R2.rf.f _ (by decide)).f _ (by decide)) (sF_s _ _ _ _))
  have hl := (sub97 hc1).mp z
  intro s6 g6
  rw [sF_s, nI_1 p1, sF_sF] at g6
  have q2 := q1.trans (RES_r hp1 hn1 (qs_let hl))
  have R6 : Rd σ0 s6 M D := by rw [g6]; exact R2.f _ (Or.inl rfl)
  have f6 : s6.1 0 23 = nI (p1 + 1) := by rw [g6, sF_s]
  have ok1' : QOk p1 (1, n, pos, T pos - 48, d, l, D) := ⟨⟨ok1.1.1, by have := ok1.1.2.1; dsimp only at this ⊢; omega, by dsimp only; omega⟩, ok1.2⟩
  have ok2 := qstep_ok ok1' (qs_let (pos := p1) hl)
  refine r_here (rt R6.rf) hTo hp1 f6 (fun hb2 => ?_) (fun p2 hp2 hb2 hn2 => ?_)
  · refine r_isPlace (fun z => absurd z subm48) (fun _ => ⟨fun z => absurd rfl z, fun _ => ?_⟩)
    rw [sF_s]
    refine r_wrong (h0 tl _ (by omega) (q2.trans ((hb2.res (Nat.le_refl _) _).trans (RES_endn (by show ¬ (2 = 0); decide)))) ((R6.rf.f _ (by decide)).f _ (by decide)) (sF_s _ _ _ _))
  have hc2 := hTo.2 p2 hp2
  have q2 := q2.trans (hb2.res (Nat.le_of_lt hp2) _)
  have hp12 := hb2.1
  refine r_isPlace (fun z2 => ⟨fun _ => ?_, fun z3 => absurd z3 (by decide)⟩) (fun z2 => ⟨fun z3 => absurd rfl z3, fun _ => ?_⟩)
  rotate_left
  · rw [sF_s]
    exact r_wrong (h0 p2 _ (by omega) (q2.trans (RES_l hp2 hn2 (qs_nto (fun w => z2 ((sub48 hc2).mpr w))))) ((R6.rf.f _ (by decide)).f _ (by decide)) (sF_s _ _ _ _))
  have hf2 := (sub48 hc2).mp z2
  intro s10 g10
  rw [sF_s, nI_1 p2, sF_sF] at g10
  have R10 : Rd σ0 s10 M D := by rw [g10]; exact R6.f _ (Or.inl rfl)
  have f10 : s10.1 0 23 = nI (p2 + 1) := by rw [g10, sF_s]
  rw [show nI (T p1) - 97 = nI (T p1 - 97) from nI_sub hl.1, show nI (T p2) - 48 = nI (T p2 - 48) from nI_sub hf2.1]
  refine r_isThere R10.1 hD (by omega) (by omega) (by omega) ?_
  cases hb3 : hasB D (T pos - 48) (T p1 - 97) (T p2 - 48)
  rotate_left
  · refine ⟨fun z3 => absurd z3 (by decide), fun _ => ?_⟩
    exact r_wrong (h0 pos _ (by omega) (q2.trans (RES_l hp2 hn2 (qs_has hf2 hb3))) (R10.rf.f _ (by decide)) (sF_s _ _ _ _))
  refine ⟨fun _ => ?_, fun z3 => absurd rfl z3⟩
  refine r_comesWay' R10.1 hlt24 (fun s12 hM12 hO12 f12 => ?_)
  have q3 := q2.trans (RES_r hp2 hn2 (qs_to hf2 hb3))
  have ok2' : QOk p2 (2, n, pos, T pos - 48, T p1 - 97, l, D) := ⟨⟨ok2.1.1, by have := ok2.1.2.1; dsimp only at this ⊢; omega, by dsimp only; omega⟩, ok2.2⟩
  have ok3 := qstep_ok ok2' (qs_to (pos := p2) hf2 hb3)
  have R12 : Rd σ0 s12 M (addW D (T pos - 48) (T p1 - 97) (T p2 - 48)) := ⟨hM12, R10.2.1.trans hO12, R10.2.2.add _ _ _⟩
  rw [f10] at f12
  refine r_ends (rt R12.rf) hTo hp2 f12 (fun p3 hp3 hb4 h59 => ⟨Or.inr rfl, ?_⟩) (fun p3 hp3 hb4 hor => ⟨Or.inl rfl, ?_⟩)
  · have hp23 := hb4.1
    have q4 := q3.trans ((hb4.res (Nat.le_of_lt hp3) _).trans (RES_r hp3 (by omega) (qs_e h59)))
    have ok3' : QOk p3 (3, n, pos, T pos - 48, T p1 - 97, l, addW D (T pos - 48) (T p1 - 97) (T p2 - 48)) := ⟨⟨ok3.1.1, by have := ok3.1.2.1; dsimp only at this ⊢; omega, by dsimp only; omega⟩, ok3.2⟩
    exact h1 (p3 + 1) _ _ (by omega) hp3 rfl rfl (qstep_ok ok3' (qs_e (pos := p3) h59)) q4 (R12.f _ (Or.inl rfl)) (sF_s _ _ _ _)
  · refine h0 p3 _ (by omega) (q3.trans ((hb4.res hp3 _).trans ?_)) ((R12.rf.f _ (by decide)).f _ (by decide)) (sF_s _ _ _ _)
    rcases hor with e | ⟨g1, g2, g3⟩
    · rw [e]; exact RES_endn (by show ¬ (3 = 0); decide)
    · exact RES_l g1 g2 (qs_ne g3)
