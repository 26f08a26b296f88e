theorem r_readsDeeds {σ0 s : ft_St} {M D : MM} {tl pos n wp a d : Nat} {l : Int32} {T : Nat → Nat} {Φ : Int32 → ft_St → Prop} (hT : RepRT σ0 tl T) (hTo : TOk tl T) (hR : Rd σ0 s M D) (e23 : s.1 0 23 = nI pos) (hp : pos < tl) (hc : T pos = 33 ∨ T pos = 63) (hQ : QOk pos (0, n, wp, a, d, l, D)) (h0 : ∀ p s', p ≤ 120 → RES T tl pos (0, n, wp, a, d, l, D) = .inl p → Rf σ0 s' M → s'.1 0 24 = nI p → Φ 0 s') (h1 : ∀ pos' q' s', pos < pos' → pos' ≤ tl → q'.1 = 0 → q'.2.1 = n + 1 → QOk pos' q' → RES T tl pos (0, n, wp, a, d, l, D) = RES T tl pos' q' → Rd σ0 s' M q'.2.2.2.2.2.2 → s'.1 0 23 = nI pos' → Φ 1 s') : w_X10_readsDeeds (nI (T pos)) s Φ := by
  unfold w_X10_readsDeeds
  have htl := hTo.1
  have hD : MOk D := hQ.2.2.2.2
  have rt : ∀ {s'}, Rf σ0 s' M → RepRT s' tl T := fun {s'} q => hT.oth q.1
  intro s1 g1
  rw [e23, nI_1 pos] at g1
  obtain ⟨st, hst, hstep⟩ : ∃ st, (st = 4 ∧ T pos = 33 ∨ st = 5 ∧ T pos = 63) ∧ qstep (T pos) pos (0, n, wp, a, d, l, D) = .inr (st, n, wp, a, d, 0, D) := by
    rcases hc with e | e
    · exact ⟨4, Or.inl ⟨rfl, e⟩, by rw [e]; exact qs_33⟩
    · exact ⟨5, Or.inr ⟨rfl, e⟩, by rw [e]; exact qs_63⟩
  have hst3 : 3 < st := by omega
  have n0 : ¬ st = 0 := by omega
  have ok1 := qstep_ok hQ hstep
  have q1 := RES_r hp (by omega) hstep
  have R1' : Rd σ0 s1 M D := by rw [g1]; exact hR.f _ (Or.inl rfl)
  refine LP2.rule (fun x2 s3 => ∃ p, p ≤ tl ∧ pos < p ∧ (∀ i, bt x2 i = true → i < 8) ∧ Rd σ0 s3 M D ∧ s3.1 0 23 = nI p ∧ RES T tl pos (0, n, wp, a, d, l, D) = RES T tl p (st, n, wp, a, d, x2, D)) (fun _ s3 => 120 - (s3.1 0 23).toNatClampNeg) ?_ ⟨pos + 1, hp, by omega, b0_8, R1', by rw [g1, sF_s], q1⟩
  rintro X4 x2 s3 ⟨p, hp1, hpp, hx8, R3, f3, qr⟩ ih
  have okp : ∀ p', pos < p' → QOk p' (st, n, wp, a, d, x2, D) := fun p' hp' => ⟨⟨ok1.1.1, by have := hQ.1.2.1; dsimp only at this ⊢; omega, by have := hQ.1.2.2; dsimp only at this ⊢; omega⟩, fun y => absurd y (by dsimp only; omega), fun y => absurd y (by dsimp only; omega), hx8, hD⟩
  -- the end of the list
  have fin : ∀ p1 s6, p1 ≤ tl → pos < p1 → Rd σ0 s6 M D → s6.1 0 23 = nI p1 → RES T tl pos (0, n, wp, a, d, l, D) = RES T tl p1 (st, n, wp, a, d, x2, D) → (p1 = tl ∨ (p1 < tl ∧ ¬ T p1 = 32 ∧ ¬ (97 ≤ T p1 ∧ T p1 ≤ 104))) → JN1 (fun (J9 : Int32 → Prop) => (¬ nI (T pos) = 33 → J9 (s6.1 0 6)) ∧ (nI (T pos) = 33 → J9 x2)) (fun (x8 : Int32) => ∀ (s10 : ft_St), s10 = ft_sF s6 0 6 x8 → JN1 (fun (J12 : Int32 → Prop) => (¬ nI (T pos) = 63 → J12 (s10.1 0 5)) ∧ (nI (T pos) = 63 → J12 (255 &&& (x2 ^^^ (-1))))) (fun (x11 : Int32) => ∀ (s13 : ft_St), s13 = ft_sF s10 0 5 x11 → w_X10_ends s13 (fun (r14 : Int32) (s15 : ft_St) => ft_bz r14 ∧ Φ r14 s15))) := by
    intro p1 s6 hp1 hpp1 R6 f6 qr1 hor
    have c33 : nI (T pos) = 33 ↔ T pos = 33 := nI_eq (b := 33) (by omega) (by decide)
    have c63 : nI (T pos) = 63 ↔ T pos = 63 := nI_eq (b := 63) (by omega) (by decide)
    rw [c33, c63]
    have en : ∀ s13, Rd σ0 s13 M (endD st x2 D) → s13.1 0 23 = nI p1 → w_X10_ends s13 (fun (r14 : Int32) (s15 : ft_St) => ft_bz r14 ∧ Φ r14 s15) := by
      intro s13 R13 f13
      refine r_ends (rt R13.rf) hTo hp1 f13 (fun p3 hp3 hb h59 => ⟨Or.inr rfl, ?_⟩) (fun p3 hp3 hb hor3 => ⟨Or.inl rfl, ?_⟩)
      · have hb1 := hb.1
        have e : p3 = p1 := by
          rcases hor with w | ⟨w1, w2, w3⟩
          · omega
          · exact hb.stay w2
        subst e
        refine h1 (p3 + 1) _ _ (by omega) hp3 rfl rfl (qstep_ok (okp p3 hpp1) (qs_le (pos := p3) hst3 h59)) (qr1.trans (RES_r hp3 (by omega) (qs_le hst3 h59))) (R13.f _ (Or.inl rfl)) (sF_s _ _ _ _)
      · have hb1 := hb.1
        refine h0 p3 _ (by omega) (qr1.trans ((hb.res hp3 _).trans ?_)) ((R13.rf.f _ (by decide)).f _ (by decide)) (sF_s _ _ _ _)
        rcases hor3 with w | ⟨w1, w2, w3⟩
        · rw [w]; exact RES_endn n0
        · have e : p3 = p1 := by
            rcases hor with v | ⟨v1, v2, v3⟩
            · omega
            · exact hb.stay v2
          subst e
          rcases hor with v | ⟨v1, v2, v3⟩
          · omega
          · exact RES_l w1 w2 (qs_ln hst3 v3 w3)
    have rset : ∀ x8 x11 s10 s13, s10 = ft_sF s6 0 6 x8 → s13 = ft_sF s10 0 5 x11 → ((st = 4 ∧ x8 = x2 ∧ x11 = mS D) ∨ (st = 5 ∧ x8 = mX D ∧ x11 = 255 &&& (x2 ^^^ (-1)))) → Rd σ0 s13 M (endD st x2 D) ∧ s13.1 0 23 = nI p1 := by
      intro x8 x11 s10 s13 g10 g13 hx
      rw [g13, g10]
      refine ⟨⟨?_, (R6.2.1.trans (Oth.f _ (by decide))).trans (Oth.f _ (by decide)), ?_⟩, ?_⟩
      · have m := R6.1
        rcases hx with ⟨w1, w2, w3⟩ | ⟨w1, w2, w3⟩
        · unfold endD
          rw [if_pos w1]
          refine ⟨?_, ?_, ?_, m.2.2.2⟩
          · rw [sF_1, if_neg (by decide), sF_1, if_neg (by decide)]; exact m.1
          · rw [sF_s, w3]; rfl
          · rw [sF_1, if_neg (by decide), sF_s, w2]; rfl
        · unfold endD
          rw [if_neg (by omega)]
          refine ⟨?_, ?_, ?_, m.2.2.2⟩
          · rw [sF_1, if_neg (by decide), sF_1, if_neg (by decide)]; exact m.1
          · rw [sF_s, w3]; rfl
          · rw [sF_1, if_neg (by decide), sF_s, w2]; rfl
      · have := R6.2.2
        unfold endD
        split
        · exact this
        · exact this
      · rw [sF_1, if_neg (by decide), sF_1, if_neg (by decide)]; exact f6
    intro J9 hJ9
    refine ⟨fun w => hJ9 _ (fun s10 g10 J12 hJ12 => ⟨fun w2 => absurd hc (by omega), fun w2 => hJ12 _ (fun s13 g13 => ?_)⟩), fun w => hJ9 _ (fun s10 g10 J12 hJ12 => ⟨fun w2 => hJ12 _ (fun s13 g13 => ?_), fun w2 => absurd w2 (by omega)⟩)⟩
    · obtain ⟨a1, a2⟩ := rset _ _ s10 s13 g10 g13 (Or.inr ⟨by omega, R6.1.2.2.1, rfl⟩)
      exact en s13 a1 a2
    · obtain ⟨a1, a2⟩ := rset _ _ s10 s13 g10 g13 (Or.inl ⟨by omega, rfl, by rw [g10, sF_1, if_neg (by decide)]; exact R6.1.2.1⟩)
      exact en s13 a1 a2
  refine r_here (rt R3.rf) hTo hp1 f3 (fun hb => ?_) (fun p1 hlt1 hb hn1 => ?_)
  · refine r_isDeed (fun z => absurd z subm97) (fun _ => ⟨fun _ => ?_, fun z => absurd rfl z⟩)
    exact fin tl _ (Nat.le_refl _) hp (R3.f _ (Or.inl rfl)) (sF_s _ _ _ _) (qr.trans (hb.res (Nat.le_refl _) _)) (Or.inl rfl)
  · have hc1 := hTo.2 p1 hlt1
    have hb1 := hb.1
    have qr1 := qr.trans (hb.res (Nat.le_of_lt hlt1) _)
    refine r_isDeed (fun z => ⟨fun z2 => absurd z2 (by decide), fun _ => ?_⟩) (fun z => ⟨fun _ => ?_, fun z2 => absurd rfl z2⟩)
    · have hl := (sub97 hc1).mp z
      have hcp : (nI p1).toNatClampNeg = p1 := nI_clamp (by omega)
      have R6 : Rd σ0 (ft_sF s3 0 23 (nI p1)) M D := R3.f _ (Or.inl rfl)
      rw [sF_s, hcp, (rt R6.rf).2 p1 hlt1, show nI (T p1) - 97 = nI (T p1 - 97) from nI_sub hl.1]
      refine ⟨vp_in_nI (by omega) (by decide), ?_⟩
      rintro _ rfl s17 g17
      rw [nI_1 p1, sF_sF] at g17
      refine ih _ _ ⟨p1 + 1, hlt1, by omega, b_set8 hx8 (by omega), by rw [g17]; exact R3.f _ (Or.inl rfl), by rw [g17, sF_s], qr1.trans (RES_r hlt1 hn1 (qs_l hst3 hl))⟩ ?_
      rw [g17, sF_s, f3, nI_clamp (by omega), nI_clamp (by omega)]
      omega
    · exact fin p1 _ (Nat.le_of_lt hlt1) (by omega) (R3.f _ (Or.inl rfl)) (sF_s _ _ _ _) qr1 (Or.inr ⟨hlt1, hn1, fun w => z ((sub97 hc1).mpr w)⟩)
theorem r_readsOrder {σ0 s : ft_St} {M D : MM} {tl pos n wp a d : Nat} {l : Int32} {T : Nat → Nat} {Φ : Int32 → ft_St → Prop} (hT : RepRT σ0 tl T) (hTo : TOk tl T) (hR : Rd σ0 s M D) (e23 : s.1 0 23 = nI pos) (hp : pos < tl) (hn32 : ¬ T pos = 32) (hQ : QOk pos (0, n, wp, a, d, l, D)) (h0 : ∀ p s', p ≤ 120 → RES T tl pos (0, n, wp, a, d, l, D) = .inl p → Rf σ0 s' M → s'.1 0 24 = nI p → Φ 0 s') (h1 : ∀ pos' q' s', pos < pos' → pos' ≤ tl → q'.1 = 0 → q'.2.1 = n + 1 → QOk pos' q' → RES T tl pos (0, n, wp, a, d, l, D) = RES T tl pos' q' → Rd σ0 s' M q'.2.2.2.2.2.2 → s'.1 0 23 = nI pos' → Φ 1 s') : w_X10_readsOrder s Φ := by
  unfold w_X10_readsOrder
  have htl := hTo.1
  have rt : ∀ {s'}, Rf σ0 s' M → RepRT s' tl T := fun {s'} q => hT.oth q.1
  refine r_here (rt hR.rf) hTo (Nat.le_of_lt hp) e23 (fun hb => absurd (hb.2 pos (Nat.le_refl _) hp) hn32) (fun p hlt hb hn => ?_)
  have e : p = pos := hb.stay hn32
  subst e
  have R2 : Rd σ0 (ft_sF s 0 23 (nI p)) M D := hR.f _ (Or.inl rfl)
  have hc := hTo.2 p hlt
  have c33 : nI (T p) = 33 ↔ T p = 33 := nI_eq (b := 33) (by omega) (by decide)
  have c63 : nI (T p) = 63 ↔ T p = 63 := nI_eq (b := 63) (by omega) (by decide)
  rw [c33, c63]
  intro J3 hJ3
  have dd : (T p = 33 ∨ T p = 63) → J3 := fun y => hJ3 (r_readsDeeds hT hTo R2 (sF_s _ _ _ _) hlt y hQ (fun p' s' g1 g2 g3 g4 => ⟨Or.inl rfl, h0 p' s' g1 g2 g3 g4⟩) (fun pos' q' s' g1 g2 g3 g4 g5 g6 g7 g8 => ⟨Or.inr rfl, h1 pos' q' s' g1 g2 g3 g4 g5 g6 g7 g8⟩))
  refine ⟨fun y => dd (Or.inl y), fun y => ⟨fun y2 => ?_, fun y2 => dd (Or.inr y2)⟩⟩
  refine r_isPlace (fun z => ⟨fun z2 => absurd z2 (by decide), fun _ => ?_⟩) (fun z => ⟨fun _ => ?_, fun z2 => absurd rfl z2⟩)
  · exact r_readsWay hT hTo R2 (sF_s _ _ _ _) hlt hn ((sub48 hc).mp z) hQ (fun p' s' g1 g2 g3 g4 => ⟨Or.inl rfl, h0 p' s' g1 g2 g3 g4⟩) (fun pos' q' s' g1 g2 g3 g4 g5 g6 g7 g8 => ⟨Or.inr rfl, h1 pos' q' s' g1 g2 g3 g4 g5 g6 g7 g8⟩)
  · rw [sF_s]
    exact r_wrong (h0 p _ (by omega) (RES_l hlt hn (qs_no y y2 (fun w => z ((sub48 hc).mpr w)))) (R2.rf.f _ (by decide)) (sF_s _ _ _ _))
