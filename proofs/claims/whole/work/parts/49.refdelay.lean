theorem clampm {f : Nat → Int32} {L : Nat → Nat} (hf : ∀ a, a < 100 → f a = nI (L a)) (hL : ∀ a, L a ≤ 100) : sm (fun a => (f a).toNatClampNeg) 100 = sm L 100 := sm_congr (fun a ha => by
  show (f a).toNatClampNeg = L a
  rw [hf a ha, nI_clamp (by have := hL a; omega)])
theorem r_delay {σ : ft_St} {M : MM} {Φ : Int32 → ft_St → Prop} (hM : RepRM σ M) (hok : MOk M) (hr : ¬ RING M (mS M)) (h : ∀ r s, IsDly M (mS M) r → KeepR σ s → Φ r s) : w_X10_delay σ Φ := by
  unfold w_X10_delay
  obtain ⟨sn, hsn⟩ : ∃ sn, sn = mS M := ⟨_, rfl⟩
  refine r_findsLeads hM hok (fun s1 hL hK1 => ?_)
  rw [← hsn] at hr hL h
  obtain ⟨-, -, hED, hEM⟩ := hL
  have hKs : ∀ f, KeepR σ (ft_sA s1 14 f) := fun f => hK1.trans (KeepR.sA s1 f (by decide))
  refine LP2.rule (fun x2 s3 => ∃ (i : Nat) (f : Nat → Int32), x2 = nI i ∧ i ≤ 100 ∧ s3 = ft_sA s1 14 f ∧ ∀ a, a < i → f a = 0) (fun x2 _ => 100 - x2.toNatClampNeg) ?_ ⟨0, s1.2.1 14, rfl, by decide, (sA_self s1 14).symm, fun a ha => absurd ha (Nat.not_lt_zero _)⟩
  rintro X4 x2 s3 ⟨i, f, rfl, hi, rfl, hf⟩ ih
  have hc : (nI i).toNatClampNeg = i := nI_clamp (by omega)
  have hle : (100 : Int32) ≤ nI i ↔ 100 ≤ i := nI_leI (a := 100) (by decide) (by omega)
  refine ⟨fun z => ?_, fun z => ?_⟩
  rotate_left
  · have hlt : i < 100 := Nat.lt_of_not_le (fun y => z (hle.mpr y))
    refine ⟨vp_in_nI hlt (by decide), fun s32 h32 => ?_⟩
    rw [sA_s, sA_sA, hc] at h32
    refine ih _ _ ⟨i + 1, _, nI_1 i, hlt, h32, fun a ha => ?_⟩ (by rw [nI_1 i, nI_clamp (by omega), hc]; omega)
    by_cases e : a = i
    · rw [e, upd_s]
    · rw [upd_n e]; exact hf a (by omega)
  have ei : i = 100 := by have := hle.mp z; omega
  subst ei
  refine LP3.rule (fun x5 x6 s7 => ∃ (g : Nat → Int32) (L : Nat → Nat) (m : Nat), x5 = nI m ∧ s7 = ft_sA s1 14 g ∧ LOk M sn g L m ∧ ft_bz x6 ∧ (x6 = 0 → LFx M sn L)) (fun _ x6 s7 => if x6 = 0 then 0 else 1 + (10000 - sm (fun a => (s7.2.1 14 a).toNatClampNeg) 100)) ?_ ⟨f, fun _ => 0, 0, rfl, rfl, ⟨fun a ha => hf a ha, fun _ => Or.inl rfl, fun _ => Nat.le_refl 0, Or.inl rfl⟩, Or.inr rfl, fun e => absurd e (by decide)⟩
  rintro X8 x5 x6 s7 ⟨g, L, m, rfl, rfl, hO, hbz, hfx⟩ ih8
  refine ⟨fun y => h _ _ (hO.dly hok hr (hfx y)) (hKs g), fun y => ?_⟩
  have bnd : ∀ {g : Nat → Int32} {L : Nat → Nat} {m : Nat}, LOk M sn g L m → ∀ a, L a ≤ 99 := fun {g L m} q a => by have := q.lt hok hr; have := q.2.2.1 a; omega
  have smb : ∀ {g : Nat → Int32} {L : Nat → Nat} {m : Nat}, LOk M sn g L m → sm (fun a => ((ft_sA s1 14 g).2.1 14 a).toNatClampNeg) 100 = sm L 100 ∧ sm L 100 ≤ 9900 := fun {g L m} q => by
    refine ⟨?_, sm_le (bnd q) 100⟩
    rw [sA_s]; exact clampm q.1 (fun a => by have := bnd q a; omega)
  -- one turn
  refine LP4.rule (fun x9 x10 x11 s12 => ∃ (i : Nat) (k : Nat → Int32) (K : Nat → Nat) (n : Nat), x11 = nI i ∧ i ≤ 100 ∧ x9 = nI n ∧ s12 = ft_sA s1 14 k ∧ LOk M sn k K n ∧ ft_bz x10 ∧ (x10 = 0 → K = L ∧ ∀ a c, a < i → CD M sn a → (M1 M sn a c → L c + 1 ≤ L a) ∧ (A0 M sn a c → L c ≤ L a)) ∧ (¬ x10 = 0 → sm L 100 < sm K 100)) (fun _ _ x11 _ => 100 - x11.toNatClampNeg) ?_ ⟨0, g, L, m, rfl, by decide, rfl, rfl, hO, Or.inl rfl, fun _ => ⟨rfl, fun a c ha => absurd ha (Nat.not_lt_zero _)⟩, fun e => absurd rfl e⟩
  rintro X13 x9 x10 x11 s12 ⟨i, k, K, n, rfl, hi1, rfl, rfl, hO1, hbz1, hz1, hn1⟩ ih13
  have hci : (nI i).toNatClampNeg = i := nI_clamp (by omega)
  have hlei : (100 : Int32) ≤ nI i ↔ 100 ≤ i := nI_leI (a := 100) (by decide) (by omega)
  refine ⟨fun y1 => ?_, fun y1 => ?_⟩
  · have e : i = 100 := by have := hlei.mp y1; omega
    subst e
    refine ih8 _ _ _ ⟨k, K, n, rfl, rfl, hO1, hbz1, fun w => ?_⟩ ?_
    · obtain ⟨e, w2⟩ := hz1 w
      rw [e]
      exact fun a c ha => w2 a c ha.1 ha
    · rw [if_neg y]
      by_cases w : x10 = 0
      · rw [if_pos w]; omega
      · rw [if_neg w, (smb hO).1, (smb hO1).1]
        have := (smb hO1).2
        have := hn1 w
        omega
  have hlti : i < 100 := Nat.lt_of_not_le (fun y2 => y1 (hlei.mpr y2))
  have hini : vp_in (nI i) 100 := vp_in_nI hlti (by decide)
  have hmui : 100 - (nI i + 1).toNatClampNeg < 100 - (nI i).toNatClampNeg := by
    rw [nI_1 i, nI_clamp (by omega), hci]; omega
  refine LP4.rule (fun x14 x15 x16 s17 => ∃ (c : Nat) (k : Nat → Int32) (K : Nat → Nat) (n : Nat), x16 = nI c ∧ c ≤ 100 ∧ x14 = nI n ∧ s17 = ft_sA s1 14 k ∧ LOk M sn k K n ∧ ft_bz x15 ∧ (x15 = 0 → K = L ∧ (∀ a c, a < i → CD M sn a → (M1 M sn a c → L c + 1 ≤ L a) ∧ (A0 M sn a c → L c ≤ L a)) ∧ (∀ c', c' < c → CD M sn i → (M1 M sn i c' → L c' + 1 ≤ L i) ∧ (A0 M sn i c' → L c' ≤ L i))) ∧ (¬ x15 = 0 → sm L 100 < sm K 100)) (fun _ _ x16 _ => 100 - x16.toNatClampNeg) ?_ ⟨0, k, K, n, rfl, by decide, rfl, rfl, hO1, hbz1, fun w => ⟨(hz1 w).1, (hz1 w).2, fun c' hc' => absurd hc' (Nat.not_lt_zero _)⟩, hn1⟩
  rintro X18 x14 x15 x16 s17 ⟨c, k, K, n, rfl, hc1, rfl, rfl, hO2, hbz2, hz2, hn2⟩ ih18
  clear hO1 hbz1 hz1 hn1
  have hcc : (nI c).toNatClampNeg = c := nI_clamp (by omega)
  have hlec : (100 : Int32) ≤ nI c ↔ 100 ≤ c := nI_leI (a := 100) (by decide) (by omega)
  refine ⟨fun y2 => ?_, fun y2 => ?_⟩
  · have e : c = 100 := by have := hlec.mp y2; omega
    subst e
    refine ih13 _ _ _ _ ⟨i + 1, k, K, n, nI_1 i, hlti, rfl, rfl, hO2, hbz2, fun w => ⟨(hz2 w).1, fun a c ha ca => ?_⟩, hn2⟩ hmui
    by_cases e : a = i
    · subst e
      have g3 := (hz2 w).2.2
      exact ⟨fun q => (g3 c (q.lt hok).2 ca).1 q, fun q => (g3 c (q.lt hok ca.1) ca).2 q⟩
    · exact (hz2 w).2.1 a c (by omega) ca
  have hltc : c < 100 := Nat.lt_of_not_le (fun y3 => y2 (hlec.mpr y3))
  have hinc : vp_in (nI c) 100 := vp_in_nI hltc (by decide)
  have hmuc : 100 - (nI c + 1).toNatClampNeg < 100 - (nI c).toNatClampNeg := by
    rw [nI_1 c, nI_clamp (by omega), hcc]; omega
  rw [hci, hcc, sA_s, sA_3]
  refine ⟨hini, hini, r_has hltc ⟨fun w => ?_, fun w => ?_⟩⟩
  · have hno : ¬ (CD M sn i ∧ DE M sn i c) := by
      rw [← hED i c hlti hltc]
      intro a
      have a : HB _ _ c = true := a
      rw [(b01_z _).mp w] at a; cases a
    refine ih18 _ _ _ _ ⟨c + 1, k, K, n, nI_1 c, hltc, rfl, rfl, hO2, hbz2, fun w2 => ⟨(hz2 w2).1, (hz2 w2).2.1, fun c' hc' ca => ?_⟩, hn2⟩ hmuc
    by_cases e : c' = c
    · subst e
      exact ⟨fun q => absurd ⟨ca, Or.inl q⟩ hno, fun q => absurd ⟨ca, Or.inr q⟩ hno⟩
    · exact (hz2 w2).2.2 c' (by omega) ca
  · obtain ⟨ci, di⟩ : CD M sn i ∧ DE M sn i c := (hED i c hlti hltc).mp (b01_t w)
    refine ⟨hinc, hini, hini, r_has hltc ?_⟩
    have main : ∀ e : Nat, ((M1 M sn i c ∧ e = 1) ∨ (¬ M1 M sn i c ∧ e = 0)) → ∀ (x23 : Int32), x23 = k c + nI e → JN1 (fun (J25 : Int32 → Prop) => JN0 (fun (J31 : Prop) => (¬ x15 = 0 → J31) ∧ (x15 = 0 → vp_in (nI i) 100 ∧ (x23 ≤ k i → J25 0) ∧ (¬ x23 ≤ k i → J31))) (J25 1)) (fun (x24 : Int32) => vp_in (nI i) 100 ∧ JN1 (fun (J27 : Int32 → Prop) => (x23 ≤ k i → vp_in (nI i) 100 ∧ J27 (k i)) ∧ (¬ x23 ≤ k i → J27 x23)) (fun (x26 : Int32) => vp_in (nI i) 100 ∧ ∀ (s28 : ft_St), s28 = ft_sA (ft_sA s1 14 k) 14 (upd k i x26) → JN1 (fun (J30 : Int32 → Prop) => (x23 ≤ nI n → J30 (nI n)) ∧ (¬ x23 ≤ nI n → J30 x23)) (fun (x29 : Int32) => X18 x29 x24 (nI c + 1) s28))) := by
      intro e he x23 hx23
      obtain ⟨v, hv⟩ : ∃ v, v = K c + e := ⟨_, rfl⟩
      have hKi := bnd hO2 i
      have hKc := bnd hO2 c
      have he1 : e ≤ 1 := by rcases he with q | q <;> omega
      have hv1 : v ≤ 100 := by omega
      have hn := hO2.lt hok hr
      have e23 : x23 = nI v := by rw [hx23, hO2.1 c hltc, hv]; exact nI_add _ _
      have eki : k i = nI (K i) := hO2.1 i hlti
      have hle1 : x23 ≤ k i ↔ v ≤ K i := by rw [e23, eki]; exact nI_leI (by omega) (by omega)
      have hle2 : x23 ≤ nI n ↔ v ≤ n := by rw [e23]; exact nI_leI (by omega) (by omega)
      have hvw : v = 0 ∨ ∃ d, Wk M sn v i d := by rw [hv]; exact hO2.up hok ci di he
      have hst := hO2.step ci hvw
      intro J25 hJ25
      have fin : ∀ x24, ft_bz x24 → (x24 = 0 ↔ x15 = 0 ∧ v ≤ K i) → J25 x24 := by
        intro x24 hb24 h24
        refine hJ25 x24 ⟨hini, fun J27 hJ27 => ?_⟩
        have go : J27 (nI (max (K i) v)) := by
          refine hJ27 _ ⟨hini, fun s28 h28 J30 hJ30 => ?_⟩
          rw [sA_sA] at h28
          have go2 : J30 (nI (max n v)) := by
            refine hJ30 _ (ih18 _ _ _ _ ⟨c + 1, _, _, _, nI_1 c, hltc, rfl, h28, hst, hb24, fun w2 => ?_, fun w2 => ?_⟩ hmuc)
            · obtain ⟨w3, w4⟩ := h24.mp w2
              obtain ⟨q1, q2, q3⟩ := hz2 w3
              have eK : (fun x => if x = i then max (K i) v else K x) = K := by
                funext x
                by_cases ex : x = i
                · rw [if_pos ex, ex]; omega
                · rw [if_neg ex]
              refine ⟨eK.trans q1, q2, fun c' hc' ca => ?_⟩
              by_cases ec : c' = c
              · subst ec
                rw [← q1]
                rcases he with ⟨g1, g2⟩ | ⟨g1, g2⟩
                · exact ⟨fun _ => by omega, fun _ => by omega⟩
                · exact ⟨fun g => absurd g g1, fun _ => by omega⟩
              · exact q3 c' (by omega) ca
            · by_cases w5 : v ≤ K i
              · have w6 : ¬ x15 = 0 := fun w6 => w2 (h24.mpr ⟨w6, w5⟩)
                have eK : (fun x => if x = i then max (K i) v else K x) = K := by
                  funext x
                  by_cases ex : x = i
                  · rw [if_pos ex, ex]; omega
                  · rw [if_neg ex]
                rw [eK]; exact hn2 w6
              · have up := sm_up (L := K) (i := i) (v := max (K i) v) (by omega) (n := 100) hlti
                by_cases w6 : x15 = 0
                · rw [(hz2 w6).1] at up ⊢; exact up
                · exact Nat.lt_trans (hn2 w6) up
          refine ⟨fun q => ?_, fun q => ?_⟩
          · rw [Nat.max_eq_left (hle2.mp q)] at go2; exact go2
          · rw [Nat.max_eq_right (Nat.le_of_lt (Nat.lt_of_not_le (fun q2 => q (hle2.mpr q2))))] at go2; rw [e23]; exact go2
        refine ⟨fun q => ⟨hini, ?_⟩, fun q => ?_⟩
        · rw [Nat.max_eq_left (hle1.mp q)] at go; rw [eki]; exact go
        · rw [Nat.max_eq_right (Nat.le_of_lt (Nat.lt_of_not_le (fun q2 => q (hle1.mpr q2))))] at go; rw [e23]; exact go
      intro J31 hJ31
      refine ⟨fun q => hJ31 (fin 1 (Or.inr rfl) ⟨fun a => absurd a (by decide), fun a => absurd a.1 q⟩), fun q => ⟨hini, fun q2 => fin 0 (Or.inl rfl) ⟨fun _ => ⟨q, hle1.mp q2⟩, fun _ => rfl⟩, fun q2 => hJ31 (fin 1 (Or.inr rfl) ⟨fun a => absurd a (by decide), fun a => absurd (hle1.mpr a.2) q2⟩)⟩⟩
    intro J22 hJ22
    refine ⟨fun w2 => hJ22 0 (main 0 (Or.inr ⟨?_, rfl⟩)), fun w2 => hJ22 1 (main 1 (Or.inl ⟨((hEM i c hlti hltc).mp (b01_t w2)).2, rfl⟩))⟩
    intro m1
    have g : EM s1 i c := (hEM i c hlti hltc).mpr ⟨ci, m1⟩
    have g : HB _ _ c = true := g
    rw [(b01_z _).mp w2] at g; cases g
