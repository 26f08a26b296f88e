/-! both objects go on together -/
def SIM (σC σR : ft_St) : Prop := ∃ A, RepC σC A ∧ RepR σR A ∧ AOk A
theorem cif_ok {P : Prop} {x y : Int32 × AA} (hx : P → AOk x.2) (hy : ¬ P → AOk y.2) : AOk (cif P x y).2 := by
  by_cases h : P
  · rw [cif_t h]; exact hx h
  · rw [cif_f h]; exact hy h
theorem s_way {σC σR : ft_St} {a d b : Int32} (h : SIM σC σR) : w_X9_way a d b σC (fun r σC' => w_X10_way a d b σR (fun r' σR' => r = r' ∧ SIM σC' σR')) := by
  obtain ⟨A, hC, hR, hok⟩ := h
  refine t_way hC hok (fun σC' hC' => r_way hR hok (fun σR' hR' => ⟨rfl, _, hC', hR', ?_⟩))
  unfold wayF
  refine cif_ok (fun y => cif_ok (fun _ => noA_ok hok) (fun _ => cif_ok (fun z => ?_) (fun _ => fullA_ok hok))) (fun _ => badA_ok hok)
  have := (y.1.cl (by decide)).1
  have := (y.2.1.cl (by decide)).1
  have := (y.2.2.cl (by decide)).1
  exact newA_ok hok (addW_ok hok.1.1 z (by omega) (by omega) (by omega))
theorem s_drop {σC σR : ft_St} {w : Int32} (h : SIM σC σR) : w_X9_drop w σC (fun r σC' => w_X10_drop w σR (fun r' σR' => r = r' ∧ SIM σC' σR')) := by
  obtain ⟨A, hC, hR, hok⟩ := h
  refine t_drop hC hok (fun σC' hC' => r_drop hR hok (fun σR' hR' => ⟨rfl, _, hC', hR', ?_⟩))
  unfold dropF
  exact cif_ok (fun y => newA_ok hok (remW_ok hok.1.1 (y.cl hok.1.1).1)) (fun _ => badA_ok hok)
theorem s_deed {σC σR : ft_St} {d k v : Int32} (h : SIM σC σR) : w_X9_deed d k v σC (fun r σC' => w_X10_deed d k v σR (fun r' σR' => r = r' ∧ SIM σC' σR')) := by
  obtain ⟨A, hC, hR, hok⟩ := h
  refine t_deed hC hok (fun σC' hC' => r_deed hR hok (fun σR' hR' => ⟨rfl, _, hC', hR', ?_⟩))
  unfold deedF
  exact cif_ok (fun y => newA_ok hok (deedM_ok hok.1.1 y.1)) (fun _ => badA_ok hok)
theorem drawM_okn : ∀ (n x : Nat) (M : MM), MOk M → mN M + n ≤ 24 → MOk (drawM n x M)
  | 0, _, _, h, _ => h
  | n + 1, x, M, h, hn => by
    rw [drawM_s]
    refine drawM_okn n _ _ (drawM_ok h x (by omega)) ?_
    split
    · omega
    · show mN M + 1 + n ≤ 24
      omega
theorem s_draw {σC σR : ft_St} {s n : Int32} (h : SIM σC σR) : w_X9_draw s n σC (fun r σC' => w_X10_draw s n σR (fun r' σR' => r = r' ∧ SIM σC' σR')) := by
  obtain ⟨A, hC, hR, hok⟩ := h
  refine t_draw hC hok (fun σC' hC' => r_draw hR hok (fun σR' hR' => ⟨rfl, _, hC', hR', ?_⟩))
  unfold drawF
  refine cif_ok (fun y => newA_ok hok ?_) (fun _ => badA_ok hok)
  obtain ⟨k, h1, h2, rfl⟩ := y.2
  have hcl : cl (nI k) = k := nI_clamp (by omega)
  rw [hcl]
  refine drawM_okn _ _ _ ⟨Nat.zero_le _, fun w hw => absurd hw (Nat.not_lt_zero _), hok.1.1.2.2.1, hok.1.1.2.2.2⟩ ?_
  show 0 + k ≤ 24
  omega
theorem s_anew {σC σR : ft_St} (h : SIM σC σR) : w_X9_anew σC (fun r σC' => w_X10_anew σR (fun r' σR' => r = r' ∧ SIM σC' σR')) := by
  obtain ⟨A, hC, hR, hok⟩ := h
  exact t_anew hC hok (fun σC' hC' => r_anew hR hok (fun σR' hR' => ⟨rfl, _, hC', hR', newA_ok hok anewM_ok⟩))
theorem s_of {σC σR : ft_St} {w k : Int32} (h : SIM σC σR) : w_X9_of w k σC (fun r σC' => w_X10_of w k σR (fun r' σR' => r = r' ∧ SIM σC' σR')) := by
  obtain ⟨A, hC, hR, hok⟩ := h
  refine t_of hC hok (fun σC' hC' => r_of hR hok (fun σR' hR' => ⟨rfl, _, hC', hR', ?_⟩))
  unfold ofF
  exact cif_ok (fun _ => hok) (fun _ => badA_ok hok)
theorem seeZ_ok {z : SS} (h : SOk z) {d : Nat} (hd : d < 8) {S : Int32} (hS : ∀ i, bt S i = true → i < 20) : SOk (seeZ z d S) := by
  refine ⟨h.1, ?_, hS, fun i hi => ?_⟩
  · show (if zC z < 8 then zC z + 1 else 8) ≤ 8
    split <;> omega
  · have hi : i < (if zC z < 8 then zC z + 1 else 8) := hi
    have h8 := h.2.1
    show ∃ e, e < 8 ∧ (if i = 0 then nI d else zG z (i - 1)) = nI e
    by_cases e : i = 0
    · rw [if_pos e]; exact ⟨d, hd, rfl⟩
    · rw [if_neg e]; exact h.2.2.2 (i - 1) (by split at hi <;> omega)
theorem s_sees {σC σR : ft_St} {a : Int32} (h : SIM σC σR) : w_X9_sees a σC (fun r σC' => w_X10_sees a σR (fun r' σR' => r = r' ∧ SIM σC' σR')) := by
  obtain ⟨A, hC, hR, hok⟩ := h
  refine t_sees hC hok (fun σC' hC' => r_sees hR hok (fun σR' hR' => ⟨rfl, _, hC', hR', ?_⟩))
  unfold seesF
  refine cif_ok (fun y => cif_ok (fun _ => noA_ok hok) (fun _ => kept_ok hok (seeZ_ok hok.1 (by have := (y.cl (by decide)).1; omega) (fun i hi => ?_)))) (fun _ => badA_ok hok)
  unfold AFC at hi
  split at hi
  · exact (bS_bt _ |>.mp hi).1
  · rw [b_0] at hi; cases hi
theorem s_restarts {σC σR : ft_St} (h : SIM σC σR) : w_X9_restarts σC (fun r σC' => w_X10_restarts σR (fun r' σR' => r = r' ∧ SIM σC' σR')) := by
  obtain ⟨A, hC, hR, hok⟩ := h
  exact t_restarts hC hok (fun σC' hC' => r_restarts hR hok (fun σR' hR' => ⟨rfl, _, hC', hR', newA_ok hok hok.1.1⟩))
theorem s_known {σC σR : ft_St} {k : Int32} (h : SIM σC σR) : w_X9_known k σC (fun r σC' => w_X10_known k σR (fun r' σR' => r = r' ∧ SIM σC' σR')) := by
  obtain ⟨A, hC, hR, hok⟩ := h
  refine o_known hC hok (fun σC' hC' => r_known hR hok (fun σR' hR' => ⟨rfl, _, hC', hR', ?_⟩))
  unfold knownF
  exact cif_ok (fun _ => hok) (fun _ => badA_ok hok)
theorem s_would {σC σR : ft_St} {a : Int32} (h : SIM σC σR) : w_X9_would a σC (fun r σC' => w_X10_would a σR (fun r' σR' => r = r' ∧ SIM σC' σR')) := by
  obtain ⟨A, hC, hR, hok⟩ := h
  refine t_would hC hok (fun σC' hC' => r_would hR hok (fun σR' hR' => ⟨rfl, _, hC', hR', ?_⟩))
  unfold wouldF
  exact cif_ok (fun _ => cif_ok (fun _ => hok) (fun _ => noA_ok hok)) (fun _ => badA_ok hok)
theorem s_sight {σC σR : ft_St} {k : Int32} (h : SIM σC σR) : w_X9_sight k σC (fun r σC' => w_X10_sight k σR (fun r' σR' => r = r' ∧ SIM σC' σR')) := by
  obtain ⟨A, hC, hR, hok⟩ := h
  refine t_sight hC hok (fun σC' hC' => r_sight hR hok (fun σR' hR' => ⟨rfl, _, hC', hR', ?_⟩))
  unfold sightF
  exact cif_ok (fun _ => cif_ok (fun _ => hok) (fun _ => hok)) (fun _ => badA_ok hok)
theorem s_all {σC σR : ft_St} {k : Int32} (h : SIM σC σR) : w_X9_all k σC (fun r σC' => w_X10_all k σR (fun r' σR' => r = r' ∧ SIM σC' σR')) := by
  obtain ⟨A, hC, hR, hok⟩ := h
  refine o_all hC hok (fun σC' hC' => r_all hR hok (fun σR' hR' => ⟨rfl, _, hC', hR', ?_⟩))
  unfold allF
  exact cif_ok (fun _ => hok) (fun _ => badA_ok hok)
theorem s_apart {σC σR : ft_St} {k : Int32} (h : SIM σC σR) : w_X9_apart k σC (fun r σC' => w_X10_apart k σR (fun r' σR' => r = r' ∧ SIM σC' σR')) := by
  obtain ⟨A, hC, hR, hok⟩ := h
  refine o_apart hC hok (fun σC' hC' => r_apart hR hok (fun σR' hR' => ⟨rfl, _, hC', hR', ?_⟩))
  unfold apartF
  exact cif_ok (fun _ => hok) (fun _ => badA_ok hok)
theorem s_soonest {σC σR : ft_St} {k : Int32} (h : SIM σC σR) : w_X9_soonest k σC (fun r σC' => w_X10_soonest k σR (fun r' σR' => r = r' ∧ SIM σC' σR')) := by
  obtain ⟨A, hC, hR, hok⟩ := h
  refine o_soonest hC hok (fun σC' hC' => r_soonestA hR hok (fun σR' hR' => ⟨rfl, _, hC', hR', ?_⟩))
  unfold soonestF
  exact cif_ok (fun _ => hok) (fun _ => badA_ok hok)
theorem s_enough {σC σR : ft_St} {k : Int32} (h : SIM σC σR) : w_X9_enough k σC (fun r σC' => w_X10_enough k σR (fun r' σR' => r = r' ∧ SIM σC' σR')) := by
  obtain ⟨A, hC, hR, hok⟩ := h
  refine o_enough hC hok (fun σC' hC' => r_enough hR hok (fun σR' hR' => ⟨rfl, _, hC', hR', ?_⟩))
  unfold enoughF
  exact cif_ok (fun _ => hok) (fun _ => badA_ok hok)
theorem s_fewest {σC σR : ft_St} {k : Int32} (h : SIM σC σR) : w_X9_fewest k σC (fun r σC' => w_X10_fewest k σR (fun r' σR' => r = r' ∧ SIM σC' σR')) := by
  obtain ⟨A, hC, hR, hok⟩ := h
  refine o_fewest hC hok (fun σC' hC' => r_fewestA hR hok (fun σR' hR' => ⟨rfl, _, hC', hR', ?_⟩))
  unfold fewestF
  exact cif_ok (fun _ => hok) (fun _ => badA_ok hok)
theorem s_pair {σC σR : ft_St} {m p : Int32} (h : SIM σC σR) : w_X9_pair m p σC (fun r σC' => w_X10_pair m p σR (fun r' σR' => r = r' ∧ SIM σC' σR')) := by
  obtain ⟨A, hC, hR, hok⟩ := h
  refine o_pair hC hok (fun σC' hC' => r_pair hR hok (fun σR' hR' => ⟨rfl, _, hC', hR', ?_⟩))
  unfold pairF
  exact cif_ok (fun _ => hok) (fun _ => badA_ok hok)
theorem s_type {σC σR : ft_St} {c : Int32} (h : SIM σC σR) : w_X9_type c σC (fun r σC' => w_X10_type c σR (fun r' σR' => r = r' ∧ SIM σC' σR')) := by
  obtain ⟨A, hC, hR, hok⟩ := h
  refine o_type hC hok (fun σC' hC' => r_type hR hok (fun σR' hR' => ⟨rfl, _, hC', hR', ?_⟩))
  unfold typeF
  refine cif_ok (fun y => cif_ok (fun z => ⟨hok.1, hok.2.1, ?_, fun i hi => ?_⟩) (fun _ => fullA_ok hok)) (fun _ => badA_ok hok)
  · exact z
  · have hi : i < tlA A + 1 := hi
    show va_up (TA A) (tlA A) (cl c) i ≤ 127
    by_cases e : i = tlA A
    · rw [e, up_s]; exact (y.cl (by decide)).1
    · rw [up_n e]; exact hok.2.2.2 i (show i < tlA A by omega)
theorem s_clear {σC σR : ft_St} (h : SIM σC σR) : w_X9_clear σC (fun r σC' => w_X10_clear σR (fun r' σR' => r = r' ∧ SIM σC' σR')) := by
  obtain ⟨A, hC, hR, hok⟩ := h
  exact o_clear hC (fun σC' hC' => r_clear hR (fun σR' hR' => ⟨rfl, _, hC', hR', hok.1, hok.2.1, Nat.zero_le _, fun i hi => absurd hi (Nat.not_lt_zero _)⟩))
theorem qrun_ok (T : Nat → Nat) (tl : Nat) : ∀ (f pos : Nat) (q : QS), QOk pos q → ∀ n D, qrun T tl f pos q = .inr (n, D) → MOk D
  | 0, pos, q, hq, n, D, e => by
    have e : (if q.1 = 0 ∧ q.2.1 ≠ 0 then (.inr (q.2.1, q.2.2.2.2.2.2) : Nat ⊕ (Nat × MM)) else .inl tl) = .inr (n, D) := e
    split at e
    · cases e; exact hq.2.2.2.2
    · cases e
  | f + 1, pos, q, hq, n, D, e => by
    have e : (if T pos = 32 then qrun T tl f (pos + 1) q else match qstep (T pos) pos q with
      | .inl p => .inl p
      | .inr q' => qrun T tl f (pos + 1) q') = .inr (n, D) := e
    split at e
    · exact qrun_ok T tl f (pos + 1) q hq.more n D e
    · cases e2 : qstep (T pos) pos q with
      | inl p => rw [e2] at e; cases e
      | inr q' => rw [e2] at e; exact qrun_ok T tl f (pos + 1) q' (qstep_ok hq e2) n D e
theorem s_reads {σC σR : ft_St} (h : SIM σC σR) : w_X9_reads σC (fun r σC' => w_X10_reads σR (fun r' σR' => r = r' ∧ SIM σC' σR')) := by
  obtain ⟨A, hC, hR, hok⟩ := h
  refine o_reads hC hok (fun σC' hC' => r_reads hR hok (fun σR' hR' => ⟨rfl, _, hC', hR', ?_⟩))
  unfold readsF
  cases e : RES (TA A) (tlA A) 0 (q0 (zM A.1)) with
  | inl p => exact hok
  | inr x =>
    obtain ⟨n, D⟩ := x
    exact newA_ok hok (qrun_ok _ _ _ 0 _ (q0_ok hok.1.1) n D e)
theorem s_back {σC σR : ft_St} (h : SIM σC σR) : w_X9_back σC (fun r σC' => w_X10_back σR (fun r' σR' => r = r' ∧ SIM σC' σR')) := by
  obtain ⟨A, hC, hR, hok⟩ := h
  refine o_back hC hok (fun σC' hC' => r_back hR hok (fun σR' hR' => ⟨rfl, _, hC', hR', ?_⟩))
  unfold backF
  split
  · exact noA_ok hok
  · rename_i z
    refine ⟨hok.2.1 0 (Nat.pos_of_ne_zero z), fun i hi => ?_, hok.2.2⟩
    have hi : i < hcA A - 1 := hi
    exact hok.2.1 (i + 1) (show i + 1 < hcA A by omega)
theorem s_told {σC σR : ft_St} {k : Int32} (h : SIM σC σR) : w_X9_told k σC (fun r σC' => w_X10_told k σR (fun r' σR' => r = r' ∧ SIM σC' σR')) := by
  obtain ⟨A, hC, hR, hok⟩ := h
  refine t_told hC (fun σC' hC' => r_told hR (fun σR' hR' => ⟨rfl, _, hC', hR', ?_⟩))
  unfold toldF
  exact cif_ok (fun _ => hok) (fun _ => badA_ok hok)
theorem s_digest {σC σR : ft_St} (h : SIM σC σR) : w_X9_digest σC (fun r σC' => w_X10_digest σR (fun r' σR' => r = r' ∧ SIM σC' σR')) := by
  obtain ⟨A, hC, hR, hok⟩ := h
  exact c_digest' hC hok (fun σC' hC' => r_digest hR hok (fun σR' hR' => ⟨rfl, _, hC', hR', hok⟩))
