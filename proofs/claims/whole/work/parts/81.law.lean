/-! THE CLAIM OUT OF ONE WALK OF THE LAW'S BODY. Your part is whole_start (and what it stands on); all else here is the same for every law, but numbers. -/
def R_law : String := "FaultTwinsLaw"
def lw_P (b : Addr) (xs : List Int32) (args : Array Value) (s : State) : Prop := args = #[.ref b] ∧ s.IntsAt b xs ∧ xs.length ≤ 2048 ∧ (Jvm.Cond.and given_1 narrow_1).before args s = true
def lw_Q (_ : Array Value) (s : State) (o : Outcome) (t : State) : Prop := o = .returned (some (.int 1)) ∧ Framed s o t [] 600000 7302250
def lw_Z (below : List Frame) (a : Array Value) (s : State) : State → Prop := fun t => ∃ o, t.status = .running ∧ Ended t below o ∧ lw_Q a s o t
/-- the law's own end, with 1 on the stack, nothing written that was there before, its room as the claim has it -/
theorem lw_ret {p : Program} {l : Launch} {e : Env} {s : State} {m : MethodId} {below : List Frame} {meth : Method} {c : Code} {b : Nat} (hx : p.tables.exec = Jvm.exec) (hb : c.code = code) (hr : meth.sig.returnType = ret) (hlocks : meth.locks = false) {pc : Nat} {H : Heap} {ls : Array Slot} (hdg : decode code pc = .ok (.ireturn, 1)) : W p l e room_1 s m #[Value.ref b] below meth c H [] 600000 7302250 (lw_Z below #[Value.ref b] s) (F0 m pc ls [.int 1]) := by
  intro T hT X
  obtain ⟨fs, hret, hrun, hended, hW, hframe⟩ := X.leave (v := some (.int 1)) (hlocks := hlocks) (fun h => by rw [hr] at h; cases h)
  have hmeth' : T.vm.method? m = some meth := X.method'
  refine ⟨T.setFrames fs, ?_, .returned (some (.int 1)), hrun, hended, rfl, ⟨_, rfl⟩, hW, hframe⟩
  jvm_step X.here [X.here.top, hx, hb, hdg, hmeth', hr, ret, narrow_b1]
  (try refine ⟨rfl, ?_⟩); (try refine ⟨rfl, ?_⟩)
  first | (intro acts; rw [hret _ acts rfl rfl rfl]) | rw [hret _ _ rfl rfl rfl]
  exact Steps.refl _
/-- what holds at the law's entry: the machine, the code, the tables' words (any of lw_tbl by 'hts w (by decide +kernel)'), the script of L ints xs at the cell b, what the Statement gives of the start (any of its parts by flat_of_before) -/
def lw_At (p : Program) (s : State) (m : MethodId) (meth : Method) (c : Code) (b L : Nat) (xs : Nat → Int32) : Prop :=
  p.tables.exec = Jvm.exec ∧ c.code = code ∧ meth.sig.returnType = ret ∧ c.maxLocals = 4 ∧ s.vm.findClass R_law = some m.cls ∧ (∀ w ∈ lw_tbl, w.before #[Value.ref b] s = true) ∧ va_X b L xs s s.heap ∧ b < s.heap.size ∧ meth.locks = false ∧ (Jvm.Cond.and given_1 narrow_1).before #[Value.ref b] s = true
def LE (p : Program) (s : State) (m : MethodId) (meth : Method) (c : Code) (b L : Nat) (xs : Nat → Int32) (D : va_G) (cs : ClassId × ClassId × ClassId × ClassId) (aC aR : Nat → Nat) : Prop :=
  p.tables.exec = Jvm.exec ∧ c.code = cL_law ∧ meth.sig.returnType = ret ∧ c.maxLocals = 4 ∧ s.vm.findClass RL = some m.cls ∧ (∀ w ∈ lw_tbl, w.before #[Value.ref b] s = true) ∧ va_X b L xs s s.heap ∧ b < s.heap.size ∧ meth.locks = false ∧ va_K D vwCl (ft_ty (D, cs, aC)) s ∧ va_Nw (.methodLinkNest RX3 46 yX9_verdict RX9) s ∧ ft_I 80 aC ∧ ft_I 16 aR ∧ (∀ k, k < 80 → s.heap.size ≤ aC k) ∧ (∀ k, k < 16 → s.heap.size ≤ aR k) ∧ ∀ i j, i < 80 → j < 16 → aC i ≠ aR j
def LW (s : State) (D : va_G) (cs : ClassId × ClassId × ClassId × ClassId) (aC aR : Nat → Nat) (σC σR : ft_St) (H : Heap) (locs : List Loc) : Prop :=
  va_P D vwCl (ft_W 80 aC (cC_E (D, cs, aC) σC)) H ∧ va_P D vwCl (ft_W 16 aR (cR_E (D, cs, aR) σR)) H ∧ va_S (fun q : Nat => s.heap.size ≤ q) s.heap H locs
theorem ft_keep {D : va_G} {cl : List vw_C} {n n' : Nat} {ad ad' : Nat → Nat} {E : Nat → va_E} {H H1 : Heap} (hP : va_P D cl (ft_W n ad E) H) (hk : ∀ q : Nat, q < H.size → ¬ ft_A n' ad' q → H1[q]? = H[q]?) (hne : ∀ i j, i < n → j < n' → ad i ≠ ad' j) : va_P D cl (ft_W n ad E) H1 := fun k q hq => by
  obtain ⟨h1, rfl⟩ := ft_W_some hq
  have h := hP k _ hq
  exact h.kept (hk _ h.lt (fun ⟨j, hj, e⟩ => hne k j h1 hj e))
theorem ft_len {L i : Nat} (hL : L ≤ 2048) (hi : i ≤ 2052) (h : ¬ (Int32.ofNat L - 4 < nI i)) : i + 4 ≤ L := by
  have e : (nI L).toInt = (L : Int) := nI_toInt (by omega)
  have e2 : (nI i).toInt = (i : Int) := nI_toInt (by omega)
  have h : ¬ (nI L - 4 < nI i) := h
  rw [Int32.lt_iff_toInt_lt, Int32.toInt_sub, e, e2, show (4 : Int32).toInt = 4 from rfl] at h
  have e3 : ((L : Int) - 4).bmod (2 ^ 32) = (L : Int) - 4 := by
    apply Int.bmod_eq_of_le <;> omega
  rw [e3] at h
  omega
