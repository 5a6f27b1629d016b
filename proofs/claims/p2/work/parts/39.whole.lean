/-! the claim out of one AM run of the law (the first rows: the skeleton's) -/
def R_law : String := "ToldTracksLaw"
def lw_P (b : Addr) (xs : List Int32) (args : Array Value) (s : State) : Prop := args = #[.ref b] ∧ s.IntsAt b xs ∧ xs.length ≤ 3072 ∧ (Jvm.Cond.and given_1 narrow_1).before args s = true
def lw_Q (_ : Array Value) (s : State) (o : Outcome) (t : State) : Prop := o = .returned (some (.int 1)) ∧ Framed s o t [] 600000 7302250
def lw_Z (below : List Frame) (a : Array Value) (s : State) : State → Prop := fun t => ∃ o, t.status = .running ∧ Ended t below o ∧ lw_Q a s o t
/-- the law's own end, with 1 on the stack, nothing written that was there before, its room as the claim has it -/
theorem lw_ret {p : Program} {l : Launch} {e : Env} {s : State} {m : MethodId} {below : List Frame} {meth : Method} {c : Code} {b : Nat} (hx : p.tables.exec = Jvm.exec) (hb : c.code = code) (hr : meth.sig.returnType = ret) (hlocks : meth.locks = false) {pc : Nat} {H : Heap} {ls : Array Slot} (hdg : decode code pc = .ok (.ireturn, 1)) : W p l e room_1 s m #[Value.ref b] below meth c H [] 600000 7302250 (lw_Z below #[Value.ref b] s) (F0 m pc ls [.int 1]) := by
  intro T hT X
  obtain ⟨fs, hret, hrun, hended, hW, hframe⟩ := X.leave (v := some (.int 1)) (hlocks := hlocks) (fun h => by rw [hr] at h; cases h)
  have hmeth' : T.vm.method? m = some meth := X.method'
  refine ⟨T.setFrames fs, ?_, .returned (some (.int 1)), hrun, hended, rfl, ⟨_, rfl⟩, hW, hframe⟩
  jvm_step X.here [X.here.top, hx, hb, hdg, hmeth', hr, ret, narrow_b1]
  (try refine ⟨rfl, ?_⟩); (try refine ⟨rfl, ?_⟩)
  first | (intro acts; rw [hret _ acts rfl rfl rfl]) | rw [hret _ _ rfl rfl rfl]
  exact Steps.refl _
/-- what holds at the law's entry: the machine, the code, the tables' words (any of lw_tbl by 'hts w (by decide +kernel)'), the script of L ints xs at the cell b, what the Statement gives of the start (any of its parts by flat_of_before) -/
def lw_At (p : Program) (s : State) (m : MethodId) (meth : Method) (c : Code) (b L : Nat) (xs : Nat → Int32) : Prop :=
  p.tables.exec = Jvm.exec ∧ c.code = code ∧ meth.sig.returnType = ret ∧ c.maxLocals = 4 ∧ s.vm.findClass R_law = some m.cls ∧ (∀ w ∈ lw_tbl, w.before #[Value.ref b] s = true) ∧ va_X b L xs s s.heap ∧ b < s.heap.size ∧ meth.locks = false ∧ (Jvm.Cond.and given_1 narrow_1).before #[Value.ref b] s = true
/-- nothing made yet -/
def am_M0 : am_M := (fun _ _ => 0, fun _ _ => 0, fun _ _ => none, [])
/-- what is left to show of the law: its AM run, on every script -/
def am_Goal (xs : Nat → Int32) (L : Nat) : Prop := am_P am_P0 1000 (am_look (tL xs L)) 0 [.retAddr 0, am_x, am_x, am_x] [] am_M0 (fun r M => r = some (.int 1) ∧ mC M ≤ 600000 ∧ mW M ≤ 7302250)
theorem whole_of {p : Program} {e : Env} {s : State} {m : MethodId} {below : List Frame} {meth : Method} {c : Code} (l : Launch) {b L : Nat} {xs : Nat → Int32} (hrun : am_Goal xs L) (C0 : lw_At p s m meth c b L xs) : W p l e room_1 s m #[Value.ref b] below meth c s.heap [] 0 0 (lw_Z below #[Value.ref b] s) (entryFrame m ([Value.ref b] : List Value).toArray 4) := by
  obtain ⟨hx, hb, hr, hml, hown, hts, hX, hbl, hlocks, hgv⟩ := id C0
  obtain ⟨n, r, M2, hrun, rfl, hc2, hw2⟩ := hrun
  obtain ⟨G, g1, g2, g3, hK⟩ := am_known (b := b) hts (by rw [Cond.before_and, Bool.and_eq_true] at hgv; exact hgv.2)
  have hC : am_Cx G RL code 4 (some .boolean) meth.name p s m #[Value.ref b] meth c := ⟨hx, hb, hml, hown, fun w hw => hts w (am_ws_in w hw), hr, hlocks, rfl, hK, by rw [g1]; exact Nat.le_refl _⟩
  have hbG : G.2.1.1 0 < G.1 := by rw [g2, g1]; exact hbl
  have hXG : va_X (G.2.1.1 0) L xs s s.heap := by rw [g2]; exact hX
  have key := (am_run_VF (P := am_P0) (G := G) (nL := 4) (p := p) (l := l) (e := e) (R := room_1) (s := s) (m := m) (args := #[Value.ref b]) (below := below) (meth := meth) (c := c) am_hP (d0 := 1000) (fun n d y as M r M2 _ => am_metP G l d n y as M r M2) (ac := am_look (tL xs L)) (am_lkF (snL hC hXG hbG)) (c0 := 0) (w0 := 0) (Q := lw_Z below #[Value.ref b] s) (r := some (.int 1)) (M2 := M2) (by rw [Nat.zero_add]; exact hc2) (by rw [Nat.zero_add]; exact hw2) ?_ n 1000 0 _ [] am_M0 (Nat.le_refl _) hrun (by decide) (by decide)).2
  · have hR0 : am_R G am_M0 s.heap := ⟨by rw [g1]; rfl, fun k sh hk => by simp [am_M0, mS] at hk, fun q _ => by rw [g3]⟩
    have hL0 := am_L_entry G (n := 4) (as := [.retAddr 0]) (by decide) (by simp [am_flo])
    have e1 : ([Value.retAddr 0].map (am_v G)) = [Value.ref b] := by show [Value.ref (G.2.1.1 0)] = _; rw [g2]
    rw [e1] at hL0
    rw [lg_entry_eq]
    exact key s.heap [] _ 0 0 hR0 va_S.rf hL0 rfl rfl
  · intro pc lv st heq H locs ls kc ks hR hS hL hkc hks
    obtain ⟨hd, x, rfl, hv⟩ := am_lkR (rtL xs L) pc lv st M2 _ _ heq
    cases hv
    refine va_forget (fun q hq => by have := hS.2.2 q hq; rw [g1] at this; exact this) ?_
    refine W.widen (k := 600000) (n := 7302250) (by omega) (by omega) ?_
    exact lw_ret hx hb hr hlocks hd
