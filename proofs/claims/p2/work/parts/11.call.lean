/-! answers and calls; then: the machine follows a whole run -/
def k_vret : am_Act := fun _ st M => match st with
  | [] => some (.inr (.inl (none, M)))
  | _ => none
def k_iret : am_Act := fun _ st M => match st with
  | [.int x] => some (.inr (.inl (some (.int x), M)))
  | _ => none
def k_zret : am_Act := fun _ st M => match st with
  | [.int x] => if x = 0 ∨ x = 1 then some (.inr (.inl (some (.int x), M))) else none
  | _ => none
def k_lret : am_Act := fun _ st M => match st with
  | [.long x] => some (.inr (.inl (some (.long x), M)))
  | _ => none
def k_aret : am_Act := fun _ st M => match st with
  | [.ref x] => some (.inr (.inl (some (.ref x), M)))
  | [.null] => some (.inr (.inl (some .null, M)))
  | _ => none
def am_pop : Nat → List Value → List Value → Option (List Value × List Value)
  | 0, st, acc => some (acc, st)
  | n + 1, v :: st, acc => if am_flo v = true then none else am_pop n st (v :: acc)
  | _ + 1, [], _ => none
def am_okc (mx : Nat) (as st : List Value) : Bool := decide ((am_en as).length ≤ mx) && decide (am_cs st ≤ 8)
def k_cs (y n mx nx : Nat) : am_Act := fun lv st M => match am_pop n st [] with
  | some (as, st') => if am_okc mx as st' = true then some (.inr (.inr (y, as, nx, lv, st', M))) else none
  | none => none
def k_cv (y ci n mx nx : Nat) : am_Act := fun lv st M => match am_pop n st [] with
  | some (as, .ref b :: st') => if mK M b = 10 + ci ∧ am_okc mx (.ref b :: as) st' = true then some (.inr (.inr (y, .ref b :: as, nx, lv, st', M))) else none
  | _ => none
theorem am_pop_s : ∀ (n : Nat) (st acc as st' : List Value), am_pop n st acc = some (as, st') → ∃ l : List Value, st = l ++ st' ∧ l.length = n ∧ as = l.reverse ++ acc ∧ ∀ v ∈ l, am_flo v = false := by
  intro n
  induction n with
  | zero => intro st acc as st' h; cases h; exact ⟨[], rfl, rfl, rfl, fun v h => by cases h⟩
  | succ n ih =>
    intro st acc as st' h
    cases st with
    | nil => cases h
    | cons v st =>
      rw [am_pop] at h
      split at h
      · cases h
      · rename_i hf
        obtain ⟨l, h1, h2, h3, h4⟩ := ih st (v :: acc) as st' h
        refine ⟨v :: l, by rw [h1]; rfl, by simp [h2], by rw [h3]; simp, fun w hw => ?_⟩
        rcases List.mem_cons.mp hw with rfl | hw
        · simpa using hf
        · exact h4 w hw
section
variable {P : Nat → am_Y} {own : String} {cc : ByteArray} {nL : Nat} {ret : Option FieldType} {nm : String} {pc : Nat}
/-- an answer: the rows of the kit by their type -/
theorem am_sr {act : am_Act} (h : ∀ (lv st : List Value) (M : am_M) (o), act lv st M = some o → ∃ v, o = .inr (.inl (v, M)) ∧ ∀ (G : am_G) (p : Program) (l : Launch) (e : Env) (R : Room) (s : State) (m : MethodId) (args : Array Value) (below : List Frame) (meth : Method) (c : Code) (Qc : Array Value → State → Outcome → State → Prop) (H : Heap) (locs : List Loc) (ls : Array Slot) (kc ks : Nat), am_Cx G own cc nL ret nm p s m args meth c → (∀ t : State, t.heap = H → s.WarmedH t.vm → Qc args s (.returned (v.map (am_v G))) t) → (∀ q ∈ locs, am_free G q.base) → W p l e R s m args below meth c H locs kc ks (MQ below Qc args s kc ks (am_free G)) (F0 m pc ls (st.map (am_v G)))) : am_Snd P own cc nL ret nm pc act := by
  intro lv st M
  refine ⟨fun pc' lv' st' M' he => ?_, fun v M' he => ?_, fun y as pc' lv' st' M' he => ?_⟩
  · obtain ⟨v, h1, -⟩ := h lv st M _ he; cases h1
  · obtain ⟨v', h1, h2⟩ := h lv st M _ he
    cases h1
    refine ⟨rfl, ?_⟩
    intro G p l e R s m args below meth c c0 w0 Qc mc ms hC hkc hks hQ H locs ls kc' ks' hR hS hL hkc' hks'
    have e1 : kc' = mc := by omega
    have e2 : ks' = ms := by omega
    subst e1; subst e2
    exact h2 G p l e R s m args below meth c Qc H locs ls kc' ks' hC (fun t ht hW => hQ t hW (by rw [ht]; exact hR) (hS.F ht)) hS.2.2
  · obtain ⟨v, h1, -⟩ := h lv st M _ he; cases h1
theorem s_vret (hdg : decode cc pc = .ok (.return_, 1)) (hr : ret = none) : am_Snd P own cc nL ret nm pc k_vret := am_sr fun lv st M o he => by
  unfold k_vret at he
  split at he <;> cases he
  exact ⟨none, rfl, fun G p l e R s m args below meth c Qc H locs ls kc ks hC hQ hf => W.vret hC.1 hC.2.1 (hC.2.2.2.2.2.1.trans hr) hQ hf hdg hC.2.2.2.2.2.2.1⟩
theorem s_iret (hdg : decode cc pc = .ok (.ireturn, 1)) (hr : ret = some .int) : am_Snd P own cc nL ret nm pc k_iret := am_sr fun lv st M o he => by
  unfold k_iret at he
  split at he <;> cases he
  rename_i x
  exact ⟨some (.int x), rfl, fun G p l e R s m args below meth c Qc H locs ls kc ks hC hQ hf => W.iret hC.1 hC.2.1 (hC.2.2.2.2.2.1.trans hr) hQ hf hdg hC.2.2.2.2.2.2.1⟩
theorem s_zret (hdg : decode cc pc = .ok (.ireturn, 1)) (hr : ret = some .boolean) : am_Snd P own cc nL ret nm pc k_zret := am_sr fun lv st M o he => by
  unfold k_zret at he
  split at he
  · split at he <;> cases he
    rename_i x hx
    exact ⟨some (.int x), rfl, fun G p l e R s m args below meth c Qc H locs ls kc ks hC hQ hf => W.zret hC.1 hC.2.1 (hC.2.2.2.2.2.1.trans hr) (by rcases hx with rfl | rfl <;> rfl) hQ hf hdg hC.2.2.2.2.2.2.1⟩
  · cases he
theorem s_lret (hdg : decode cc pc = .ok (.lreturn, 1)) (hr : ret = some .long) : am_Snd P own cc nL ret nm pc k_lret := am_sr fun lv st M o he => by
  unfold k_lret at he
  split at he <;> cases he
  rename_i x
  exact ⟨some (.long x), rfl, fun G p l e R s m args below meth c Qc H locs ls kc ks hC hQ hf => W.lret hC.1 hC.2.1 (hC.2.2.2.2.2.1.trans hr) hQ hf hdg hC.2.2.2.2.2.2.1⟩
theorem s_aret {rt : FieldType} (hdg : decode cc pc = .ok (.areturn, 1)) (hr : ret = some rt) (hrt : (∃ n, rt = .object n) ∨ ∃ t, rt = .array t) : am_Snd P own cc nL ret nm pc k_aret := am_sr fun lv st M o he => by
  unfold k_aret at he
  split at he <;> cases he
  · rename_i x
    exact ⟨some (.ref x), rfl, fun G p l e R s m args below meth c Qc H locs ls kc ks hC hQ hf => W.aret hC.1 hC.2.1 (hC.2.2.2.2.2.1.trans hr) hrt (Or.inr ⟨_, rfl⟩) hQ hf hdg hC.2.2.2.2.2.2.1⟩
  · exact ⟨some .null, rfl, fun G p l e R s m args below meth c Qc H locs ls kc ks hC hQ hf => W.aret hC.1 hC.2.1 (hC.2.2.2.2.2.1.trans hr) hrt (Or.inl rfl) hQ hf hdg hC.2.2.2.2.2.2.1⟩
theorem am_ws_good {args : Array Value} {s : State} (hts : ∀ w ∈ am_ws, w.before args s = true) {w0 : Cond} (h0 : w0 ∈ am_ws) : ∀ w ∈ w0 :: am_ws, ∀ (a' : Array Value) (U : State), s.WarmedH U.vm → w.before a' U = true := by
  have h : ∀ w ∈ am_ws, ∀ (a' : Array Value) (U : State), s.WarmedH U.vm → w.before a' U = true := fun w hw a' U hW => word_at hW (good_of_word (List.mem_filter.mp hw).2) (hts w hw)
  intro w hw
  rcases List.mem_cons.mp hw with rfl | hw
  · exact h _ h0
  · exact h _ hw
theorem am_blind (G : am_G) (as : List Value) (M : am_M) : FrameBlind (am_Pc G as M) := fun a U g mk q => ⟨q.1, q.2.1, am_Kn.vm (s := U) (U := U.calling g mk a) rfl q.2.2⟩
/-- behind a call -/
theorem am_back {p : Program} {l : Launch} {e : Env} {R : Room} {s : State} {m : MethodId} {args : Array Value} {below : List Frame} {meth : Method} {c : Code} {c0 w0 : Nat} {Q : State → Prop} {G : am_G} {lv st' : List Value} {M M2 : am_M} {r : Option Value} {H : Heap} {locs : List Loc} {ls : Array Slot} {kc ks : Nat} {a : Array Value} {stk : List Value}
    (hrun : va_Run p l e R s m args below meth c H locs kc ks (mC M2 - mC M) (mW M2 - mW M) (F0 m pc ls stk) (st'.map (am_v G)) (am_Qc G r M2 a) (am_free G)) (hS : va_S (fun q => G.1 ≤ q) s.heap H locs) (hL : am_L G nL ls lv) (hkc : mC M = c0 + kc) (hks : mW M = w0 + ks) (h1 : mC M ≤ mC M2) (h2 : mW M ≤ mW M2) (hV : am_V G nL p l e R s m args below meth c c0 w0 Q (pc + 3) lv (am_push r st') M2) : W p l e R s m args below meth c H locs kc ks Q (F0 m pc ls stk) := by
  intro T hT X
  obtain ⟨v, st₀, t, T', L, g1, X', g2, g3, g4, ⟨g5, g6, g7⟩, st⟩ := hrun T hT X
  cases g5
  have hS' : va_S (fun q => G.1 ≤ q) s.heap t.heap (locs ++ L) := by
    refine ⟨Nat.le_trans hS.1 (by rw [← g1]; exact g7.1), fun q q1 q2 => ?_, fun z hz => ?_⟩
    · rw [g7.2 q (by rw [g1]; exact Nat.lt_of_lt_of_le q1 hS.1) q2, g1]
      exact hS.2.1 q q1 q2
    · rcases List.mem_append.mp hz with h | h
      · exact hS.2.2 z h
      · exact g2 z h
  have hW := hV t.heap (locs ++ L) ls (kc + (mC M2 - mC M)) (ks + (mW M2 - mW M)) g6 hS' hL (by omega) (by omega)
  obtain ⟨t2, a1, b1⟩ := hW T' g3 X'
  refine ⟨t2, st t2 ?_, b1⟩
  cases r <;> exact a1
theorem am_Bc {p : Program} {R : Room} {s : State} {m : MethodId} {args : Array Value} {meth : Method} {c : Code} {G : am_G} {M M2 : am_M} {y i n d : Nat} (hC : am_Cx G own cc nL ret nm p s m args meth c) (hd1 : d + 2 ≤ R.frames) (hd2 : 64 * (d + 2) ≤ R.locals) (hmx : (P y).2.2.1 ≤ 45) (hl : Cond.methodLink own i (P y).1 ∈ am_ws) (hini : Cond.initialized (P y).1.cls ∈ am_ws) (hcode : Cond.code (P y).1 (P y).2.1 (P y).2.2.1 (P y).2.2.2.1 ∈ am_ws) (hnm : (P y).1.cls ≠ "java/lang/invoke/MethodHandle" ∧ (P y).1.cls ≠ "java/lang/invoke/VarHandle") (hdesc : (parseMethodDescriptor (P y).1.desc).map (fun d => d.parameters.length) = some n) : CallB R s args own i (P y).1 (P y).2.1 (P y).2.2.1 (P y).2.2.2.1 (.code (P y).1 (P y).2.1 (P y).2.2.1 (P y).2.2.2.1 :: am_ws) (am_rm d (mC M2 - mC M) (mW M2 - mW M)) (mC M2 - mC M) (mW M2 - mW M) n := by
  refine ⟨rfl, rfl, hd1, ?_, am_ws_good hC.2.2.2.2.1 hcode, List.mem_cons_self, hC.2.2.2.2.1 _ hcode, hC.2.2.2.2.1 _ hini, hnm, fun sig h => ?_, hC.2.2.2.2.1 _ hl⟩
  · show 8 + ((P y).2.2.1 + 11) + 64 * (d + 1) ≤ R.locals
    omega
  · rw [h] at hdesc
    exact (Option.some.inj hdesc).symm
theorem s_cs {y i n : Nat} (hdg : decode cc pc = .ok (.invokestatic i, 3)) (hmx : (P y).2.2.1 ≤ 45) (hl : Cond.methodLink own i (P y).1 ∈ am_ws) (hst : Cond.static (P y).1 ∈ am_ws) (hini : Cond.initialized (P y).1.cls ∈ am_ws) (hcode : Cond.code (P y).1 (P y).2.1 (P y).2.2.1 (P y).2.2.2.1 ∈ am_ws) (hnm : (P y).1.cls ≠ "java/lang/invoke/MethodHandle" ∧ (P y).1.cls ≠ "java/lang/invoke/VarHandle") (hdesc : (parseMethodDescriptor (P y).1.desc).map (fun d => d.parameters.length) = some n) : am_Snd P own cc nL ret nm pc (k_cs y n (P y).2.2.1 (pc + 3)) := by
  intro lv st M
  refine ⟨fun pc' lv' st' M' he => ?_, fun v M' he => ?_, fun y' as pc' lv' st' M' he => ?_⟩
  · unfold k_cs at he
    split at he
    · split at he <;> cases he
    · cases he
  · unfold k_cs at he
    split at he
    · split at he <;> cases he
    · cases he
  · unfold k_cs at he
    split at he
    · rename_i as2 st2 hpop
      split at he
      · rename_i hok
        cases he
        obtain ⟨lst, q1, q2, q3, q4⟩ := am_pop_s _ _ _ _ _ hpop
        rw [List.append_nil] at q3
        have hlen : (am_en as).length ≤ (P y).2.2.1 := by unfold am_okc at hok; simp at hok; exact hok.1
        refine ⟨rfl, ⟨hlen, fun v hv => q4 v (by rw [q3] at hv; exact List.mem_reverse.mp hv)⟩, ?_⟩
        intro G p l e R s m args below meth c c0 w0 d r M2 Q hC hM h1 h2 h3 h4 h5 h6 hV H locs ls kc ks hR hS hL hkc hks
        have hcs : am_cs st' ≤ 8 := by unfold am_okc at hok; simp at hok; exact hok.2
        have hrun := va_runS (p := p) (e := e) (below := below) (meth := meth) (H := H) (locs := locs) (cells := kc) (slots := ks) (As := as.map (am_v G)) (rest := st'.map (am_v G)) (g := F0 m pc ls (st.map (am_v G))) (n := n) ⟨hC.1, hC.2.1, hC.2.2.1, hC.2.2.2.1, hC.2.2.2.2.1⟩ hM ⟨am_Bc hC h5 h6 hmx hl hini hcode hnm hdesc, hC.2.2.2.2.1 _ hst⟩ ⟨am_blind G as M, fun U hU hW => ⟨rfl, by rw [hU]; exact hR, hC.2.2.2.2.2.2.2.2.1.warm hW⟩⟩ rfl (by rw [List.length_map, q3, List.length_reverse]; exact q2) hL.2.1 (by show st.map (am_v G) = _; rw [q1, q3, List.map_append, List.map_reverse, List.reverse_reverse]) (by rw [am_cs_eq]; show 2 * 0 + _ ≤ _; omega) hdg ⟨by omega, by omega⟩
        exact am_back hrun hS hL hkc hks h1 h2 hV
      · cases he
    · cases he
theorem am_cvs {y ci n : Nat} (row : ∀ (G : am_G) (p : Program) (l : Launch) (e : Env) (R : Room) (s : State) (m : MethodId) (args : Array Value) (below : List Frame) (meth : Method) (c : Code) (d : Nat) (r : Option Value) (M M2 : am_M) (H : Heap) (locs : List Loc) (ls : Array Slot) (kc ks b : Nat) (as rest : List Value), am_Cx G own cc nL ret nm p s m args meth c → am_Met P G l y d (.ref b :: as) M r M2 → mK M b = 10 + ci → am_R G M H → d + 2 ≤ R.frames → 64 * (d + 2) ≤ R.locals → as.length = n → ls.size = nL → am_cs rest ≤ 8 → kc + (mC M2 - mC M) ≤ R.cells ∧ ks + (mW M2 - mW M) ≤ R.slots → va_Run p l e R s m args below meth c H locs kc ks (mC M2 - mC M) (mW M2 - mW M) (F0 m pc ls ((as.map (am_v G)).reverse ++ .ref (G.1 + b) :: rest.map (am_v G))) (rest.map (am_v G)) (am_Qc G r M2 (Value.ref (G.1 + b) :: as.map (am_v G)).toArray) (am_free G)) : am_Snd P own cc nL ret nm pc (k_cv y ci n (P y).2.2.1 (pc + 3)) := by
  intro lv st M
  refine ⟨fun pc' lv' st' M' he => ?_, fun v M' he => ?_, fun y' as pc' lv' st' M' he => ?_⟩
  · unfold k_cv at he
    split at he
    · split at he <;> cases he
    · cases he
  · unfold k_cv at he
    split at he
    · split at he <;> cases he
    · cases he
  · unfold k_cv at he
    split at he
    · rename_i as2 b st2 hpop
      split at he
      · rename_i hok
        cases he
        obtain ⟨lst, q1, q2, q3, q4⟩ := am_pop_s _ _ _ _ _ hpop
        rw [List.append_nil] at q3
        obtain ⟨hk, hok⟩ := hok
        have hlen : (am_en (.ref b :: as2)).length ≤ (P y).2.2.1 := by unfold am_okc at hok; rw [Bool.and_eq_true] at hok; exact of_decide_eq_true hok.1
        refine ⟨rfl, ⟨hlen, fun v hv => ?_⟩, ?_⟩
        · rcases List.mem_cons.mp hv with rfl | hv
          · rfl
          · exact q4 v (by rw [q3] at hv; exact List.mem_reverse.mp hv)
        intro G p l e R s m args below meth c c0 w0 d r M2 Q hC hM h1 h2 h3 h4 h5 h6 hV H locs ls kc ks hR hS hL hkc hks
        have hcs : am_cs st' ≤ 8 := by unfold am_okc at hok; simp at hok; exact hok.2
        have hrun := row G p l e R s m args below meth c d r M M2 H locs ls kc ks b as2 st' hC hM hk hR h5 h6 (by rw [q3, List.length_reverse]; exact q2) hL.2.1 hcs ⟨by omega, by omega⟩
        have e9 : st.map (am_v G) = (as2.map (am_v G)).reverse ++ .ref (G.1 + b) :: st'.map (am_v G) := by
          rw [q1, q3, List.map_append, List.map_reverse, List.reverse_reverse]
          rfl
        rw [e9]
        exact am_back hrun hS hL hkc hks h1 h2 hV
      · cases he
    · cases he
theorem s_cv {y ci i n : Nat} {C : String} {T : u_T} {N : Nat} (hdg : decode cc pc = .ok (.invokevirtual i, 3)) (hc : vwCl[ci]? = some (C, T, N)) (hmx : (P y).2.2.1 ≤ 45) (hl : Cond.methodLink own i (P y).1 ∈ am_ws) (hin : Cond.instanceMethod (P y).1 ∈ am_ws) (hsel : Cond.selects C (P y).1 (P y).1 ∈ am_ws) (hini : Cond.initialized (P y).1.cls ∈ am_ws) (hcode : Cond.code (P y).1 (P y).2.1 (P y).2.2.1 (P y).2.2.2.1 ∈ am_ws) (hnm : (P y).1.cls ≠ "java/lang/invoke/MethodHandle" ∧ (P y).1.cls ≠ "java/lang/invoke/VarHandle") (hdesc : (parseMethodDescriptor (P y).1.desc).map (fun d => d.parameters.length) = some n) : am_Snd P own cc nL ret nm pc (k_cv y ci n (P y).2.2.1 (pc + 3)) := am_cvs fun G p l e R s m args below meth c d r M M2 H locs ls kc ks b as rest hC hM hk hR h5 h6 hn hsz hcs hroom => by
  obtain ⟨-, cell, g1, g2, g3, -⟩ := hR.obj hk hc
  have hcl := (hC.2.2.2.2.2.2.2.2.1.1.1 ci _ hc).2.1
  exact va_runV (C := C) (n := n) ⟨hC.1, hC.2.1, hC.2.2.1, hC.2.2.2.1, hC.2.2.2.2.1⟩ hM ⟨am_Bc hC h5 h6 hmx hl hini hcode hnm hdesc, hC.2.2.2.2.1 _ hin, hC.2.2.2.2.1 _ hsel⟩ ⟨am_blind G _ M, ⟨cell, g1, by rw [g3]; rfl, by rw [g2]; exact hcl⟩, fun U hU hW => ⟨rfl, by rw [hU]; exact hR, hC.2.2.2.2.2.2.2.2.1.warm hW⟩⟩ rfl (by rw [List.length_map]; exact hn) hsz rfl (by rw [am_cs_eq]; show 2 * 0 + _ ≤ _; omega) hdg hroom
theorem s_ci {y ci i n : Nat} (hdg : decode cc pc = .ok (.invokespecial i, 3)) (hmx : (P y).2.2.1 ≤ 45) (hret : (P y).2.2.2.1 = none) (hl : Cond.methodLink own i (P y).1 ∈ am_ws) (hin : Cond.instanceMethod (P y).1 ∈ am_ws) (hnm1 : (P y).1.name = "<init>") (hini : Cond.initialized (P y).1.cls ∈ am_ws) (hcode : Cond.code (P y).1 (P y).2.1 (P y).2.2.1 (P y).2.2.2.1 ∈ am_ws) (hnm : (P y).1.cls ≠ "java/lang/invoke/MethodHandle" ∧ (P y).1.cls ≠ "java/lang/invoke/VarHandle") (hdesc : (parseMethodDescriptor (P y).1.desc).map (fun d => d.parameters.length) = some n) : am_Snd P own cc nL ret nm pc (k_cv y ci n (P y).2.2.1 (pc + 3)) := am_cvs fun G p l e R s m args below meth c d r M M2 H locs ls kc ks b as rest hC hM hk hR h5 h6 hn hsz hcs hroom => by
  have hB := am_Bc (M := M) (M2 := M2) (P := P) hC h5 h6 hmx hl hini hcode hnm hdesc
  unfold am_Met at hM
  rw [hret] at hB hM
  exact va_runI (n := n) ⟨hC.1, hC.2.1, hC.2.2.1, hC.2.2.2.1, hC.2.2.2.2.1⟩ hM ⟨hB, hnm1, hC.2.2.2.2.1 _ hin⟩ ⟨am_blind G _ M, fun U hU hW => ⟨rfl, by rw [hU]; exact hR, hC.2.2.2.2.2.2.2.2.1.warm hW⟩⟩ rfl (by rw [List.length_map]; exact hn) hsz rfl (by rw [am_cs_eq]; show 2 * 0 + _ ≤ _; omega) hdg hroom
theorem s_cin {y ci i n : Nat} {host : String} (hdg : decode cc pc = .ok (.invokespecial i, 3)) (hmx : (P y).2.2.1 ≤ 45) (hret : (P y).2.2.2.1 = none) (hl : Cond.methodLinkNest own i (P y).1 host ∈ am_nw) (hin : Cond.instanceMethod (P y).1 ∈ am_ws) (hnm1 : (P y).1.name = "<init>") (hini : Cond.initialized (P y).1.cls ∈ am_ws) (hcode : Cond.code (P y).1 (P y).2.1 (P y).2.2.1 (P y).2.2.2.1 ∈ am_ws) (hnm : (P y).1.cls ≠ "java/lang/invoke/MethodHandle" ∧ (P y).1.cls ≠ "java/lang/invoke/VarHandle") (hdesc : (parseMethodDescriptor (P y).1.desc).map (fun d => d.parameters.length) = some n) : am_Snd P own cc nL ret nm pc (k_cv y ci n (P y).2.2.1 (pc + 3)) := am_cvs fun G p l e R s m args below meth c d r M M2 H locs ls kc ks b as rest hC hM hk hR h5 h6 hn hsz hcs hroom => by
  unfold am_Met at hM
  rw [hret] at hM hcode
  have hB : va_CN R s args own i (P y).1 host (P y).2.1 (P y).2.2.1 none (.code (P y).1 (P y).2.1 (P y).2.2.1 none :: am_ws) (am_rm d (mC M2 - mC M) (mW M2 - mW M)) (mC M2 - mC M) (mW M2 - mW M) n := by
    refine ⟨⟨rfl, rfl, h5, ?_, am_ws_good hC.2.2.2.2.1 hcode, List.mem_cons_self⟩, hC.2.2.2.2.1 _ hcode, hC.2.2.2.2.1 _ hini, hnm, fun sig h => ?_, va_Nw.use rfl (hC.2.2.2.2.2.2.2.2.1.2.1 _ hl)⟩
    · show 8 + ((P y).2.2.1 + 11) + 64 * (d + 1) ≤ R.locals
      omega
    · rw [h] at hdesc
      exact (Option.some.inj hdesc).symm
  exact va_runIN (n := n) ⟨hC.1, hC.2.1, hC.2.2.1, hC.2.2.2.1, hC.2.2.2.2.1⟩ hM ⟨hB, hnm1, hC.2.2.2.2.1 _ hin⟩ ⟨am_blind G _ M, fun U hU hW => ⟨rfl, by rw [hU]; exact hR, hC.2.2.2.2.2.2.2.2.1.warm hW⟩⟩ rfl (by rw [List.length_map]; exact hn) hsz rfl (by rw [am_cs_eq]; show 2 * 0 + _ ≤ _; omega) hdg hroom
end
