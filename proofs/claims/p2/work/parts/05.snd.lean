/-! what it is that the machine follows AM -/
def am_ws : List Cond := lw_tbl.filter goodWord
theorem am_mem {w : Cond} (i : Nat) (h : lw_tbl[i]? = some w) (hg : goodWord w = true) : w ∈ am_ws := List.mem_filter.mpr ⟨List.mem_of_getElem? h, hg⟩
theorem am_ws_in : ∀ w ∈ am_ws, w ∈ lw_tbl := fun _ h => (List.mem_filter.mp h).1
def am_tys (G : am_G) : List (ClassId × FieldType) := [(G.2.2.1 0, .int), (G.2.2.1 1, .long), (G.2.2.1 2, .boolean), (G.2.2.1 3, .object RX6), (G.2.2.1 4, .object RX8), (G.2.2.1 5, .array .long)]
/-- words that aren't carried by their kind: links of nest mates' constructors -/
def am_isN : Cond → Bool
  | .methodLinkNest .. => true
  | _ => false
def am_nw : List Cond := lw_tbl.filter am_isN
/-- an array of rows of longs -/
def am_LL (G : am_G) (s : State) : Prop := ∃ kA kJ : Class, s.vm.classes[G.2.2.1 5]? = some kA ∧ kA.kind = .array (G.2.2.1 1) (.array .long) ∧ s.vm.classes[G.2.2.1 1]? = some kJ ∧ (s.vm.classes.findIdx? fun (x : Class) => match x.kind with | .array component _ => component == G.2.2.1 1 | _ => false) = some (G.2.2.1 5)
/-- the text of the words, as it lies outside: its constant, its object, its bytes; two statics -/
def am_tx : String := "size depth cost quiet ship look speed draft load says at laden book from to seen hour luck when or and not all column row min max "
def am_own : List Int32 := [115, 105, 122, 101, 32, 100, 101, 112, 116, 104, 32, 99, 111, 115, 116, 32, 113, 117, 105, 101, 116, 32, 115, 104, 105, 112, 32, 108, 111, 111, 107, 32, 115, 112, 101, 101, 100, 32, 100, 114, 97, 102, 116, 32, 108, 111, 97, 100, 32, 115, 97, 121, 115, 32, 97, 116, 32, 108, 97, 100, 101, 110, 32, 98, 111, 111, 107, 32, 102, 114, 111, 109, 32, 116, 111, 32, 115, 101, 101, 110, 32, 104, 111, 117, 114, 32, 108, 117, 99, 107, 32, 119, 104, 101, 110, 32, 111, 114, 32, 97, 110, 100, 32, 110, 111, 116, 32, 97, 108, 108, 32, 99, 111, 108, 117, 109, 110, 32, 114, 111, 119, 32, 109, 105, 110, 32, 109, 97, 120, 32]
def am_St (G : am_G) (s : State) : Prop := vk_R RX3 18 am_tx (G.2.1.1 1) s ∧ va_O "java/lang/String" (G.2.1.1 1) (fun q => G.1 ≤ q) s G.2.1.2 ∧ va_OF "java/lang/String" "coder" "B" (.int 0) (G.2.1.1 1) (fun q => G.1 ≤ q) s G.2.1.2 ∧ va_OF "java/lang/String" "value" "[B" (.ref (G.2.1.1 2)) (G.2.1.1 1) (fun q => G.1 ≤ q) s G.2.1.2 ∧ va_T .byte (G.2.1.1 2) 130 (fun j => .int (am_own.getD j 0)) (fun q => G.1 ≤ q) s G.2.1.2 ∧ va_Z "java/lang/String" "COMPACT_STRINGS" "Z" (.int 1) (fun q => G.1 ≤ q) s G.2.1.2 ∧ va_Z "jdk/internal/util/Preconditions" "SIOOBE_FORMATTER" "Ljava/util/function/BiFunction;" (am_ou G.2.1.1 3) (fun q => G.1 ≤ q) s G.2.1.2
theorem am_St.moved {G : am_G} {u U : State} (hvm : u.vm.Alike U.vm) (hR : vk_R RX3 18 am_tx (G.2.1.1 1) U) (h : am_St G u) : am_St G U := ⟨hR, h.2.1.moved hvm, h.2.2.1.moved hvm, h.2.2.2.1.moved hvm, h.2.2.2.2.1.moved hvm, h.2.2.2.2.2.1.moved hvm, h.2.2.2.2.2.2.moved hvm⟩
def am_Kn (G : am_G) (s : State) : Prop := va_K G.2.2.2 vwCl (am_tys G) s ∧ (∀ w ∈ am_nw, va_Nw w s) ∧ am_LL G s ∧ va_AO RX6 s ∧ va_AO RX8 s ∧ am_St G s
theorem am_LL.moved {G : am_G} {u U : State} (hvm : u.vm.Alike U.vm) (h : am_LL G u) : am_LL G U := by
  obtain ⟨kA, kJ, h1, h2, h3, h4⟩ := h
  obtain ⟨k', hk', he⟩ := hvm.2.2 _ _ h1
  obtain ⟨k2, hk2, -⟩ := hvm.2.2 _ _ h3
  refine ⟨k', k2, hk', by rw [he]; exact h2, hk2, ?_⟩
  rw [hvm.findIdx?_eq _ (fun _ => rfl)]
  exact h4
theorem am_Kn.warm {G : am_G} {s U : State} (hW : s.WarmedH U.vm) (h : am_Kn G s) : am_Kn G U := by
  refine ⟨va_K.moved hW.alike h.1, fun w hw => ?_, h.2.2.1.moved hW.alike, h.2.2.2.1.moved hW.alike, h.2.2.2.2.1.moved hW.alike, h.2.2.2.2.2.moved hW.alike (vk_R.warm hW h.2.2.2.2.2.1)⟩
  have h1 := h.2.1 w hw
  have h2 := (List.mem_filter.mp hw).2
  cases w <;> simp [am_isN] at h2
  exact va_Nw.warmM hW h1
theorem am_Kn.vm {G : am_G} {s U : State} (e : s.vm = U.vm) (h : am_Kn G s) : am_Kn G U := by
  have hal : s.vm.Alike U.vm := by rw [e]; exact Vm.Alike.refl _
  refine ⟨va_K.moved hal h.1, fun w hw => ?_, h.2.2.1.moved hal, h.2.2.2.1.moved hal, h.2.2.2.2.1.moved hal, h.2.2.2.2.2.moved hal (vk_R.same e.symm h.2.2.2.2.2.1)⟩
  have h1 := h.2.1 w hw
  have h2 := (List.mem_filter.mp hw).2
  cases w <;> simp [am_isN] at h2
  exact va_Nw.same rfl e h1
def am_Cx (G : am_G) (own : String) (cc : ByteArray) (nL : Nat) (ret : Option FieldType) (nm : String) (p : Program) (s : State) (m : MethodId) (args : Array Value) (meth : Method) (c : Code) : Prop :=
  p.tables.exec = Jvm.exec ∧ c.code = cc ∧ c.maxLocals = nL ∧ s.vm.findClass own = some m.cls ∧ (∀ w ∈ am_ws, w.before args s = true) ∧ meth.sig.returnType = ret ∧ meth.locks = false ∧ meth.name = nm ∧ am_Kn G s ∧ G.1 ≤ s.heap.size
def am_V (G : am_G) (nL : Nat) (p : Program) (l : Launch) (e : Env) (R : Room) (s : State) (m : MethodId) (args : Array Value) (below : List Frame) (meth : Method) (c : Code) (c0 w0 : Nat) (Q : State → Prop) (pc : Nat) (lv st : List Value) (M : am_M) : Prop :=
  ∀ (H : Heap) (locs : List Loc) (ls : Array Slot) (kc ks : Nat), am_R G M H → va_S (fun q => G.1 ≤ q) s.heap H locs → am_L G nL ls lv → mC M = c0 + kc → mW M = w0 + ks → W p l e R s m args below meth c H locs kc ks Q (F0 m pc ls (st.map (am_v G)))
/-- a step that goes on in its own method -/
def am_Snd1 (own : String) (cc : ByteArray) (nL : Nat) (ret : Option FieldType) (nm : String) (pc : Nat) (f : am_F) : Prop :=
  ∀ (lv st : List Value) (M : am_M) (pc' : Nat) (lv' st' : List Value) (M' : am_M), f lv st M = some (pc', lv', st', M') → (mC M ≤ mC M' ∧ mW M ≤ mW M') ∧
    ∀ (G : am_G) (p : Program) (l : Launch) (e : Env) (R : Room) (s : State) (m : MethodId) (args : Array Value) (below : List Frame) (meth : Method) (c : Code) (c0 w0 : Nat) (Q : State → Prop), am_Cx G own cc nL ret nm p s m args meth c → mC M' ≤ c0 + R.cells → mW M' ≤ w0 + R.slots → 1 ≤ R.frames → 64 ≤ R.locals → am_V G nL p l e R s m args below meth c c0 w0 Q pc' lv' st' M' → am_V G nL p l e R s m args below meth c c0 w0 Q pc lv st M
abbrev am_free (G : am_G) : Nat → Prop := fun q => G.1 ≤ q
/-- a contract out of AM: the method, called with as at M, answers r and leaves M2 -/
def am_Pc (G : am_G) (as : List Value) (M : am_M) : Array Value → State → Prop := fun v U => v = (as.map (am_v G)).toArray ∧ am_R G M U.heap ∧ am_Kn G U
def am_Qc (G : am_G) (r : Option Value) (M2 : am_M) : Array Value → State → Outcome → State → Prop := fun _ st o t => o = .returned (r.map (am_v G)) ∧ am_R G M2 t.heap ∧ va_F (am_free G) st t
def am_rm (d mc ms : Nat) : Room := { frames := d + 1, cells := mc, slots := ms, locals := 64 * (d + 1) }
def am_Met (P : Nat → am_Y) (G : am_G) (l : Launch) (y d : Nat) (as : List Value) (M : am_M) (r : Option Value) (M2 : am_M) : Prop :=
  Met l (P y).1 (.code (P y).1 (P y).2.1 (P y).2.2.1 (P y).2.2.2.1 :: am_ws) (am_rm d (mC M2 - mC M) (mW M2 - mW M)) (am_Pc G as M) (am_Qc G r M2) (mC M2 - mC M) (mW M2 - mW M) (am_free G)
/-- arguments that a method can take -/
def am_aok (P : Nat → am_Y) (y : Nat) (as : List Value) : Prop := (am_en as).length ≤ (P y).2.2.1 ∧ ∀ v ∈ as, am_flo v = false
def am_Snd (P : Nat → am_Y) (own : String) (cc : ByteArray) (nL : Nat) (ret : Option FieldType) (nm : String) (pc : Nat) (act : am_Act) : Prop :=
  ∀ (lv st : List Value) (M : am_M),
  (∀ (pc' : Nat) (lv' st' : List Value) (M' : am_M), act lv st M = some (.inl (pc', lv', st', M')) → (mC M ≤ mC M' ∧ mW M ≤ mW M') ∧
    ∀ (G : am_G) (p : Program) (l : Launch) (e : Env) (R : Room) (s : State) (m : MethodId) (args : Array Value) (below : List Frame) (meth : Method) (c : Code) (c0 w0 : Nat) (Q : State → Prop), am_Cx G own cc nL ret nm p s m args meth c → mC M' ≤ c0 + R.cells → mW M' ≤ w0 + R.slots → 1 ≤ R.frames → 64 ≤ R.locals → am_V G nL p l e R s m args below meth c c0 w0 Q pc' lv' st' M' → am_V G nL p l e R s m args below meth c c0 w0 Q pc lv st M) ∧
  (∀ (v : Option Value) (M' : am_M), act lv st M = some (.inr (.inl (v, M'))) → M' = M ∧
    ∀ (G : am_G) (p : Program) (l : Launch) (e : Env) (R : Room) (s : State) (m : MethodId) (args : Array Value) (below : List Frame) (meth : Method) (c : Code) (c0 w0 : Nat) (Qc : Array Value → State → Outcome → State → Prop) (mc ms : Nat), am_Cx G own cc nL ret nm p s m args meth c → mC M = c0 + mc → mW M = w0 + ms → (∀ (t : State), s.WarmedH t.vm → am_R G M t.heap → va_F (am_free G) s t → Qc args s (.returned (v.map (am_v G))) t) → am_V G nL p l e R s m args below meth c c0 w0 (MQ below Qc args s mc ms (am_free G)) pc lv st M) ∧
  (∀ (y : Nat) (as : List Value) (pc' : Nat) (lv' st' : List Value) (M' : am_M), act lv st M = some (.inr (.inr (y, as, pc', lv', st', M'))) → M' = M ∧ am_aok P y as ∧
    ∀ (G : am_G) (p : Program) (l : Launch) (e : Env) (R : Room) (s : State) (m : MethodId) (args : Array Value) (below : List Frame) (meth : Method) (c : Code) (c0 w0 d : Nat) (r : Option Value) (M2 : am_M) (Q : State → Prop), am_Cx G own cc nL ret nm p s m args meth c → am_Met P G l y d as M r M2 → mC M ≤ mC M2 → mW M ≤ mW M2 → mC M2 ≤ c0 + R.cells → mW M2 ≤ w0 + R.slots → d + 2 ≤ R.frames → 64 * (d + 2) ≤ R.locals → am_V G nL p l e R s m args below meth c c0 w0 Q pc' lv' (am_push r st') M2 → am_V G nL p l e R s m args below meth c c0 w0 Q pc lv st M)
theorem am_Snd1.to {P : Nat → am_Y} {own : String} {cc : ByteArray} {nL : Nat} {ret : Option FieldType} {nm : String} {pc : Nat} {f : am_F} (h : am_Snd1 own cc nL ret nm pc f) : am_Snd P own cc nL ret nm pc (k_nx f) := by
  intro lv st M
  refine ⟨fun pc' lv' st' M' he => ?_, fun v M' he => ?_, fun y as pc' lv' st' M' he => ?_⟩
  · unfold k_nx at he
    cases hf : f lv st M with
    | none => rw [hf] at he; cases he
    | some x => rw [hf] at he; cases he; exact h lv st M pc' lv' st' M' hf
  · unfold k_nx at he
    cases hf : f lv st M with
    | none => rw [hf] at he; cases he
    | some x => rw [hf] at he; cases he
  · unfold k_nx at he
    cases hf : f lv st M with
    | none => rw [hf] at he; cases he
    | some x => rw [hf] at he; cases he
/-- a method of the program whose every instruction the machine follows -/
def am_SndM (P : Nat → am_Y) (y : Nat) : Prop := ∀ (pc : Nat), am_Snd P (P y).1.cls (P y).2.1 (P y).2.2.1 (P y).2.2.2.1 (P y).1.name pc ((P y).2.2.2.2 pc)
/-- cells and slots only grow -/
theorem am_run_grows {P : Nat → am_Y} (hP : ∀ y, am_SndM P y) : ∀ (n d : Nat) (own : String) (cc : ByteArray) (nL : Nat) (ret : Option FieldType) (nm : String) (c : am_Code) (pc : Nat) (lv st : List Value) (M : am_M) (r : Option Value) (M2 : am_M), (∀ pc, am_Snd P own cc nL ret nm pc (c pc)) → am_run P n d c pc lv st M = some (r, M2) → mC M ≤ mC M2 ∧ mW M ≤ mW M2 := by
  intro n
  induction n with
  | zero => intro d own cc nL ret nm c pc lv st M r M2 hc h; simp [am_run] at h
  | succ n ih =>
    intro d own cc nL ret nm c pc lv st M r M2 hc h
    rw [am_run] at h
    split at h
    · cases h
    · rename_i heq
      have h1 := ((hc pc lv st M).1 _ _ _ _ heq).1
      have h2 := ih _ own cc nL ret nm _ _ _ _ _ _ _ hc h
      exact ⟨Nat.le_trans h1.1 h2.1, Nat.le_trans h1.2 h2.2⟩
    · rename_i heq
      have h1 := ((hc pc lv st M).2.1 _ _ heq).1
      cases h
      rw [h1]
      exact ⟨Nat.le_refl _, Nat.le_refl _⟩
    · rename_i heq
      have h1 := ((hc pc lv st M).2.2 _ _ _ _ _ _ heq).1
      subst h1
      cases d with
      | zero => cases h
      | succ d' =>
        dsimp only at h
        split at h
        · cases h
        · rename_i r2 M3 h3
          have h4 := ih d' _ _ _ _ _ _ _ _ _ _ _ _ (hP _) h3
          have h2 := ih _ own cc nL ret nm _ _ _ _ _ _ _ hc h
          exact ⟨Nat.le_trans h4.1 h2.1, Nat.le_trans h4.2 h2.2⟩
/-- the machine follows a run: what a run that ends in M2 with r needs at its end is enough at its beginning -/
theorem am_run_V {P : Nat → am_Y} (hP : ∀ y, am_SndM P y) {G : am_G} {l : Launch} {d0 : Nat} (hmet : ∀ (n d y : Nat) (as : List Value) (M : am_M) (r : Option Value) (M2 : am_M), d < d0 → am_aok P y as → am_run P n d (P y).2.2.2.2 0 (am_pad (P y).2.2.1 (am_en as)) [] M = some (r, M2) → am_Met P G l y d as M r M2)
    {own : String} {cc : ByteArray} {nL : Nat} {ret : Option FieldType} {nm : String} {ac : am_Code} (hc : ∀ pc, am_Snd P own cc nL ret nm pc (ac pc)) {p : Program} {e : Env} {R : Room} {s : State} {m : MethodId} {args : Array Value} {below : List Frame} {meth : Method} {c : Code} {c0 w0 : Nat} {Q : State → Prop} (hC : am_Cx G own cc nL ret nm p s m args meth c)
    {r : Option Value} {M2 : am_M} (hc2 : mC M2 ≤ c0 + R.cells) (hw2 : mW M2 ≤ w0 + R.slots) (hend : ∀ (pc : Nat) (lv st : List Value), ac pc lv st M2 = some (.inr (.inl (r, M2))) → am_V G nL p l e R s m args below meth c c0 w0 Q pc lv st M2) :
    ∀ (n d : Nat) (pc : Nat) (lv st : List Value) (M : am_M), d ≤ d0 → am_run P n d ac pc lv st M = some (r, M2) → d + 1 ≤ R.frames → 64 * (d + 1) ≤ R.locals → am_V G nL p l e R s m args below meth c c0 w0 Q pc lv st M := by
  intro n
  induction n with
  | zero => intro d pc lv st M _ h; simp [am_run] at h
  | succ n ih =>
    intro d pc lv st M hd h hfr hlo
    rw [am_run] at h
    split at h
    · cases h
    · rename_i pc' lv' st' M' heq
      obtain ⟨h1, h2⟩ := (hc pc lv st M).1 _ _ _ _ heq
      have h3 := am_run_grows hP n d own cc nL ret nm ac _ _ _ _ _ _ hc h
      exact h2 G p l e R s m args below meth c c0 w0 Q hC (Nat.le_trans h3.1 hc2) (Nat.le_trans h3.2 hw2) (by omega) (by omega) (ih d _ _ _ _ hd h hfr hlo)
    · rename_i v M' heq
      have h1 := ((hc pc lv st M).2.1 _ _ heq).1
      cases h
      subst h1
      exact hend pc lv st heq
    · rename_i y as pc' lv' st' M' heq
      obtain ⟨h1, h0, h2⟩ := (hc pc lv st M).2.2 _ _ _ _ _ _ heq
      subst h1
      cases d with
      | zero => cases h
      | succ d' =>
        dsimp only at h
        split at h
        · cases h
        · rename_i r2 M3 h3
          have h4 := am_run_grows hP n d' _ _ _ _ _ _ _ _ _ _ _ _ (hP _) h3
          have h5 := am_run_grows hP n (d' + 1) own cc nL ret nm ac _ _ _ _ _ _ hc h
          exact h2 G p l e R s m args below meth c c0 w0 d' r2 M3 Q hC (hmet n d' _ _ _ _ _ (by omega) h0 h3) h4.1 h4.2 (Nat.le_trans h5.1 hc2) (Nat.le_trans h5.2 hw2) (by omega) (by omega) (ih (d' + 1) _ _ _ _ hd h hfr hlo)
