/-! AM's steps that leave memory as it is, and that the machine follows them -/
def a_c (v : Value) (nx : Nat) : am_F := fun lv st M => some (nx, lv, v :: st, M)
def a_ild (k nx : Nat) : am_F := fun lv st M => match lv[k]? with
  | some (.int x) => some (nx, lv, .int x :: st, M)
  | _ => none
def a_lld (k nx : Nat) : am_F := fun lv st M => match lv[k]? with
  | some (.long x) => some (nx, lv, .long x :: st, M)
  | _ => none
def a_ald (k nx : Nat) : am_F := fun lv st M => match lv[k]? with
  | some (.ref x) => some (nx, lv, .ref x :: st, M)
  | some .null => some (nx, lv, .null :: st, M)
  | some (.retAddr z) => some (nx, lv, .retAddr z :: st, M)
  | _ => none
def a_ist (k nx : Nat) : am_F := fun lv st M => match st with
  | .int x :: st' => some (nx, am_st lv k (.int x), st', M)
  | _ => none
def a_lst (k nx : Nat) : am_F := fun lv st M => match st with
  | .long x :: st' => some (nx, (am_st lv k (.long x)).set (k + 1) am_x, st', M)
  | _ => none
def a_ast (k nx : Nat) : am_F := fun lv st M => match st with
  | .ref x :: st' => some (nx, am_st lv k (.ref x), st', M)
  | .null :: st' => some (nx, am_st lv k .null, st', M)
  | _ => none
def a_inc (k : Nat) (d : Int32) (nx : Nat) : am_F := fun lv st M => match lv[k]? with
  | some (.int x) => some (nx, am_st lv k (.int (x + d)), st, M)
  | _ => none
def a_bi (f : Int32 → Int32 → Int32) (nx : Nat) : am_F := fun lv st M => match st with
  | .int y :: .int x :: st' => some (nx, lv, .int (f x y) :: st', M)
  | _ => none
def a_bd (f : Int32 → Int32 → Int32) (nx : Nat) : am_F := fun lv st M => match st with
  | .int y :: .int x :: st' => if y = 0 then none else some (nx, lv, .int (f x y) :: st', M)
  | _ => none
def a_ui (f : Int32 → Int32) (nx : Nat) : am_F := fun lv st M => match st with
  | .int x :: st' => some (nx, lv, .int (f x) :: st', M)
  | _ => none
def a_bl (f : Int64 → Int64 → Int64) (nx : Nat) : am_F := fun lv st M => match st with
  | .long y :: .long x :: st' => some (nx, lv, .long (f x y) :: st', M)
  | _ => none
def a_bm (f : Int64 → Int64 → Int64) (nx : Nat) : am_F := fun lv st M => match st with
  | .long y :: .long x :: st' => if y = 0 then none else some (nx, lv, .long (f x y) :: st', M)
  | _ => none
def a_ls (f : Int64 → Int32 → Int64) (nx : Nat) : am_F := fun lv st M => match st with
  | .int y :: .long x :: st' => some (nx, lv, .long (f x y) :: st', M)
  | _ => none
def a_i2l (nx : Nat) : am_F := fun lv st M => match st with
  | .int x :: st' => some (nx, lv, .long x.toInt64 :: st', M)
  | _ => none
def a_l2i (nx : Nat) : am_F := fun lv st M => match st with
  | .long x :: st' => some (nx, lv, .int x.toInt32 :: st', M)
  | _ => none
def a_lcmp (nx : Nat) : am_F := fun lv st M => match st with
  | .long y :: .long x :: st' => some (nx, lv, .int (lg_cmp x y) :: st', M)
  | _ => none
def a_dup (nx : Nat) : am_F := fun lv st M => match st with
  | v :: st' => if v.category = 1 then some (nx, lv, v :: v :: st', M) else none
  | _ => none
def a_dup2 (nx : Nat) : am_F := fun lv st M => match st with
  | v :: w :: st' => if v.category = 1 ∧ w.category = 1 then some (nx, lv, v :: w :: v :: w :: st', M) else none
  | _ => none
def a_dup2l (nx : Nat) : am_F := fun lv st M => match st with
  | .long x :: st' => some (nx, lv, .long x :: .long x :: st', M)
  | _ => none
def a_pop (nx : Nat) : am_F := fun lv st M => match st with
  | v :: st' => if v.category = 1 then some (nx, lv, st', M) else none
  | _ => none
def a_if (b : Int32 → Bool) (tg nx : Nat) : am_F := fun lv st M => match st with
  | .int x :: st' => some (if b x = true then tg else nx, lv, st', M)
  | _ => none
def a_icmp (b : Int32 → Int32 → Bool) (tg nx : Nat) : am_F := fun lv st M => match st with
  | .int y :: .int x :: st' => some (if b x y = true then tg else nx, lv, st', M)
  | _ => none
def a_goto (tg : Nat) : am_F := fun lv st M => some (tg, lv, st, M)
def a_ifnn (tg nx : Nat) : am_F := fun lv st M => match st with
  | .null :: st' => some (nx, lv, st', M)
  | .ref _ :: st' => some (tg, lv, st', M)
  | _ => none
def a_sw (t : Int32 → Nat) : am_F := fun lv st M => match st with
  | .int x :: st' => some (t x, lv, st', M)
  | _ => none
section
variable {own : String} {cc : ByteArray} {nL : Nat} {ret : Option FieldType} {nm : String} {pc : Nat}
theorem am_s0 {f : am_F} (h : ∀ (lv st : List Value) (M : am_M) (pc' : Nat) (lv' st' : List Value) (M' : am_M), f lv st M = some (pc', lv', st', M') → lv' = lv ∧ M' = M ∧
    ∀ (G : am_G) (p : Program) (l : Launch) (e : Env) (R : Room) (s : State) (m : MethodId) (args : Array Value) (below : List Frame) (meth : Method) (c : Code) (H : Heap) (locs : List Loc) (ls : Array Slot) (kc ks : Nat) (Q : State → Prop), am_Cx G own cc nL ret nm p s m args meth c → am_L G nL ls lv → W p l e R s m args below meth c H locs kc ks Q (F0 m pc' ls (st'.map (am_v G))) → W p l e R s m args below meth c H locs kc ks Q (F0 m pc ls (st.map (am_v G)))) : am_Snd1 own cc nL ret nm pc f := by
  intro lv st M pc' lv' st' M' he
  obtain ⟨rfl, rfl, h3⟩ := h lv st M pc' lv' st' M' he
  refine ⟨⟨Nat.le_refl _, Nat.le_refl _⟩, ?_⟩
  intro G p l e R s m args below meth c c0 w0 Q hC _ _ _ _ hV H locs ls kc ks hR hS hL hkc hks
  exact h3 G p l e R s m args below meth c H locs ls kc ks Q hC hL (hV H locs ls kc ks hR hS hL hkc hks)
theorem s_iconst {n : Int} {v : Int32} (hdg : decode cc pc = .ok (.iconst n, 1)) (hv : Int32.ofInt n = v) : am_Snd1 own cc nL ret nm pc (a_c (.int v) (pc + 1)) := by
  refine am_s0 fun lv st M pc' lv' st' M' he => ?_
  cases he
  exact ⟨rfl, rfl, fun G p l e R s m args below meth c H locs ls kc ks Q hC hL k => lv_iconst hC.1 hC.2.1 hdg hv k⟩
theorem s_bipush {n : Int} {v : Int32} (hdg : decode cc pc = .ok (.bipush n, 2)) (hv : (Int8.ofInt n).toInt32 = v) : am_Snd1 own cc nL ret nm pc (a_c (.int v) (pc + 2)) := by
  refine am_s0 fun lv st M pc' lv' st' M' he => ?_
  cases he
  exact ⟨rfl, rfl, fun G p l e R s m args below meth c H locs ls kc ks Q hC hL k => lv_bipush hC.1 hC.2.1 hdg hv k⟩
theorem s_sipush {n : Int} {v : Int32} (hdg : decode cc pc = .ok (.sipush n, 3)) (hv : (Int16.ofInt n).toInt32 = v) : am_Snd1 own cc nL ret nm pc (a_c (.int v) (pc + 3)) := by
  refine am_s0 fun lv st M pc' lv' st' M' he => ?_
  cases he
  exact ⟨rfl, rfl, fun G p l e R s m args below meth c H locs ls kc ks Q hC hL k => lv_sipush hC.1 hC.2.1 hdg hv k⟩
theorem s_lconst {n : Fin 2} {v : Int64} (hdg : decode cc pc = .ok (.lconst n, 1)) (hv : Int64.ofNat (n : Nat) = v) : am_Snd1 own cc nL ret nm pc (a_c (.long v) (pc + 1)) := by
  refine am_s0 fun lv st M pc' lv' st' M' he => ?_
  cases he
  exact ⟨rfl, rfl, fun G p l e R s m args below meth c H locs ls kc ks Q hC hL k => lv_lconst hC.1 hC.2.1 hdg hv k⟩
theorem s_ldc2 {i : Nat} {v : Int64} (hdg : decode cc pc = .ok (.ldc2_w i, 3)) (hw : Cond.constantLong own i v ∈ am_ws) : am_Snd1 own cc nL ret nm pc (a_c (.long v) (pc + 3)) := by
  refine am_s0 fun lv st M pc' lv' st' M' he => ?_
  cases he
  exact ⟨rfl, rfl, fun G p l e R s m args below meth c H locs ls kc ks Q hC hL k => lv_ldc2 hC.1 hC.2.1 hC.2.2.2.1 (hC.2.2.2.2.1 _ hw) hdg k⟩
theorem s_ldc {i : Nat} {v : Int32} (hdg : decode cc pc = .ok (.ldc i, 2)) (hw : Cond.constant own i v ∈ am_ws) : am_Snd1 own cc nL ret nm pc (a_c (.int v) (pc + 2)) := by
  refine am_s0 fun lv st M pc' lv' st' M' he => ?_
  cases he
  exact ⟨rfl, rfl, fun G p l e R s m args below meth c H locs ls kc ks Q hC hL k => lv_ldc hC.1 hC.2.1 hC.2.2.2.1 (hC.2.2.2.2.1 _ hw) hdg k⟩
theorem s_iloadn {k : Fin 4} {i : Nat} (hdg : decode cc pc = .ok (.iload_n k, 1)) (hi : (k : Nat) = i) : am_Snd1 own cc nL ret nm pc (a_ild i (pc + 1)) := by
  refine am_s0 fun lv st M pc' lv' st' M' he => ?_
  unfold a_ild at he
  split at he <;> cases he
  rename_i x hx
  exact ⟨rfl, rfl, fun G p l e R s m args below meth c H locs ls kc ks Q hC hL k => lv_iload_n hC.1 hC.2.1 hdg hi (hL.2.2.2 _ _ hx rfl) k⟩
theorem s_iload {i : Nat} (hdg : decode cc pc = .ok (.iload i, 2)) : am_Snd1 own cc nL ret nm pc (a_ild i (pc + 2)) := by
  refine am_s0 fun lv st M pc' lv' st' M' he => ?_
  unfold a_ild at he
  split at he <;> cases he
  rename_i x hx
  exact ⟨rfl, rfl, fun G p l e R s m args below meth c H locs ls kc ks Q hC hL k => lv_iload hC.1 hC.2.1 hdg (hL.2.2.2 _ _ hx rfl) k⟩
theorem s_lloadn {k : Fin 4} {i : Nat} (hdg : decode cc pc = .ok (.lload_n k, 1)) (hi : (k : Nat) = i) : am_Snd1 own cc nL ret nm pc (a_lld i (pc + 1)) := by
  refine am_s0 fun lv st M pc' lv' st' M' he => ?_
  unfold a_lld at he
  split at he <;> cases he
  rename_i x hx
  exact ⟨rfl, rfl, fun G p l e R s m args below meth c H locs ls kc ks Q hC hL k => lv_lload_n hC.1 hC.2.1 hdg hi (hL.2.2.2 _ _ hx rfl) k⟩
theorem s_lload {i : Nat} (hdg : decode cc pc = .ok (.lload i, 2)) : am_Snd1 own cc nL ret nm pc (a_lld i (pc + 2)) := by
  refine am_s0 fun lv st M pc' lv' st' M' he => ?_
  unfold a_lld at he
  split at he <;> cases he
  rename_i x hx
  exact ⟨rfl, rfl, fun G p l e R s m args below meth c H locs ls kc ks Q hC hL k => lv_lload hC.1 hC.2.1 hdg (hL.2.2.2 _ _ hx rfl) k⟩
theorem s_aloadn {k : Fin 4} {i : Nat} (hdg : decode cc pc = .ok (.aload_n k, 1)) (hi : (k : Nat) = i) : am_Snd1 own cc nL ret nm pc (a_ald i (pc + 1)) := by
  refine am_s0 fun lv st M pc' lv' st' M' he => ?_
  unfold a_ald at he
  split at he <;> cases he
  · rename_i x hx
    exact ⟨rfl, rfl, fun G p l e R s m args below meth c H locs ls kc ks Q hC hL k => lv_aload_n hC.1 hC.2.1 hdg hi (hL.2.2.2 _ _ hx rfl) k⟩
  · rename_i hx
    exact ⟨rfl, rfl, fun G p l e R s m args below meth c H locs ls kc ks Q hC hL k => lv_aload_nN hC.1 hC.2.1 hdg hi (hL.2.2.2 _ _ hx rfl) k⟩
  · rename_i x hx
    refine ⟨rfl, rfl, fun G p l e R s m args below meth c H locs ls kc ks Q hC hL k => ?_⟩
    have h := hL.2.2.2 _ _ hx rfl
    rw [List.map_cons] at k
    by_cases hz : x = 3 ∧ G.2.1.1 4 = 0
    · have e : am_v G (.retAddr x) = .null := if_pos hz
      rw [e] at h k
      exact lv_aload_nN hC.1 hC.2.1 hdg hi h k
    · have e : am_v G (.retAddr x) = .ref (G.2.1.1 x) := if_neg hz
      rw [e] at h k
      exact lv_aload_n hC.1 hC.2.1 hdg hi h k
theorem s_aload {i : Nat} (hdg : decode cc pc = .ok (.aload i, 2)) : am_Snd1 own cc nL ret nm pc (a_ald i (pc + 2)) := by
  refine am_s0 fun lv st M pc' lv' st' M' he => ?_
  unfold a_ald at he
  split at he <;> cases he
  · rename_i x hx
    exact ⟨rfl, rfl, fun G p l e R s m args below meth c H locs ls kc ks Q hC hL k => lv_aload hC.1 hC.2.1 hdg (hL.2.2.2 _ _ hx rfl) k⟩
  · rename_i hx
    exact ⟨rfl, rfl, fun G p l e R s m args below meth c H locs ls kc ks Q hC hL k => lv_aloadN hC.1 hC.2.1 hdg (hL.2.2.2 _ _ hx rfl) k⟩
  · rename_i x hx
    refine ⟨rfl, rfl, fun G p l e R s m args below meth c H locs ls kc ks Q hC hL k => ?_⟩
    have h := hL.2.2.2 _ _ hx rfl
    rw [List.map_cons] at k
    by_cases hz : x = 3 ∧ G.2.1.1 4 = 0
    · have e : am_v G (.retAddr x) = .null := if_pos hz
      rw [e] at h k
      exact lv_aloadN hC.1 hC.2.1 hdg h k
    · have e : am_v G (.retAddr x) = .ref (G.2.1.1 x) := if_neg hz
      rw [e] at h k
      exact lv_aload hC.1 hC.2.1 hdg h k
theorem am_s1 {f : am_F} (h : ∀ (lv st : List Value) (M : am_M) (pc' : Nat) (lv' st' : List Value) (M' : am_M), f lv st M = some (pc', lv', st', M') → M' = M ∧
    ∀ (G : am_G) (p : Program) (l : Launch) (e : Env) (R : Room) (s : State) (m : MethodId) (args : Array Value) (below : List Frame) (meth : Method) (c : Code) (H : Heap) (locs : List Loc) (ls : Array Slot) (kc ks : Nat) (Q : State → Prop), am_Cx G own cc nL ret nm p s m args meth c → am_L G nL ls lv → (∀ ls' : Array Slot, am_L G nL ls' lv' → W p l e R s m args below meth c H locs kc ks Q (F0 m pc' ls' (st'.map (am_v G)))) → W p l e R s m args below meth c H locs kc ks Q (F0 m pc ls (st.map (am_v G)))) : am_Snd1 own cc nL ret nm pc f := by
  intro lv st M pc' lv' st' M' he
  obtain ⟨rfl, h3⟩ := h lv st M pc' lv' st' M' he
  refine ⟨⟨Nat.le_refl _, Nat.le_refl _⟩, ?_⟩
  intro G p l e R s m args below meth c c0 w0 Q hC _ _ _ _ hV H locs ls kc ks hR hS hL hkc hks
  exact h3 G p l e R s m args below meth c H locs ls kc ks Q hC hL (fun ls' hL' => hV H locs ls' kc ks hR hS hL' hkc hks)
theorem s_istoren {k : Fin 4} {i : Nat} (hdg : decode cc pc = .ok (.istore_n k, 1)) (hi : (k : Nat) = i) (hn : i < nL) : am_Snd1 own cc nL ret nm pc (a_ist i (pc + 1)) := by
  refine am_s1 fun lv st M pc' lv' st' M' he => ?_
  unfold a_ist at he
  split at he <;> cases he
  exact ⟨rfl, fun G p l e R s m args below meth c H locs ls kc ks Q hC hL k => lv_istore_n hC.1 hC.2.1 hdg hi hL.has hn rfl (fun ls' h' => k ls' (hL.put h'))⟩
theorem s_istore {i : Nat} (hdg : decode cc pc = .ok (.istore i, 2)) (hn : i < nL) : am_Snd1 own cc nL ret nm pc (a_ist i (pc + 2)) := by
  refine am_s1 fun lv st M pc' lv' st' M' he => ?_
  unfold a_ist at he
  split at he <;> cases he
  exact ⟨rfl, fun G p l e R s m args below meth c H locs ls kc ks Q hC hL k => lv_istore hC.1 hC.2.1 hdg hL.has hn rfl (fun ls' h' => k ls' (hL.put h'))⟩
theorem s_lstoren {k : Fin 4} {i : Nat} (hdg : decode cc pc = .ok (.lstore_n k, 1)) (hi : (k : Nat) = i) (hn : i + 1 < nL) : am_Snd1 own cc nL ret nm pc (a_lst i (pc + 1)) := by
  refine am_s1 fun lv st M pc' lv' st' M' he => ?_
  unfold a_lst at he
  split at he <;> cases he
  exact ⟨rfl, fun G p l e R s m args below meth c H locs ls kc ks Q hC hL k => lv_lstore_n hC.1 hC.2.1 hdg hi hL.has hn rfl (fun ls' h' => k ls' (hL.put2 h'))⟩
theorem s_lstore {i : Nat} (hdg : decode cc pc = .ok (.lstore i, 2)) (hn : i + 1 < nL) : am_Snd1 own cc nL ret nm pc (a_lst i (pc + 2)) := by
  refine am_s1 fun lv st M pc' lv' st' M' he => ?_
  unfold a_lst at he
  split at he <;> cases he
  exact ⟨rfl, fun G p l e R s m args below meth c H locs ls kc ks Q hC hL k => lv_lstore hC.1 hC.2.1 hdg hL.has hn rfl (fun ls' h' => k ls' (hL.put2 h'))⟩
theorem s_astoren {k : Fin 4} {i : Nat} (hdg : decode cc pc = .ok (.astore_n k, 1)) (hi : (k : Nat) = i) (hn : i < nL) : am_Snd1 own cc nL ret nm pc (a_ast i (pc + 1)) := by
  refine am_s1 fun lv st M pc' lv' st' M' he => ?_
  unfold a_ast at he
  split at he <;> cases he
  · exact ⟨rfl, fun G p l e R s m args below meth c H locs ls kc ks Q hC hL k => lv_astore_n hC.1 hC.2.1 hdg hi hL.has hn rfl (fun ls' h' => k ls' (hL.put h'))⟩
  · exact ⟨rfl, fun G p l e R s m args below meth c H locs ls kc ks Q hC hL k => lv_astore_nN hC.1 hC.2.1 hdg hi hL.has hn rfl (fun ls' h' => k ls' (hL.put h'))⟩
theorem s_astore {i : Nat} (hdg : decode cc pc = .ok (.astore i, 2)) (hn : i < nL) : am_Snd1 own cc nL ret nm pc (a_ast i (pc + 2)) := by
  refine am_s1 fun lv st M pc' lv' st' M' he => ?_
  unfold a_ast at he
  split at he <;> cases he
  · exact ⟨rfl, fun G p l e R s m args below meth c H locs ls kc ks Q hC hL k => lv_astore hC.1 hC.2.1 hdg hL.has hn rfl (fun ls' h' => k ls' (hL.put h'))⟩
  · exact ⟨rfl, fun G p l e R s m args below meth c H locs ls kc ks Q hC hL k => lv_astoreN hC.1 hC.2.1 hdg hL.has hn rfl (fun ls' h' => k ls' (hL.put h'))⟩
theorem s_iinc {i : Nat} {n : Int} {d : Int32} (hdg : decode cc pc = .ok (.iinc i n, 3)) (hd : Int32.ofInt n = d) (hn : i < nL) : am_Snd1 own cc nL ret nm pc (a_inc i d (pc + 3)) := by
  refine am_s1 fun lv st M pc' lv' st' M' he => ?_
  unfold a_inc at he
  split at he <;> cases he
  rename_i x hx
  refine ⟨rfl, fun G p l e R s m args below meth c H locs ls kc ks Q hC hL k => ?_⟩
  obtain ⟨j, hj⟩ := List.getElem?_of_mem (am_al_mem.mpr ⟨_, hx, rfl, rfl⟩ : (i, am_v G (.int x)) ∈ am_al G lv)
  exact lv_iinc hC.1 hC.2.1 hdg hL.has hj (by rw [hd]) hn rfl (fun ls' h' => k ls' (hL.put h'))
end
