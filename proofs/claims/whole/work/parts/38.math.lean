/-! Math's members: the machine runs them by their own rows -/
def a_m2i (f : Int32 → Int32 → Int32) (nx : Nat) : am_F := fun lv st M => match st with
  | .int y :: .int x :: st' => if am_cs st' ≤ 8 then some (nx, lv, .int (f x y) :: st', M) else none
  | _ => none
def a_m1i (f : Int32 → Int32) (nx : Nat) : am_F := fun lv st M => match st with
  | .int x :: st' => if am_cs st' ≤ 8 then some (nx, lv, .int (f x) :: st', M) else none
  | _ => none
def a_m2l (f : Int64 → Int64 → Int64) (nx : Nat) : am_F := fun lv st M => match st with
  | .long y :: .long x :: st' => if am_cs st' ≤ 8 then some (nx, lv, .long (f x y) :: st', M) else none
  | _ => none
section
variable {own : String} {cc : ByteArray} {nL : Nat} {ret : Option FieldType} {nm : String} {pc : Nat}
theorem am_s2 {f : am_F} (h : ∀ (lv st : List Value) (M : am_M) (pc' : Nat) (lv' st' : List Value) (M' : am_M), f lv st M = some (pc', lv', st', M') → lv' = lv ∧ M' = M ∧
    ∀ (G : am_G) (p : Program) (l : Launch) (e : Env) (R : Room) (s : State) (m : MethodId) (args : Array Value) (below : List Frame) (meth : Method) (c : Code) (H : Heap) (locs : List Loc) (ls : Array Slot) (kc ks : Nat) (Q : State → Prop), am_Cx G own cc nL ret nm p s m args meth c → am_L G nL ls lv → 1 ≤ R.frames → 64 ≤ R.locals → kc ≤ R.cells → ks ≤ R.slots → W p l e R s m args below meth c H locs kc ks Q (F0 m pc' ls (st'.map (am_v G))) → W p l e R s m args below meth c H locs kc ks Q (F0 m pc ls (st.map (am_v G)))) : am_Snd1 own cc nL ret nm pc f := by
  intro lv st M pc' lv' st' M' he
  obtain ⟨rfl, rfl, h3⟩ := h lv st M pc' lv' st' M' he
  refine ⟨⟨Nat.le_refl _, Nat.le_refl _⟩, ?_⟩
  intro G p l e R s m args below meth c c0 w0 Q hC h1 h2 hf hl hV H locs ls kc ks hR hS hL hkc hks
  exact h3 G p l e R s m args below meth c H locs ls kc ks Q hC hL hf hl (by omega) (by omega) (hV H locs ls kc ks hR hS hL hkc hks)
theorem s_mmax {i : Nat} (hdg : decode cc pc = .ok (.invokestatic i, 3)) (hl : Cond.methodLink own i Lib.Math.max.name ∈ am_ws) (h2 : Cond.static Lib.Math.max.name ∈ am_ws) (h3 : Cond.initialized "java/lang/Math" ∈ am_ws) (h4 : Cond.code Lib.Math.max.name Lib.Math.max.code 2 (some .int) ∈ am_ws) : am_Snd1 own cc nL ret nm pc (a_m2i (fun x y => if x < y then y else x) (pc + 3)) := by
  refine am_s2 fun lv st M pc' lv' st' M' he => ?_
  unfold a_m2i at he
  split at he
  · split at he
    · rename_i hcs
      cases he
      exact ⟨rfl, rfl, fun G p l e R s m args below meth c H locs ls kc ks Q hC hL hf hlo hk1 hk2 k => va_mmax hC.1 hC.2.1 (hC.2.2.1.trans hL.2.1.symm) hC.2.2.2.1 (hC.2.2.2.2.1 _ hl) (hC.2.2.2.2.1 _ h2) (hC.2.2.2.2.1 _ h3) (hC.2.2.2.2.1 _ h4) hf (by rw [am_cs_eq]; omega) hk1 hk2 hdg k⟩
    · cases he
  · cases he
theorem s_mmin {i : Nat} (hdg : decode cc pc = .ok (.invokestatic i, 3)) (hl : Cond.methodLink own i Lib.Math.min.name ∈ am_ws) (h2 : Cond.static Lib.Math.min.name ∈ am_ws) (h3 : Cond.initialized "java/lang/Math" ∈ am_ws) (h4 : Cond.code Lib.Math.min.name Lib.Math.min.code 2 (some .int) ∈ am_ws) : am_Snd1 own cc nL ret nm pc (a_m2i (fun x y => if y < x then y else x) (pc + 3)) := by
  refine am_s2 fun lv st M pc' lv' st' M' he => ?_
  unfold a_m2i at he
  split at he
  · split at he
    · rename_i hcs
      cases he
      exact ⟨rfl, rfl, fun G p l e R s m args below meth c H locs ls kc ks Q hC hL hf hlo hk1 hk2 k => va_mmin hC.1 hC.2.1 (hC.2.2.1.trans hL.2.1.symm) hC.2.2.2.1 (hC.2.2.2.2.1 _ hl) (hC.2.2.2.2.1 _ h2) (hC.2.2.2.2.1 _ h3) (hC.2.2.2.2.1 _ h4) hf (by rw [am_cs_eq]; omega) hk1 hk2 hdg k⟩
    · cases he
  · cases he
end
theorem t_math : Cond.code Lib.Math.max.name Lib.Math.max.code 2 (some .int) ∈ am_ws := wd888
theorem t_math2 : Cond.code Lib.MathLoose.max_long.x Lib.MathLoose.max_long.code 4 (some .long) ∈ am_ws := wd882
