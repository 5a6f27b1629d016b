/-! THE ABSTRACT MACHINE (AM): typed memory, numbered cells, one step a function; part 04: the machine follows it. -/
/-- a cell's kind and its length: kinds 0 .. 9 are arrays (am_ety), 10 + c an object of the class vwCl[c] -/
abbrev am_S : Type := Nat × Nat
/-- ints, longs, references by cell and place; the cells' kinds -/
abbrev am_M : Type := (Nat → Nat → Int32) × (Nat → Nat → Int64) × (Nat → Nat → Option Nat) × List am_S
def mI (M : am_M) (a j : Nat) : Int32 := M.1 a j
def mL (M : am_M) (a j : Nat) : Int64 := M.2.1 a j
def mR (M : am_M) (a j : Nat) : Option Nat := M.2.2.1 a j
def mS (M : am_M) : List am_S := M.2.2.2
def mK (M : am_M) (a : Nat) : Nat := ((mS M).getD a (99, 0)).1
def mN (M : am_M) (a : Nat) : Nat := ((mS M).getD a (99, 0)).2
def mC (M : am_M) : Nat := (mS M).length
def mW (M : am_M) : Nat := ((mS M).map Prod.snd).sum
def am_u {α : Type} (f : Nat → Nat → α) (a j : Nat) (v : α) : Nat → Nat → α := fun b k => if b = a ∧ k = j then v else f b k
def am_z {α : Type} (f : Nat → Nat → α) (a : Nat) (v : α) : Nat → Nat → α := fun b k => if b = a then v else f b k
def uI (M : am_M) (a j : Nat) (v : Int32) : am_M := (am_u M.1 a j v, M.2)
def uL (M : am_M) (a j : Nat) (v : Int64) : am_M := (M.1, am_u M.2.1 a j v, M.2.2)
def uR (M : am_M) (a j : Nat) (v : Option Nat) : am_M := (M.1, M.2.1, am_u M.2.2.1 a j v, M.2.2.2)
def uN (M : am_M) (sh : am_S) : am_M := (am_z M.1 (mC M) 0, am_z M.2.1 (mC M) 0, am_z M.2.2.1 (mC M) none, M.2.2.2 ++ [sh])
/-- n longs of the cell a from sp on, into the cell b from dp on -/
def uCL (M : am_M) (a sp b dp n : Nat) : am_M := (M.1, (fun c k => if c = b ∧ dp ≤ k ∧ k < dp + n then M.2.1 a (sp + (k - dp)) else M.2.1 c k), M.2.2)
/-- what comes of a step: the next place with locals, stack and memory; or an answer; or a call -/
abbrev am_O : Type := Option ((Nat × List Value × List Value × am_M) ⊕ ((Option Value × am_M) ⊕ (Nat × List Value × Nat × List Value × List Value × am_M)))
abbrev am_Act : Type := List Value → List Value → am_M → am_O
abbrev am_F : Type := List Value → List Value → am_M → Option (Nat × List Value × List Value × am_M)
abbrev am_Code : Type := Nat → am_Act
def k_nx (f : am_F) : am_Act := fun lv st M => (f lv st M).map Sum.inl
/-- a local that holds nothing -/
abbrev am_x : Value := .float 0
def am_long : Value → Bool
  | .long _ => true
  | _ => false
def am_flo : Value → Bool
  | .float _ => true
  | .double _ => true
  | _ => false
/-- a local is set; a long whose second half it was is gone -/
def am_st : List Value → Nat → Value → List Value
  | [], _, _ => []
  | _ :: xs, 0, v => v :: xs
  | x :: xs, i + 1, v => (if i = 0 ∧ am_long x = true then am_x else x) :: am_st xs i v
/-- a method's locals at its entry -/
def am_en : List Value → List Value
  | [] => []
  | v :: vs => if am_long v = true then v :: am_x :: am_en vs else v :: am_en vs
def am_pad (n : Nat) (l : List Value) : List Value := l ++ List.replicate (n - l.length) am_x
abbrev am_in (i : Int32) (n : Nat) : Prop := 0 ≤ i.toInt ∧ i.toInt < (n : Int)
def am_push : Option Value → List Value → List Value
  | none, st => st
  | some v, st => v :: st
/-- a method: its name, bytes, locals, type, and what its bytes do -/
abbrev am_Y : Type := MethodName × ByteArray × Nat × Option FieldType × am_Code
def am_run (P : Nat → am_Y) : Nat → Nat → am_Code → Nat → List Value → List Value → am_M → Option (Option Value × am_M)
  | 0, _, _, _, _, _, _ => none
  | n + 1, d, c, pc, lv, st, M =>
    match c pc lv st M with
    | none => none
    | some (.inl (pc', lv', st', M')) => am_run P n d c pc' lv' st' M'
    | some (.inr (.inl (v, M'))) => some (v, M')
    | some (.inr (.inr (y, as, pc', lv', st', M'))) =>
      match d with
      | 0 => none
      | d' + 1 =>
        match am_run P n d' (P y).2.2.2.2 0 (am_pad (P y).2.2.1 (am_en as)) [] M' with
        | none => none
        | some (r, M2) => am_run P n (d' + 1) c pc' lv' (am_push r st') M2
/-- from here the method comes to an end with Q -/
def am_P (P : Nat → am_Y) (d : Nat) (c : am_Code) (pc : Nat) (lv st : List Value) (M : am_M) (Q : Option Value → am_M → Prop) : Prop := ∃ n r M', am_run P n d c pc lv st M = some (r, M') ∧ Q r M'
/-- the method y, called with as at M, comes to an end with Q -/
def am_E (P : Nat → am_Y) (d : Nat) (y : Nat) (as : List Value) (M : am_M) (Q : Option Value → am_M → Prop) : Prop := am_P P d (P y).2.2.2.2 0 (am_pad (P y).2.2.1 (am_en as)) [] M Q
theorem am_run_more {P : Nat → am_Y} : ∀ (n d k e : Nat) (c : am_Code) (pc : Nat) (lv st : List Value) (M : am_M) (x : Option Value × am_M), am_run P n d c pc lv st M = some x → am_run P (n + k) (d + e) c pc lv st M = some x := by
  intro n
  induction n with
  | zero => intro d k e c pc lv st M x h; simp [am_run] at h
  | succ n ih =>
    intro d k e c pc lv st M x h
    rw [Nat.add_right_comm n 1 k]
    rw [am_run] at h ⊢
    split at h
    · cases h
    · exact ih _ _ _ _ _ _ _ _ _ h
    · exact h
    · cases d with
      | zero => cases h
      | succ d' =>
        rw [Nat.add_right_comm d' 1 e]
        dsimp only at h ⊢
        split at h
        · cases h
        · rename_i r M2 h2
          rw [ih d' k e _ _ _ _ _ _ h2]
          have h3 := ih (d' + 1) k e _ _ _ _ _ _ h
          rw [Nat.add_right_comm d' 1 e] at h3
          exact h3
theorem am_P_mono {P : Nat → am_Y} {d : Nat} {c : am_Code} {pc : Nat} {lv st : List Value} {M : am_M} {Q Q' : Option Value → am_M → Prop} (h : am_P P d c pc lv st M Q) (hq : ∀ r M', Q r M' → Q' r M') : am_P P d c pc lv st M Q' := by
  obtain ⟨n, r, M', h1, h2⟩ := h
  exact ⟨n, r, M', h1, hq _ _ h2⟩
theorem am_P_deep {P : Nat → am_Y} {d d2 : Nat} {c : am_Code} {pc : Nat} {lv st : List Value} {M : am_M} {Q : Option Value → am_M → Prop} (h : am_P P d c pc lv st M Q) (hd : d ≤ d2) : am_P P d2 c pc lv st M Q := by
  obtain ⟨n, r, M', h1, h2⟩ := h
  obtain ⟨k, rfl⟩ := Nat.exists_eq_add_of_le hd
  exact ⟨n, r, M', am_run_more n d 0 k c pc lv st M _ h1, h2⟩
/-- what is to be shown of a step's outcome -/
def am_W (P : Nat → am_Y) (d : Nat) (c : am_Code) (Q : Option Value → am_M → Prop) : am_O → Prop
  | none => False
  | some (.inl (pc', lv', st', M')) => am_P P d c pc' lv' st' M' Q
  | some (.inr (.inl (v, M'))) => Q v M'
  | some (.inr (.inr (y, as, pc', lv', st', M'))) => ∃ d', d = d' + 1 ∧ am_E P d' y as M' (fun r M2 => am_P P d c pc' lv' (am_push r st') M2 Q)
theorem am_P_step {P : Nat → am_Y} {d : Nat} {c : am_Code} {pc : Nat} {lv st : List Value} {M : am_M} {Q : Option Value → am_M → Prop} : am_P P d c pc lv st M Q ↔ am_W P d c Q (c pc lv st M) := by
  constructor
  · rintro ⟨n, r, M', h1, h2⟩
    cases n with
    | zero => simp [am_run] at h1
    | succ n =>
      rw [am_run] at h1
      split at h1
      · cases h1
      · rename_i heq
        rw [heq]
        exact ⟨n, r, M', h1, h2⟩
      · rename_i heq
        rw [heq]
        cases h1
        exact h2
      · rename_i heq
        rw [heq]
        cases d with
        | zero => cases h1
        | succ d' =>
          dsimp only at h1
          split at h1
          · cases h1
          · rename_i r2 M2 h3
            exact ⟨d', rfl, n, r2, M2, h3, n, r, M', h1, h2⟩
  · intro h
    match heq : c pc lv st M with
    | none => rw [heq] at h; exact h.elim
    | some (.inl (pc', lv', st', M')) =>
      rw [heq] at h
      obtain ⟨n, r, M2, h1, h2⟩ := h
      exact ⟨n + 1, r, M2, by rw [am_run, heq]; exact h1, h2⟩
    | some (.inr (.inl (v, M'))) =>
      rw [heq] at h
      exact ⟨1, v, M', by rw [am_run, heq], h⟩
    | some (.inr (.inr (y, as, pc', lv', st', M'))) =>
      rw [heq] at h
      obtain ⟨d', rfl, n, r, M2, h1, n2, r2, M3, h2, h3⟩ := h
      refine ⟨n + n2 + 1, r2, M3, ?_, h3⟩
      rw [am_run, heq]
      dsimp only
      have h5 : am_run P (n + n2) d' (P y).2.2.2.2 0 (am_pad (P y).2.2.1 (am_en as)) [] M' = some (r, M2) := am_run_more n d' n2 0 _ _ _ _ _ _ h1
      rw [h5]
      dsimp only
      have h4 := am_run_more n2 (d' + 1) n 0 _ _ _ _ _ _ h2
      rw [Nat.add_comm n2 n] at h4
      exact h4
