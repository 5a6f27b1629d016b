/-! a place in a table; a method at its entry -/
def am_srt : Nat → List (Nat × am_Act) → Bool
  | _, [] => true
  | n, (k, _) :: t => decide (n ≤ k) && am_srt (k + 1) t
theorem am_srt_le : ∀ (t : List (Nat × am_Act)) (n i pc : Nat) (a : am_Act), am_srt n t = true → t[i]? = some (pc, a) → n ≤ pc := by
  intro t
  induction t with
  | nil => intro n i pc a _ h; simp at h
  | cons q t ih =>
    intro n i pc a hs h
    obtain ⟨k, b⟩ := q
    simp only [am_srt, Bool.and_eq_true, decide_eq_true_eq] at hs
    cases i with
    | zero => simp at h; obtain ⟨rfl, rfl⟩ := h; exact hs.1
    | succ i =>
      simp only [List.getElem?_cons_succ] at h
      have := ih (k + 1) i pc a hs.2 h
      omega
theorem am_at_ {t : List (Nat × am_Act)} {n : Nat} (i : Nat) {pc : Nat} {a : am_Act} (hs : am_srt n t = true) (h : t[i]? = some (pc, a)) : am_look t pc = a := by
  induction t generalizing n i with
  | nil => simp at h
  | cons q t ih =>
    obtain ⟨k, b⟩ := q
    simp only [am_srt, Bool.and_eq_true, decide_eq_true_eq] at hs
    cases i with
    | zero => simp at h; obtain ⟨rfl, rfl⟩ := h; rw [am_look, if_pos rfl]
    | succ i =>
      simp only [List.getElem?_cons_succ] at h
      have h1 := am_srt_le t (k + 1) i pc a hs.2 h
      rw [am_look, if_neg (by omega)]
      exact ih i hs.2 h
theorem am_E_of {P : Nat → am_Y} {y d : Nat} {as lv : List Value} {M : am_M} {Q : Option Value → am_M → Prop} {ym : MethodName} {bc : ByteArray} {mx : Nat} {rt : Option FieldType} {cd : am_Code} (hy : P y = (ym, bc, mx, rt, cd)) (hl : am_pad mx (am_en as) = lv) : am_E P d y as M Q ↔ am_P P d cd 0 lv [] M Q := by
  unfold am_E
  rw [hy, hl]
