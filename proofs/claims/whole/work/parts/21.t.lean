def am_srt : Nat → List (Nat × am_Act) → Bool
  | _, [] => true
  | n, (k, _) :: t => decide (n ≤ k) && am_srt (k + 1) t
theorem am_srt_le : ∀ (t : List (Nat × am_Act)) (n i pc : Nat) (a : am_Act), am_srt n t = true → t[i]? = some (pc, a) → n ≤ pc := by
  intro t
  induction t with
  | nil => intro n i pc a _ h; simp at h
  | cons q t ih =>
    intro n i pc a hs h
    obtain ⟨k, b⟩ := q
    simp only [am_srt, Bool.and_eq_true, decide_eq_true_eq] at hs
    cases i with
    | zero => simp at h; obtain ⟨rfl, rfl⟩ := h; exact hs.1
    | succ i =>
      simp only [List.getElem?_cons_succ] at h
      have := ih (k + 1) i pc a hs.2 h
      omega
theorem am_at_ {t : List (Nat × am_Act)} {n : Nat} (i : Nat) {pc : Nat} {a : am_Act} (hs : am_srt n t = true) (h : t[i]? = some (pc, a)) : am_look t pc = a := by
  induction t generalizing n i with
  | nil => simp at h
  | cons q t ih =>
    obtain ⟨k, b⟩ := q
    simp only [am_srt, Bool.and_eq_true, decide_eq_true_eq] at hs
    cases i with
    | zero => simp at h; obtain ⟨rfl, rfl⟩ := h; rw [am_look, if_pos rfl]
    | succ i =>
      simp only [List.getElem?_cons_succ] at h
      have h1 := am_srt_le t (k + 1) i pc a hs.2 h
      rw [am_look, if_neg (by omega)]
      exact ih i hs.2 h
theorem t_0 : am_srt 0 tX11_put = true := by decide +kernel
theorem t_1 : am_look tX11_put 3 = k_nx (a_ild 2 4) := am_at_ 2 t_0 rfl
theorem t_2 (d : Nat) (v0 v1 : Value) (x : Int32) (st : List Value) (M : am_M) (Q : Option Value → am_M → Prop) : am_P am_P0 d (am_look tX11_put) 3 [v0, v1, .int x] st M Q ↔ am_P am_P0 d (am_look tX11_put) 4 [v0, v1, .int x] (.int x :: st) M Q := r_nx t_1 rfl
