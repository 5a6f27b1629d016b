/-! loops; rows of memory; first places -/
section
variable {P : Nat → am_Y} {d : Nat} {c : am_Code} {pc : Nat} {Q : Option Value → am_M → Prop}
theorem am_for (lv : Nat → List Value) (mm : Nat → am_M) (n : Nat) (h : ∀ k, k < n → (am_P P d c pc (lv k) [] (mm k) Q ↔ am_P P d c pc (lv (k + 1)) [] (mm (k + 1)) Q)) : am_P P d c pc (lv 0) [] (mm 0) Q ↔ am_P P d c pc (lv n) [] (mm n) Q := by
  induction n with
  | zero => exact Iff.rfl
  | succ n ih => exact (ih (fun k hk => h k (by omega))).trans (h n (by omega))
/-- a loop with locals of no account -/
theorem am_forJ {J : Type} (lv : Nat → J → List Value) (mm : Nat → am_M) (n : Nat) (h : ∀ k, k < n → ∀ j, ∃ j', (am_P P d c pc (lv k j) [] (mm k) Q ↔ am_P P d c pc (lv (k + 1) j') [] (mm (k + 1)) Q)) (j0 : J) : ∃ j, (am_P P d c pc (lv 0 j0) [] (mm 0) Q ↔ am_P P d c pc (lv n j) [] (mm n) Q) := by
  induction n with
  | zero => exact ⟨j0, Iff.rfl⟩
  | succ n ih =>
    obtain ⟨j, hj⟩ := ih (fun k hk => h k (by omega))
    obtain ⟨j', hj'⟩ := h n (by omega) j
    exact ⟨j', hj.trans hj'⟩
/-- a loop by what holds at its head -/
theorem am_forI (I : Nat → List Value → am_M → Prop) (n : Nat) (h : ∀ k lv M, k < n → I k lv M → ∃ lv' M', I (k + 1) lv' M' ∧ (am_P P d c pc lv' [] M' Q → am_P P d c pc lv [] M Q)) (hn : ∀ lv M, I n lv M → am_P P d c pc lv [] M Q) : ∀ k lv M, k ≤ n → I k lv M → am_P P d c pc lv [] M Q := by
  intro k
  induction hm : n - k generalizing k with
  | zero => intro lv M hk hi; have e : k = n := by omega
            subst e; exact hn lv M hi
  | succ m ih =>
    intro lv M hk hi
    obtain ⟨lv', M', h1, h2⟩ := h k lv M (by omega) hi
    exact h2 (ih (k + 1) (by omega) lv' M' (by omega) h1)
end
/-- a row of ints, of longs -/
def uA (M : am_M) (a : Nat) (f : Nat → Int32) : am_M := ((fun b => if b = a then f else M.1 b), M.2)
def uB (M : am_M) (a : Nat) (f : Nat → Int64) : am_M := (M.1, (fun b => if b = a then f else M.2.1 b), M.2.2)
section
variable (M : am_M) (a b j : Nat)
theorem uA_I (f : Nat → Int32) : mI (uA M a f) b j = if b = a then f j else mI M b j := by
  show (if b = a then f else M.1 b) j = _
  split <;> rfl
theorem uA_L (f : Nat → Int32) : mL (uA M a f) b j = mL M b j := rfl
theorem uA_R (f : Nat → Int32) : mR (uA M a f) b j = mR M b j := rfl
theorem uA_K (f : Nat → Int32) : mK (uA M a f) b = mK M b := rfl
theorem uA_N (f : Nat → Int32) : mN (uA M a f) b = mN M b := rfl
theorem uA_S (f : Nat → Int32) : mS (uA M a f) = mS M := rfl
theorem uB_L (f : Nat → Int64) : mL (uB M a f) b j = if b = a then f j else mL M b j := by
  show (if b = a then f else M.2.1 b) j = _
  split <;> rfl
theorem uB_I (f : Nat → Int64) : mI (uB M a f) b j = mI M b j := rfl
theorem uB_R (f : Nat → Int64) : mR (uB M a f) b j = mR M b j := rfl
theorem uB_K (f : Nat → Int64) : mK (uB M a f) b = mK M b := rfl
theorem uB_N (f : Nat → Int64) : mN (uB M a f) b = mN M b := rfl
theorem uB_S (f : Nat → Int64) : mS (uB M a f) = mS M := rfl
theorem uI_S (v : Int32) : mS (uI M a j v) = mS M := rfl
theorem uL_S (v : Int64) : mS (uL M a j v) = mS M := rfl
theorem uI_A (v : Int32) (f : Nat → Int32) : uI (uA M a f) a j v = uA M a (fun k => if k = j then v else f k) := by
  refine am_ext (fun b k => ?_) (fun _ _ => rfl) (fun _ _ => rfl) rfl
  rw [m_uI_I, uA_I, uA_I]
  by_cases e : b = a
  · subst e; simp
  · simp [e]
theorem uL_B (v : Int64) (f : Nat → Int64) : uL (uB M a f) a j v = uB M a (fun k => if k = j then v else f k) := by
  refine am_ext (fun _ _ => rfl) (fun b k => ?_) (fun _ _ => rfl) rfl
  rw [m_uL_L, uB_L, uB_L]
  by_cases e : b = a
  · subst e; simp
  · simp [e]
theorem uA_id : uA M a (fun k => mI M a k) = M := by
  refine am_ext (fun b k => ?_) (fun _ _ => rfl) (fun _ _ => rfl) rfl
  rw [uA_I]
  split
  · rename_i e; rw [e]
  · rfl
theorem uB_id : uB M a (fun k => mL M a k) = M := by
  refine am_ext (fun _ _ => rfl) (fun b k => ?_) (fun _ _ => rfl) rfl
  rw [uB_L]
  split
  · rename_i e; rw [e]
  · rfl
end
theorem Lay_S {M M' : am_M} (h : Lay M) (hS : mS M' = mS M) (hR : ∀ a j, mR M' a j = mR M a j) : Lay M' := by
  obtain ⟨⟨n, h1, h2⟩, h3⟩ := h
  exact ⟨⟨n, h1, by rw [hS]; exact h2⟩, fun q hq => by rw [hR]; exact h3 q hq⟩
/-- the first of n places from 0 where c holds, or n -/
def fs (c : Nat → Bool) : Nat → Nat
  | 0 => 0
  | n + 1 => if fs c n < n then fs c n else if c n = true then n else n + 1
theorem fs_le (c : Nat → Bool) (n : Nat) : fs c n ≤ n := by
  induction n with
  | zero => exact Nat.le_refl _
  | succ n ih =>
    have e : fs c (n + 1) = if fs c n < n then fs c n else if c n = true then n else n + 1 := rfl
    rw [e]
    split
    · omega
    · split <;> omega
theorem fs_no (c : Nat → Bool) (n : Nat) : ∀ k, k < fs c n → c k = false := by
  induction n with
  | zero => intro k hk; cases hk
  | succ n ih =>
    intro k hk
    have e : fs c (n + 1) = if fs c n < n then fs c n else if c n = true then n else n + 1 := rfl
    rw [e] at hk
    have hle := fs_le c n
    split at hk
    · exact ih k hk
    · have e2 : fs c n = n := by omega
      split at hk
      · exact ih k (by omega)
      · rename_i hc
        by_cases ek : k = n
        · subst ek; simpa using hc
        · exact ih k (by omega)
theorem fs_at (c : Nat → Bool) (n : Nat) (h : fs c n < n) : c (fs c n) = true := by
  induction n with
  | zero => cases h
  | succ n ih =>
    have e : fs c (n + 1) = if fs c n < n then fs c n else if c n = true then n else n + 1 := rfl
    rw [e] at h ⊢
    split
    · rename_i q; exact ih q
    · rename_i q
      rw [if_neg q] at h
      split
      · assumption
      · rename_i q2; rw [if_neg q2] at h; omega
theorem fs_ex (c : Nat → Bool) (n : Nat) : fs c n < n ↔ ∃ k, k < n ∧ c k = true := by
  constructor
  · intro h; exact ⟨_, h, fs_at c n h⟩
  · rintro ⟨k, h1, h2⟩
    rcases Nat.lt_or_ge (fs c n) n with q | q
    · exact q
    · have := fs_no c n k (by omega); rw [h2] at this; cases this
/-- a truth as an int, without deciding it -/
noncomputable def tI (p : Prop) : Int32 := @ite _ p (Classical.propDecidable p) 1 0
theorem tI_t {p : Prop} (h : p) : tI p = 1 := if_pos h
theorem tI_f {p : Prop} (h : ¬ p) : tI p = 0 := if_neg h
theorem tI_01 (p : Prop) : tI p = 0 ∨ tI p = 1 := by
  by_cases h : p
  · exact Or.inr (tI_t h)
  · exact Or.inl (tI_f h)
theorem tI_i {p q : Prop} (h : p ↔ q) : tI p = tI q := by rw [propext h]
theorem tI_b {p : Prop} [Decidable p] : bI p = tI p := by
  by_cases h : p
  · rw [bI_t h, tI_t h]
  · rw [bI_f h, tI_f h]
theorem tI_0 {p : Prop} : tI p = 0 ↔ ¬ p := by
  by_cases h : p
  · rw [tI_t h]; exact ⟨fun q => absurd q (by decide), fun q => absurd h q⟩
  · rw [tI_f h]; exact ⟨fun _ => h, fun _ => rfl⟩
theorem lgc_0 {x y : Int64} : lg_cmp x y = 0 ↔ x = y := by
  unfold lg_cmp
  constructor
  · intro h
    split at h
    · cases h
    · split at h
      · assumption
      · cases h
  · intro h
    subst h
    simp
