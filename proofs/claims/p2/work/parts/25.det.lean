/-! AM is a function: what it answers once it always answers; reading after writing -/
section
variable {P : Nat → am_Y} {d : Nat} {c : am_Code} {pc : Nat} {lv st : List Value} {M : am_M} {Q : Option Value → am_M → Prop}
theorem am_run_fn {n n2 d2 : Nat} {x y : Option Value × am_M} (h1 : am_run P n d c pc lv st M = some x) (h2 : am_run P n2 d2 c pc lv st M = some y) : x = y := by
  have g1 := am_run_more n d n2 d2 c pc lv st M x h1
  have g2 := am_run_more n2 d2 n d c pc lv st M y h2
  rw [Nat.add_comm n2 n, Nat.add_comm d2 d] at g2
  exact Option.some.inj (g1.symm.trans g2)
/-- an answer and a memory, and nothing else -/
theorem am_det {r : Option Value} {M2 : am_M} (h : am_P P d c pc lv st M (fun r' M' => r' = r ∧ M' = M2)) : am_P P d c pc lv st M Q ↔ Q r M2 := by
  obtain ⟨n, r', M', h1, rfl, rfl⟩ := h
  constructor
  · rintro ⟨n2, r2, M3, h2, hq⟩
    cases am_run_fn h1 h2
    exact hq
  · intro hq
    exact ⟨n, r', M', h1, hq⟩
/-- more depth does not hurt -/
theorem am_E_deep {d2 y : Nat} {as : List Value} (h : am_E P d y as M Q) (hd : d ≤ d2) : am_E P d2 y as M Q := am_P_deep h hd
theorem am_Edet {y : Nat} {as : List Value} {r : Option Value} {M2 : am_M} (h : am_E P d y as M (fun r' M' => r' = r ∧ M' = M2)) (d2 : Nat) (hd : d ≤ d2) : am_E P d2 y as M Q ↔ Q r M2 := am_det (am_P_deep h hd)
end
section
variable (M : am_M) (a j b k : Nat)
theorem m_uI_K (v : Int32) : mK (uI M a j v) b = mK M b := rfl
theorem m_uI_N (v : Int32) : mN (uI M a j v) b = mN M b := rfl
theorem m_uI_R (v : Int32) : mR (uI M a j v) b k = mR M b k := rfl
theorem m_uI_L (v : Int32) : mL (uI M a j v) b k = mL M b k := rfl
theorem m_uI_I (v : Int32) : mI (uI M a j v) b k = if b = a ∧ k = j then v else mI M b k := rfl
theorem m_uL_K (v : Int64) : mK (uL M a j v) b = mK M b := rfl
theorem m_uL_N (v : Int64) : mN (uL M a j v) b = mN M b := rfl
theorem m_uL_R (v : Int64) : mR (uL M a j v) b k = mR M b k := rfl
theorem m_uL_I (v : Int64) : mI (uL M a j v) b k = mI M b k := rfl
theorem m_uL_L (v : Int64) : mL (uL M a j v) b k = if b = a ∧ k = j then v else mL M b k := rfl
theorem m_uR_K (v : Option Nat) : mK (uR M a j v) b = mK M b := rfl
theorem m_uR_N (v : Option Nat) : mN (uR M a j v) b = mN M b := rfl
theorem m_uR_I (v : Option Nat) : mI (uR M a j v) b k = mI M b k := rfl
theorem m_uR_L (v : Option Nat) : mL (uR M a j v) b k = mL M b k := rfl
theorem m_uR_R (v : Option Nat) : mR (uR M a j v) b k = if b = a ∧ k = j then v else mR M b k := rfl
end
/-- a truth as an int -/
def bI (p : Prop) [Decidable p] : Int32 := if p then 1 else 0
theorem bI_t {p : Prop} [Decidable p] (h : p) : bI p = 1 := if_pos h
theorem bI_f {p : Prop} [Decidable p] (h : ¬ p) : bI p = 0 := if_neg h
theorem bI_01 {p : Prop} [Decidable p] : bI p = 0 ∨ bI p = 1 := by unfold bI; split <;> simp
theorem bI_0 {p : Prop} [Decidable p] : bI p = 0 ↔ ¬ p := by unfold bI; split <;> simp [*]
theorem bI_1 {p : Prop} [Decidable p] : bI p = 1 ↔ p := by unfold bI; split <;> simp [*]
