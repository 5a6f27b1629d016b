/-! the class's ships -/
def hasF (f : Nat → Int32) (v : Int32) : Nat → Bool
  | 0 => false
  | k + 1 => hasF f v k || decide (f k = v)
theorem hasF_mono (f : Nat → Int32) (v : Int32) {k n : Nat} (h : hasF f v k = true) (hk : k ≤ n) : hasF f v n = true := by
  induction n with
  | zero => have : k = 0 := by omega
            subst this; exact h
  | succ n ih =>
    by_cases e : k = n + 1
    · subst e; exact h
    · show (hasF f v n || _) = true
      rw [ih (by omega)]
      rfl
theorem l_x_hasSaid (d : Nat) (v : Int32) (M : am_M) (Q : Option Value → am_M → Prop) (h : Lay M) (w n : Nat) (hw : isSh w) (hn : mI M w 5 = nI n) (hn2 : n ≤ 48) : ∀ (m k : Nat), k + m = n → hasF (fun i => mI M (w + 1) i) v k = false → (am_P am_P0 d (am_look tX6_hasSaid) 2 [.ref w, .int v, .int (nI k)] [] M Q ↔ Q (some (.int (if hasF (fun i => mI M (w + 1) i) v n = true then 1 else 0))) M) := by
  intro m
  induction m with
  | zero =>
    intro k hk hf
    have e : k = n := by omega
    subst e
    have hle : nI k ≤ nI k := (ni_le (by omega) (by omega)).mpr (Nat.le_refl _)
    rw [hX6_hasSaid_2]
    simp +decide only [qX6_hasSaid, lw_ h hw, hn, am_w1_i, am_w1_r, am_w1_x, am_w1_l, am_w1_w, va_rf_s, am_push_n, am_push_s, am_cs_0, am_cs_i, am_cs_l, am_cs_r, m_uI_K, m_uI_N, m_uI_R, m_uI_L, m_uI_I, m_uL_K, m_uL_N, m_uL_R, m_uL_I, m_uL_L, m_uR_K, m_uR_N, m_uR_I, m_uR_L, m_uR_R, true_and, and_true]
    rw [br_p hle, hf, if_neg (by simp)]
  | succ m ih =>
    intro k hk hf
    have hlt : ¬ nI n ≤ nI k := by rw [ni_le (by omega) (by omega)]; omega
    rw [hX6_hasSaid_2]
    simp +decide (disch := omega) only [qX6_hasSaid, lw_ h hw, hn, ni_in_t, ni_tn, ni_add1, am_w1_i, am_w1_r, am_w1_x, am_w1_l, am_w1_w, va_rf_s, am_push_n, am_push_s, am_cs_0, am_cs_i, am_cs_l, am_cs_r, m_uI_K, m_uI_N, m_uI_R, m_uI_L, m_uI_I, m_uL_K, m_uL_N, m_uL_R, m_uL_I, m_uL_L, m_uR_K, m_uR_N, m_uR_I, m_uR_L, m_uR_R, true_and, and_true]
    rw [br_n hlt]
    by_cases e : mI M (w + 1) k = v
    · have h1 : hasF (fun i => mI M (w + 1) i) v (k + 1) = true := by show (_ || decide (mI M (w + 1) k = v)) = true; rw [decide_eq_true e, Bool.or_true]
      rw [hasF_mono _ _ h1 (by omega : k + 1 ≤ n), if_pos rfl, br_r e]
    · have h1 : hasF (fun i => mI M (w + 1) i) v (k + 1) = false := by show (hasF _ v k || decide (mI M (w + 1) k = v)) = false; rw [hf, decide_eq_false e]; rfl
      rw [br_q e]
      exact ih (k + 1) (by omega) h1
theorem c_x_hasSaid (d : Nat) (v : Int32) (M : am_M) (Q : Option Value → am_M → Prop) (h : Lay M) (w n : Nat) (hw : isSh w) (hn : mI M w 5 = nI n) (hn2 : n ≤ 48) : am_E am_P0 d 65 [.ref w, .int v] M Q ↔ Q (some (.int (if hasF (fun i => mI M (w + 1) i) v n = true then 1 else 0))) M := by
  rw [eX6_hasSaid]
  simp +decide only [qX6_hasSaid, am_w1_i, am_w1_r, am_w1_x, am_w1_l, am_w1_w, va_rf_s, am_push_n, am_push_s, am_cs_0, am_cs_i, am_cs_l, am_cs_r, m_uI_K, m_uI_N, m_uI_R, m_uI_L, m_uI_I, m_uL_K, m_uL_N, m_uL_R, m_uL_I, m_uL_L, m_uR_K, m_uR_N, m_uR_I, m_uR_L, m_uR_R, true_and, and_true]
  exact l_x_hasSaid d v M Q h w n hw hn hn2 n 0 (by omega) rfl
