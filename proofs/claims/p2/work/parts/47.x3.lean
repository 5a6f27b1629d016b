/-! the class's counts -/
def sumF (f : Nat → Nat) : Nat → Nat
  | 0 => 0
  | k + 1 => sumF f k + f k
theorem sumF_le (f : Nat → Nat) (c : Nat) (h : ∀ i, f i ≤ c) : ∀ k, sumF f k ≤ k * c := by
  intro k
  induction k with
  | zero => exact Nat.zero_le _
  | succ k ih => have := h k; show sumF f k + f k ≤ (k + 1) * c; rw [Nat.add_mul, Nat.one_mul]; omega
theorem l_x_countSayings (d : Nat) (M : am_M) (Q : Option Value → am_M → Prop) (h : Lay M) (z n : Nat) (g : Nat → Nat) (hz : z = 2 ∨ z = 83) (hn : mI M z 3 = nI n) (hn2 : n ≤ 8) (hg : ∀ s, s < 8 → mI M (z + 25 + 7 * s) 5 = nI (g s)) : ∀ (m k : Nat), k + m = n → (am_P am_P0 d (am_look tX5_countSayings) 4 [.ref z, .int (nI (sumF g k)), .int (nI k)] [] M Q ↔ Q (some (.int (nI (sumF g n)))) M) := by
  intro m
  induction m with
  | zero =>
    intro k hk
    have e : k = n := by omega
    subst e
    have hle : nI k ≤ nI k := (ni_le (by omega) (by omega)).mpr (Nat.le_refl _)
    rw [hX5_countSayings_4]
    simp +decide only [qX5_countSayings, lz h hz, hn, am_w1_i, am_w1_r, am_w1_x, am_w1_l, am_w1_w, va_rf_s, am_push_n, am_push_s, am_cs_0, am_cs_i, am_cs_l, am_cs_r, m_uI_K, m_uI_N, m_uI_R, m_uI_L, m_uI_I, m_uL_K, m_uL_N, m_uL_R, m_uL_I, m_uL_L, m_uR_K, m_uR_N, m_uR_I, m_uR_L, m_uR_R, true_and, and_true]
    rw [br_p hle]
  | succ m ih =>
    intro k hk
    have hlt : ¬ nI n ≤ nI k := by rw [ni_le (by omega) (by omega)]; omega
    have hr := lsh h hz (show k < 8 by omega)
    have hk16 : mK M (z + 25 + 7 * k) = 16 := by
      have hw : isSh (z + 25 + 7 * k) := ⟨k, by omega, by omega⟩
      exact (lw_ h hw).1
    rw [hX5_countSayings_4]
    simp +decide (disch := omega) only [qX5_countSayings, lz h hz, hn, hr, hk16, hg k (by omega), ni_in_t, ni_tn, ni_add1, ni_add, am_w1_i, am_w1_r, am_w1_x, am_w1_l, am_w1_w, va_rf_s, am_push_n, am_push_s, am_cs_0, am_cs_i, am_cs_l, am_cs_r, m_uI_K, m_uI_N, m_uI_R, m_uI_L, m_uI_I, m_uL_K, m_uL_N, m_uL_R, m_uL_I, m_uL_L, m_uR_K, m_uR_N, m_uR_I, m_uR_L, m_uR_R, true_and, and_true, true_or]
    rw [br_n hlt]
    exact ih (k + 1) (by omega)
theorem c_x_countSayings (d : Nat) (M : am_M) (Q : Option Value → am_M → Prop) (h : Lay M) (z n : Nat) (g : Nat → Nat) (hz : z = 2 ∨ z = 83) (hn : mI M z 3 = nI n) (hn2 : n ≤ 8) (hg : ∀ s, s < 8 → mI M (z + 25 + 7 * s) 5 = nI (g s)) : am_E am_P0 d 59 [.ref z] M Q ↔ Q (some (.int (nI (sumF g n)))) M := by
  rw [eX5_countSayings]
  simp +decide only [qX5_countSayings, am_w1_i, am_w1_r, am_w1_x, am_w1_l, am_w1_w, va_rf_s, am_push_n, am_push_s, am_cs_0, am_cs_i, am_cs_l, am_cs_r, m_uI_K, m_uI_N, m_uI_R, m_uI_L, m_uI_I, m_uL_K, m_uL_N, m_uL_R, m_uL_I, m_uL_L, m_uR_K, m_uR_N, m_uR_I, m_uR_L, m_uR_R, true_and, and_true]
  exact l_x_countSayings d M Q h z n g hz hn hn2 hg n 0 (by omega)
