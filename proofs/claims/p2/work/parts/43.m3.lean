/-! the model's water and hours -/
theorem c_m_isWater (d : Nat) (s c : Nat) (M : am_M) (Q : Option Value → am_M → Prop) (h : Lay M) (b : Nat) (hb : mI M 277 12 = nI b) (hb2 : b < 2) (hs : s < 8) (hc : c < 256) : am_E am_P0 d 234 [.ref 277, .int (nI s), .int (nI c)] M Q ↔ Q (some (.int (bI (mI M 289 (8 * b + s) ≤ mI M 315 c)))) M := by
  rw [eX11_isWater]
  have e : 8 * nI b + nI s = nI (8 * b + s) := by rw [show (8 : Int32) = nI 8 from rfl, ni_mul, ni_add]
  simp +decide (disch := omega) only [qX11_isWater, lm h, hb, e, ni_in_t, ni_tn, am_w1_i, am_w1_r, am_w1_x, am_w1_l, am_w1_w, va_rf_s, am_push_n, am_push_s, am_cs_0, am_cs_i, am_cs_l, am_cs_r, m_uI_K, m_uI_N, m_uI_R, m_uI_L, m_uI_I, m_uL_K, m_uL_N, m_uL_R, m_uL_I, m_uL_L, m_uR_K, m_uR_N, m_uR_I, m_uR_L, m_uR_R, true_and, and_true]
  by_cases h1 : mI M 315 c < mI M 289 (8 * b + s)
  · rw [br_p h1, bI_f (Int32.not_le.mpr h1)]
  · rw [br_n h1, bI_t (Int32.not_lt.mp h1)]
theorem c_m_isSound (d : Nat) (s c : Nat) (z : Int32) (M : am_M) (Q : Option Value → am_M → Prop) (h : Lay M) (b : Nat) (hb : mI M 277 12 = nI b) (hb2 : b < 2) (hs : s < 8) (hc : c < 256) : am_E am_P0 d 235 [.ref 277, .int (nI s), .int (nI c), .int z] M Q ↔ Q (some (.int (bI (mI M 289 (8 * b + s) + (if z = 0 then 0 else mI M 290 (8 * b + s)) ≤ mI M 315 c)))) M := by
  rw [eX11_isSound]
  have e : 8 * nI b + nI s = nI (8 * b + s) := by rw [show (8 : Int32) = nI 8 from rfl, ni_mul, ni_add]
  simp +decide (disch := omega) only [qX11_isSound, lm h, hb, e, ni_in_t, ni_tn, am_w1_i, am_w1_r, am_w1_x, am_w1_l, am_w1_w, va_rf_s, am_push_n, am_push_s, am_cs_0, am_cs_i, am_cs_l, am_cs_r, m_uI_K, m_uI_N, m_uI_R, m_uI_L, m_uI_I, m_uL_K, m_uL_N, m_uL_R, m_uL_I, m_uL_L, m_uR_K, m_uR_N, m_uR_I, m_uR_L, m_uR_R, true_and, and_true]
  by_cases hz : z = 0
  · rw [br_p hz, if_pos hz]
    by_cases h1 : mI M 315 c < mI M 289 (8 * b + s) + 0
    · rw [br_p h1, bI_f (Int32.not_le.mpr h1)]
    · rw [br_n h1, bI_t (Int32.not_lt.mp h1)]
  · rw [br_n hz, if_neg hz]
    by_cases h1 : mI M 315 c < mI M 289 (8 * b + s) + mI M 290 (8 * b + s)
    · rw [br_p h1, bI_f (Int32.not_le.mpr h1)]
    · rw [br_n h1, bI_t (Int32.not_lt.mp h1)]
theorem c_m_between (d : Nat) (a b e f : Int32) (M : am_M) (Q : Option Value → am_M → Prop) : am_E am_P0 d 243 [.int a, .int b, .int e, .int f] M Q ↔ Q (some (.int (if b < e then e - b else if f < a then a - f else 0))) M := by
  rw [eX11_between]
  simp +decide only [qX11_between, am_w1_i, am_w1_r, am_w1_x, am_w1_l, am_w1_w, va_rf_s, am_push_n, am_push_s, am_cs_0, am_cs_i, am_cs_l, am_cs_r, m_uI_K, m_uI_N, m_uI_R, m_uI_L, m_uI_I, m_uL_K, m_uL_N, m_uL_R, m_uL_I, m_uL_L, m_uR_K, m_uR_N, m_uR_I, m_uR_L, m_uR_R, true_and, and_true]
  by_cases h1 : b < e
  · have h1' : ¬ e ≤ b := Int32.not_le.mpr h1
    rw [br_n h1', if_pos h1]
  · have h1' : e ≤ b := Int32.not_lt.mp h1
    rw [br_p h1', if_neg h1]
    by_cases h2 : f < a
    · have h2' : ¬ a ≤ f := Int32.not_le.mpr h2
      rw [br_n h2', if_pos h2]
    · have h2' : a ≤ f := Int32.not_lt.mp h2
      rw [br_p h2', if_neg h2]
theorem c_m_at (d : Nat) (x y : Nat) (M : am_M) (Q : Option Value → am_M → Prop) (h : Lay M) (b c : Nat) (hb : mI M 277 12 = nI b) (hb2 : b < 2) (hc : mI M 279 b = nI c) : am_E am_P0 d 218 [.ref 277, .int (nI x), .int (nI y)] M Q ↔ Q (some (.int (nI (c * y + x)))) M := by
  rw [eX11_at]
  simp +decide (disch := omega) only [qX11_at, lm h, hb, ni_in_t, ni_tn, hc, ni_mul, ni_add, am_w1_i, am_w1_r, am_w1_x, am_w1_l, am_w1_w, va_rf_s, am_push_n, am_push_s, am_cs_0, am_cs_i, am_cs_l, am_cs_r, m_uI_K, m_uI_N, m_uI_R, m_uI_L, m_uI_I, m_uL_K, m_uL_N, m_uL_R, m_uL_I, m_uL_L, m_uR_K, m_uR_N, m_uR_I, m_uR_L, m_uR_R, true_and, and_true]
theorem c_m_fact (d : Nat) (c f t : Int32) (M : am_M) (Q : Option Value → am_M → Prop) (h : Lay M) (n : Nat) (hn : mI M 277 60 = nI n) (hn2 : n < 120) : am_E am_P0 d 240 [.ref 277, .int c, .int f, .int t] M Q ↔ Q none (uI (uI (uI (uI M 319 n c) 320 n f) 321 n t) 277 60 (nI (n + 1))) := by
  rw [eX11_fact]
  simp +decide (disch := omega) only [qX11_fact, lm h, hn, ni_in_t, ni_tn, ni_add1, am_w1_i, am_w1_r, am_w1_x, am_w1_l, am_w1_w, va_rf_s, am_push_n, am_push_s, am_cs_0, am_cs_i, am_cs_l, am_cs_r, m_uI_K, m_uI_N, m_uI_R, m_uI_L, m_uI_I, m_uL_K, m_uL_N, m_uL_R, m_uL_I, m_uL_L, m_uR_K, m_uR_N, m_uR_I, m_uR_L, m_uR_R, true_and, and_true, false_and, if_false]
theorem c_m_writes (d : Nat) (v : Int32) (M : am_M) (Q : Option Value → am_M → Prop) (h : Lay M) (n : Nat) (hn : mI M 277 82 = nI n) (hn2 : n < 520) : am_E am_P0 d 298 [.ref 277, .int v] M Q ↔ Q none (uI (uI M 335 n (v &&& 255)) 277 82 (nI (n + 1))) := by
  rw [eX11_writes]
  simp +decide (disch := omega) only [qX11_writes, lm h, hn, ni_in_t, ni_tn, ni_add1, am_w1_i, am_w1_r, am_w1_x, am_w1_l, am_w1_w, va_rf_s, am_push_n, am_push_s, am_cs_0, am_cs_i, am_cs_l, am_cs_r, m_uI_K, m_uI_N, m_uI_R, m_uI_L, m_uI_I, m_uL_K, m_uL_N, m_uL_R, m_uL_I, m_uL_L, m_uR_K, m_uR_N, m_uR_I, m_uR_L, m_uR_R, true_and, and_true, false_and, if_false]
