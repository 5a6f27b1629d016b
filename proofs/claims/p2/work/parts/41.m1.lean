/-! the model's sea: cells, ships, hours -/
theorem ti_pred {n : Nat} (h : n < 2147483648) : (nI n - 1).toInt = (n : Int) - 1 := by
  cases n with
  | zero => decide
  | succ k =>
    have e : nI (k + 1) - 1 = nI k := by rw [ni_1, ni_sub (by omega)]; rfl
    rw [e, ni_ti (by omega)]
    omega
theorem is_lt {v : Int32} {n : Nat} (h : n < 2147483648) : (0 ≤ v ∧ v ≤ nI n - 1) ↔ (0 ≤ v.toInt ∧ v.toInt < n) := by
  rw [le32, le32, ti_pred h, z32]
  omega
theorem bI_c {p q : Prop} [Decidable p] [Decidable q] (h : p ↔ q) : bI p = bI q := by
  by_cases e : p
  · rw [bI_t e, bI_t (h.mp e)]
  · rw [bI_f e, bI_f (fun z => e (h.mpr z))]
theorem c_m_isHour (d : Nat) (v : Int32) (M : am_M) (Q : Option Value → am_M → Prop) : am_E am_P0 (d + 1) 219 [.int v] M Q ↔ Q (some (.int (bI (0 ≤ v.toInt ∧ v.toInt < 48)))) M := by
  rw [eX11_isHour]
  simp +decide only [qX11_isHour, c_m_is, am_w1_i, am_w1_r, am_w1_x, am_w1_l, am_w1_w, va_rf_s, am_push_n, am_push_s, am_cs_0, am_cs_i, am_cs_l, am_cs_r, m_uI_K, m_uI_N, m_uI_R, m_uI_L, m_uI_I, m_uL_K, m_uL_N, m_uL_R, m_uL_I, m_uL_L, m_uR_K, m_uR_N, m_uR_I, m_uR_L, m_uR_R, true_and, and_true, bI_01]
  have e : bI (0 ≤ v ∧ v ≤ 47) = bI (0 ≤ v.toInt ∧ v.toInt < 48) := bI_c (by rw [le32, le32, z32, show (47 : Int32).toInt = 47 from rfl]; omega)
  rw [e]
theorem c_m_isShip (d : Nat) (v : Int32) (M : am_M) (Q : Option Value → am_M → Prop) (h : Lay M) (b n : Nat) (hb : mI M 277 12 = nI b) (hb2 : b < 2) (hn : mI M 285 b = nI n) (hn2 : n ≤ 8) : am_E am_P0 (d + 1) 220 [.ref 277, .int v] M Q ↔ Q (some (.int (bI (0 ≤ v.toInt ∧ v.toInt < n)))) M := by
  rw [eX11_isShip]
  simp +decide (disch := omega) only [qX11_isShip, c_m_is, lm h, hb, ni_in_t, ni_tn, hn, am_w1_i, am_w1_r, am_w1_x, am_w1_l, am_w1_w, va_rf_s, am_push_n, am_push_s, am_cs_0, am_cs_i, am_cs_l, am_cs_r, m_uI_K, m_uI_N, m_uI_R, m_uI_L, m_uI_I, m_uL_K, m_uL_N, m_uL_R, m_uL_I, m_uL_L, m_uR_K, m_uR_N, m_uR_I, m_uR_L, m_uR_R, true_and, and_true, bI_01]
  rw [bI_c (is_lt (v := v) (n := n) (by omega))]
theorem c_m_cells (d : Nat) (M : am_M) (Q : Option Value → am_M → Prop) (h : Lay M) (b c r : Nat) (hb : mI M 277 12 = nI b) (hb2 : b < 2) (hc : mI M 279 b = nI c) (hr : mI M 280 b = nI r) : am_E am_P0 d 214 [.ref 277] M Q ↔ Q (some (.int (nI (c * r)))) M := by
  rw [eX11_cells]
  simp +decide (disch := omega) only [qX11_cells, lm h, hb, ni_in_t, ni_tn, hc, hr, ni_mul, am_w1_i, am_w1_r, am_w1_x, am_w1_l, am_w1_w, va_rf_s, am_push_n, am_push_s, am_cs_0, am_cs_i, am_cs_l, am_cs_r, m_uI_K, m_uI_N, m_uI_R, m_uI_L, m_uI_I, m_uL_K, m_uL_N, m_uL_R, m_uL_I, m_uL_L, m_uR_K, m_uR_N, m_uR_I, m_uR_L, m_uR_R, true_and, and_true]
theorem c_m_isCell (d : Nat) (v w : Int32) (M : am_M) (Q : Option Value → am_M → Prop) (h : Lay M) (b c r : Nat) (hb : mI M 277 12 = nI b) (hb2 : b < 2) (hc : mI M 279 b = nI c) (hr : mI M 280 b = nI r) (hc2 : c ≤ 16) (hr2 : r ≤ 16) : am_E am_P0 (d + 1) 217 [.ref 277, .int v, .int w] M Q ↔ Q (some (.int (bI ((0 ≤ v.toInt ∧ v.toInt < c) ∧ (0 ≤ w.toInt ∧ w.toInt < r))))) M := by
  rw [eX11_isCell]
  simp +decide (disch := omega) only [qX11_isCell, c_m_is, lm h, hb, ni_in_t, ni_tn, hc, hr, am_w1_i, am_w1_r, am_w1_x, am_w1_l, am_w1_w, va_rf_s, am_push_n, am_push_s, am_cs_0, am_cs_i, am_cs_l, am_cs_r, m_uI_K, m_uI_N, m_uI_R, m_uI_L, m_uI_I, m_uL_K, m_uL_N, m_uL_R, m_uL_I, m_uL_L, m_uR_K, m_uR_N, m_uR_I, m_uR_L, m_uR_R, true_and, and_true, bI_0]
  rw [is_lt (v := v) (n := c) (by omega), is_lt (v := w) (n := r) (by omega)]
  by_cases h1 : 0 ≤ v.toInt ∧ v.toInt < c
  · by_cases h2 : 0 ≤ w.toInt ∧ w.toInt < r
    · rw [br_r h1, br_r h2, bI_t ⟨h1, h2⟩]
    · rw [br_r h1, br_q h2, bI_f (fun q => h2 q.2)]
  · rw [br_q h1, bI_f (fun q => h1 q.1)]
theorem c_m_said (d : Nat) (s t : Nat) (M : am_M) (Q : Option Value → am_M → Prop) (h : Lay M) (b : Nat) (hb : mI M 277 12 = nI b) (hb2 : b < 2) (hs : s < 8) (ht : t < 48) : am_E am_P0 d 226 [.ref 277, .int (nI s), .int (nI t)] M Q ↔ Q (some (.int (mI M 292 (384 * b + 48 * s + t)))) M := by
  rw [eX11_said]
  have e : 384 * nI b + 48 * nI s + nI t = nI (384 * b + 48 * s + t) := by
    rw [show (384 : Int32) = nI 384 from rfl, show (48 : Int32) = nI 48 from rfl, ni_mul, ni_mul, ni_add, ni_add]
  simp +decide (disch := omega) only [qX11_said, lm h, hb, e, ni_in_t, ni_tn, am_w1_i, am_w1_r, am_w1_x, am_w1_l, am_w1_w, va_rf_s, am_push_n, am_push_s, am_cs_0, am_cs_i, am_cs_l, am_cs_r, m_uI_K, m_uI_N, m_uI_R, m_uI_L, m_uI_I, m_uL_K, m_uL_N, m_uL_R, m_uL_I, m_uL_L, m_uR_K, m_uR_N, m_uR_I, m_uR_L, m_uR_R, true_and, and_true]
theorem c_m_laden (d : Nat) (s t : Nat) (M : am_M) (Q : Option Value → am_M → Prop) (h : Lay M) (b : Nat) (hb : mI M 277 12 = nI b) (hb2 : b < 2) (hs : s < 8) (ht : t < 48) (h01 : mI M 293 (384 * b + 48 * s + t) = 0 ∨ mI M 293 (384 * b + 48 * s + t) = 1) : am_E am_P0 d 227 [.ref 277, .int (nI s), .int (nI t)] M Q ↔ Q (some (.int (mI M 293 (384 * b + 48 * s + t)))) M := by
  rw [eX11_laden]
  have e : 384 * nI b + 48 * nI s + nI t = nI (384 * b + 48 * s + t) := by
    rw [show (384 : Int32) = nI 384 from rfl, show (48 : Int32) = nI 48 from rfl, ni_mul, ni_mul, ni_add, ni_add]
  simp +decide (disch := omega) only [qX11_laden, lm h, hb, e, ni_in_t, ni_tn, am_w1_i, am_w1_r, am_w1_x, am_w1_l, am_w1_w, va_rf_s, am_push_n, am_push_s, am_cs_0, am_cs_i, am_cs_l, am_cs_r, m_uI_K, m_uI_N, m_uI_R, m_uI_L, m_uI_I, m_uL_K, m_uL_N, m_uL_R, m_uL_I, m_uL_L, m_uR_K, m_uR_N, m_uR_I, m_uR_L, m_uR_R, true_and, and_true]
  simp only [eq_true h01, true_and]
