/-! the model's columns, rows, hours of a way -/
theorem c_m_columnOf (d : Nat) (k : Nat) (M : am_M) (Q : Option Value → am_M → Prop) (h : Lay M) (b c : Nat) (hb : mI M 277 12 = nI b) (hb2 : b < 2) (hc : mI M 279 b = nI c) (hc2 : 0 < c) (hc3 : c ≤ 16) (hk : k < 256) : am_E am_P0 d 215 [.ref 277, .int (nI k)] M Q ↔ Q (some (.int (nI (k % c)))) M := by
  rw [eX11_columnOf]
  have h0 : ¬ nI c = 0 := by rw [ni_0, ni_eq (by omega) (by omega)]; omega
  have e := ni_rem (a := k) (b := c) (by omega) (by omega)
  simp +decide (disch := omega) only [qX11_columnOf, lm h, hb, ni_in_t, ni_tn, hc, e, am_w1_i, am_w1_r, am_w1_x, am_w1_l, am_w1_w, va_rf_s, am_push_n, am_push_s, am_cs_0, am_cs_i, am_cs_l, am_cs_r, m_uI_K, m_uI_N, m_uI_R, m_uI_L, m_uI_I, m_uL_K, m_uL_N, m_uL_R, m_uL_I, m_uL_L, m_uR_K, m_uR_N, m_uR_I, m_uR_L, m_uR_R, true_and, and_true, h0, not_false_eq_true]
theorem c_m_rowOf (d : Nat) (k : Nat) (M : am_M) (Q : Option Value → am_M → Prop) (h : Lay M) (b c : Nat) (hb : mI M 277 12 = nI b) (hb2 : b < 2) (hc : mI M 279 b = nI c) (hc2 : 0 < c) (hc3 : c ≤ 16) (hk : k < 256) : am_E am_P0 d 216 [.ref 277, .int (nI k)] M Q ↔ Q (some (.int (nI (k / c)))) M := by
  rw [eX11_rowOf]
  have h0 : ¬ nI c = 0 := by rw [ni_0, ni_eq (by omega) (by omega)]; omega
  have e := ni_div (a := k) (b := c) (by omega) (by omega)
  simp +decide (disch := omega) only [qX11_rowOf, lm h, hb, ni_in_t, ni_tn, hc, e, am_w1_i, am_w1_r, am_w1_x, am_w1_l, am_w1_w, va_rf_s, am_push_n, am_push_s, am_cs_0, am_cs_i, am_cs_l, am_cs_r, m_uI_K, m_uI_N, m_uI_R, m_uI_L, m_uI_I, m_uL_K, m_uL_N, m_uL_R, m_uL_I, m_uL_L, m_uR_K, m_uR_N, m_uR_I, m_uR_L, m_uR_R, true_and, and_true, h0, not_false_eq_true]
