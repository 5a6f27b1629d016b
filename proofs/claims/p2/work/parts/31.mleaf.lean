/-! the model's small methods -/
theorem c_m_put (d : Nat) (v : Int32) (M : am_M) (Q : Option Value → am_M → Prop) (h : Lay M) (n : Nat) (hn : mI M 277 1 = nI n) (hb : n + 4 ≤ 1800) : am_E am_P0 d 168 [.ref 277, .int v] M Q ↔ Q none (put4 M 278 277 1 n v) := by
  rw [eX11_put]
  simp only [qX11_put, am_w1_i, am_w1_r, am_w1_x, am_w1_l, am_w1_w, va_rf_s, am_push_n, am_push_s, am_cs_0, am_cs_i, am_cs_l, am_cs_r, m_uI_K, m_uI_N, m_uI_R, m_uI_L, m_uI_I, m_uL_K, m_uL_N, m_uL_R, m_uL_I, m_uL_L, m_uR_K, m_uR_N, m_uR_I, m_uR_L, m_uR_R, true_and, and_true]
  rw [hX11_put_3]
  simp +decide (disch := omega) only [qX11_put, lm h, hn, ni_in_t, ni_tn, ni_add1, am_w1_i, am_w1_r, am_w1_x, am_w1_l, am_w1_w, va_rf_s, am_push_n, am_push_s, am_cs_0, am_cs_i, am_cs_l, am_cs_r, m_uI_K, m_uI_N, m_uI_R, m_uI_L, m_uI_I, m_uL_K, m_uL_N, m_uL_R, m_uL_I, m_uL_L, m_uR_K, m_uR_N, m_uR_I, m_uR_L, m_uR_R, true_and, and_true, false_and, if_false, if_true, false_implies, true_implies, not_true_eq_false, not_false_eq_true]
  rw [hX11_put_3]
  simp +decide (disch := omega) only [qX11_put, lm h, hn, ni_in_t, ni_tn, ni_add1, am_w1_i, am_w1_r, am_w1_x, am_w1_l, am_w1_w, va_rf_s, am_push_n, am_push_s, am_cs_0, am_cs_i, am_cs_l, am_cs_r, m_uI_K, m_uI_N, m_uI_R, m_uI_L, m_uI_I, m_uL_K, m_uL_N, m_uL_R, m_uL_I, m_uL_L, m_uR_K, m_uR_N, m_uR_I, m_uR_L, m_uR_R, true_and, and_true, false_and, if_false, if_true, false_implies, true_implies, not_true_eq_false, not_false_eq_true]
  rw [hX11_put_3]
  simp +decide (disch := omega) only [qX11_put, lm h, hn, ni_in_t, ni_tn, ni_add1, am_w1_i, am_w1_r, am_w1_x, am_w1_l, am_w1_w, va_rf_s, am_push_n, am_push_s, am_cs_0, am_cs_i, am_cs_l, am_cs_r, m_uI_K, m_uI_N, m_uI_R, m_uI_L, m_uI_I, m_uL_K, m_uL_N, m_uL_R, m_uL_I, m_uL_L, m_uR_K, m_uR_N, m_uR_I, m_uR_L, m_uR_R, true_and, and_true, false_and, if_false, if_true, false_implies, true_implies, not_true_eq_false, not_false_eq_true]
  rw [hX11_put_3]
  simp +decide (disch := omega) only [qX11_put, lm h, hn, ni_in_t, ni_tn, ni_add1, am_w1_i, am_w1_r, am_w1_x, am_w1_l, am_w1_w, va_rf_s, am_push_n, am_push_s, am_cs_0, am_cs_i, am_cs_l, am_cs_r, m_uI_K, m_uI_N, m_uI_R, m_uI_L, m_uI_I, m_uL_K, m_uL_N, m_uL_R, m_uL_I, m_uL_L, m_uR_K, m_uR_N, m_uR_I, m_uR_L, m_uR_R, true_and, and_true, false_and, if_false, if_true, false_implies, true_implies, not_true_eq_false, not_false_eq_true]
  rw [hX11_put_3]
  simp +decide (disch := omega) only [qX11_put, lm h, hn, ni_in_t, ni_tn, ni_add1, am_w1_i, am_w1_r, am_w1_x, am_w1_l, am_w1_w, va_rf_s, am_push_n, am_push_s, am_cs_0, am_cs_i, am_cs_l, am_cs_r, m_uI_K, m_uI_N, m_uI_R, m_uI_L, m_uI_I, m_uL_K, m_uL_N, m_uL_R, m_uL_I, m_uL_L, m_uR_K, m_uR_N, m_uR_I, m_uR_L, m_uR_R, true_and, and_true, false_and, if_false, if_true, false_implies, true_implies, not_true_eq_false, not_false_eq_true]
  have e : ∀ M' : am_M, M' = put4 M 278 277 1 n v → (Q none M' ↔ Q none (put4 M 278 277 1 n v)) := fun M' e => by rw [e]
  apply e
  refine am_ext (fun a j => ?_) (fun a j => rfl) (fun a j => rfl) rfl
  simp only [put4_I, m_uI_I]
  have k0 : (24 : Int32) &&& 31 = 24 := by decide
  have k1 : (24 : Int32) + -8 &&& 31 = 16 := by decide
  have k2 : (24 : Int32) + -8 + -8 &&& 31 = 8 := by decide
  have k3 : (24 : Int32) + -8 + -8 + -8 &&& 31 = 0 := by decide
  simp only [k0, k1, k2, k3]
  by_cases h1 : a = 277 ∧ j = 1
  · simp [h1]
  · simp [h1]
