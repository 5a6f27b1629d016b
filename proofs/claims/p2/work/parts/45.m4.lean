/-! the model's reader: small methods; what comes -/
theorem c_m_isLetter (d : Nat) (v : Int32) (M : am_M) (Q : Option Value → am_M → Prop) : am_E am_P0 d 172 [.int v] M Q ↔ Q (some (.int (bI (97 ≤ v.toInt ∧ v.toInt ≤ 122)))) M := by
  rw [eX11_isLetter]
  simp +decide only [qX11_isLetter, am_w1_i, am_w1_r, am_w1_x, am_w1_l, am_w1_w, va_rf_s, am_push_n, am_push_s, am_cs_0, am_cs_i, am_cs_l, am_cs_r, m_uI_K, m_uI_N, m_uI_R, m_uI_L, m_uI_I, m_uL_K, m_uL_N, m_uL_R, m_uL_I, m_uL_L, m_uR_K, m_uR_N, m_uR_I, m_uR_L, m_uR_R, true_and, and_true]
  have a : (97 : Int32).toInt = 97 := rfl
  have z : (122 : Int32).toInt = 122 := rfl
  by_cases h0 : v < 97
  · have g := lt32.mp h0
    rw [a] at g
    rw [br_p h0, bI_f (by omega)]
  · have g : ¬ v.toInt < 97 := fun q => h0 (lt32.mpr (by rw [a]; exact q))
    by_cases h1 : 122 < v
    · have g1 := lt32.mp h1
      rw [z] at g1
      rw [br_n h0, br_p h1, bI_f (by omega)]
    · have g1 : ¬ 122 < v.toInt := fun q => h1 (lt32.mpr (by rw [z]; exact q))
      rw [br_n h0, br_n h1, bI_t (by omega)]
theorem c_m_isDigit (d : Nat) (v : Int32) (M : am_M) (Q : Option Value → am_M → Prop) : am_E am_P0 d 173 [.int v] M Q ↔ Q (some (.int (bI (48 ≤ v.toInt ∧ v.toInt ≤ 57)))) M := by
  rw [eX11_isDigit]
  simp +decide only [qX11_isDigit, am_w1_i, am_w1_r, am_w1_x, am_w1_l, am_w1_w, va_rf_s, am_push_n, am_push_s, am_cs_0, am_cs_i, am_cs_l, am_cs_r, m_uI_K, m_uI_N, m_uI_R, m_uI_L, m_uI_I, m_uL_K, m_uL_N, m_uL_R, m_uL_I, m_uL_L, m_uR_K, m_uR_N, m_uR_I, m_uR_L, m_uR_R, true_and, and_true]
  have a : (48 : Int32).toInt = 48 := rfl
  have z : (57 : Int32).toInt = 57 := rfl
  by_cases h0 : v < 48
  · have g := lt32.mp h0
    rw [a] at g
    rw [br_p h0, bI_f (by omega)]
  · have g : ¬ v.toInt < 48 := fun q => h0 (lt32.mpr (by rw [a]; exact q))
    by_cases h1 : 57 < v
    · have g1 := lt32.mp h1
      rw [z] at g1
      rw [br_n h0, br_p h1, bI_f (by omega)]
    · have g1 : ¬ 57 < v.toInt := fun q => h1 (lt32.mpr (by rw [z]; exact q))
      rw [br_n h0, br_n h1, bI_t (by omega)]
theorem c_m_blame (d : Nat) (k p : Int32) (M : am_M) (Q : Option Value → am_M → Prop) (h : Lay M) : am_E am_P0 d 171 [.ref 277, .int k, .int p] M Q ↔ if 0 < mI M 277 8 then Q none M else Q none (uI (uI M 277 8 k) 277 9 p) := by
  rw [eX11_blame]
  simp +decide only [qX11_blame, lm h, am_w1_i, am_w1_r, am_w1_x, am_w1_l, am_w1_w, va_rf_s, am_push_n, am_push_s, am_cs_0, am_cs_i, am_cs_l, am_cs_r, m_uI_K, m_uI_N, m_uI_R, m_uI_L, m_uI_I, m_uL_K, m_uL_N, m_uL_R, m_uL_I, m_uL_L, m_uR_K, m_uR_N, m_uR_I, m_uR_L, m_uR_R, true_and, and_true]
  by_cases h0 : 0 < mI M 277 8
  · have h1 : ¬ mI M 277 8 ≤ 0 := Int32.not_le.mpr h0
    rw [br_n h1, if_pos h0]
  · have h1 : mI M 277 8 ≤ 0 := Int32.not_lt.mp h0
    rw [br_p h1, if_neg h0]
theorem c_m_isSign (d : Nat) (c : Int32) (M : am_M) (Q : Option Value → am_M → Prop) (h : Lay M) : am_E am_P0 d 175 [.ref 277, .int c] M Q ↔ Q (some (.int (bI (mI M 277 3 = 3 ∧ mI M 277 6 = c)))) M := by
  rw [eX11_isSign]
  simp +decide only [qX11_isSign, lm h, am_w1_i, am_w1_r, am_w1_x, am_w1_l, am_w1_w, va_rf_s, am_push_n, am_push_s, am_cs_0, am_cs_i, am_cs_l, am_cs_r, m_uI_K, m_uI_N, m_uI_R, m_uI_L, m_uI_I, m_uL_K, m_uL_N, m_uL_R, m_uL_I, m_uL_L, m_uR_K, m_uR_N, m_uR_I, m_uR_L, m_uR_R, true_and, and_true]
  by_cases h0 : mI M 277 3 = 3
  · by_cases h1 : mI M 277 6 = c
    · rw [br_r h0, br_r h1, bI_t ⟨h0, h1⟩]
    · rw [br_r h0, br_q h1, bI_f (fun q => h1 q.2)]
  · rw [br_q h0, bI_f (fun q => h0 q.1)]
theorem c_m_says (d : Nat) (s t : Nat) (c z : Int32) (M : am_M) (Q : Option Value → am_M → Prop) (h : Lay M) (b n : Nat) (hb : mI M 277 12 = nI b) (hb2 : b < 2) (hs : s < 8) (ht : t < 48) (hn : mI M 291 b = nI n) (h01 : z = 0 ∨ z = 1) : am_E am_P0 d 293 [.ref 277, .int (nI s), .int (nI t), .int c, .int z] M Q ↔ Q none (uI (uI (uI M 292 (384 * b + 48 * s + t) c) 293 (384 * b + 48 * s + t) z) 291 b (nI (n + 1))) := by
  rw [eX11_says_]
  have e : 384 * nI b + 48 * nI s + nI t = nI (384 * b + 48 * s + t) := by
    rw [show (384 : Int32) = nI 384 from rfl, show (48 : Int32) = nI 48 from rfl, ni_mul, ni_mul, ni_add, ni_add]
  simp +decide (disch := omega) only [qX11_says_, lm h, hb, e, hn, ni_in_t, ni_tn, ni_add1, am_w1_i, am_w1_r, am_w1_x, am_w1_l, am_w1_w, va_rf_s, am_push_n, am_push_s, am_cs_0, am_cs_i, am_cs_l, am_cs_r, m_uI_K, m_uI_N, m_uI_R, m_uI_L, m_uI_I, m_uL_K, m_uL_N, m_uL_R, m_uL_I, m_uL_L, m_uR_K, m_uR_N, m_uR_I, m_uR_L, m_uR_R, true_and, and_true, false_and, if_false]
  simp only [eq_true h01, true_and]
theorem c_m_spots (d : Nat) (l c t : Int32) (M : am_M) (Q : Option Value → am_M → Prop) (h : Lay M) (b n : Nat) (hb : mI M 277 12 = nI b) (hb2 : b < 2) (hn : mI M 299 b = nI n) (hn2 : n < 40) : am_E am_P0 d 296 [.ref 277, .int l, .int c, .int t] M Q ↔ Q none (uI (uI (uI (uI M 300 (40 * b + n) l) 301 (40 * b + n) c) 302 (40 * b + n) t) 299 b (nI (n + 1))) := by
  rw [eX11_spots]
  have e : 40 * nI b + nI n = nI (40 * b + n) := by rw [show (40 : Int32) = nI 40 from rfl, ni_mul, ni_add]
  simp +decide (disch := omega) only [qX11_spots, lm h, hb, hn, e, ni_in_t, ni_tn, ni_add1, am_w1_i, am_w1_r, am_w1_x, am_w1_l, am_w1_w, va_rf_s, am_push_n, am_push_s, am_cs_0, am_cs_i, am_cs_l, am_cs_r, m_uI_K, m_uI_N, m_uI_R, m_uI_L, m_uI_I, m_uL_K, m_uL_N, m_uL_R, m_uL_I, m_uL_L, m_uR_K, m_uR_N, m_uR_I, m_uR_L, m_uR_R, true_and, and_true, false_and, if_false]
