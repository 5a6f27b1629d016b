/-! the class's small methods -/
theorem c_x_isHour (d : Nat) (v : Int32) (M : am_M) (Q : Option Value → am_M → Prop) : am_E am_P0 d 149 [.int v] M Q ↔ Q (some (.int (bI (0 ≤ v.toInt ∧ v.toInt < 48)))) M := by
  rw [eX10_isHour]
  simp +decide only [qX10_isHour, am_w1_i, am_w1_r, am_w1_x, am_w1_l, am_w1_w, va_rf_s, am_push_n, am_push_s, am_cs_0, am_cs_i, am_cs_l, am_cs_r, m_uI_K, m_uI_N, m_uI_R, m_uI_L, m_uI_I, m_uL_K, m_uL_N, m_uL_R, m_uL_I, m_uL_L, m_uR_K, m_uR_N, m_uR_I, m_uR_L, m_uR_R, true_and, and_true]
  by_cases h0 : v < 0
  · have h0' := lt32.mp h0
    rw [z32] at h0'
    rw [br_p h0, bI_f (by omega)]
  · have h0' : ¬ v.toInt < 0 := fun q => h0 (lt32.mpr (by rw [z32]; exact q))
    by_cases h1 : (48 : Int32) ≤ v
    · have h1' := le32.mp h1
      rw [show (48 : Int32).toInt = 48 from rfl] at h1'
      rw [br_n h0, br_p h1, bI_f (by omega)]
    · have h1' : ¬ 48 ≤ v.toInt := fun q => h1 (le32.mpr q)
      rw [br_n h0, br_n h1, bI_t (by omega)]
theorem c_x_isShip (d : Nat) (v : Int32) (M : am_M) (Q : Option Value → am_M → Prop) (h : Lay M) (z n : Nat) (hz : z = 2 ∨ z = 83) (hs : mR M 0 2 = some z) (hn : mI M z 3 = nI n) (hn2 : n ≤ 8) : am_E am_P0 d 150 [.ref 0, .int v] M Q ↔ Q (some (.int (bI (0 ≤ v.toInt ∧ v.toInt < n)))) M := by
  rw [eX10_isShip]
  simp +decide only [qX10_isShip, lx h, hs, lz h hz, hn, am_w1_i, am_w1_r, am_w1_x, am_w1_l, am_w1_w, va_rf_s, am_push_n, am_push_s, am_cs_0, am_cs_i, am_cs_l, am_cs_r, m_uI_K, m_uI_N, m_uI_R, m_uI_L, m_uI_I, m_uL_K, m_uL_N, m_uL_R, m_uL_I, m_uL_L, m_uR_K, m_uR_N, m_uR_I, m_uR_L, m_uR_R, true_and, and_true]
  by_cases h0 : v < 0
  · have h0' := lt32.mp h0
    rw [z32] at h0'
    rw [br_p h0, bI_f (by omega)]
  · have h0' : ¬ v.toInt < 0 := fun q => h0 (lt32.mpr (by rw [z32]; exact q))
    by_cases h1 : nI n ≤ v
    · have h1' := le32.mp h1
      rw [ni_ti (by omega)] at h1'
      rw [br_n h0, br_p h1, bI_f (by omega)]
    · have h1' : ¬ (n : Int) ≤ v.toInt := fun q => h1 (le32.mpr (by rw [ni_ti (by omega)]; exact q))
      rw [br_n h0, br_n h1, bI_t (by omega)]
theorem c_x_bit (d : Nat) (v : Int32) (M : am_M) (Q : Option Value → am_M → Prop) (h01 : v = 0 ∨ v = 1) : am_E am_P0 d 148 [.int v] M Q ↔ Q (some (.int v)) M := by
  rw [eX10_bit]
  simp +decide only [qX10_bit, am_w1_i, am_w1_r, am_w1_x, am_w1_l, am_w1_w, va_rf_s, am_push_n, am_push_s, am_cs_0, am_cs_i, am_cs_l, am_cs_r, m_uI_K, m_uI_N, m_uI_R, m_uI_L, m_uI_I, m_uL_K, m_uL_N, m_uL_R, m_uL_I, m_uL_L, m_uR_K, m_uR_N, m_uR_I, m_uR_L, m_uR_R, true_and, and_true]
  rcases h01 with rfl | rfl
  · rw [br_p rfl]
  · rw [br_n (by decide)]
theorem c_x_write (d : Nat) (v : Int32) (M : am_M) (Q : Option Value → am_M → Prop) (h : Lay M) (n : Nat) (hn : mI M 0 10 = nI n) (hn2 : n < 507) : am_E am_P0 d 162 [.ref 0, .int v] M Q ↔ Q none (uI (uI M 170 n v) 0 10 (nI (n + 1))) := by
  rw [eX10_write]
  have h1 : ¬ nI 507 ≤ nI n := by rw [ni_le (by omega) (by omega)]; omega
  rw [show nI 507 = 507 from rfl] at h1
  simp +decide (disch := omega) only [qX10_write, lx h, hn, ni_in_t, ni_tn, ni_add1, am_w1_i, am_w1_r, am_w1_x, am_w1_l, am_w1_w, va_rf_s, am_push_n, am_push_s, am_cs_0, am_cs_i, am_cs_l, am_cs_r, m_uI_K, m_uI_N, m_uI_R, m_uI_L, m_uI_I, m_uL_K, m_uL_N, m_uL_R, m_uL_I, m_uL_L, m_uR_K, m_uR_N, m_uR_I, m_uR_L, m_uR_R, true_and, and_true, false_and, if_false]
  rw [br_n h1]
theorem c_x_append (d : Nat) (l p t : Int32) (M : am_M) (Q : Option Value → am_M → Prop) (h : Lay M) (z n : Nat) (hz : z = 2 ∨ z = 83) (hn : mI M (z + 2) 0 = nI n) (hn2 : n < 40) : am_E am_P0 d 71 [.ref (z + 2), .int l, .int p, .int t] M Q ↔ Q none (uI (uI (uI (uI M (z + 3) n l) (z + 4) n p) (z + 5) n t) (z + 2) 0 (nI (n + 1))) := by
  rw [eX7_append]
  have h1 : ¬ nI 40 ≤ nI n := by rw [ni_le (by omega) (by omega)]; omega
  rw [show nI 40 = 40 from rfl] at h1
  have n3 : ¬ (z + 2 = z + 3) := by omega
  have n4 : ¬ (z + 2 = z + 4) := by omega
  have n5 : ¬ (z + 2 = z + 5) := by omega
  simp +decide (disch := omega) only [qX7_append, lz h hz, hn, n3, n4, n5, ni_in_t, ni_tn, ni_add1, am_w1_i, am_w1_r, am_w1_x, am_w1_l, am_w1_w, va_rf_s, am_push_n, am_push_s, am_cs_0, am_cs_i, am_cs_l, am_cs_r, m_uI_K, m_uI_N, m_uI_R, m_uI_L, m_uI_I, m_uL_K, m_uL_N, m_uL_R, m_uL_I, m_uL_L, m_uR_K, m_uR_N, m_uR_I, m_uR_L, m_uR_R, true_and, and_true, false_and, if_false]
  rw [br_n h1]
theorem c_x_placeAt (d : Nat) (x y : Int32) (M : am_M) (Q : Option Value → am_M → Prop) (h : Lay M) (z c r : Nat) (hz : z = 2 ∨ z = 83) (hc : mI M z 0 = nI c) (hr : mI M z 1 = nI r) (hc2 : c ≤ 16) (hr2 : r ≤ 16) : am_E am_P0 d 56 [.ref z, .int x, .int y] M Q ↔ Q (some (.int (if (0 ≤ x.toInt ∧ x.toInt < c) ∧ (0 ≤ y.toInt ∧ y.toInt < r) then nI (16 * y.toInt.toNat + x.toInt.toNat) else -1))) M := by
  rw [eX5_placeAt]
  simp +decide only [qX5_placeAt, lz h hz, hc, hr, am_w1_i, am_w1_r, am_w1_x, am_w1_l, am_w1_w, va_rf_s, am_push_n, am_push_s, am_cs_0, am_cs_i, am_cs_l, am_cs_r, m_uI_K, m_uI_N, m_uI_R, m_uI_L, m_uI_I, m_uL_K, m_uL_N, m_uL_R, m_uL_I, m_uL_L, m_uR_K, m_uR_N, m_uR_I, m_uR_L, m_uR_R, true_and, and_true]
  have tc := ni_ti (n := c) (by omega)
  have tr := ni_ti (n := r) (by omega)
  have key : ∀ (v : Int32) (n : Nat), (nI n).toInt = n → ((v < 0 ↔ v.toInt < 0) ∧ (nI n ≤ v ↔ (n : Int) ≤ v.toInt)) := fun v n e => ⟨by rw [lt32, z32], by rw [le32, e]⟩
  by_cases h0 : x < 0
  · have g := (key x c tc).1.mp h0
    rw [br_p h0, if_neg (by omega)]
  · have g0 : ¬ x.toInt < 0 := fun q => h0 ((key x c tc).1.mpr q)
    by_cases h1 : nI c ≤ x
    · have g := (key x c tc).2.mp h1
      rw [br_n h0, br_p h1, if_neg (by omega)]
    · have g1 : ¬ (c : Int) ≤ x.toInt := fun q => h1 ((key x c tc).2.mpr q)
      by_cases h2 : y < 0
      · have g := (key y r tr).1.mp h2
        rw [br_n h0, br_n h1, br_p h2, if_neg (by omega)]
      · have g2 : ¬ y.toInt < 0 := fun q => h2 ((key y r tr).1.mpr q)
        by_cases h3 : nI r ≤ y
        · have g := (key y r tr).2.mp h3
          rw [br_n h0, br_n h1, br_n h2, br_n (Int32.not_lt.mpr h3), if_neg (by omega)]
        · have g3 : ¬ (r : Int) ≤ y.toInt := fun q => h3 ((key y r tr).2.mpr q)
          rw [br_n h0, br_n h1, br_n h2, br_p (Int32.not_le.mp h3), if_pos (by omega)]
          have ex : x = nI x.toInt.toNat := i32_of (by omega) (by omega)
          have ey : y = nI y.toInt.toNat := i32_of (by omega) (by omega)
          have e : y * 16 + x = nI (16 * y.toInt.toNat + x.toInt.toNat) := by
            conv => lhs; rw [ex, ey]
            rw [show (16 : Int32) = nI 16 from rfl, ni_mul, ni_add, Nat.mul_comm]
          rw [e]
