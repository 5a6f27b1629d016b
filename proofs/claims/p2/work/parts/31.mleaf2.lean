theorem c_m_is (d : Nat) (v lo hi : Int32) (M : am_M) (Q : Option Value → am_M → Prop) : am_E am_P0 d 167 [.int v, .int lo, .int hi] M Q ↔ Q (some (.int (bI (lo ≤ v ∧ v ≤ hi)))) M := by
  rw [eX11_is]
  simp only [qX11_is, am_w1_i, am_w1_r, am_w1_x, am_w1_l, am_w1_w, va_rf_s, am_push_n, am_push_s, am_cs_0, am_cs_i, am_cs_l, am_cs_r, m_uI_K, m_uI_N, m_uI_R, m_uI_L, m_uI_I, m_uL_K, m_uL_N, m_uL_R, m_uL_I, m_uL_L, m_uR_K, m_uR_N, m_uR_I, m_uR_L, m_uR_R, true_and, and_true]
  by_cases h1 : v < lo
  · have h2 : ¬ (lo ≤ v ∧ v ≤ hi) := fun q => absurd q.1 (Int32.not_le.mpr h1)
    simp [h1, bI_f h2]
  · by_cases h3 : hi < v
    · have h2 : ¬ (lo ≤ v ∧ v ≤ hi) := fun q => absurd q.2 (Int32.not_le.mpr h3)
      simp [h1, h3, bI_f h2]
    · have h2 : lo ≤ v ∧ v ≤ hi := ⟨Int32.not_lt.mp h1, Int32.not_lt.mp h3⟩
      simp [h1, h3, bI_t h2]
theorem c_m_refuses (d : Nat) (k : Nat) (hk : k < 5) (M : am_M) (Q : Option Value → am_M → Prop) (h : Lay M) : am_E am_P0 d 208 [.ref 277, .int (nI k)] M Q ↔ Q (some (.int (-1))) (uI M 312 k (mI M 312 k + 1)) := by
  rw [eX11_refuses]
  simp (disch := omega) only [qX11_refuses, lm h, ni_in_t, ni_tn, am_w1_i, am_w1_r, am_w1_x, am_w1_l, am_w1_w, va_rf_s, am_push_n, am_push_s, am_cs_0, am_cs_i, am_cs_l, am_cs_r, m_uI_K, m_uI_N, m_uI_R, m_uI_L, m_uI_I, m_uL_K, m_uL_N, m_uL_R, m_uL_I, m_uL_L, m_uR_K, m_uR_N, m_uR_I, m_uR_L, m_uR_R, true_and, and_true]
theorem c_m_status (d : Nat) (k : Int32) (M : am_M) (Q : Option Value → am_M → Prop) (h : Lay M) : am_E am_P0 (d + 1) 209 [.ref 277, .int k] M Q ↔ Q (some (.int (if 0 ≤ k ∧ k ≤ 4 then mI M 312 k.toInt.toNat else -1))) M := by
  rw [eX11_status]
  simp +decide only [qX11_status, c_m_is, lm h, am_w1_i, am_w1_r, am_w1_x, am_w1_l, am_w1_w, va_rf_s, am_push_n, am_push_s, am_cs_0, am_cs_i, am_cs_l, am_cs_r, m_uI_K, m_uI_N, m_uI_R, m_uI_L, m_uI_I, m_uL_K, m_uL_N, m_uL_R, m_uL_I, m_uL_L, m_uR_K, m_uR_N, m_uR_I, m_uR_L, m_uR_R, true_and, and_true, bI_0]
  by_cases hk : 0 ≤ k ∧ k ≤ 4
  · have h1 : am_in k 5 := by
      have a1 := Int32.le_iff_toInt_le.mp hk.1
      have a2 := Int32.le_iff_toInt_le.mp hk.2
      simp at a1 a2
      exact ⟨a1, by show k.toInt < 5; have : (4 : Int32).toInt = 4 := rfl
                    omega⟩
    simp only [hk, if_true, eq_true h1, true_and, not_true_eq_false, false_implies, true_implies, not_false_eq_true, and_true]
  · simp only [hk, if_false, not_false_eq_true, true_implies, not_true_eq_false, false_implies, true_and, and_true]
theorem c_m_fault (d : Nat) (k : Int32) (M : am_M) (Q : Option Value → am_M → Prop) (h : Lay M) : am_E am_P0 (d + 1) 207 [.ref 277, .int k] M Q ↔ Q (some (.int (if k = 0 then mI M 277 10 else if k = 1 then mI M 277 11 else -1))) M := by
  rw [eX11_fault]
  simp +decide only [qX11_fault, lm h, am_w1_i, am_w1_r, am_w1_x, am_w1_l, am_w1_w, va_rf_s, am_push_n, am_push_s, am_cs_0, am_cs_i, am_cs_l, am_cs_r, m_uI_K, m_uI_N, m_uI_R, m_uI_L, m_uI_I, m_uL_K, m_uL_N, m_uL_R, m_uL_I, m_uL_L, m_uR_K, m_uR_N, m_uR_I, m_uR_L, m_uR_R, true_and, and_true]
  by_cases h0 : k = 0
  · simp [h0]
  · by_cases h1 : k = 1
    · simp [h1]
    · simp [h0, h1]
theorem c_m_octet (d : Nat) (k : Int32) (M : am_M) (Q : Option Value → am_M → Prop) (h : Lay M) (n : Nat) (hn : mI M 277 82 = nI n) (hb : n ≤ 520) : am_E am_P0 d 300 [.ref 277, .int k] M Q ↔ Q (some (.int (if 0 ≤ k.toInt ∧ k.toInt < n then mI M 335 k.toInt.toNat else -1))) M := by
  rw [eX11_octet]
  simp +decide only [qX11_octet, lm h, hn, am_w1_i, am_w1_r, am_w1_x, am_w1_l, am_w1_w, va_rf_s, am_push_n, am_push_s, am_cs_0, am_cs_i, am_cs_l, am_cs_r, m_uI_K, m_uI_N, m_uI_R, m_uI_L, m_uI_I, m_uL_K, m_uL_N, m_uL_R, m_uL_I, m_uL_L, m_uR_K, m_uR_N, m_uR_I, m_uR_L, m_uR_R, true_and, and_true]
  rw [Int32.lt_iff_toInt_lt, Int32.le_iff_toInt_le, ni_ti (by omega)]
  have z : (0 : Int32).toInt = 0 := rfl
  rw [z]
  by_cases h0 : k.toInt < 0
  · have : ¬ (0 ≤ k.toInt ∧ k.toInt < n) := by omega
    simp [h0, this]
  · by_cases h1 : (n : Int) ≤ k.toInt
    · have : ¬ (0 ≤ k.toInt ∧ k.toInt < n) := by omega
      simp [h0, h1, this]
    · have h2 : 0 ≤ k.toInt ∧ k.toInt < n := by omega
      have h3 : am_in k 520 := ⟨h2.1, by show k.toInt < 520; omega⟩
      rw [br_n h0, br_n h1, if_pos h2]
      simp only [eq_true h3, true_and]
theorem c_m_end (d : Nat) (k : Int32) (M : am_M) (Q : Option Value → am_M → Prop) (h : Lay M) (n : Nat) (hn : mI M 277 1 = nI n) : am_E am_P0 (d + 1) 170 [.ref 277, .int k] M Q ↔ if k < 0 ∨ nI n < k then Q (some (.int 0)) (uI M 312 0 (mI M 312 0 + 1)) else Q (some (.int 1)) (uI M 277 1 k) := by
  rw [eX11_end]
  have hr := fun Q => c_m_refuses d 0 (by omega) M Q h
  rw [← ni_0] at hr
  simp +decide (disch := omega) only [qX11_end, lm h, hn, hr, am_w1_i, am_w1_r, am_w1_x, am_w1_l, am_w1_w, va_rf_s, am_push_n, am_push_s, am_cs_0, am_cs_i, am_cs_l, am_cs_r, m_uI_K, m_uI_N, m_uI_R, m_uI_L, m_uI_I, m_uL_K, m_uL_N, m_uL_R, m_uL_I, m_uL_L, m_uR_K, m_uR_N, m_uR_I, m_uR_L, m_uR_R, true_and, and_true]
  by_cases h0 : k < 0
  · rw [br_p h0, if_pos (Or.inl h0)]
    simp +decide only [true_implies, false_implies, and_true, true_and]
  · by_cases h1 : nI n < k
    · rw [br_n h0, if_pos (Or.inr h1)]
      have h2 : ¬ k ≤ nI n := Int32.not_le.mpr h1
      rw [br_n h2]
      simp +decide only [true_implies, false_implies, and_true, true_and]
    · have h2 : k ≤ nI n := Int32.not_lt.mp h1
      rw [br_n h0, br_p h2, if_neg (by rintro (q | q); exact h0 q; exact h1 q)]
/-- five times four bytes -/
def feed5 (M : am_M) (t o f n : Nat) (a b c d e : Int32) : am_M := put4 (put4 (put4 (put4 (put4 M t o f n a) t o f (n + 4) b) t o f (n + 8) c) t o f (n + 12) d) t o f (n + 16) e
theorem put4_L (M : am_M) (t o f n : Nat) (v : Int32) : Lay (put4 M t o f n v) = Lay M := rfl
theorem put4_n (M : am_M) (t o f n : Nat) (v : Int32) : mI (put4 M t o f n v) o f = nI (n + 4) := by rw [put4_I, if_pos ⟨rfl, rfl⟩]
theorem c_m_feed (d : Nat) (a b c e f : Int32) (M : am_M) (Q : Option Value → am_M → Prop) (h : Lay M) (n : Nat) (hn : mI M 277 1 = nI n) (hb : n ≤ 1800) : am_E am_P0 (d + 1) 169 [.ref 277, .int a, .int b, .int c, .int e, .int f] M Q ↔ if n + 20 ≤ 1800 then Q (some (.int (nI (n + 20)))) (feed5 M 278 277 1 n a b c e f) else Q (some (.int (-1))) (uI M 312 0 (mI M 312 0 + 1)) := by
  rw [eX11_feed]
  have hr := fun Q => c_m_refuses d 0 (by omega) M Q h
  rw [← ni_0] at hr
  have e20 : nI n + 20 = nI (n + 20) := ni_add n 20
  have ek : (1800 : Int32) = nI 1800 := rfl
  simp +decide only [qX11_feed, lm h, hn, hr, e20, am_w1_i, am_w1_r, am_w1_x, am_w1_l, am_w1_w, va_rf_s, am_push_n, am_push_s, am_cs_0, am_cs_i, am_cs_l, am_cs_r, m_uI_K, m_uI_N, m_uI_R, m_uI_L, m_uI_I, m_uL_K, m_uL_N, m_uL_R, m_uL_I, m_uL_L, m_uR_K, m_uR_N, m_uR_I, m_uR_L, m_uR_R, true_and, and_true]
  rw [ek]
  by_cases h1 : n + 20 ≤ 1800
  · have h2 : nI (n + 20) ≤ nI 1800 := (ni_le (by omega) (by omega)).mpr h1
    rw [br_p h2, if_pos h1]
    have L1 : Lay (put4 M 278 277 1 n a) := h
    have L2 : Lay (put4 (put4 M 278 277 1 n a) 278 277 1 (n + 4) b) := h
    have L3 : Lay (put4 (put4 (put4 M 278 277 1 n a) 278 277 1 (n + 4) b) 278 277 1 (n + 8) c) := h
    have L4 : Lay (put4 (put4 (put4 (put4 M 278 277 1 n a) 278 277 1 (n + 4) b) 278 277 1 (n + 8) c) 278 277 1 (n + 12) e) := h
    have L5 : Lay (put4 (put4 (put4 (put4 (put4 M 278 277 1 n a) 278 277 1 (n + 4) b) 278 277 1 (n + 8) c) 278 277 1 (n + 12) e) 278 277 1 (n + 16) f) := h
    rw [c_m_put d a M _ h n hn (by omega)]
    simp +decide only [lm L1, am_w1_i, am_w1_r, am_w1_x, am_w1_l, am_w1_w, va_rf_s, am_push_n, am_push_s, am_cs_0, am_cs_i, am_cs_l, am_cs_r, m_uI_K, m_uI_N, m_uI_R, m_uI_L, m_uI_I, m_uL_K, m_uL_N, m_uL_R, m_uL_I, m_uL_L, m_uR_K, m_uR_N, m_uR_I, m_uR_L, m_uR_R, true_and, and_true]
    rw [c_m_put d b _ _ L1 (n + 4) (put4_n _ _ _ _ _ _) (by omega)]
    simp +decide only [lm L2, am_w1_i, am_w1_r, am_w1_x, am_w1_l, am_w1_w, va_rf_s, am_push_n, am_push_s, am_cs_0, am_cs_i, am_cs_l, am_cs_r, m_uI_K, m_uI_N, m_uI_R, m_uI_L, m_uI_I, m_uL_K, m_uL_N, m_uL_R, m_uL_I, m_uL_L, m_uR_K, m_uR_N, m_uR_I, m_uR_L, m_uR_R, true_and, and_true]
    rw [c_m_put d c _ _ L2 (n + 8) (put4_n _ _ _ _ _ _) (by omega)]
    simp +decide only [lm L3, am_w1_i, am_w1_r, am_w1_x, am_w1_l, am_w1_w, va_rf_s, am_push_n, am_push_s, am_cs_0, am_cs_i, am_cs_l, am_cs_r, m_uI_K, m_uI_N, m_uI_R, m_uI_L, m_uI_I, m_uL_K, m_uL_N, m_uL_R, m_uL_I, m_uL_L, m_uR_K, m_uR_N, m_uR_I, m_uR_L, m_uR_R, true_and, and_true]
    rw [c_m_put d e _ _ L3 (n + 12) (put4_n _ _ _ _ _ _) (by omega)]
    simp +decide only [lm L4, am_w1_i, am_w1_r, am_w1_x, am_w1_l, am_w1_w, va_rf_s, am_push_n, am_push_s, am_cs_0, am_cs_i, am_cs_l, am_cs_r, m_uI_K, m_uI_N, m_uI_R, m_uI_L, m_uI_I, m_uL_K, m_uL_N, m_uL_R, m_uL_I, m_uL_L, m_uR_K, m_uR_N, m_uR_I, m_uR_L, m_uR_R, true_and, and_true]
    rw [c_m_put d f _ _ L4 (n + 16) (put4_n _ _ _ _ _ _) (by omega)]
    simp +decide only [qX11_feed, lm L5, am_w1_i, am_w1_r, am_w1_x, am_w1_l, am_w1_w, va_rf_s, am_push_n, am_push_s, am_cs_0, am_cs_i, am_cs_l, am_cs_r, m_uI_K, m_uI_N, m_uI_R, m_uI_L, m_uI_I, m_uL_K, m_uL_N, m_uL_R, m_uL_I, m_uL_L, m_uR_K, m_uR_N, m_uR_I, m_uR_L, m_uR_R, true_and, and_true]
    rw [show mI (put4 (put4 (put4 (put4 (put4 M 278 277 1 n a) 278 277 1 (n + 4) b) 278 277 1 (n + 8) c) 278 277 1 (n + 12) e) 278 277 1 (n + 16) f) 277 1 = nI (n + 20) from put4_n _ _ _ _ _ _]
    rfl
  · have h2 : ¬ nI (n + 20) ≤ nI 1800 := fun q => h1 ((ni_le (by omega) (by omega)).mp q)
    rw [br_n h2, if_neg h1]
