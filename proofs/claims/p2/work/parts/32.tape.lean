/-! the tape: the class's side -/
theorem b255 {i : Nat} (hi : i < 32) : (255#32).getLsbD i = decide (i < 8) := by
  show (BitVec.ofNat 32 (2 ^ 8 - 1)).getLsbD i = _
  rw [BitVec.getLsbD_ofNat, Nat.testBit_two_pow_sub_one]
  simp [hi]
theorem sh_bit (v : Int32) (k : Nat) (hk : k = 24 ∨ k = 16 ∨ k = 8 ∨ k = 0) : ((v.toUInt32 >>> (Int32.ofNat k).toUInt32).toInt32 &&& 255) = (v >>> Int32.ofNat k &&& 255) := by
  apply Int32.toBitVec_inj.mp
  apply BitVec.eq_of_getLsbD_eq
  intro i hi
  have hs : ((BitVec.ofNat 32 k).smod 32#32).toNat = k := by rcases hk with rfl | rfl | rfl | rfl <;> decide
  have hk2 : k ≤ 24 := by omega
  simp
  rw [hs, b255 hi, BitVec.getLsbD_sshiftRight]
  by_cases h8 : i < 8
  · have h1 : k % 32 = k := by omega
    have h2 : k + i < 32 := by omega
    simp [h8, h1, h2, hi]
  · simp [h8]
theorem c_x_put (d : Nat) (v : Int32) (M : am_M) (Q : Option Value → am_M → Prop) (h : Lay M) (n : Nat) (hn : mI M 0 1 = nI n) (hb : n + 4 ≤ 1800) : am_E am_P0 d 152 [.ref 0, .int v] M Q ↔ Q none (put4 M 1 0 1 n v) := by
  rw [eX10_putFour]
  simp only [qX10_putFour, am_w1_i, am_w1_r, am_w1_x, am_w1_l, am_w1_w, va_rf_s, am_push_n, am_push_s, am_cs_0, am_cs_i, am_cs_l, am_cs_r, m_uI_K, m_uI_N, m_uI_R, m_uI_L, m_uI_I, m_uL_K, m_uL_N, m_uL_R, m_uL_I, m_uL_L, m_uR_K, m_uR_N, m_uR_I, m_uR_L, m_uR_R, true_and, and_true]
  rw [hX10_putFour_3]
  simp +decide (disch := omega) only [qX10_putFour, lx h, hn, ni_in_t, ni_tn, ni_add1, am_w1_i, am_w1_r, am_w1_x, am_w1_l, am_w1_w, va_rf_s, am_push_n, am_push_s, am_cs_0, am_cs_i, am_cs_l, am_cs_r, m_uI_K, m_uI_N, m_uI_R, m_uI_L, m_uI_I, m_uL_K, m_uL_N, m_uL_R, m_uL_I, m_uL_L, m_uR_K, m_uR_N, m_uR_I, m_uR_L, m_uR_R, true_and, and_true, false_and, if_false, if_true, false_implies, true_implies, not_true_eq_false, not_false_eq_true]
  rw [hX10_putFour_3]
  simp +decide (disch := omega) only [qX10_putFour, lx h, hn, ni_in_t, ni_tn, ni_add1, am_w1_i, am_w1_r, am_w1_x, am_w1_l, am_w1_w, va_rf_s, am_push_n, am_push_s, am_cs_0, am_cs_i, am_cs_l, am_cs_r, m_uI_K, m_uI_N, m_uI_R, m_uI_L, m_uI_I, m_uL_K, m_uL_N, m_uL_R, m_uL_I, m_uL_L, m_uR_K, m_uR_N, m_uR_I, m_uR_L, m_uR_R, true_and, and_true, false_and, if_false, if_true, false_implies, true_implies, not_true_eq_false, not_false_eq_true]
  rw [hX10_putFour_3]
  simp +decide (disch := omega) only [qX10_putFour, lx h, hn, ni_in_t, ni_tn, ni_add1, am_w1_i, am_w1_r, am_w1_x, am_w1_l, am_w1_w, va_rf_s, am_push_n, am_push_s, am_cs_0, am_cs_i, am_cs_l, am_cs_r, m_uI_K, m_uI_N, m_uI_R, m_uI_L, m_uI_I, m_uL_K, m_uL_N, m_uL_R, m_uL_I, m_uL_L, m_uR_K, m_uR_N, m_uR_I, m_uR_L, m_uR_R, true_and, and_true, false_and, if_false, if_true, false_implies, true_implies, not_true_eq_false, not_false_eq_true]
  rw [hX10_putFour_3]
  simp +decide (disch := omega) only [qX10_putFour, lx h, hn, ni_in_t, ni_tn, ni_add1, am_w1_i, am_w1_r, am_w1_x, am_w1_l, am_w1_w, va_rf_s, am_push_n, am_push_s, am_cs_0, am_cs_i, am_cs_l, am_cs_r, m_uI_K, m_uI_N, m_uI_R, m_uI_L, m_uI_I, m_uL_K, m_uL_N, m_uL_R, m_uL_I, m_uL_L, m_uR_K, m_uR_N, m_uR_I, m_uR_L, m_uR_R, true_and, and_true, false_and, if_false, if_true, false_implies, true_implies, not_true_eq_false, not_false_eq_true]
  rw [hX10_putFour_3]
  simp +decide (disch := omega) only [qX10_putFour, lx h, hn, ni_in_t, ni_tn, ni_add1, am_w1_i, am_w1_r, am_w1_x, am_w1_l, am_w1_w, va_rf_s, am_push_n, am_push_s, am_cs_0, am_cs_i, am_cs_l, am_cs_r, m_uI_K, m_uI_N, m_uI_R, m_uI_L, m_uI_I, m_uL_K, m_uL_N, m_uL_R, m_uL_I, m_uL_L, m_uR_K, m_uR_N, m_uR_I, m_uR_L, m_uR_R, true_and, and_true, false_and, if_false, if_true, false_implies, true_implies, not_true_eq_false, not_false_eq_true]
  have e : ∀ M' : am_M, M' = put4 M 1 0 1 n v → (Q none M' ↔ Q none (put4 M 1 0 1 n v)) := fun M' e => by rw [e]
  apply e
  refine am_ext (fun a j => ?_) (fun a j => rfl) (fun a j => rfl) rfl
  simp only [put4_I, m_uI_I]
  have k0 : (24 : Int32) &&& 31 = Int32.ofNat 24 := by decide
  have k1 : (24 : Int32) + -8 &&& 31 = Int32.ofNat 16 := by decide
  have k2 : (24 : Int32) + -8 + -8 &&& 31 = Int32.ofNat 8 := by decide
  have k3 : (24 : Int32) + -8 + -8 + -8 &&& 31 = Int32.ofNat 0 := by decide
  simp only [k0, k1, k2, k3]
  rw [sh_bit v 24 (by simp), sh_bit v 16 (by simp), sh_bit v 8 (by simp), sh_bit v 0 (by simp)]
  by_cases h1 : a = 0 ∧ j = 1
  · simp [h1]
  · simp [h1]
theorem c_x_feed (d : Nat) (a b c e f : Int32) (M : am_M) (Q : Option Value → am_M → Prop) (h : Lay M) (n : Nat) (hn : mI M 0 1 = nI n) (hb : n ≤ 1800) : am_E am_P0 (d + 1) 109 [.ref 0, .int a, .int b, .int c, .int e, .int f] M Q ↔ if n + 20 ≤ 1800 then Q (some (.int (nI (n + 20)))) (feed5 M 1 0 1 n a b c e f) else Q (some (.int (-1))) (uI M 169 0 (mI M 169 0 + 1)) := by
  rw [eX10_feed]
  have e20 : nI n + 20 = nI (n + 20) := ni_add n 20
  have ek : (1800 : Int32) = nI 1800 := rfl
  have i5 : am_in 0 5 = True := eq_true (by decide)
  have t5 : (Int32.toInt 0).toNat = 0 := rfl
  simp +decide only [qX10_feed, lx h, hn, e20, i5, t5, am_w1_i, am_w1_r, am_w1_x, am_w1_l, am_w1_w, va_rf_s, am_push_n, am_push_s, am_cs_0, am_cs_i, am_cs_l, am_cs_r, m_uI_K, m_uI_N, m_uI_R, m_uI_L, m_uI_I, m_uL_K, m_uL_N, m_uL_R, m_uL_I, m_uL_L, m_uR_K, m_uR_N, m_uR_I, m_uR_L, m_uR_R, true_and, and_true]
  rw [ek]
  by_cases h1 : n + 20 ≤ 1800
  · have h2 : nI (n + 20) ≤ nI 1800 := (ni_le (by omega) (by omega)).mpr h1
    rw [br_p h2, if_pos h1]
    have L1 : Lay (put4 M 1 0 1 n a) := h
    have L2 : Lay (put4 (put4 M 1 0 1 n a) 1 0 1 (n + 4) b) := h
    have L3 : Lay (put4 (put4 (put4 M 1 0 1 n a) 1 0 1 (n + 4) b) 1 0 1 (n + 8) c) := h
    have L4 : Lay (put4 (put4 (put4 (put4 M 1 0 1 n a) 1 0 1 (n + 4) b) 1 0 1 (n + 8) c) 1 0 1 (n + 12) e) := h
    have L5 : Lay (put4 (put4 (put4 (put4 (put4 M 1 0 1 n a) 1 0 1 (n + 4) b) 1 0 1 (n + 8) c) 1 0 1 (n + 12) e) 1 0 1 (n + 16) f) := h
    rw [c_x_put d a M _ h n hn (by omega)]
    simp +decide only [lx L1, am_w1_i, am_w1_r, am_w1_x, am_w1_l, am_w1_w, va_rf_s, am_push_n, am_push_s, am_cs_0, am_cs_i, am_cs_l, am_cs_r, m_uI_K, m_uI_N, m_uI_R, m_uI_L, m_uI_I, m_uL_K, m_uL_N, m_uL_R, m_uL_I, m_uL_L, m_uR_K, m_uR_N, m_uR_I, m_uR_L, m_uR_R, true_and, and_true]
    rw [c_x_put d b _ _ L1 (n + 4) (put4_n _ _ _ _ _ _) (by omega)]
    simp +decide only [lx L2, am_w1_i, am_w1_r, am_w1_x, am_w1_l, am_w1_w, va_rf_s, am_push_n, am_push_s, am_cs_0, am_cs_i, am_cs_l, am_cs_r, m_uI_K, m_uI_N, m_uI_R, m_uI_L, m_uI_I, m_uL_K, m_uL_N, m_uL_R, m_uL_I, m_uL_L, m_uR_K, m_uR_N, m_uR_I, m_uR_L, m_uR_R, true_and, and_true]
    rw [c_x_put d c _ _ L2 (n + 8) (put4_n _ _ _ _ _ _) (by omega)]
    simp +decide only [lx L3, am_w1_i, am_w1_r, am_w1_x, am_w1_l, am_w1_w, va_rf_s, am_push_n, am_push_s, am_cs_0, am_cs_i, am_cs_l, am_cs_r, m_uI_K, m_uI_N, m_uI_R, m_uI_L, m_uI_I, m_uL_K, m_uL_N, m_uL_R, m_uL_I, m_uL_L, m_uR_K, m_uR_N, m_uR_I, m_uR_L, m_uR_R, true_and, and_true]
    rw [c_x_put d e _ _ L3 (n + 12) (put4_n _ _ _ _ _ _) (by omega)]
    simp +decide only [lx L4, am_w1_i, am_w1_r, am_w1_x, am_w1_l, am_w1_w, va_rf_s, am_push_n, am_push_s, am_cs_0, am_cs_i, am_cs_l, am_cs_r, m_uI_K, m_uI_N, m_uI_R, m_uI_L, m_uI_I, m_uL_K, m_uL_N, m_uL_R, m_uL_I, m_uL_L, m_uR_K, m_uR_N, m_uR_I, m_uR_L, m_uR_R, true_and, and_true]
    rw [c_x_put d f _ _ L4 (n + 16) (put4_n _ _ _ _ _ _) (by omega)]
    simp +decide only [qX10_feed, lx L5, am_w1_i, am_w1_r, am_w1_x, am_w1_l, am_w1_w, va_rf_s, am_push_n, am_push_s, am_cs_0, am_cs_i, am_cs_l, am_cs_r, m_uI_K, m_uI_N, m_uI_R, m_uI_L, m_uI_I, m_uL_K, m_uL_N, m_uL_R, m_uL_I, m_uL_L, m_uR_K, m_uR_N, m_uR_I, m_uR_L, m_uR_R, true_and, and_true]
    rw [show mI (put4 (put4 (put4 (put4 (put4 M 1 0 1 n a) 1 0 1 (n + 4) b) 1 0 1 (n + 8) c) 1 0 1 (n + 12) e) 1 0 1 (n + 16) f) 0 1 = nI (n + 20) from put4_n _ _ _ _ _ _]
    rfl
  · have h2 : ¬ nI (n + 20) ≤ nI 1800 := fun q => h1 ((ni_le (by omega) (by omega)).mp q)
    rw [br_n h2, if_neg h1]
theorem c_x_end (d : Nat) (k : Int32) (M : am_M) (Q : Option Value → am_M → Prop) (h : Lay M) (n : Nat) (hn : mI M 0 1 = nI n) : am_E am_P0 d 110 [.ref 0, .int k] M Q ↔ if k < 0 ∨ nI n < k then Q (some (.int 0)) (uI M 169 0 (mI M 169 0 + 1)) else Q (some (.int 1)) (uI M 0 1 k) := by
  rw [eX10_end]
  have i5 : am_in 0 5 = True := eq_true (by decide)
  have t5 : (Int32.toInt 0).toNat = 0 := rfl
  simp +decide only [qX10_end, lx h, hn, i5, t5, am_w1_i, am_w1_r, am_w1_x, am_w1_l, am_w1_w, va_rf_s, am_push_n, am_push_s, am_cs_0, am_cs_i, am_cs_l, am_cs_r, m_uI_K, m_uI_N, m_uI_R, m_uI_L, m_uI_I, m_uL_K, m_uL_N, m_uL_R, m_uL_I, m_uL_L, m_uR_K, m_uR_N, m_uR_I, m_uR_L, m_uR_R, true_and, and_true]
  by_cases h0 : k < 0
  · rw [br_p h0, if_pos (Or.inl h0)]
  · by_cases h1 : nI n < k
    · have h2 : ¬ k ≤ nI n := Int32.not_le.mpr h1
      rw [br_n h0, br_n h2, if_pos (Or.inr h1)]
    · have h2 : k ≤ nI n := Int32.not_lt.mp h1
      rw [br_n h0, br_p h2, if_neg (by rintro (q | q); exact h0 q; exact h1 q)]
theorem c_x_octet (d : Nat) (k : Int32) (M : am_M) (Q : Option Value → am_M → Prop) (h : Lay M) (n : Nat) (hn : mI M 0 10 = nI n) (hb : n ≤ 507) : am_E am_P0 d 145 [.ref 0, .int k] M Q ↔ Q (some (.int (if 0 ≤ k.toInt ∧ k.toInt < n then mI M 170 k.toInt.toNat else -1))) M := by
  rw [eX10_octet]
  simp +decide only [qX10_octet, lx h, hn, am_w1_i, am_w1_r, am_w1_x, am_w1_l, am_w1_w, va_rf_s, am_push_n, am_push_s, am_cs_0, am_cs_i, am_cs_l, am_cs_r, m_uI_K, m_uI_N, m_uI_R, m_uI_L, m_uI_I, m_uL_K, m_uL_N, m_uL_R, m_uL_I, m_uL_L, m_uR_K, m_uR_N, m_uR_I, m_uR_L, m_uR_R, true_and, and_true]
  rw [lt32, lt32, ni_ti (by omega), z32]
  by_cases h0 : k.toInt < 0
  · have : ¬ (0 ≤ k.toInt ∧ k.toInt < n) := by omega
    rw [br_p h0, if_neg this]
  · by_cases h1 : k.toInt < (n : Int)
    · have h2 : 0 ≤ k.toInt ∧ k.toInt < n := by omega
      have h3 : am_in k 507 := ⟨h2.1, by show k.toInt < 507; omega⟩
      rw [br_n h0, br_p h1, if_pos h2]
      simp only [eq_true h3, true_and]
    · have : ¬ (0 ≤ k.toInt ∧ k.toInt < n) := by omega
      rw [br_n h0, br_n h1, if_neg this]
theorem am_tab_out {lo : Int} {tgs : List Nat} {df : Nat} {x : Int32} (h : x.toInt < lo ∨ lo + tgs.length ≤ x.toInt) : am_tab lo tgs df x = df := by
  unfold am_tab
  by_cases h1 : x.toInt < lo
  · rw [if_pos h1]
  · rw [if_neg h1, List.getElem?_eq_none (by omega)]
    rfl
theorem i32_of {x : Int32} {n : Nat} (h : x.toInt = n) (hn : n < 2147483648) : x = nI n := by rw [← Int32.toInt_inj, ni_ti hn]; exact h
theorem am_lk_out {ps : List (Int × Nat)} {df : Nat} {x : Int32} (h : ∀ q ∈ ps, q.1 ≠ x.toInt) : am_lk ps df x = df := by
  unfold am_lk
  rw [List.find?_eq_none.mpr (fun q hq => by simpa using h q hq)]
  rfl
theorem c_x_fault (d : Nat) (k : Int32) (M : am_M) (Q : Option Value → am_M → Prop) (h : Lay M) : am_E am_P0 d 112 [.ref 0, .int k] M Q ↔ Q (some (.int (if k = 0 then mI M 0 5 else if k = 1 then mI M 0 6 else -1))) M := by
  rw [eX10_fault]
  simp only [qX10_fault, lx h, am_w1_i, am_w1_r, am_w1_x, am_w1_l, am_w1_w, va_rf_s, am_push_n, am_push_s, am_cs_0, am_cs_i, am_cs_l, am_cs_r, m_uI_K, m_uI_N, m_uI_R, m_uI_L, m_uI_I, m_uL_K, m_uL_N, m_uL_R, m_uL_I, m_uL_L, m_uR_K, m_uR_N, m_uR_I, m_uR_L, m_uR_R, true_and, and_true]
  by_cases h0 : k = 0
  · subst h0
    rw [if_pos rfl, show am_lk [(0, 28), (1, 33)] 38 0 = 28 from by decide]
    simp only [qX10_fault, lx h, am_w1_i, am_w1_r, am_w1_x, am_w1_l, am_w1_w, va_rf_s, am_push_n, am_push_s, am_cs_0, am_cs_i, am_cs_l, am_cs_r, m_uI_K, m_uI_N, m_uI_R, m_uI_L, m_uI_I, m_uL_K, m_uL_N, m_uL_R, m_uL_I, m_uL_L, m_uR_K, m_uR_N, m_uR_I, m_uR_L, m_uR_R, true_and, and_true]
  · by_cases h1 : k = 1
    · subst h1
      rw [if_neg h0, if_pos rfl, show am_lk [(0, 28), (1, 33)] 38 1 = 33 from by decide]
      simp only [qX10_fault, lx h, am_w1_i, am_w1_r, am_w1_x, am_w1_l, am_w1_w, va_rf_s, am_push_n, am_push_s, am_cs_0, am_cs_i, am_cs_l, am_cs_r, m_uI_K, m_uI_N, m_uI_R, m_uI_L, m_uI_I, m_uL_K, m_uL_N, m_uL_R, m_uL_I, m_uL_L, m_uR_K, m_uR_N, m_uR_I, m_uR_L, m_uR_R, true_and, and_true]
    · have n0 : ¬ (0 : Int) = k.toInt := fun q => h0 (Int32.toInt_inj.mp q.symm)
      have n1 : ¬ (1 : Int) = k.toInt := fun q => h1 (Int32.toInt_inj.mp q.symm)
      rw [if_neg h0, if_neg h1, am_lk_out (by simp [n0, n1])]
      simp only [qX10_fault, lx h, am_w1_i, am_w1_r, am_w1_x, am_w1_l, am_w1_w, va_rf_s, am_push_n, am_push_s, am_cs_0, am_cs_i, am_cs_l, am_cs_r, m_uI_K, m_uI_N, m_uI_R, m_uI_L, m_uI_I, m_uL_K, m_uL_N, m_uL_R, m_uL_I, m_uL_L, m_uR_K, m_uR_N, m_uR_I, m_uR_L, m_uR_R, true_and, and_true]
theorem c_x_status (d : Nat) (k : Int32) (M : am_M) (Q : Option Value → am_M → Prop) (h : Lay M) : am_E am_P0 d 147 [.ref 0, .int k] M Q ↔ Q (some (.int (if 0 ≤ k ∧ k ≤ 4 then mI M 169 k.toInt.toNat else -1))) M := by
  rw [eX10_status]
  have e5 : Int32.ofNat 5 = 5 := rfl
  have c4 : (4 : Int32).toInt = 4 := rfl
  have c5 : (5 : Int32).toInt = 5 := rfl
  have z := z32
  simp +decide only [qX10_status, lx h, e5, am_w1_i, am_w1_r, am_w1_x, am_w1_l, am_w1_w, va_rf_s, am_push_n, am_push_s, am_cs_0, am_cs_i, am_cs_l, am_cs_r, m_uI_K, m_uI_N, m_uI_R, m_uI_L, m_uI_I, m_uL_K, m_uL_N, m_uL_R, m_uL_I, m_uL_L, m_uR_K, m_uR_N, m_uR_I, m_uR_L, m_uR_R, true_and, and_true]
  by_cases h0 : k < 0
  · rw [br_p h0, if_neg (fun q => absurd q.1 (Int32.not_le.mpr h0))]
  · by_cases h1 : k < 5
    · have g0 := le32.mp (Int32.not_lt.mp h0)
      have g1 := lt32.mp h1
      rw [z] at g0
      rw [c5] at g1
      have h3 : am_in k 5 := ⟨g0, g1⟩
      rw [br_n h0, br_p h1, if_pos ⟨Int32.not_lt.mp h0, le32.mpr (by rw [c4]; omega)⟩]
      simp only [eq_true h3, true_and]
    · rw [br_n h0, br_n h1, if_neg (fun q => h1 (lt32.mpr (by have := le32.mp q.2; rw [c4] at this; rw [c5]; omega)))]
