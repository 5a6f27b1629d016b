/-! the law: its cases -/
theorem am_E_mono {P : Nat → am_Y} {d y : Nat} {as : List Value} {M : am_M} {Q Q' : Option Value → am_M → Prop} (h : am_E P d y as M Q) (hq : ∀ r M', Q r M' → Q' r M') : am_E P d y as M Q' := am_P_mono h hq
theorem ni_a5 (n : Nat) : nI n + 5 = nI (n + 5) := ni_add n 5
theorem ni_a6 (n : Nat) : nI n + 6 = nI (n + 6) := ni_add n 6
theorem lc_feed (xs : Nat → Int32) (L d i : Nat) (M : am_M) (Q : Option Value → am_M → Prop) (hd : 200 ≤ d) (hi : i + 6 ≤ L) (hL : L ≤ 3072) (hI : Inv M) (hQ : ∀ M', Inv M' → am_P am_P0 (d + 1) (am_look (tL xs L)) 18 [.retAddr 0, .ref 0, .ref 277, .int (nI (i + 6))] [] M' Q) : am_P am_P0 (d + 1) (am_look (tL xs L)) 204 [.retAddr 0, .ref 0, .ref 277, .int (nI i)] [] M Q := by
  obtain ⟨z, b, D, hD, hX, -⟩ := id hI
  have kx : mK M 0 = 20 := (lx hX.1.1).1
  simp +decide (disch := omega) only [qL_0 xs L, qL_1 xs L, qL_25 xs L, kx, ni_in_t, ni_tn, ni_add1, ni_a2, ni_a3, ni_a4, ni_a5, ni_a6, am_w1_i, am_w1_r, am_w1_x, am_w1_l, am_w1_w, va_rf_s, am_push_n, am_push_s, am_cs_0, am_cs_i, am_cs_l, am_cs_r, m_uI_K, m_uI_N, m_uI_R, m_uI_L, m_uI_I, m_uL_K, m_uL_N, m_uL_R, m_uL_I, m_uL_L, m_uR_K, m_uR_N, m_uR_I, m_uR_L, m_uR_R, true_and, and_true, true_implies, false_implies, not_true_eq_false, not_false_eq_true, if_true, if_false, false_and, and_false]
  refine am_E_mono (op_feed (xs (i + 1)) (xs (i + 2)) (xs (i + 3)) (xs (i + 4)) (xs (i + 5)) M hI d hd) (fun r M1 h1 => ?_)
  obtain ⟨v, rfl, ⟨x, rfl⟩, L1, h2⟩ := h1
  have k1 : mK M1 277 = 21 := (lm L1).1
  simp +decide (disch := omega) only [qL_0 xs L, qL_1 xs L, qL_25 xs L, k1, ni_in_t, ni_tn, ni_add1, ni_a2, ni_a3, ni_a4, ni_a5, ni_a6, am_w1_i, am_w1_r, am_w1_x, am_w1_l, am_w1_w, va_rf_s, am_push_n, am_push_s, am_cs_0, am_cs_i, am_cs_l, am_cs_r, m_uI_K, m_uI_N, m_uI_R, m_uI_L, m_uI_I, m_uL_K, m_uL_N, m_uL_R, m_uL_I, m_uL_L, m_uR_K, m_uR_N, m_uR_I, m_uR_L, m_uR_R, true_and, and_true, true_implies, false_implies, not_true_eq_false, not_false_eq_true, if_true, if_false, false_and, and_false]
  refine am_E_mono h2 (fun r M2 h3 => ?_)
  obtain ⟨rfl, hI2⟩ := h3
  have h0 := hQ M2 hI2
  simp +decide (disch := omega) only [qL_0 xs L, qL_1 xs L, qL_25 xs L, eq_self, lgc_0, ni_in_t, ni_tn, ni_add1, ni_a2, ni_a3, ni_a4, ni_a5, ni_a6, am_w1_i, am_w1_r, am_w1_x, am_w1_l, am_w1_w, va_rf_s, am_push_n, am_push_s, am_cs_0, am_cs_i, am_cs_l, am_cs_r, m_uI_K, m_uI_N, m_uI_R, m_uI_L, m_uI_I, m_uL_K, m_uL_N, m_uL_R, m_uL_I, m_uL_L, m_uR_K, m_uR_N, m_uR_I, m_uR_L, m_uR_R, true_and, and_true, true_implies, false_implies, not_true_eq_false, not_false_eq_true, if_true, if_false, false_and, and_false]
  exact h0
theorem lc_end (xs : Nat → Int32) (L d i : Nat) (M : am_M) (Q : Option Value → am_M → Prop) (hd : 200 ≤ d) (hi : i + 6 ≤ L) (hL : L ≤ 3072) (hI : Inv M) (hQ : ∀ M', Inv M' → am_P am_P0 (d + 1) (am_look (tL xs L)) 18 [.retAddr 0, .ref 0, .ref 277, .int (nI (i + 6))] [] M' Q) : am_P am_P0 (d + 1) (am_look (tL xs L)) 267 [.retAddr 0, .ref 0, .ref 277, .int (nI i)] [] M Q := by
  obtain ⟨z, b, D, hD, hX, -⟩ := id hI
  have kx : mK M 0 = 20 := (lx hX.1.1).1
  simp +decide (disch := omega) only [qL_1 xs L, qL_2 xs L, qL_25 xs L, kx, ni_in_t, ni_tn, ni_add1, ni_a2, ni_a3, ni_a4, ni_a5, ni_a6, am_w1_i, am_w1_r, am_w1_x, am_w1_l, am_w1_w, va_rf_s, am_push_n, am_push_s, am_cs_0, am_cs_i, am_cs_l, am_cs_r, m_uI_K, m_uI_N, m_uI_R, m_uI_L, m_uI_I, m_uL_K, m_uL_N, m_uL_R, m_uL_I, m_uL_L, m_uR_K, m_uR_N, m_uR_I, m_uR_L, m_uR_R, true_and, and_true, true_implies, false_implies, not_true_eq_false, not_false_eq_true, if_true, if_false, false_and, and_false]
  refine am_E_mono (op_end (xs (i + 1)) M hI d hd) (fun r M1 h1 => ?_)
  obtain ⟨v, rfl, ⟨x, rfl⟩, L1, h2⟩ := h1
  have k1 : mK M1 277 = 21 := (lm L1).1
  simp +decide (disch := omega) only [qL_1 xs L, qL_2 xs L, qL_25 xs L, k1, ni_in_t, ni_tn, ni_add1, ni_a2, ni_a3, ni_a4, ni_a5, ni_a6, am_w1_i, am_w1_r, am_w1_x, am_w1_l, am_w1_w, va_rf_s, am_push_n, am_push_s, am_cs_0, am_cs_i, am_cs_l, am_cs_r, m_uI_K, m_uI_N, m_uI_R, m_uI_L, m_uI_I, m_uL_K, m_uL_N, m_uL_R, m_uL_I, m_uL_L, m_uR_K, m_uR_N, m_uR_I, m_uR_L, m_uR_R, true_and, and_true, true_implies, false_implies, not_true_eq_false, not_false_eq_true, if_true, if_false, false_and, and_false]
  refine am_E_mono h2 (fun r M2 h3 => ?_)
  obtain ⟨rfl, hI2⟩ := h3
  have h0 := hQ M2 hI2
  simp +decide (disch := omega) only [qL_1 xs L, qL_2 xs L, qL_25 xs L, eq_self, lgc_0, ni_in_t, ni_tn, ni_add1, ni_a2, ni_a3, ni_a4, ni_a5, ni_a6, am_w1_i, am_w1_r, am_w1_x, am_w1_l, am_w1_w, va_rf_s, am_push_n, am_push_s, am_cs_0, am_cs_i, am_cs_l, am_cs_r, m_uI_K, m_uI_N, m_uI_R, m_uI_L, m_uI_I, m_uL_K, m_uL_N, m_uL_R, m_uL_I, m_uL_L, m_uR_K, m_uR_N, m_uR_I, m_uR_L, m_uR_R, true_and, and_true, true_implies, false_implies, not_true_eq_false, not_false_eq_true, if_true, if_false, false_and, and_false]
  exact h0
theorem lc_sea (xs : Nat → Int32) (L d i : Nat) (M : am_M) (Q : Option Value → am_M → Prop) (hd : 200 ≤ d) (hi : i + 6 ≤ L) (hL : L ≤ 3072) (hI : Inv M) (hQ : ∀ M', Inv M' → am_P am_P0 (d + 1) (am_look (tL xs L)) 18 [.retAddr 0, .ref 0, .ref 277, .int (nI (i + 6))] [] M' Q) : am_P am_P0 (d + 1) (am_look (tL xs L)) 290 [.retAddr 0, .ref 0, .ref 277, .int (nI i)] [] M Q := by
  obtain ⟨z, b, D, hD, hX, -⟩ := id hI
  have kx : mK M 0 = 20 := (lx hX.1.1).1
  simp +decide (disch := omega) only [qL_2 xs L, qL_25 xs L, kx, ni_in_t, ni_tn, ni_add1, ni_a2, ni_a3, ni_a4, ni_a5, ni_a6, am_w1_i, am_w1_r, am_w1_x, am_w1_l, am_w1_w, va_rf_s, am_push_n, am_push_s, am_cs_0, am_cs_i, am_cs_l, am_cs_r, m_uI_K, m_uI_N, m_uI_R, m_uI_L, m_uI_I, m_uL_K, m_uL_N, m_uL_R, m_uL_I, m_uL_L, m_uR_K, m_uR_N, m_uR_I, m_uR_L, m_uR_R, true_and, and_true, true_implies, false_implies, not_true_eq_false, not_false_eq_true, if_true, if_false, false_and, and_false]
  refine am_E_mono (op_sea M hI d hd) (fun r M1 h1 => ?_)
  obtain ⟨v, rfl, ⟨x, rfl⟩, L1, h2⟩ := h1
  have k1 : mK M1 277 = 21 := (lm L1).1
  simp +decide (disch := omega) only [qL_2 xs L, qL_25 xs L, k1, ni_in_t, ni_tn, ni_add1, ni_a2, ni_a3, ni_a4, ni_a5, ni_a6, am_w1_i, am_w1_r, am_w1_x, am_w1_l, am_w1_w, va_rf_s, am_push_n, am_push_s, am_cs_0, am_cs_i, am_cs_l, am_cs_r, m_uI_K, m_uI_N, m_uI_R, m_uI_L, m_uI_I, m_uL_K, m_uL_N, m_uL_R, m_uL_I, m_uL_L, m_uR_K, m_uR_N, m_uR_I, m_uR_L, m_uR_R, true_and, and_true, true_implies, false_implies, not_true_eq_false, not_false_eq_true, if_true, if_false, false_and, and_false]
  refine am_E_mono h2 (fun r M2 h3 => ?_)
  obtain ⟨rfl, hI2⟩ := h3
  have h0 := hQ M2 hI2
  simp +decide (disch := omega) only [qL_2 xs L, qL_25 xs L, eq_self, lgc_0, ni_in_t, ni_tn, ni_add1, ni_a2, ni_a3, ni_a4, ni_a5, ni_a6, am_w1_i, am_w1_r, am_w1_x, am_w1_l, am_w1_w, va_rf_s, am_push_n, am_push_s, am_cs_0, am_cs_i, am_cs_l, am_cs_r, m_uI_K, m_uI_N, m_uI_R, m_uI_L, m_uI_I, m_uL_K, m_uL_N, m_uL_R, m_uL_I, m_uL_L, m_uR_K, m_uR_N, m_uR_I, m_uR_L, m_uR_R, true_and, and_true, true_implies, false_implies, not_true_eq_false, not_false_eq_true, if_true, if_false, false_and, and_false]
  exact h0
theorem lc_fault (xs : Nat → Int32) (L d i : Nat) (M : am_M) (Q : Option Value → am_M → Prop) (hd : 200 ≤ d) (hi : i + 6 ≤ L) (hL : L ≤ 3072) (hI : Inv M) (hQ : ∀ M', Inv M' → am_P am_P0 (d + 1) (am_look (tL xs L)) 18 [.retAddr 0, .ref 0, .ref 277, .int (nI (i + 6))] [] M' Q) : am_P am_P0 (d + 1) (am_look (tL xs L)) 303 [.retAddr 0, .ref 0, .ref 277, .int (nI i)] [] M Q := by
  obtain ⟨z, b, D, hD, hX, -⟩ := id hI
  have kx : mK M 0 = 20 := (lx hX.1.1).1
  simp +decide (disch := omega) only [qL_2 xs L, qL_25 xs L, kx, ni_in_t, ni_tn, ni_add1, ni_a2, ni_a3, ni_a4, ni_a5, ni_a6, am_w1_i, am_w1_r, am_w1_x, am_w1_l, am_w1_w, va_rf_s, am_push_n, am_push_s, am_cs_0, am_cs_i, am_cs_l, am_cs_r, m_uI_K, m_uI_N, m_uI_R, m_uI_L, m_uI_I, m_uL_K, m_uL_N, m_uL_R, m_uL_I, m_uL_L, m_uR_K, m_uR_N, m_uR_I, m_uR_L, m_uR_R, true_and, and_true, true_implies, false_implies, not_true_eq_false, not_false_eq_true, if_true, if_false, false_and, and_false]
  refine am_E_mono (op_faultU (xs (i + 1)) M hI d hd) (fun r M1 h1 => ?_)
  obtain ⟨v, rfl, ⟨x, rfl⟩, L1, h2⟩ := h1
  have k1 : mK M1 277 = 21 := (lm L1).1
  simp +decide (disch := omega) only [qL_2 xs L, qL_25 xs L, k1, ni_in_t, ni_tn, ni_add1, ni_a2, ni_a3, ni_a4, ni_a5, ni_a6, am_w1_i, am_w1_r, am_w1_x, am_w1_l, am_w1_w, va_rf_s, am_push_n, am_push_s, am_cs_0, am_cs_i, am_cs_l, am_cs_r, m_uI_K, m_uI_N, m_uI_R, m_uI_L, m_uI_I, m_uL_K, m_uL_N, m_uL_R, m_uL_I, m_uL_L, m_uR_K, m_uR_N, m_uR_I, m_uR_L, m_uR_R, true_and, and_true, true_implies, false_implies, not_true_eq_false, not_false_eq_true, if_true, if_false, false_and, and_false]
  refine am_E_mono h2 (fun r M2 h3 => ?_)
  obtain ⟨v2, rfl, ⟨x2, rfl⟩, hI2⟩ := h3
  have h0 := hQ M2 hI2
  simp +decide (disch := omega) only [qL_2 xs L, qL_25 xs L, eq_self, lgc_0, ni_in_t, ni_tn, ni_add1, ni_a2, ni_a3, ni_a4, ni_a5, ni_a6, am_w1_i, am_w1_r, am_w1_x, am_w1_l, am_w1_w, va_rf_s, am_push_n, am_push_s, am_cs_0, am_cs_i, am_cs_l, am_cs_r, m_uI_K, m_uI_N, m_uI_R, m_uI_L, m_uI_I, m_uL_K, m_uL_N, m_uL_R, m_uL_I, m_uL_L, m_uR_K, m_uR_N, m_uR_I, m_uR_L, m_uR_R, true_and, and_true, true_implies, false_implies, not_true_eq_false, not_false_eq_true, if_true, if_false, false_and, and_false]
  exact h0
theorem lc_has (xs : Nat → Int32) (L d i : Nat) (M : am_M) (Q : Option Value → am_M → Prop) (hd : 200 ≤ d) (hi : i + 6 ≤ L) (hL : L ≤ 3072) (hI : Inv M) (hQ : ∀ M', Inv M' → am_P am_P0 (d + 1) (am_look (tL xs L)) 18 [.retAddr 0, .ref 0, .ref 277, .int (nI (i + 6))] [] M' Q) : am_P am_P0 (d + 1) (am_look (tL xs L)) 326 [.retAddr 0, .ref 0, .ref 277, .int (nI i)] [] M Q := by
  obtain ⟨z, b, D, hD, hX, -⟩ := id hI
  have kx : mK M 0 = 20 := (lx hX.1.1).1
  simp +decide (disch := omega) only [qL_2 xs L, qL_3 xs L, qL_25 xs L, kx, ni_in_t, ni_tn, ni_add1, ni_a2, ni_a3, ni_a4, ni_a5, ni_a6, am_w1_i, am_w1_r, am_w1_x, am_w1_l, am_w1_w, va_rf_s, am_push_n, am_push_s, am_cs_0, am_cs_i, am_cs_l, am_cs_r, m_uI_K, m_uI_N, m_uI_R, m_uI_L, m_uI_I, m_uL_K, m_uL_N, m_uL_R, m_uL_I, m_uL_L, m_uR_K, m_uR_N, m_uR_I, m_uR_L, m_uR_R, true_and, and_true, true_implies, false_implies, not_true_eq_false, not_false_eq_true, if_true, if_false, false_and, and_false]
  refine am_E_mono (op_has (xs (i + 1)) M hI d hd) (fun r M1 h1 => ?_)
  obtain ⟨v, rfl, ⟨x, rfl⟩, L1, h2⟩ := h1
  have k1 : mK M1 277 = 21 := (lm L1).1
  simp +decide (disch := omega) only [qL_2 xs L, qL_3 xs L, qL_25 xs L, k1, ni_in_t, ni_tn, ni_add1, ni_a2, ni_a3, ni_a4, ni_a5, ni_a6, am_w1_i, am_w1_r, am_w1_x, am_w1_l, am_w1_w, va_rf_s, am_push_n, am_push_s, am_cs_0, am_cs_i, am_cs_l, am_cs_r, m_uI_K, m_uI_N, m_uI_R, m_uI_L, m_uI_I, m_uL_K, m_uL_N, m_uL_R, m_uL_I, m_uL_L, m_uR_K, m_uR_N, m_uR_I, m_uR_L, m_uR_R, true_and, and_true, true_implies, false_implies, not_true_eq_false, not_false_eq_true, if_true, if_false, false_and, and_false]
  refine am_E_mono h2 (fun r M2 h3 => ?_)
  obtain ⟨rfl, hI2⟩ := h3
  have h0 := hQ M2 hI2
  simp +decide (disch := omega) only [qL_2 xs L, qL_3 xs L, qL_25 xs L, eq_self, lgc_0, ni_in_t, ni_tn, ni_add1, ni_a2, ni_a3, ni_a4, ni_a5, ni_a6, am_w1_i, am_w1_r, am_w1_x, am_w1_l, am_w1_w, va_rf_s, am_push_n, am_push_s, am_cs_0, am_cs_i, am_cs_l, am_cs_r, m_uI_K, m_uI_N, m_uI_R, m_uI_L, m_uI_I, m_uL_K, m_uL_N, m_uL_R, m_uL_I, m_uL_L, m_uR_K, m_uR_N, m_uR_I, m_uR_L, m_uR_R, true_and, and_true, true_implies, false_implies, not_true_eq_false, not_false_eq_true, if_true, if_false, false_and, and_false]
  exact h0
theorem lc_letter (xs : Nat → Int32) (L d i : Nat) (M : am_M) (Q : Option Value → am_M → Prop) (hd : 200 ≤ d) (hi : i + 6 ≤ L) (hL : L ≤ 3072) (hI : Inv M) (hQ : ∀ M', Inv M' → am_P am_P0 (d + 1) (am_look (tL xs L)) 18 [.retAddr 0, .ref 0, .ref 277, .int (nI (i + 6))] [] M' Q) : am_P am_P0 (d + 1) (am_look (tL xs L)) 349 [.retAddr 0, .ref 0, .ref 277, .int (nI i)] [] M Q := by
  obtain ⟨z, b, D, hD, hX, -⟩ := id hI
  have kx : mK M 0 = 20 := (lx hX.1.1).1
  simp +decide (disch := omega) only [qL_3 xs L, qL_4 xs L, qL_25 xs L, kx, ni_in_t, ni_tn, ni_add1, ni_a2, ni_a3, ni_a4, ni_a5, ni_a6, am_w1_i, am_w1_r, am_w1_x, am_w1_l, am_w1_w, va_rf_s, am_push_n, am_push_s, am_cs_0, am_cs_i, am_cs_l, am_cs_r, m_uI_K, m_uI_N, m_uI_R, m_uI_L, m_uI_I, m_uL_K, m_uL_N, m_uL_R, m_uL_I, m_uL_L, m_uR_K, m_uR_N, m_uR_I, m_uR_L, m_uR_R, true_and, and_true, true_implies, false_implies, not_true_eq_false, not_false_eq_true, if_true, if_false, false_and, and_false]
  refine am_E_mono (op_letter (xs (i + 1)) (xs (i + 2)) M hI d hd) (fun r M1 h1 => ?_)
  obtain ⟨v, rfl, ⟨x, rfl⟩, L1, h2⟩ := h1
  have k1 : mK M1 277 = 21 := (lm L1).1
  simp +decide (disch := omega) only [qL_3 xs L, qL_4 xs L, qL_25 xs L, k1, ni_in_t, ni_tn, ni_add1, ni_a2, ni_a3, ni_a4, ni_a5, ni_a6, am_w1_i, am_w1_r, am_w1_x, am_w1_l, am_w1_w, va_rf_s, am_push_n, am_push_s, am_cs_0, am_cs_i, am_cs_l, am_cs_r, m_uI_K, m_uI_N, m_uI_R, m_uI_L, m_uI_I, m_uL_K, m_uL_N, m_uL_R, m_uL_I, m_uL_L, m_uR_K, m_uR_N, m_uR_I, m_uR_L, m_uR_R, true_and, and_true, true_implies, false_implies, not_true_eq_false, not_false_eq_true, if_true, if_false, false_and, and_false]
  refine am_E_mono h2 (fun r M2 h3 => ?_)
  obtain ⟨rfl, hI2⟩ := h3
  have h0 := hQ M2 hI2
  simp +decide (disch := omega) only [qL_3 xs L, qL_4 xs L, qL_25 xs L, eq_self, lgc_0, ni_in_t, ni_tn, ni_add1, ni_a2, ni_a3, ni_a4, ni_a5, ni_a6, am_w1_i, am_w1_r, am_w1_x, am_w1_l, am_w1_w, va_rf_s, am_push_n, am_push_s, am_cs_0, am_cs_i, am_cs_l, am_cs_r, m_uI_K, m_uI_N, m_uI_R, m_uI_L, m_uI_I, m_uL_K, m_uL_N, m_uL_R, m_uL_I, m_uL_L, m_uR_K, m_uR_N, m_uR_I, m_uR_L, m_uR_R, true_and, and_true, true_implies, false_implies, not_true_eq_false, not_false_eq_true, if_true, if_false, false_and, and_false]
  exact h0
theorem lc_ship (xs : Nat → Int32) (L d i : Nat) (M : am_M) (Q : Option Value → am_M → Prop) (hd : 200 ≤ d) (hi : i + 6 ≤ L) (hL : L ≤ 3072) (hI : Inv M) (hQ : ∀ M', Inv M' → am_P am_P0 (d + 1) (am_look (tL xs L)) 18 [.retAddr 0, .ref 0, .ref 277, .int (nI (i + 6))] [] M' Q) : am_P am_P0 (d + 1) (am_look (tL xs L)) 382 [.retAddr 0, .ref 0, .ref 277, .int (nI i)] [] M Q := by
  obtain ⟨z, b, D, hD, hX, -⟩ := id hI
  have kx : mK M 0 = 20 := (lx hX.1.1).1
  simp +decide (disch := omega) only [qL_4 xs L, qL_25 xs L, kx, ni_in_t, ni_tn, ni_add1, ni_a2, ni_a3, ni_a4, ni_a5, ni_a6, am_w1_i, am_w1_r, am_w1_x, am_w1_l, am_w1_w, va_rf_s, am_push_n, am_push_s, am_cs_0, am_cs_i, am_cs_l, am_cs_r, m_uI_K, m_uI_N, m_uI_R, m_uI_L, m_uI_I, m_uL_K, m_uL_N, m_uL_R, m_uL_I, m_uL_L, m_uR_K, m_uR_N, m_uR_I, m_uR_L, m_uR_R, true_and, and_true, true_implies, false_implies, not_true_eq_false, not_false_eq_true, if_true, if_false, false_and, and_false]
  refine am_E_mono (op_ship (xs (i + 1)) (xs (i + 2)) M hI d hd) (fun r M1 h1 => ?_)
  obtain ⟨v, rfl, ⟨x, rfl⟩, L1, h2⟩ := h1
  have k1 : mK M1 277 = 21 := (lm L1).1
  simp +decide (disch := omega) only [qL_4 xs L, qL_25 xs L, k1, ni_in_t, ni_tn, ni_add1, ni_a2, ni_a3, ni_a4, ni_a5, ni_a6, am_w1_i, am_w1_r, am_w1_x, am_w1_l, am_w1_w, va_rf_s, am_push_n, am_push_s, am_cs_0, am_cs_i, am_cs_l, am_cs_r, m_uI_K, m_uI_N, m_uI_R, m_uI_L, m_uI_I, m_uL_K, m_uL_N, m_uL_R, m_uL_I, m_uL_L, m_uR_K, m_uR_N, m_uR_I, m_uR_L, m_uR_R, true_and, and_true, true_implies, false_implies, not_true_eq_false, not_false_eq_true, if_true, if_false, false_and, and_false]
  refine am_E_mono h2 (fun r M2 h3 => ?_)
  obtain ⟨rfl, hI2⟩ := h3
  have h0 := hQ M2 hI2
  simp +decide (disch := omega) only [qL_4 xs L, qL_25 xs L, eq_self, lgc_0, ni_in_t, ni_tn, ni_add1, ni_a2, ni_a3, ni_a4, ni_a5, ni_a6, am_w1_i, am_w1_r, am_w1_x, am_w1_l, am_w1_w, va_rf_s, am_push_n, am_push_s, am_cs_0, am_cs_i, am_cs_l, am_cs_r, m_uI_K, m_uI_N, m_uI_R, m_uI_L, m_uI_I, m_uL_K, m_uL_N, m_uL_R, m_uL_I, m_uL_L, m_uR_K, m_uR_N, m_uR_I, m_uR_L, m_uR_R, true_and, and_true, true_implies, false_implies, not_true_eq_false, not_false_eq_true, if_true, if_false, false_and, and_false]
  exact h0
theorem lc_saying (xs : Nat → Int32) (L d i : Nat) (M : am_M) (Q : Option Value → am_M → Prop) (hd : 200 ≤ d) (hi : i + 6 ≤ L) (hL : L ≤ 3072) (hI : Inv M) (hQ : ∀ M', Inv M' → am_P am_P0 (d + 1) (am_look (tL xs L)) 18 [.retAddr 0, .ref 0, .ref 277, .int (nI (i + 6))] [] M' Q) : am_P am_P0 (d + 1) (am_look (tL xs L)) 415 [.retAddr 0, .ref 0, .ref 277, .int (nI i)] [] M Q := by
  obtain ⟨z, b, D, hD, hX, -⟩ := id hI
  have kx : mK M 0 = 20 := (lx hX.1.1).1
  simp +decide (disch := omega) only [qL_4 xs L, qL_5 xs L, qL_25 xs L, kx, ni_in_t, ni_tn, ni_add1, ni_a2, ni_a3, ni_a4, ni_a5, ni_a6, am_w1_i, am_w1_r, am_w1_x, am_w1_l, am_w1_w, va_rf_s, am_push_n, am_push_s, am_cs_0, am_cs_i, am_cs_l, am_cs_r, m_uI_K, m_uI_N, m_uI_R, m_uI_L, m_uI_I, m_uL_K, m_uL_N, m_uL_R, m_uL_I, m_uL_L, m_uR_K, m_uR_N, m_uR_I, m_uR_L, m_uR_R, true_and, and_true, true_implies, false_implies, not_true_eq_false, not_false_eq_true, if_true, if_false, false_and, and_false]
  refine am_E_mono (op_saying (xs (i + 1)) (xs (i + 2)) (xs (i + 3)) M hI d hd) (fun r M1 h1 => ?_)
  obtain ⟨v, rfl, ⟨x, rfl⟩, L1, h2⟩ := h1
  have k1 : mK M1 277 = 21 := (lm L1).1
  simp +decide (disch := omega) only [qL_4 xs L, qL_5 xs L, qL_25 xs L, k1, ni_in_t, ni_tn, ni_add1, ni_a2, ni_a3, ni_a4, ni_a5, ni_a6, am_w1_i, am_w1_r, am_w1_x, am_w1_l, am_w1_w, va_rf_s, am_push_n, am_push_s, am_cs_0, am_cs_i, am_cs_l, am_cs_r, m_uI_K, m_uI_N, m_uI_R, m_uI_L, m_uI_I, m_uL_K, m_uL_N, m_uL_R, m_uL_I, m_uL_L, m_uR_K, m_uR_N, m_uR_I, m_uR_L, m_uR_R, true_and, and_true, true_implies, false_implies, not_true_eq_false, not_false_eq_true, if_true, if_false, false_and, and_false]
  refine am_E_mono h2 (fun r M2 h3 => ?_)
  obtain ⟨rfl, hI2⟩ := h3
  have h0 := hQ M2 hI2
  simp +decide (disch := omega) only [qL_4 xs L, qL_5 xs L, qL_25 xs L, eq_self, lgc_0, ni_in_t, ni_tn, ni_add1, ni_a2, ni_a3, ni_a4, ni_a5, ni_a6, am_w1_i, am_w1_r, am_w1_x, am_w1_l, am_w1_w, va_rf_s, am_push_n, am_push_s, am_cs_0, am_cs_i, am_cs_l, am_cs_r, m_uI_K, m_uI_N, m_uI_R, m_uI_L, m_uI_I, m_uL_K, m_uL_N, m_uL_R, m_uL_I, m_uL_L, m_uR_K, m_uR_N, m_uR_I, m_uR_L, m_uR_R, true_and, and_true, true_implies, false_implies, not_true_eq_false, not_false_eq_true, if_true, if_false, false_and, and_false]
  exact h0
theorem lc_cell (xs : Nat → Int32) (L d i : Nat) (M : am_M) (Q : Option Value → am_M → Prop) (hd : 200 ≤ d) (hi : i + 6 ≤ L) (hL : L ≤ 3072) (hI : Inv M) (hQ : ∀ M', Inv M' → am_P am_P0 (d + 1) (am_look (tL xs L)) 18 [.retAddr 0, .ref 0, .ref 277, .int (nI (i + 6))] [] M' Q) : am_P am_P0 (d + 1) (am_look (tL xs L)) 458 [.retAddr 0, .ref 0, .ref 277, .int (nI i)] [] M Q := by
  obtain ⟨z, b, D, hD, hX, -⟩ := id hI
  have kx : mK M 0 = 20 := (lx hX.1.1).1
  simp +decide (disch := omega) only [qL_5 xs L, qL_6 xs L, qL_25 xs L, kx, ni_in_t, ni_tn, ni_add1, ni_a2, ni_a3, ni_a4, ni_a5, ni_a6, am_w1_i, am_w1_r, am_w1_x, am_w1_l, am_w1_w, va_rf_s, am_push_n, am_push_s, am_cs_0, am_cs_i, am_cs_l, am_cs_r, m_uI_K, m_uI_N, m_uI_R, m_uI_L, m_uI_I, m_uL_K, m_uL_N, m_uL_R, m_uL_I, m_uL_L, m_uR_K, m_uR_N, m_uR_I, m_uR_L, m_uR_R, true_and, and_true, true_implies, false_implies, not_true_eq_false, not_false_eq_true, if_true, if_false, false_and, and_false]
  refine am_E_mono (op_cell (xs (i + 1)) (xs (i + 2)) (xs (i + 3)) (xs (i + 4)) M hI d hd) (fun r M1 h1 => ?_)
  obtain ⟨v, rfl, ⟨x, rfl⟩, L1, h2⟩ := h1
  have k1 : mK M1 277 = 21 := (lm L1).1
  simp +decide (disch := omega) only [qL_5 xs L, qL_6 xs L, qL_25 xs L, k1, ni_in_t, ni_tn, ni_add1, ni_a2, ni_a3, ni_a4, ni_a5, ni_a6, am_w1_i, am_w1_r, am_w1_x, am_w1_l, am_w1_w, va_rf_s, am_push_n, am_push_s, am_cs_0, am_cs_i, am_cs_l, am_cs_r, m_uI_K, m_uI_N, m_uI_R, m_uI_L, m_uI_I, m_uL_K, m_uL_N, m_uL_R, m_uL_I, m_uL_L, m_uR_K, m_uR_N, m_uR_I, m_uR_L, m_uR_R, true_and, and_true, true_implies, false_implies, not_true_eq_false, not_false_eq_true, if_true, if_false, false_and, and_false]
  refine am_E_mono h2 (fun r M2 h3 => ?_)
  obtain ⟨rfl, hI2⟩ := h3
  have h0 := hQ M2 hI2
  simp +decide (disch := omega) only [qL_5 xs L, qL_6 xs L, qL_25 xs L, eq_self, lgc_0, ni_in_t, ni_tn, ni_add1, ni_a2, ni_a3, ni_a4, ni_a5, ni_a6, am_w1_i, am_w1_r, am_w1_x, am_w1_l, am_w1_w, va_rf_s, am_push_n, am_push_s, am_cs_0, am_cs_i, am_cs_l, am_cs_r, m_uI_K, m_uI_N, m_uI_R, m_uI_L, m_uI_I, m_uL_K, m_uL_N, m_uL_R, m_uL_I, m_uL_L, m_uR_K, m_uR_N, m_uR_I, m_uR_L, m_uR_R, true_and, and_true, true_implies, false_implies, not_true_eq_false, not_false_eq_true, if_true, if_false, false_and, and_false]
  exact h0
theorem lc_far (xs : Nat → Int32) (L d i : Nat) (M : am_M) (Q : Option Value → am_M → Prop) (hd : 200 ≤ d) (hi : i + 6 ≤ L) (hL : L ≤ 3072) (hI : Inv M) (hQ : ∀ M', Inv M' → am_P am_P0 (d + 1) (am_look (tL xs L)) 18 [.retAddr 0, .ref 0, .ref 277, .int (nI (i + 6))] [] M' Q) : am_P am_P0 (d + 1) (am_look (tL xs L)) 511 [.retAddr 0, .ref 0, .ref 277, .int (nI i)] [] M Q := by
  obtain ⟨z, b, D, hD, hX, -⟩ := id hI
  have kx : mK M 0 = 20 := (lx hX.1.1).1
  simp +decide (disch := omega) only [qL_6 xs L, qL_7 xs L, qL_8 xs L, qL_25 xs L, kx, ni_in_t, ni_tn, ni_add1, ni_a2, ni_a3, ni_a4, ni_a5, ni_a6, am_w1_i, am_w1_r, am_w1_x, am_w1_l, am_w1_w, va_rf_s, am_push_n, am_push_s, am_cs_0, am_cs_i, am_cs_l, am_cs_r, m_uI_K, m_uI_N, m_uI_R, m_uI_L, m_uI_I, m_uL_K, m_uL_N, m_uL_R, m_uL_I, m_uL_L, m_uR_K, m_uR_N, m_uR_I, m_uR_L, m_uR_R, true_and, and_true, true_implies, false_implies, not_true_eq_false, not_false_eq_true, if_true, if_false, false_and, and_false]
  refine am_E_mono (op_far (xs (i + 1)) (xs (i + 2)) (xs (i + 3)) (xs (i + 4)) (xs (i + 5)) M hI d hd) (fun r M1 h1 => ?_)
  obtain ⟨v, rfl, ⟨x, rfl⟩, L1, h2⟩ := h1
  have k1 : mK M1 277 = 21 := (lm L1).1
  simp +decide (disch := omega) only [qL_6 xs L, qL_7 xs L, qL_8 xs L, qL_25 xs L, k1, ni_in_t, ni_tn, ni_add1, ni_a2, ni_a3, ni_a4, ni_a5, ni_a6, am_w1_i, am_w1_r, am_w1_x, am_w1_l, am_w1_w, va_rf_s, am_push_n, am_push_s, am_cs_0, am_cs_i, am_cs_l, am_cs_r, m_uI_K, m_uI_N, m_uI_R, m_uI_L, m_uI_I, m_uL_K, m_uL_N, m_uL_R, m_uL_I, m_uL_L, m_uR_K, m_uR_N, m_uR_I, m_uR_L, m_uR_R, true_and, and_true, true_implies, false_implies, not_true_eq_false, not_false_eq_true, if_true, if_false, false_and, and_false]
  refine am_E_mono h2 (fun r M2 h3 => ?_)
  obtain ⟨rfl, hI2⟩ := h3
  have h0 := hQ M2 hI2
  simp +decide (disch := omega) only [qL_6 xs L, qL_7 xs L, qL_8 xs L, qL_25 xs L, eq_self, lgc_0, ni_in_t, ni_tn, ni_add1, ni_a2, ni_a3, ni_a4, ni_a5, ni_a6, am_w1_i, am_w1_r, am_w1_x, am_w1_l, am_w1_w, va_rf_s, am_push_n, am_push_s, am_cs_0, am_cs_i, am_cs_l, am_cs_r, m_uI_K, m_uI_N, m_uI_R, m_uI_L, m_uI_I, m_uL_K, m_uL_N, m_uL_R, m_uL_I, m_uL_L, m_uR_K, m_uR_N, m_uR_I, m_uR_L, m_uR_R, true_and, and_true, true_implies, false_implies, not_true_eq_false, not_false_eq_true, if_true, if_false, false_and, and_false]
  exact h0
theorem lc_can (xs : Nat → Int32) (L d i : Nat) (M : am_M) (Q : Option Value → am_M → Prop) (hd : 200 ≤ d) (hi : i + 6 ≤ L) (hL : L ≤ 3072) (hI : Inv M) (hQ : ∀ M', Inv M' → am_P am_P0 (d + 1) (am_look (tL xs L)) 18 [.retAddr 0, .ref 0, .ref 277, .int (nI (i + 6))] [] M' Q) : am_P am_P0 (d + 1) (am_look (tL xs L)) 574 [.retAddr 0, .ref 0, .ref 277, .int (nI i)] [] M Q := by
  obtain ⟨z, b, D, hD, hX, -⟩ := id hI
  have kx : mK M 0 = 20 := (lx hX.1.1).1
  simp +decide (disch := omega) only [qL_8 xs L, qL_9 xs L, qL_25 xs L, kx, ni_in_t, ni_tn, ni_add1, ni_a2, ni_a3, ni_a4, ni_a5, ni_a6, am_w1_i, am_w1_r, am_w1_x, am_w1_l, am_w1_w, va_rf_s, am_push_n, am_push_s, am_cs_0, am_cs_i, am_cs_l, am_cs_r, m_uI_K, m_uI_N, m_uI_R, m_uI_L, m_uI_I, m_uL_K, m_uL_N, m_uL_R, m_uL_I, m_uL_L, m_uR_K, m_uR_N, m_uR_I, m_uR_L, m_uR_R, true_and, and_true, true_implies, false_implies, not_true_eq_false, not_false_eq_true, if_true, if_false, false_and, and_false]
  refine am_E_mono (op_can (xs (i + 1)) (xs (i + 2)) (xs (i + 3)) M hI d hd) (fun r M1 h1 => ?_)
  obtain ⟨v, rfl, ⟨x, rfl⟩, L1, h2⟩ := h1
  have k1 : mK M1 277 = 21 := (lm L1).1
  simp +decide (disch := omega) only [qL_8 xs L, qL_9 xs L, qL_25 xs L, k1, ni_in_t, ni_tn, ni_add1, ni_a2, ni_a3, ni_a4, ni_a5, ni_a6, am_w1_i, am_w1_r, am_w1_x, am_w1_l, am_w1_w, va_rf_s, am_push_n, am_push_s, am_cs_0, am_cs_i, am_cs_l, am_cs_r, m_uI_K, m_uI_N, m_uI_R, m_uI_L, m_uI_I, m_uL_K, m_uL_N, m_uL_R, m_uL_I, m_uL_L, m_uR_K, m_uR_N, m_uR_I, m_uR_L, m_uR_R, true_and, and_true, true_implies, false_implies, not_true_eq_false, not_false_eq_true, if_true, if_false, false_and, and_false]
  refine am_E_mono h2 (fun r M2 h3 => ?_)
  obtain ⟨rfl, hI2⟩ := h3
  have h0 := hQ M2 hI2
  simp +decide (disch := omega) only [qL_8 xs L, qL_9 xs L, qL_25 xs L, eq_self, lgc_0, ni_in_t, ni_tn, ni_add1, ni_a2, ni_a3, ni_a4, ni_a5, ni_a6, am_w1_i, am_w1_r, am_w1_x, am_w1_l, am_w1_w, va_rf_s, am_push_n, am_push_s, am_cs_0, am_cs_i, am_cs_l, am_cs_r, m_uI_K, m_uI_N, m_uI_R, m_uI_L, m_uI_I, m_uL_K, m_uL_N, m_uL_R, m_uL_I, m_uL_L, m_uR_K, m_uR_N, m_uR_I, m_uR_L, m_uR_R, true_and, and_true, true_implies, false_implies, not_true_eq_false, not_false_eq_true, if_true, if_false, false_and, and_false]
  exact h0
theorem lc_reach (xs : Nat → Int32) (L d i : Nat) (M : am_M) (Q : Option Value → am_M → Prop) (hd : 200 ≤ d) (hi : i + 6 ≤ L) (hL : L ≤ 3072) (hI : Inv M) (hQ : ∀ M', Inv M' → am_P am_P0 (d + 1) (am_look (tL xs L)) 18 [.retAddr 0, .ref 0, .ref 277, .int (nI (i + 6))] [] M' Q) : am_P am_P0 (d + 1) (am_look (tL xs L)) 617 [.retAddr 0, .ref 0, .ref 277, .int (nI i)] [] M Q := by
  obtain ⟨z, b, D, hD, hX, -⟩ := id hI
  have kx : mK M 0 = 20 := (lx hX.1.1).1
  simp +decide (disch := omega) only [qL_9 xs L, qL_10 xs L, qL_25 xs L, kx, ni_in_t, ni_tn, ni_add1, ni_a2, ni_a3, ni_a4, ni_a5, ni_a6, am_w1_i, am_w1_r, am_w1_x, am_w1_l, am_w1_w, va_rf_s, am_push_n, am_push_s, am_cs_0, am_cs_i, am_cs_l, am_cs_r, m_uI_K, m_uI_N, m_uI_R, m_uI_L, m_uI_I, m_uL_K, m_uL_N, m_uL_R, m_uL_I, m_uL_L, m_uR_K, m_uR_N, m_uR_I, m_uR_L, m_uR_R, true_and, and_true, true_implies, false_implies, not_true_eq_false, not_false_eq_true, if_true, if_false, false_and, and_false]
  refine am_E_mono (op_reach (xs (i + 1)) (xs (i + 2)) (xs (i + 3)) M hI d hd) (fun r M1 h1 => ?_)
  obtain ⟨v, rfl, ⟨x, rfl⟩, L1, h2⟩ := h1
  have k1 : mK M1 277 = 21 := (lm L1).1
  simp +decide (disch := omega) only [qL_9 xs L, qL_10 xs L, qL_25 xs L, k1, ni_in_t, ni_tn, ni_add1, ni_a2, ni_a3, ni_a4, ni_a5, ni_a6, am_w1_i, am_w1_r, am_w1_x, am_w1_l, am_w1_w, va_rf_s, am_push_n, am_push_s, am_cs_0, am_cs_i, am_cs_l, am_cs_r, m_uI_K, m_uI_N, m_uI_R, m_uI_L, m_uI_I, m_uL_K, m_uL_N, m_uL_R, m_uL_I, m_uL_L, m_uR_K, m_uR_N, m_uR_I, m_uR_L, m_uR_R, true_and, and_true, true_implies, false_implies, not_true_eq_false, not_false_eq_true, if_true, if_false, false_and, and_false]
  refine am_E_mono h2 (fun r M2 h3 => ?_)
  obtain ⟨rfl, hI2⟩ := h3
  have h0 := hQ M2 hI2
  simp +decide (disch := omega) only [qL_9 xs L, qL_10 xs L, qL_25 xs L, eq_self, lgc_0, ni_in_t, ni_tn, ni_add1, ni_a2, ni_a3, ni_a4, ni_a5, ni_a6, am_w1_i, am_w1_r, am_w1_x, am_w1_l, am_w1_w, va_rf_s, am_push_n, am_push_s, am_cs_0, am_cs_i, am_cs_l, am_cs_r, m_uI_K, m_uI_N, m_uI_R, m_uI_L, m_uI_I, m_uL_K, m_uL_N, m_uL_R, m_uL_I, m_uL_L, m_uR_K, m_uR_N, m_uR_I, m_uR_L, m_uR_R, true_and, and_true, true_implies, false_implies, not_true_eq_false, not_false_eq_true, if_true, if_false, false_and, and_false]
  exact h0
theorem lc_may (xs : Nat → Int32) (L d i : Nat) (M : am_M) (Q : Option Value → am_M → Prop) (hd : 200 ≤ d) (hi : i + 6 ≤ L) (hL : L ≤ 3072) (hI : Inv M) (hQ : ∀ M', Inv M' → am_P am_P0 (d + 1) (am_look (tL xs L)) 18 [.retAddr 0, .ref 0, .ref 277, .int (nI (i + 6))] [] M' Q) : am_P am_P0 (d + 1) (am_look (tL xs L)) 660 [.retAddr 0, .ref 0, .ref 277, .int (nI i)] [] M Q := by
  obtain ⟨z, b, D, hD, hX, -⟩ := id hI
  have kx : mK M 0 = 20 := (lx hX.1.1).1
  simp +decide (disch := omega) only [qL_10 xs L, qL_11 xs L, qL_25 xs L, kx, ni_in_t, ni_tn, ni_add1, ni_a2, ni_a3, ni_a4, ni_a5, ni_a6, am_w1_i, am_w1_r, am_w1_x, am_w1_l, am_w1_w, va_rf_s, am_push_n, am_push_s, am_cs_0, am_cs_i, am_cs_l, am_cs_r, m_uI_K, m_uI_N, m_uI_R, m_uI_L, m_uI_I, m_uL_K, m_uL_N, m_uL_R, m_uL_I, m_uL_L, m_uR_K, m_uR_N, m_uR_I, m_uR_L, m_uR_R, true_and, and_true, true_implies, false_implies, not_true_eq_false, not_false_eq_true, if_true, if_false, false_and, and_false]
  refine am_E_mono (op_may (xs (i + 1)) (xs (i + 2)) (xs (i + 3)) (xs (i + 4)) M hI d hd) (fun r M1 h1 => ?_)
  obtain ⟨v, rfl, ⟨x, rfl⟩, L1, h2⟩ := h1
  have k1 : mK M1 277 = 21 := (lm L1).1
  simp +decide (disch := omega) only [qL_10 xs L, qL_11 xs L, qL_25 xs L, k1, ni_in_t, ni_tn, ni_add1, ni_a2, ni_a3, ni_a4, ni_a5, ni_a6, am_w1_i, am_w1_r, am_w1_x, am_w1_l, am_w1_w, va_rf_s, am_push_n, am_push_s, am_cs_0, am_cs_i, am_cs_l, am_cs_r, m_uI_K, m_uI_N, m_uI_R, m_uI_L, m_uI_I, m_uL_K, m_uL_N, m_uL_R, m_uL_I, m_uL_L, m_uR_K, m_uR_N, m_uR_I, m_uR_L, m_uR_R, true_and, and_true, true_implies, false_implies, not_true_eq_false, not_false_eq_true, if_true, if_false, false_and, and_false]
  refine am_E_mono h2 (fun r M2 h3 => ?_)
  obtain ⟨rfl, hI2⟩ := h3
  have h0 := hQ M2 hI2
  simp +decide (disch := omega) only [qL_10 xs L, qL_11 xs L, qL_25 xs L, eq_self, lgc_0, ni_in_t, ni_tn, ni_add1, ni_a2, ni_a3, ni_a4, ni_a5, ni_a6, am_w1_i, am_w1_r, am_w1_x, am_w1_l, am_w1_w, va_rf_s, am_push_n, am_push_s, am_cs_0, am_cs_i, am_cs_l, am_cs_r, m_uI_K, m_uI_N, m_uI_R, m_uI_L, m_uI_I, m_uL_K, m_uL_N, m_uL_R, m_uL_I, m_uL_L, m_uR_K, m_uR_N, m_uR_I, m_uR_L, m_uR_R, true_and, and_true, true_implies, false_implies, not_true_eq_false, not_false_eq_true, if_true, if_false, false_and, and_false]
  exact h0
theorem lc_judge (xs : Nat → Int32) (L d i : Nat) (M : am_M) (Q : Option Value → am_M → Prop) (hd : 200 ≤ d) (hi : i + 6 ≤ L) (hL : L ≤ 3072) (hI : Inv M) (hQ : ∀ M', Inv M' → am_P am_P0 (d + 1) (am_look (tL xs L)) 18 [.retAddr 0, .ref 0, .ref 277, .int (nI (i + 6))] [] M' Q) : am_P am_P0 (d + 1) (am_look (tL xs L)) 713 [.retAddr 0, .ref 0, .ref 277, .int (nI i)] [] M Q := by
  obtain ⟨z, b, D, hD, hX, -⟩ := id hI
  have kx : mK M 0 = 20 := (lx hX.1.1).1
  simp +decide (disch := omega) only [qL_11 xs L, qL_25 xs L, kx, ni_in_t, ni_tn, ni_add1, ni_a2, ni_a3, ni_a4, ni_a5, ni_a6, am_w1_i, am_w1_r, am_w1_x, am_w1_l, am_w1_w, va_rf_s, am_push_n, am_push_s, am_cs_0, am_cs_i, am_cs_l, am_cs_r, m_uI_K, m_uI_N, m_uI_R, m_uI_L, m_uI_I, m_uL_K, m_uL_N, m_uL_R, m_uL_I, m_uL_L, m_uR_K, m_uR_N, m_uR_I, m_uR_L, m_uR_R, true_and, and_true, true_implies, false_implies, not_true_eq_false, not_false_eq_true, if_true, if_false, false_and, and_false]
  refine am_E_mono (op_judge (xs (i + 1)) (xs (i + 2)) M hI d hd) (fun r M1 h1 => ?_)
  obtain ⟨v, rfl, ⟨x, rfl⟩, L1, h2⟩ := h1
  have k1 : mK M1 277 = 21 := (lm L1).1
  simp +decide (disch := omega) only [qL_11 xs L, qL_25 xs L, k1, ni_in_t, ni_tn, ni_add1, ni_a2, ni_a3, ni_a4, ni_a5, ni_a6, am_w1_i, am_w1_r, am_w1_x, am_w1_l, am_w1_w, va_rf_s, am_push_n, am_push_s, am_cs_0, am_cs_i, am_cs_l, am_cs_r, m_uI_K, m_uI_N, m_uI_R, m_uI_L, m_uI_I, m_uL_K, m_uL_N, m_uL_R, m_uL_I, m_uL_L, m_uR_K, m_uR_N, m_uR_I, m_uR_L, m_uR_R, true_and, and_true, true_implies, false_implies, not_true_eq_false, not_false_eq_true, if_true, if_false, false_and, and_false]
  refine am_E_mono h2 (fun r M2 h3 => ?_)
  obtain ⟨rfl, hI2⟩ := h3
  have h0 := hQ M2 hI2
  simp +decide (disch := omega) only [qL_11 xs L, qL_25 xs L, eq_self, lgc_0, ni_in_t, ni_tn, ni_add1, ni_a2, ni_a3, ni_a4, ni_a5, ni_a6, am_w1_i, am_w1_r, am_w1_x, am_w1_l, am_w1_w, va_rf_s, am_push_n, am_push_s, am_cs_0, am_cs_i, am_cs_l, am_cs_r, m_uI_K, m_uI_N, m_uI_R, m_uI_L, m_uI_I, m_uL_K, m_uL_N, m_uL_R, m_uL_I, m_uL_L, m_uR_K, m_uR_N, m_uR_I, m_uR_L, m_uR_R, true_and, and_true, true_implies, false_implies, not_true_eq_false, not_false_eq_true, if_true, if_false, false_and, and_false]
  exact h0
theorem lc_tale (xs : Nat → Int32) (L d i : Nat) (M : am_M) (Q : Option Value → am_M → Prop) (hd : 200 ≤ d) (hi : i + 6 ≤ L) (hL : L ≤ 3072) (hI : Inv M) (hQ : ∀ M', Inv M' → am_P am_P0 (d + 1) (am_look (tL xs L)) 18 [.retAddr 0, .ref 0, .ref 277, .int (nI (i + 6))] [] M' Q) : am_P am_P0 (d + 1) (am_look (tL xs L)) 746 [.retAddr 0, .ref 0, .ref 277, .int (nI i)] [] M Q := by
  obtain ⟨z, b, D, hD, hX, -⟩ := id hI
  have kx : mK M 0 = 20 := (lx hX.1.1).1
  simp +decide (disch := omega) only [qL_11 xs L, qL_12 xs L, qL_25 xs L, kx, ni_in_t, ni_tn, ni_add1, ni_a2, ni_a3, ni_a4, ni_a5, ni_a6, am_w1_i, am_w1_r, am_w1_x, am_w1_l, am_w1_w, va_rf_s, am_push_n, am_push_s, am_cs_0, am_cs_i, am_cs_l, am_cs_r, m_uI_K, m_uI_N, m_uI_R, m_uI_L, m_uI_I, m_uL_K, m_uL_N, m_uL_R, m_uL_I, m_uL_L, m_uR_K, m_uR_N, m_uR_I, m_uR_L, m_uR_R, true_and, and_true, true_implies, false_implies, not_true_eq_false, not_false_eq_true, if_true, if_false, false_and, and_false]
  refine am_E_mono (op_tale (xs (i + 1)) (xs (i + 2)) M hI d hd) (fun r M1 h1 => ?_)
  obtain ⟨v, rfl, ⟨x, rfl⟩, L1, h2⟩ := h1
  have k1 : mK M1 277 = 21 := (lm L1).1
  simp +decide (disch := omega) only [qL_11 xs L, qL_12 xs L, qL_25 xs L, k1, ni_in_t, ni_tn, ni_add1, ni_a2, ni_a3, ni_a4, ni_a5, ni_a6, am_w1_i, am_w1_r, am_w1_x, am_w1_l, am_w1_w, va_rf_s, am_push_n, am_push_s, am_cs_0, am_cs_i, am_cs_l, am_cs_r, m_uI_K, m_uI_N, m_uI_R, m_uI_L, m_uI_I, m_uL_K, m_uL_N, m_uL_R, m_uL_I, m_uL_L, m_uR_K, m_uR_N, m_uR_I, m_uR_L, m_uR_R, true_and, and_true, true_implies, false_implies, not_true_eq_false, not_false_eq_true, if_true, if_false, false_and, and_false]
  refine am_E_mono h2 (fun r M2 h3 => ?_)
  obtain ⟨rfl, hI2⟩ := h3
  have h0 := hQ M2 hI2
  simp +decide (disch := omega) only [qL_11 xs L, qL_12 xs L, qL_25 xs L, eq_self, lgc_0, ni_in_t, ni_tn, ni_add1, ni_a2, ni_a3, ni_a4, ni_a5, ni_a6, am_w1_i, am_w1_r, am_w1_x, am_w1_l, am_w1_w, va_rf_s, am_push_n, am_push_s, am_cs_0, am_cs_i, am_cs_l, am_cs_r, m_uI_K, m_uI_N, m_uI_R, m_uI_L, m_uI_I, m_uL_K, m_uL_N, m_uL_R, m_uL_I, m_uL_L, m_uR_K, m_uR_N, m_uR_I, m_uR_L, m_uR_R, true_and, and_true, true_implies, false_implies, not_true_eq_false, not_false_eq_true, if_true, if_false, false_and, and_false]
  exact h0
theorem lc_bars (xs : Nat → Int32) (L d i : Nat) (M : am_M) (Q : Option Value → am_M → Prop) (hd : 200 ≤ d) (hi : i + 6 ≤ L) (hL : L ≤ 3072) (hI : Inv M) (hQ : ∀ M', Inv M' → am_P am_P0 (d + 1) (am_look (tL xs L)) 18 [.retAddr 0, .ref 0, .ref 277, .int (nI (i + 6))] [] M' Q) : am_P am_P0 (d + 1) (am_look (tL xs L)) 779 [.retAddr 0, .ref 0, .ref 277, .int (nI i)] [] M Q := by
  obtain ⟨z, b, D, hD, hX, -⟩ := id hI
  have kx : mK M 0 = 20 := (lx hX.1.1).1
  simp +decide (disch := omega) only [qL_12 xs L, qL_13 xs L, qL_25 xs L, kx, ni_in_t, ni_tn, ni_add1, ni_a2, ni_a3, ni_a4, ni_a5, ni_a6, am_w1_i, am_w1_r, am_w1_x, am_w1_l, am_w1_w, va_rf_s, am_push_n, am_push_s, am_cs_0, am_cs_i, am_cs_l, am_cs_r, m_uI_K, m_uI_N, m_uI_R, m_uI_L, m_uI_I, m_uL_K, m_uL_N, m_uL_R, m_uL_I, m_uL_L, m_uR_K, m_uR_N, m_uR_I, m_uR_L, m_uR_R, true_and, and_true, true_implies, false_implies, not_true_eq_false, not_false_eq_true, if_true, if_false, false_and, and_false]
  refine am_E_mono (op_bars (xs (i + 1)) M hI d hd) (fun r M1 h1 => ?_)
  obtain ⟨v, rfl, ⟨x, rfl⟩, L1, h2⟩ := h1
  have k1 : mK M1 277 = 21 := (lm L1).1
  simp +decide (disch := omega) only [qL_12 xs L, qL_13 xs L, qL_25 xs L, k1, ni_in_t, ni_tn, ni_add1, ni_a2, ni_a3, ni_a4, ni_a5, ni_a6, am_w1_i, am_w1_r, am_w1_x, am_w1_l, am_w1_w, va_rf_s, am_push_n, am_push_s, am_cs_0, am_cs_i, am_cs_l, am_cs_r, m_uI_K, m_uI_N, m_uI_R, m_uI_L, m_uI_I, m_uL_K, m_uL_N, m_uL_R, m_uL_I, m_uL_L, m_uR_K, m_uR_N, m_uR_I, m_uR_L, m_uR_R, true_and, and_true, true_implies, false_implies, not_true_eq_false, not_false_eq_true, if_true, if_false, false_and, and_false]
  refine am_E_mono h2 (fun r M2 h3 => ?_)
  obtain ⟨rfl, hI2⟩ := h3
  have h0 := hQ M2 hI2
  simp +decide (disch := omega) only [qL_12 xs L, qL_13 xs L, qL_25 xs L, eq_self, lgc_0, ni_in_t, ni_tn, ni_add1, ni_a2, ni_a3, ni_a4, ni_a5, ni_a6, am_w1_i, am_w1_r, am_w1_x, am_w1_l, am_w1_w, va_rf_s, am_push_n, am_push_s, am_cs_0, am_cs_i, am_cs_l, am_cs_r, m_uI_K, m_uI_N, m_uI_R, m_uI_L, m_uI_I, m_uL_K, m_uL_N, m_uL_R, m_uL_I, m_uL_L, m_uR_K, m_uR_N, m_uR_I, m_uR_L, m_uR_R, true_and, and_true, true_implies, false_implies, not_true_eq_false, not_false_eq_true, if_true, if_false, false_and, and_false]
  exact h0
theorem lc_clash (xs : Nat → Int32) (L d i : Nat) (M : am_M) (Q : Option Value → am_M → Prop) (hd : 200 ≤ d) (hi : i + 6 ≤ L) (hL : L ≤ 3072) (hI : Inv M) (hQ : ∀ M', Inv M' → am_P am_P0 (d + 1) (am_look (tL xs L)) 18 [.retAddr 0, .ref 0, .ref 277, .int (nI (i + 6))] [] M' Q) : am_P am_P0 (d + 1) (am_look (tL xs L)) 802 [.retAddr 0, .ref 0, .ref 277, .int (nI i)] [] M Q := by
  obtain ⟨z, b, D, hD, hX, -⟩ := id hI
  have kx : mK M 0 = 20 := (lx hX.1.1).1
  simp +decide (disch := omega) only [qL_13 xs L, qL_25 xs L, kx, ni_in_t, ni_tn, ni_add1, ni_a2, ni_a3, ni_a4, ni_a5, ni_a6, am_w1_i, am_w1_r, am_w1_x, am_w1_l, am_w1_w, va_rf_s, am_push_n, am_push_s, am_cs_0, am_cs_i, am_cs_l, am_cs_r, m_uI_K, m_uI_N, m_uI_R, m_uI_L, m_uI_I, m_uL_K, m_uL_N, m_uL_R, m_uL_I, m_uL_L, m_uR_K, m_uR_N, m_uR_I, m_uR_L, m_uR_R, true_and, and_true, true_implies, false_implies, not_true_eq_false, not_false_eq_true, if_true, if_false, false_and, and_false]
  refine am_E_mono (op_clash (xs (i + 1)) (xs (i + 2)) M hI d hd) (fun r M1 h1 => ?_)
  obtain ⟨v, rfl, ⟨x, rfl⟩, L1, h2⟩ := h1
  have k1 : mK M1 277 = 21 := (lm L1).1
  simp +decide (disch := omega) only [qL_13 xs L, qL_25 xs L, k1, ni_in_t, ni_tn, ni_add1, ni_a2, ni_a3, ni_a4, ni_a5, ni_a6, am_w1_i, am_w1_r, am_w1_x, am_w1_l, am_w1_w, va_rf_s, am_push_n, am_push_s, am_cs_0, am_cs_i, am_cs_l, am_cs_r, m_uI_K, m_uI_N, m_uI_R, m_uI_L, m_uI_I, m_uL_K, m_uL_N, m_uL_R, m_uL_I, m_uL_L, m_uR_K, m_uR_N, m_uR_I, m_uR_L, m_uR_R, true_and, and_true, true_implies, false_implies, not_true_eq_false, not_false_eq_true, if_true, if_false, false_and, and_false]
  refine am_E_mono h2 (fun r M2 h3 => ?_)
  obtain ⟨rfl, hI2⟩ := h3
  have h0 := hQ M2 hI2
  simp +decide (disch := omega) only [qL_13 xs L, qL_25 xs L, eq_self, lgc_0, ni_in_t, ni_tn, ni_add1, ni_a2, ni_a3, ni_a4, ni_a5, ni_a6, am_w1_i, am_w1_r, am_w1_x, am_w1_l, am_w1_w, va_rf_s, am_push_n, am_push_s, am_cs_0, am_cs_i, am_cs_l, am_cs_r, m_uI_K, m_uI_N, m_uI_R, m_uI_L, m_uI_I, m_uL_K, m_uL_N, m_uL_R, m_uL_I, m_uL_L, m_uR_K, m_uR_N, m_uR_I, m_uR_L, m_uR_R, true_and, and_true, true_implies, false_implies, not_true_eq_false, not_false_eq_true, if_true, if_false, false_and, and_false]
  exact h0
theorem lc_who (xs : Nat → Int32) (L d i : Nat) (M : am_M) (Q : Option Value → am_M → Prop) (hd : 200 ≤ d) (hi : i + 6 ≤ L) (hL : L ≤ 3072) (hI : Inv M) (hQ : ∀ M', Inv M' → am_P am_P0 (d + 1) (am_look (tL xs L)) 18 [.retAddr 0, .ref 0, .ref 277, .int (nI (i + 6))] [] M' Q) : am_P am_P0 (d + 1) (am_look (tL xs L)) 835 [.retAddr 0, .ref 0, .ref 277, .int (nI i)] [] M Q := by
  obtain ⟨z, b, D, hD, hX, -⟩ := id hI
  have kx : mK M 0 = 20 := (lx hX.1.1).1
  simp +decide (disch := omega) only [qL_13 xs L, qL_14 xs L, qL_25 xs L, kx, ni_in_t, ni_tn, ni_add1, ni_a2, ni_a3, ni_a4, ni_a5, ni_a6, am_w1_i, am_w1_r, am_w1_x, am_w1_l, am_w1_w, va_rf_s, am_push_n, am_push_s, am_cs_0, am_cs_i, am_cs_l, am_cs_r, m_uI_K, m_uI_N, m_uI_R, m_uI_L, m_uI_I, m_uL_K, m_uL_N, m_uL_R, m_uL_I, m_uL_L, m_uR_K, m_uR_N, m_uR_I, m_uR_L, m_uR_R, true_and, and_true, true_implies, false_implies, not_true_eq_false, not_false_eq_true, if_true, if_false, false_and, and_false]
  refine am_E_mono (op_who (xs (i + 1)) M hI d hd) (fun r M1 h1 => ?_)
  obtain ⟨v, rfl, ⟨x, rfl⟩, L1, h2⟩ := h1
  have k1 : mK M1 277 = 21 := (lm L1).1
  simp +decide (disch := omega) only [qL_13 xs L, qL_14 xs L, qL_25 xs L, k1, ni_in_t, ni_tn, ni_add1, ni_a2, ni_a3, ni_a4, ni_a5, ni_a6, am_w1_i, am_w1_r, am_w1_x, am_w1_l, am_w1_w, va_rf_s, am_push_n, am_push_s, am_cs_0, am_cs_i, am_cs_l, am_cs_r, m_uI_K, m_uI_N, m_uI_R, m_uI_L, m_uI_I, m_uL_K, m_uL_N, m_uL_R, m_uL_I, m_uL_L, m_uR_K, m_uR_N, m_uR_I, m_uR_L, m_uR_R, true_and, and_true, true_implies, false_implies, not_true_eq_false, not_false_eq_true, if_true, if_false, false_and, and_false]
  refine am_E_mono h2 (fun r M2 h3 => ?_)
  obtain ⟨rfl, hI2⟩ := h3
  have h0 := hQ M2 hI2
  simp +decide (disch := omega) only [qL_13 xs L, qL_14 xs L, qL_25 xs L, eq_self, lgc_0, ni_in_t, ni_tn, ni_add1, ni_a2, ni_a3, ni_a4, ni_a5, ni_a6, am_w1_i, am_w1_r, am_w1_x, am_w1_l, am_w1_w, va_rf_s, am_push_n, am_push_s, am_cs_0, am_cs_i, am_cs_l, am_cs_r, m_uI_K, m_uI_N, m_uI_R, m_uI_L, m_uI_I, m_uL_K, m_uL_N, m_uL_R, m_uL_I, m_uL_L, m_uR_K, m_uR_N, m_uR_I, m_uR_L, m_uR_R, true_and, and_true, true_implies, false_implies, not_true_eq_false, not_false_eq_true, if_true, if_false, false_and, and_false]
  exact h0
theorem lc_swap (xs : Nat → Int32) (L d i : Nat) (M : am_M) (Q : Option Value → am_M → Prop) (hd : 200 ≤ d) (hi : i + 6 ≤ L) (hL : L ≤ 3072) (hI : Inv M) (hQ : ∀ M', Inv M' → am_P am_P0 (d + 1) (am_look (tL xs L)) 18 [.retAddr 0, .ref 0, .ref 277, .int (nI (i + 6))] [] M' Q) : am_P am_P0 (d + 1) (am_look (tL xs L)) 858 [.retAddr 0, .ref 0, .ref 277, .int (nI i)] [] M Q := by
  obtain ⟨z, b, D, hD, hX, -⟩ := id hI
  have kx : mK M 0 = 20 := (lx hX.1.1).1
  simp +decide (disch := omega) only [qL_14 xs L, qL_25 xs L, kx, ni_in_t, ni_tn, ni_add1, ni_a2, ni_a3, ni_a4, ni_a5, ni_a6, am_w1_i, am_w1_r, am_w1_x, am_w1_l, am_w1_w, va_rf_s, am_push_n, am_push_s, am_cs_0, am_cs_i, am_cs_l, am_cs_r, m_uI_K, m_uI_N, m_uI_R, m_uI_L, m_uI_I, m_uL_K, m_uL_N, m_uL_R, m_uL_I, m_uL_L, m_uR_K, m_uR_N, m_uR_I, m_uR_L, m_uR_R, true_and, and_true, true_implies, false_implies, not_true_eq_false, not_false_eq_true, if_true, if_false, false_and, and_false]
  refine am_E_mono (op_swap (xs (i + 1)) (xs (i + 2)) M hI d hd) (fun r M1 h1 => ?_)
  obtain ⟨v, rfl, ⟨x, rfl⟩, L1, h2⟩ := h1
  have k1 : mK M1 277 = 21 := (lm L1).1
  simp +decide (disch := omega) only [qL_14 xs L, qL_25 xs L, k1, ni_in_t, ni_tn, ni_add1, ni_a2, ni_a3, ni_a4, ni_a5, ni_a6, am_w1_i, am_w1_r, am_w1_x, am_w1_l, am_w1_w, va_rf_s, am_push_n, am_push_s, am_cs_0, am_cs_i, am_cs_l, am_cs_r, m_uI_K, m_uI_N, m_uI_R, m_uI_L, m_uI_I, m_uL_K, m_uL_N, m_uL_R, m_uL_I, m_uL_L, m_uR_K, m_uR_N, m_uR_I, m_uR_L, m_uR_R, true_and, and_true, true_implies, false_implies, not_true_eq_false, not_false_eq_true, if_true, if_false, false_and, and_false]
  refine am_E_mono h2 (fun r M2 h3 => ?_)
  obtain ⟨rfl, hI2⟩ := h3
  have h0 := hQ M2 hI2
  simp +decide (disch := omega) only [qL_14 xs L, qL_25 xs L, eq_self, lgc_0, ni_in_t, ni_tn, ni_add1, ni_a2, ni_a3, ni_a4, ni_a5, ni_a6, am_w1_i, am_w1_r, am_w1_x, am_w1_l, am_w1_w, va_rf_s, am_push_n, am_push_s, am_cs_0, am_cs_i, am_cs_l, am_cs_r, m_uI_K, m_uI_N, m_uI_R, m_uI_L, m_uI_I, m_uL_K, m_uL_N, m_uL_R, m_uL_I, m_uL_L, m_uR_K, m_uR_N, m_uR_I, m_uR_L, m_uR_R, true_and, and_true, true_implies, false_implies, not_true_eq_false, not_false_eq_true, if_true, if_false, false_and, and_false]
  exact h0
theorem lc_kinds (xs : Nat → Int32) (L d i : Nat) (M : am_M) (Q : Option Value → am_M → Prop) (hd : 200 ≤ d) (hi : i + 6 ≤ L) (hL : L ≤ 3072) (hI : Inv M) (hQ : ∀ M', Inv M' → am_P am_P0 (d + 1) (am_look (tL xs L)) 18 [.retAddr 0, .ref 0, .ref 277, .int (nI (i + 6))] [] M' Q) : am_P am_P0 (d + 1) (am_look (tL xs L)) 891 [.retAddr 0, .ref 0, .ref 277, .int (nI i)] [] M Q := by
  obtain ⟨z, b, D, hD, hX, -⟩ := id hI
  have kx : mK M 0 = 20 := (lx hX.1.1).1
  simp +decide (disch := omega) only [qL_14 xs L, qL_15 xs L, qL_25 xs L, kx, ni_in_t, ni_tn, ni_add1, ni_a2, ni_a3, ni_a4, ni_a5, ni_a6, am_w1_i, am_w1_r, am_w1_x, am_w1_l, am_w1_w, va_rf_s, am_push_n, am_push_s, am_cs_0, am_cs_i, am_cs_l, am_cs_r, m_uI_K, m_uI_N, m_uI_R, m_uI_L, m_uI_I, m_uL_K, m_uL_N, m_uL_R, m_uL_I, m_uL_L, m_uR_K, m_uR_N, m_uR_I, m_uR_L, m_uR_R, true_and, and_true, true_implies, false_implies, not_true_eq_false, not_false_eq_true, if_true, if_false, false_and, and_false]
  refine am_E_mono (op_kinds (xs (i + 1)) M hI d hd) (fun r M1 h1 => ?_)
  obtain ⟨v, rfl, ⟨x, rfl⟩, L1, h2⟩ := h1
  have k1 : mK M1 277 = 21 := (lm L1).1
  simp +decide (disch := omega) only [qL_14 xs L, qL_15 xs L, qL_25 xs L, k1, ni_in_t, ni_tn, ni_add1, ni_a2, ni_a3, ni_a4, ni_a5, ni_a6, am_w1_i, am_w1_r, am_w1_x, am_w1_l, am_w1_w, va_rf_s, am_push_n, am_push_s, am_cs_0, am_cs_i, am_cs_l, am_cs_r, m_uI_K, m_uI_N, m_uI_R, m_uI_L, m_uI_I, m_uL_K, m_uL_N, m_uL_R, m_uL_I, m_uL_L, m_uR_K, m_uR_N, m_uR_I, m_uR_L, m_uR_R, true_and, and_true, true_implies, false_implies, not_true_eq_false, not_false_eq_true, if_true, if_false, false_and, and_false]
  refine am_E_mono h2 (fun r M2 h3 => ?_)
  obtain ⟨rfl, hI2⟩ := h3
  have h0 := hQ M2 hI2
  simp +decide (disch := omega) only [qL_14 xs L, qL_15 xs L, qL_25 xs L, eq_self, lgc_0, ni_in_t, ni_tn, ni_add1, ni_a2, ni_a3, ni_a4, ni_a5, ni_a6, am_w1_i, am_w1_r, am_w1_x, am_w1_l, am_w1_w, va_rf_s, am_push_n, am_push_s, am_cs_0, am_cs_i, am_cs_l, am_cs_r, m_uI_K, m_uI_N, m_uI_R, m_uI_L, m_uI_I, m_uL_K, m_uL_N, m_uL_R, m_uL_I, m_uL_L, m_uR_K, m_uR_N, m_uR_I, m_uR_L, m_uR_R, true_and, and_true, true_implies, false_implies, not_true_eq_false, not_false_eq_true, if_true, if_false, false_and, and_false]
  exact h0
theorem lc_lies (xs : Nat → Int32) (L d i : Nat) (M : am_M) (Q : Option Value → am_M → Prop) (hd : 200 ≤ d) (hi : i + 6 ≤ L) (hL : L ≤ 3072) (hI : Inv M) (hQ : ∀ M', Inv M' → am_P am_P0 (d + 1) (am_look (tL xs L)) 18 [.retAddr 0, .ref 0, .ref 277, .int (nI (i + 6))] [] M' Q) : am_P am_P0 (d + 1) (am_look (tL xs L)) 914 [.retAddr 0, .ref 0, .ref 277, .int (nI i)] [] M Q := by
  obtain ⟨z, b, D, hD, hX, -⟩ := id hI
  have kx : mK M 0 = 20 := (lx hX.1.1).1
  simp +decide (disch := omega) only [qL_15 xs L, qL_25 xs L, kx, ni_in_t, ni_tn, ni_add1, ni_a2, ni_a3, ni_a4, ni_a5, ni_a6, am_w1_i, am_w1_r, am_w1_x, am_w1_l, am_w1_w, va_rf_s, am_push_n, am_push_s, am_cs_0, am_cs_i, am_cs_l, am_cs_r, m_uI_K, m_uI_N, m_uI_R, m_uI_L, m_uI_I, m_uL_K, m_uL_N, m_uL_R, m_uL_I, m_uL_L, m_uR_K, m_uR_N, m_uR_I, m_uR_L, m_uR_R, true_and, and_true, true_implies, false_implies, not_true_eq_false, not_false_eq_true, if_true, if_false, false_and, and_false]
  refine am_E_mono (op_lies M hI d hd) (fun r M1 h1 => ?_)
  obtain ⟨v, rfl, ⟨x, rfl⟩, L1, h2⟩ := h1
  have k1 : mK M1 277 = 21 := (lm L1).1
  simp +decide (disch := omega) only [qL_15 xs L, qL_25 xs L, k1, ni_in_t, ni_tn, ni_add1, ni_a2, ni_a3, ni_a4, ni_a5, ni_a6, am_w1_i, am_w1_r, am_w1_x, am_w1_l, am_w1_w, va_rf_s, am_push_n, am_push_s, am_cs_0, am_cs_i, am_cs_l, am_cs_r, m_uI_K, m_uI_N, m_uI_R, m_uI_L, m_uI_I, m_uL_K, m_uL_N, m_uL_R, m_uL_I, m_uL_L, m_uR_K, m_uR_N, m_uR_I, m_uR_L, m_uR_R, true_and, and_true, true_implies, false_implies, not_true_eq_false, not_false_eq_true, if_true, if_false, false_and, and_false]
  refine am_E_mono h2 (fun r M2 h3 => ?_)
  obtain ⟨rfl, hI2⟩ := h3
  have h0 := hQ M2 hI2
  simp +decide (disch := omega) only [qL_15 xs L, qL_25 xs L, eq_self, lgc_0, ni_in_t, ni_tn, ni_add1, ni_a2, ni_a3, ni_a4, ni_a5, ni_a6, am_w1_i, am_w1_r, am_w1_x, am_w1_l, am_w1_w, va_rf_s, am_push_n, am_push_s, am_cs_0, am_cs_i, am_cs_l, am_cs_r, m_uI_K, m_uI_N, m_uI_R, m_uI_L, m_uI_I, m_uL_K, m_uL_N, m_uL_R, m_uL_I, m_uL_L, m_uR_K, m_uR_N, m_uR_I, m_uR_L, m_uR_R, true_and, and_true, true_implies, false_implies, not_true_eq_false, not_false_eq_true, if_true, if_false, false_and, and_false]
  exact h0
theorem lc_met (xs : Nat → Int32) (L d i : Nat) (M : am_M) (Q : Option Value → am_M → Prop) (hd : 200 ≤ d) (hi : i + 6 ≤ L) (hL : L ≤ 3072) (hI : Inv M) (hQ : ∀ M', Inv M' → am_P am_P0 (d + 1) (am_look (tL xs L)) 18 [.retAddr 0, .ref 0, .ref 277, .int (nI (i + 6))] [] M' Q) : am_P am_P0 (d + 1) (am_look (tL xs L)) 927 [.retAddr 0, .ref 0, .ref 277, .int (nI i)] [] M Q := by
  obtain ⟨z, b, D, hD, hX, -⟩ := id hI
  have kx : mK M 0 = 20 := (lx hX.1.1).1
  simp +decide (disch := omega) only [qL_15 xs L, qL_16 xs L, qL_25 xs L, kx, ni_in_t, ni_tn, ni_add1, ni_a2, ni_a3, ni_a4, ni_a5, ni_a6, am_w1_i, am_w1_r, am_w1_x, am_w1_l, am_w1_w, va_rf_s, am_push_n, am_push_s, am_cs_0, am_cs_i, am_cs_l, am_cs_r, m_uI_K, m_uI_N, m_uI_R, m_uI_L, m_uI_I, m_uL_K, m_uL_N, m_uL_R, m_uL_I, m_uL_L, m_uR_K, m_uR_N, m_uR_I, m_uR_L, m_uR_R, true_and, and_true, true_implies, false_implies, not_true_eq_false, not_false_eq_true, if_true, if_false, false_and, and_false]
  refine am_E_mono (op_met (xs (i + 1)) (xs (i + 2)) (xs (i + 3)) M hI d hd) (fun r M1 h1 => ?_)
  obtain ⟨v, rfl, ⟨x, rfl⟩, L1, h2⟩ := h1
  have k1 : mK M1 277 = 21 := (lm L1).1
  simp +decide (disch := omega) only [qL_15 xs L, qL_16 xs L, qL_25 xs L, k1, ni_in_t, ni_tn, ni_add1, ni_a2, ni_a3, ni_a4, ni_a5, ni_a6, am_w1_i, am_w1_r, am_w1_x, am_w1_l, am_w1_w, va_rf_s, am_push_n, am_push_s, am_cs_0, am_cs_i, am_cs_l, am_cs_r, m_uI_K, m_uI_N, m_uI_R, m_uI_L, m_uI_I, m_uL_K, m_uL_N, m_uL_R, m_uL_I, m_uL_L, m_uR_K, m_uR_N, m_uR_I, m_uR_L, m_uR_R, true_and, and_true, true_implies, false_implies, not_true_eq_false, not_false_eq_true, if_true, if_false, false_and, and_false]
  refine am_E_mono h2 (fun r M2 h3 => ?_)
  obtain ⟨rfl, hI2⟩ := h3
  have h0 := hQ M2 hI2
  simp +decide (disch := omega) only [qL_15 xs L, qL_16 xs L, qL_25 xs L, eq_self, lgc_0, ni_in_t, ni_tn, ni_add1, ni_a2, ni_a3, ni_a4, ni_a5, ni_a6, am_w1_i, am_w1_r, am_w1_x, am_w1_l, am_w1_w, va_rf_s, am_push_n, am_push_s, am_cs_0, am_cs_i, am_cs_l, am_cs_r, m_uI_K, m_uI_N, m_uI_R, m_uI_L, m_uI_I, m_uL_K, m_uL_N, m_uL_R, m_uL_I, m_uL_L, m_uR_K, m_uR_N, m_uR_I, m_uR_L, m_uR_R, true_and, and_true, true_implies, false_implies, not_true_eq_false, not_false_eq_true, if_true, if_false, false_and, and_false]
  exact h0
theorem lc_sighting (xs : Nat → Int32) (L d i : Nat) (M : am_M) (Q : Option Value → am_M → Prop) (hd : 200 ≤ d) (hi : i + 6 ≤ L) (hL : L ≤ 3072) (hI : Inv M) (hQ : ∀ M', Inv M' → am_P am_P0 (d + 1) (am_look (tL xs L)) 18 [.retAddr 0, .ref 0, .ref 277, .int (nI (i + 6))] [] M' Q) : am_P am_P0 (d + 1) (am_look (tL xs L)) 970 [.retAddr 0, .ref 0, .ref 277, .int (nI i)] [] M Q := by
  obtain ⟨z, b, D, hD, hX, -⟩ := id hI
  have kx : mK M 0 = 20 := (lx hX.1.1).1
  simp +decide (disch := omega) only [qL_16 xs L, qL_17 xs L, qL_25 xs L, kx, ni_in_t, ni_tn, ni_add1, ni_a2, ni_a3, ni_a4, ni_a5, ni_a6, am_w1_i, am_w1_r, am_w1_x, am_w1_l, am_w1_w, va_rf_s, am_push_n, am_push_s, am_cs_0, am_cs_i, am_cs_l, am_cs_r, m_uI_K, m_uI_N, m_uI_R, m_uI_L, m_uI_I, m_uL_K, m_uL_N, m_uL_R, m_uL_I, m_uL_L, m_uR_K, m_uR_N, m_uR_I, m_uR_L, m_uR_R, true_and, and_true, true_implies, false_implies, not_true_eq_false, not_false_eq_true, if_true, if_false, false_and, and_false]
  refine am_E_mono (op_sighting (xs (i + 1)) (xs (i + 2)) M hI d hd) (fun r M1 h1 => ?_)
  obtain ⟨v, rfl, ⟨x, rfl⟩, L1, h2⟩ := h1
  have k1 : mK M1 277 = 21 := (lm L1).1
  simp +decide (disch := omega) only [qL_16 xs L, qL_17 xs L, qL_25 xs L, k1, ni_in_t, ni_tn, ni_add1, ni_a2, ni_a3, ni_a4, ni_a5, ni_a6, am_w1_i, am_w1_r, am_w1_x, am_w1_l, am_w1_w, va_rf_s, am_push_n, am_push_s, am_cs_0, am_cs_i, am_cs_l, am_cs_r, m_uI_K, m_uI_N, m_uI_R, m_uI_L, m_uI_I, m_uL_K, m_uL_N, m_uL_R, m_uL_I, m_uL_L, m_uR_K, m_uR_N, m_uR_I, m_uR_L, m_uR_R, true_and, and_true, true_implies, false_implies, not_true_eq_false, not_false_eq_true, if_true, if_false, false_and, and_false]
  refine am_E_mono h2 (fun r M2 h3 => ?_)
  obtain ⟨rfl, hI2⟩ := h3
  have h0 := hQ M2 hI2
  simp +decide (disch := omega) only [qL_16 xs L, qL_17 xs L, qL_25 xs L, eq_self, lgc_0, ni_in_t, ni_tn, ni_add1, ni_a2, ni_a3, ni_a4, ni_a5, ni_a6, am_w1_i, am_w1_r, am_w1_x, am_w1_l, am_w1_w, va_rf_s, am_push_n, am_push_s, am_cs_0, am_cs_i, am_cs_l, am_cs_r, m_uI_K, m_uI_N, m_uI_R, m_uI_L, m_uI_I, m_uL_K, m_uL_N, m_uL_R, m_uL_I, m_uL_L, m_uR_K, m_uR_N, m_uR_I, m_uR_L, m_uR_R, true_and, and_true, true_implies, false_implies, not_true_eq_false, not_false_eq_true, if_true, if_false, false_and, and_false]
  exact h0
theorem lc_strange (xs : Nat → Int32) (L d i : Nat) (M : am_M) (Q : Option Value → am_M → Prop) (hd : 200 ≤ d) (hi : i + 6 ≤ L) (hL : L ≤ 3072) (hI : Inv M) (hQ : ∀ M', Inv M' → am_P am_P0 (d + 1) (am_look (tL xs L)) 18 [.retAddr 0, .ref 0, .ref 277, .int (nI (i + 6))] [] M' Q) : am_P am_P0 (d + 1) (am_look (tL xs L)) 1003 [.retAddr 0, .ref 0, .ref 277, .int (nI i)] [] M Q := by
  obtain ⟨z, b, D, hD, hX, -⟩ := id hI
  have kx : mK M 0 = 20 := (lx hX.1.1).1
  simp +decide (disch := omega) only [qL_17 xs L, qL_25 xs L, kx, ni_in_t, ni_tn, ni_add1, ni_a2, ni_a3, ni_a4, ni_a5, ni_a6, am_w1_i, am_w1_r, am_w1_x, am_w1_l, am_w1_w, va_rf_s, am_push_n, am_push_s, am_cs_0, am_cs_i, am_cs_l, am_cs_r, m_uI_K, m_uI_N, m_uI_R, m_uI_L, m_uI_I, m_uL_K, m_uL_N, m_uL_R, m_uL_I, m_uL_L, m_uR_K, m_uR_N, m_uR_I, m_uR_L, m_uR_R, true_and, and_true, true_implies, false_implies, not_true_eq_false, not_false_eq_true, if_true, if_false, false_and, and_false]
  refine am_E_mono (op_strange M hI d hd) (fun r M1 h1 => ?_)
  obtain ⟨v, rfl, ⟨x, rfl⟩, L1, h2⟩ := h1
  have k1 : mK M1 277 = 21 := (lm L1).1
  simp +decide (disch := omega) only [qL_17 xs L, qL_25 xs L, k1, ni_in_t, ni_tn, ni_add1, ni_a2, ni_a3, ni_a4, ni_a5, ni_a6, am_w1_i, am_w1_r, am_w1_x, am_w1_l, am_w1_w, va_rf_s, am_push_n, am_push_s, am_cs_0, am_cs_i, am_cs_l, am_cs_r, m_uI_K, m_uI_N, m_uI_R, m_uI_L, m_uI_I, m_uL_K, m_uL_N, m_uL_R, m_uL_I, m_uL_L, m_uR_K, m_uR_N, m_uR_I, m_uR_L, m_uR_R, true_and, and_true, true_implies, false_implies, not_true_eq_false, not_false_eq_true, if_true, if_false, false_and, and_false]
  refine am_E_mono h2 (fun r M2 h3 => ?_)
  obtain ⟨rfl, hI2⟩ := h3
  have h0 := hQ M2 hI2
  simp +decide (disch := omega) only [qL_17 xs L, qL_25 xs L, eq_self, lgc_0, ni_in_t, ni_tn, ni_add1, ni_a2, ni_a3, ni_a4, ni_a5, ni_a6, am_w1_i, am_w1_r, am_w1_x, am_w1_l, am_w1_w, va_rf_s, am_push_n, am_push_s, am_cs_0, am_cs_i, am_cs_l, am_cs_r, m_uI_K, m_uI_N, m_uI_R, m_uI_L, m_uI_I, m_uL_K, m_uL_N, m_uL_R, m_uL_I, m_uL_L, m_uR_K, m_uR_N, m_uR_I, m_uR_L, m_uR_R, true_and, and_true, true_implies, false_implies, not_true_eq_false, not_false_eq_true, if_true, if_false, false_and, and_false]
  exact h0
theorem lc_doubted (xs : Nat → Int32) (L d i : Nat) (M : am_M) (Q : Option Value → am_M → Prop) (hd : 200 ≤ d) (hi : i + 6 ≤ L) (hL : L ≤ 3072) (hI : Inv M) (hQ : ∀ M', Inv M' → am_P am_P0 (d + 1) (am_look (tL xs L)) 18 [.retAddr 0, .ref 0, .ref 277, .int (nI (i + 6))] [] M' Q) : am_P am_P0 (d + 1) (am_look (tL xs L)) 1016 [.retAddr 0, .ref 0, .ref 277, .int (nI i)] [] M Q := by
  obtain ⟨z, b, D, hD, hX, -⟩ := id hI
  have kx : mK M 0 = 20 := (lx hX.1.1).1
  simp +decide (disch := omega) only [qL_17 xs L, qL_25 xs L, kx, ni_in_t, ni_tn, ni_add1, ni_a2, ni_a3, ni_a4, ni_a5, ni_a6, am_w1_i, am_w1_r, am_w1_x, am_w1_l, am_w1_w, va_rf_s, am_push_n, am_push_s, am_cs_0, am_cs_i, am_cs_l, am_cs_r, m_uI_K, m_uI_N, m_uI_R, m_uI_L, m_uI_I, m_uL_K, m_uL_N, m_uL_R, m_uL_I, m_uL_L, m_uR_K, m_uR_N, m_uR_I, m_uR_L, m_uR_R, true_and, and_true, true_implies, false_implies, not_true_eq_false, not_false_eq_true, if_true, if_false, false_and, and_false]
  refine am_E_mono (op_doubted M hI d hd) (fun r M1 h1 => ?_)
  obtain ⟨v, rfl, ⟨x, rfl⟩, L1, h2⟩ := h1
  have k1 : mK M1 277 = 21 := (lm L1).1
  simp +decide (disch := omega) only [qL_17 xs L, qL_25 xs L, k1, ni_in_t, ni_tn, ni_add1, ni_a2, ni_a3, ni_a4, ni_a5, ni_a6, am_w1_i, am_w1_r, am_w1_x, am_w1_l, am_w1_w, va_rf_s, am_push_n, am_push_s, am_cs_0, am_cs_i, am_cs_l, am_cs_r, m_uI_K, m_uI_N, m_uI_R, m_uI_L, m_uI_I, m_uL_K, m_uL_N, m_uL_R, m_uL_I, m_uL_L, m_uR_K, m_uR_N, m_uR_I, m_uR_L, m_uR_R, true_and, and_true, true_implies, false_implies, not_true_eq_false, not_false_eq_true, if_true, if_false, false_and, and_false]
  refine am_E_mono h2 (fun r M2 h3 => ?_)
  obtain ⟨rfl, hI2⟩ := h3
  have h0 := hQ M2 hI2
  simp +decide (disch := omega) only [qL_17 xs L, qL_25 xs L, eq_self, lgc_0, ni_in_t, ni_tn, ni_add1, ni_a2, ni_a3, ni_a4, ni_a5, ni_a6, am_w1_i, am_w1_r, am_w1_x, am_w1_l, am_w1_w, va_rf_s, am_push_n, am_push_s, am_cs_0, am_cs_i, am_cs_l, am_cs_r, m_uI_K, m_uI_N, m_uI_R, m_uI_L, m_uI_I, m_uL_K, m_uL_N, m_uL_R, m_uL_I, m_uL_L, m_uR_K, m_uR_N, m_uR_I, m_uR_L, m_uR_R, true_and, and_true, true_implies, false_implies, not_true_eq_false, not_false_eq_true, if_true, if_false, false_and, and_false]
  exact h0
theorem lc_gaps (xs : Nat → Int32) (L d i : Nat) (M : am_M) (Q : Option Value → am_M → Prop) (hd : 200 ≤ d) (hi : i + 6 ≤ L) (hL : L ≤ 3072) (hI : Inv M) (hQ : ∀ M', Inv M' → am_P am_P0 (d + 1) (am_look (tL xs L)) 18 [.retAddr 0, .ref 0, .ref 277, .int (nI (i + 6))] [] M' Q) : am_P am_P0 (d + 1) (am_look (tL xs L)) 1029 [.retAddr 0, .ref 0, .ref 277, .int (nI i)] [] M Q := by
  obtain ⟨z, b, D, hD, hX, -⟩ := id hI
  have kx : mK M 0 = 20 := (lx hX.1.1).1
  simp +decide (disch := omega) only [qL_17 xs L, qL_18 xs L, qL_25 xs L, kx, ni_in_t, ni_tn, ni_add1, ni_a2, ni_a3, ni_a4, ni_a5, ni_a6, am_w1_i, am_w1_r, am_w1_x, am_w1_l, am_w1_w, va_rf_s, am_push_n, am_push_s, am_cs_0, am_cs_i, am_cs_l, am_cs_r, m_uI_K, m_uI_N, m_uI_R, m_uI_L, m_uI_I, m_uL_K, m_uL_N, m_uL_R, m_uL_I, m_uL_L, m_uR_K, m_uR_N, m_uR_I, m_uR_L, m_uR_R, true_and, and_true, true_implies, false_implies, not_true_eq_false, not_false_eq_true, if_true, if_false, false_and, and_false]
  refine am_E_mono (op_gaps (xs (i + 1)) (xs (i + 2)) M hI d hd) (fun r M1 h1 => ?_)
  obtain ⟨v, rfl, ⟨x, rfl⟩, L1, h2⟩ := h1
  have k1 : mK M1 277 = 21 := (lm L1).1
  simp +decide (disch := omega) only [qL_17 xs L, qL_18 xs L, qL_25 xs L, k1, ni_in_t, ni_tn, ni_add1, ni_a2, ni_a3, ni_a4, ni_a5, ni_a6, am_w1_i, am_w1_r, am_w1_x, am_w1_l, am_w1_w, va_rf_s, am_push_n, am_push_s, am_cs_0, am_cs_i, am_cs_l, am_cs_r, m_uI_K, m_uI_N, m_uI_R, m_uI_L, m_uI_I, m_uL_K, m_uL_N, m_uL_R, m_uL_I, m_uL_L, m_uR_K, m_uR_N, m_uR_I, m_uR_L, m_uR_R, true_and, and_true, true_implies, false_implies, not_true_eq_false, not_false_eq_true, if_true, if_false, false_and, and_false]
  refine am_E_mono h2 (fun r M2 h3 => ?_)
  obtain ⟨rfl, hI2⟩ := h3
  have h0 := hQ M2 hI2
  simp +decide (disch := omega) only [qL_17 xs L, qL_18 xs L, qL_25 xs L, eq_self, lgc_0, ni_in_t, ni_tn, ni_add1, ni_a2, ni_a3, ni_a4, ni_a5, ni_a6, am_w1_i, am_w1_r, am_w1_x, am_w1_l, am_w1_w, va_rf_s, am_push_n, am_push_s, am_cs_0, am_cs_i, am_cs_l, am_cs_r, m_uI_K, m_uI_N, m_uI_R, m_uI_L, m_uI_I, m_uL_K, m_uL_N, m_uL_R, m_uL_I, m_uL_L, m_uR_K, m_uR_N, m_uR_I, m_uR_L, m_uR_R, true_and, and_true, true_implies, false_implies, not_true_eq_false, not_false_eq_true, if_true, if_false, false_and, and_false]
  exact h0
theorem lc_chance (xs : Nat → Int32) (L d i : Nat) (M : am_M) (Q : Option Value → am_M → Prop) (hd : 200 ≤ d) (hi : i + 6 ≤ L) (hL : L ≤ 3072) (hI : Inv M) (hQ : ∀ M', Inv M' → am_P am_P0 (d + 1) (am_look (tL xs L)) 18 [.retAddr 0, .ref 0, .ref 277, .int (nI (i + 6))] [] M' Q) : am_P am_P0 (d + 1) (am_look (tL xs L)) 1062 [.retAddr 0, .ref 0, .ref 277, .int (nI i)] [] M Q := by
  obtain ⟨z, b, D, hD, hX, -⟩ := id hI
  have kx : mK M 0 = 20 := (lx hX.1.1).1
  simp +decide (disch := omega) only [qL_18 xs L, qL_25 xs L, kx, ni_in_t, ni_tn, ni_add1, ni_a2, ni_a3, ni_a4, ni_a5, ni_a6, am_w1_i, am_w1_r, am_w1_x, am_w1_l, am_w1_w, va_rf_s, am_push_n, am_push_s, am_cs_0, am_cs_i, am_cs_l, am_cs_r, m_uI_K, m_uI_N, m_uI_R, m_uI_L, m_uI_I, m_uL_K, m_uL_N, m_uL_R, m_uL_I, m_uL_L, m_uR_K, m_uR_N, m_uR_I, m_uR_L, m_uR_R, true_and, and_true, true_implies, false_implies, not_true_eq_false, not_false_eq_true, if_true, if_false, false_and, and_false]
  refine am_E_mono (op_chance (xs (i + 1)) M hI d hd) (fun r M1 h1 => ?_)
  obtain ⟨v, rfl, ⟨x, rfl⟩, L1, h2⟩ := h1
  have k1 : mK M1 277 = 21 := (lm L1).1
  simp +decide (disch := omega) only [qL_18 xs L, qL_25 xs L, k1, ni_in_t, ni_tn, ni_add1, ni_a2, ni_a3, ni_a4, ni_a5, ni_a6, am_w1_i, am_w1_r, am_w1_x, am_w1_l, am_w1_w, va_rf_s, am_push_n, am_push_s, am_cs_0, am_cs_i, am_cs_l, am_cs_r, m_uI_K, m_uI_N, m_uI_R, m_uI_L, m_uI_I, m_uL_K, m_uL_N, m_uL_R, m_uL_I, m_uL_L, m_uR_K, m_uR_N, m_uR_I, m_uR_L, m_uR_R, true_and, and_true, true_implies, false_implies, not_true_eq_false, not_false_eq_true, if_true, if_false, false_and, and_false]
  refine am_E_mono h2 (fun r M2 h3 => ?_)
  obtain ⟨rfl, hI2⟩ := h3
  have h0 := hQ M2 hI2
  simp +decide (disch := omega) only [qL_18 xs L, qL_25 xs L, eq_self, lgc_0, ni_in_t, ni_tn, ni_add1, ni_a2, ni_a3, ni_a4, ni_a5, ni_a6, am_w1_i, am_w1_r, am_w1_x, am_w1_l, am_w1_w, va_rf_s, am_push_n, am_push_s, am_cs_0, am_cs_i, am_cs_l, am_cs_r, m_uI_K, m_uI_N, m_uI_R, m_uI_L, m_uI_I, m_uL_K, m_uL_N, m_uL_R, m_uL_I, m_uL_L, m_uR_K, m_uR_N, m_uR_I, m_uR_L, m_uR_R, true_and, and_true, true_implies, false_implies, not_true_eq_false, not_false_eq_true, if_true, if_false, false_and, and_false]
  exact h0
theorem lc_beyond (xs : Nat → Int32) (L d i : Nat) (M : am_M) (Q : Option Value → am_M → Prop) (hd : 200 ≤ d) (hi : i + 6 ≤ L) (hL : L ≤ 3072) (hI : Inv M) (hQ : ∀ M', Inv M' → am_P am_P0 (d + 1) (am_look (tL xs L)) 18 [.retAddr 0, .ref 0, .ref 277, .int (nI (i + 6))] [] M' Q) : am_P am_P0 (d + 1) (am_look (tL xs L)) 1085 [.retAddr 0, .ref 0, .ref 277, .int (nI i)] [] M Q := by
  obtain ⟨z, b, D, hD, hX, -⟩ := id hI
  have kx : mK M 0 = 20 := (lx hX.1.1).1
  simp +decide (disch := omega) only [qL_18 xs L, qL_25 xs L, kx, ni_in_t, ni_tn, ni_add1, ni_a2, ni_a3, ni_a4, ni_a5, ni_a6, am_w1_i, am_w1_r, am_w1_x, am_w1_l, am_w1_w, va_rf_s, am_push_n, am_push_s, am_cs_0, am_cs_i, am_cs_l, am_cs_r, m_uI_K, m_uI_N, m_uI_R, m_uI_L, m_uI_I, m_uL_K, m_uL_N, m_uL_R, m_uL_I, m_uL_L, m_uR_K, m_uR_N, m_uR_I, m_uR_L, m_uR_R, true_and, and_true, true_implies, false_implies, not_true_eq_false, not_false_eq_true, if_true, if_false, false_and, and_false]
  refine am_E_mono (op_beyond M hI d hd) (fun r M1 h1 => ?_)
  obtain ⟨v, rfl, ⟨x, rfl⟩, L1, h2⟩ := h1
  have k1 : mK M1 277 = 21 := (lm L1).1
  simp +decide (disch := omega) only [qL_18 xs L, qL_25 xs L, k1, ni_in_t, ni_tn, ni_add1, ni_a2, ni_a3, ni_a4, ni_a5, ni_a6, am_w1_i, am_w1_r, am_w1_x, am_w1_l, am_w1_w, va_rf_s, am_push_n, am_push_s, am_cs_0, am_cs_i, am_cs_l, am_cs_r, m_uI_K, m_uI_N, m_uI_R, m_uI_L, m_uI_I, m_uL_K, m_uL_N, m_uL_R, m_uL_I, m_uL_L, m_uR_K, m_uR_N, m_uR_I, m_uR_L, m_uR_R, true_and, and_true, true_implies, false_implies, not_true_eq_false, not_false_eq_true, if_true, if_false, false_and, and_false]
  refine am_E_mono h2 (fun r M2 h3 => ?_)
  obtain ⟨rfl, hI2⟩ := h3
  have h0 := hQ M2 hI2
  simp +decide (disch := omega) only [qL_18 xs L, qL_25 xs L, eq_self, lgc_0, ni_in_t, ni_tn, ni_add1, ni_a2, ni_a3, ni_a4, ni_a5, ni_a6, am_w1_i, am_w1_r, am_w1_x, am_w1_l, am_w1_w, va_rf_s, am_push_n, am_push_s, am_cs_0, am_cs_i, am_cs_l, am_cs_r, m_uI_K, m_uI_N, m_uI_R, m_uI_L, m_uI_I, m_uL_K, m_uL_N, m_uL_R, m_uL_I, m_uL_L, m_uR_K, m_uR_N, m_uR_I, m_uR_L, m_uR_R, true_and, and_true, true_implies, false_implies, not_true_eq_false, not_false_eq_true, if_true, if_false, false_and, and_false]
  exact h0
theorem lc_settles (xs : Nat → Int32) (L d i : Nat) (M : am_M) (Q : Option Value → am_M → Prop) (hd : 200 ≤ d) (hi : i + 6 ≤ L) (hL : L ≤ 3072) (hI : Inv M) (hQ : ∀ M', Inv M' → am_P am_P0 (d + 1) (am_look (tL xs L)) 18 [.retAddr 0, .ref 0, .ref 277, .int (nI (i + 6))] [] M' Q) : am_P am_P0 (d + 1) (am_look (tL xs L)) 1098 [.retAddr 0, .ref 0, .ref 277, .int (nI i)] [] M Q := by
  obtain ⟨z, b, D, hD, hX, -⟩ := id hI
  have kx : mK M 0 = 20 := (lx hX.1.1).1
  simp +decide (disch := omega) only [qL_18 xs L, qL_19 xs L, qL_25 xs L, kx, ni_in_t, ni_tn, ni_add1, ni_a2, ni_a3, ni_a4, ni_a5, ni_a6, am_w1_i, am_w1_r, am_w1_x, am_w1_l, am_w1_w, va_rf_s, am_push_n, am_push_s, am_cs_0, am_cs_i, am_cs_l, am_cs_r, m_uI_K, m_uI_N, m_uI_R, m_uI_L, m_uI_I, m_uL_K, m_uL_N, m_uL_R, m_uL_I, m_uL_L, m_uR_K, m_uR_N, m_uR_I, m_uR_L, m_uR_R, true_and, and_true, true_implies, false_implies, not_true_eq_false, not_false_eq_true, if_true, if_false, false_and, and_false]
  refine am_E_mono (op_settles (xs (i + 1)) (xs (i + 2)) (xs (i + 3)) M hI d hd) (fun r M1 h1 => ?_)
  obtain ⟨v, rfl, ⟨x, rfl⟩, L1, h2⟩ := h1
  have k1 : mK M1 277 = 21 := (lm L1).1
  simp +decide (disch := omega) only [qL_18 xs L, qL_19 xs L, qL_25 xs L, k1, ni_in_t, ni_tn, ni_add1, ni_a2, ni_a3, ni_a4, ni_a5, ni_a6, am_w1_i, am_w1_r, am_w1_x, am_w1_l, am_w1_w, va_rf_s, am_push_n, am_push_s, am_cs_0, am_cs_i, am_cs_l, am_cs_r, m_uI_K, m_uI_N, m_uI_R, m_uI_L, m_uI_I, m_uL_K, m_uL_N, m_uL_R, m_uL_I, m_uL_L, m_uR_K, m_uR_N, m_uR_I, m_uR_L, m_uR_R, true_and, and_true, true_implies, false_implies, not_true_eq_false, not_false_eq_true, if_true, if_false, false_and, and_false]
  refine am_E_mono h2 (fun r M2 h3 => ?_)
  obtain ⟨rfl, hI2⟩ := h3
  have h0 := hQ M2 hI2
  simp +decide (disch := omega) only [qL_18 xs L, qL_19 xs L, qL_25 xs L, eq_self, lgc_0, ni_in_t, ni_tn, ni_add1, ni_a2, ni_a3, ni_a4, ni_a5, ni_a6, am_w1_i, am_w1_r, am_w1_x, am_w1_l, am_w1_w, va_rf_s, am_push_n, am_push_s, am_cs_0, am_cs_i, am_cs_l, am_cs_r, m_uI_K, m_uI_N, m_uI_R, m_uI_L, m_uI_I, m_uL_K, m_uL_N, m_uL_R, m_uL_I, m_uL_L, m_uR_K, m_uR_N, m_uR_I, m_uR_L, m_uR_R, true_and, and_true, true_implies, false_implies, not_true_eq_false, not_false_eq_true, if_true, if_false, false_and, and_false]
  exact h0
theorem lc_next (xs : Nat → Int32) (L d i : Nat) (M : am_M) (Q : Option Value → am_M → Prop) (hd : 200 ≤ d) (hi : i + 6 ≤ L) (hL : L ≤ 3072) (hI : Inv M) (hQ : ∀ M', Inv M' → am_P am_P0 (d + 1) (am_look (tL xs L)) 18 [.retAddr 0, .ref 0, .ref 277, .int (nI (i + 6))] [] M' Q) : am_P am_P0 (d + 1) (am_look (tL xs L)) 1141 [.retAddr 0, .ref 0, .ref 277, .int (nI i)] [] M Q := by
  obtain ⟨z, b, D, hD, hX, -⟩ := id hI
  have kx : mK M 0 = 20 := (lx hX.1.1).1
  simp +decide (disch := omega) only [qL_19 xs L, qL_20 xs L, qL_25 xs L, kx, ni_in_t, ni_tn, ni_add1, ni_a2, ni_a3, ni_a4, ni_a5, ni_a6, am_w1_i, am_w1_r, am_w1_x, am_w1_l, am_w1_w, va_rf_s, am_push_n, am_push_s, am_cs_0, am_cs_i, am_cs_l, am_cs_r, m_uI_K, m_uI_N, m_uI_R, m_uI_L, m_uI_I, m_uL_K, m_uL_N, m_uL_R, m_uL_I, m_uL_L, m_uR_K, m_uR_N, m_uR_I, m_uR_L, m_uR_R, true_and, and_true, true_implies, false_implies, not_true_eq_false, not_false_eq_true, if_true, if_false, false_and, and_false]
  refine am_E_mono (op_next (xs (i + 1)) M hI d hd) (fun r M1 h1 => ?_)
  obtain ⟨v, rfl, ⟨x, rfl⟩, L1, h2⟩ := h1
  have k1 : mK M1 277 = 21 := (lm L1).1
  simp +decide (disch := omega) only [qL_19 xs L, qL_20 xs L, qL_25 xs L, k1, ni_in_t, ni_tn, ni_add1, ni_a2, ni_a3, ni_a4, ni_a5, ni_a6, am_w1_i, am_w1_r, am_w1_x, am_w1_l, am_w1_w, va_rf_s, am_push_n, am_push_s, am_cs_0, am_cs_i, am_cs_l, am_cs_r, m_uI_K, m_uI_N, m_uI_R, m_uI_L, m_uI_I, m_uL_K, m_uL_N, m_uL_R, m_uL_I, m_uL_L, m_uR_K, m_uR_N, m_uR_I, m_uR_L, m_uR_R, true_and, and_true, true_implies, false_implies, not_true_eq_false, not_false_eq_true, if_true, if_false, false_and, and_false]
  refine am_E_mono h2 (fun r M2 h3 => ?_)
  obtain ⟨rfl, hI2⟩ := h3
  have h0 := hQ M2 hI2
  simp +decide (disch := omega) only [qL_19 xs L, qL_20 xs L, qL_25 xs L, eq_self, lgc_0, ni_in_t, ni_tn, ni_add1, ni_a2, ni_a3, ni_a4, ni_a5, ni_a6, am_w1_i, am_w1_r, am_w1_x, am_w1_l, am_w1_w, va_rf_s, am_push_n, am_push_s, am_cs_0, am_cs_i, am_cs_l, am_cs_r, m_uI_K, m_uI_N, m_uI_R, m_uI_L, m_uI_I, m_uL_K, m_uL_N, m_uL_R, m_uL_I, m_uL_L, m_uR_K, m_uR_N, m_uR_I, m_uR_L, m_uR_R, true_and, and_true, true_implies, false_implies, not_true_eq_false, not_false_eq_true, if_true, if_false, false_and, and_false]
  exact h0
theorem lc_off (xs : Nat → Int32) (L d i : Nat) (M : am_M) (Q : Option Value → am_M → Prop) (hd : 200 ≤ d) (hi : i + 6 ≤ L) (hL : L ≤ 3072) (hI : Inv M) (hQ : ∀ M', Inv M' → am_P am_P0 (d + 1) (am_look (tL xs L)) 18 [.retAddr 0, .ref 0, .ref 277, .int (nI (i + 6))] [] M' Q) : am_P am_P0 (d + 1) (am_look (tL xs L)) 1164 [.retAddr 0, .ref 0, .ref 277, .int (nI i)] [] M Q := by
  obtain ⟨z, b, D, hD, hX, -⟩ := id hI
  have kx : mK M 0 = 20 := (lx hX.1.1).1
  simp +decide (disch := omega) only [qL_20 xs L, qL_25 xs L, kx, ni_in_t, ni_tn, ni_add1, ni_a2, ni_a3, ni_a4, ni_a5, ni_a6, am_w1_i, am_w1_r, am_w1_x, am_w1_l, am_w1_w, va_rf_s, am_push_n, am_push_s, am_cs_0, am_cs_i, am_cs_l, am_cs_r, m_uI_K, m_uI_N, m_uI_R, m_uI_L, m_uI_I, m_uL_K, m_uL_N, m_uL_R, m_uL_I, m_uL_L, m_uR_K, m_uR_N, m_uR_I, m_uR_L, m_uR_R, true_and, and_true, true_implies, false_implies, not_true_eq_false, not_false_eq_true, if_true, if_false, false_and, and_false]
  refine am_E_mono (op_off (xs (i + 1)) M hI d hd) (fun r M1 h1 => ?_)
  obtain ⟨v, rfl, ⟨x, rfl⟩, L1, h2⟩ := h1
  have k1 : mK M1 277 = 21 := (lm L1).1
  simp +decide (disch := omega) only [qL_20 xs L, qL_25 xs L, k1, ni_in_t, ni_tn, ni_add1, ni_a2, ni_a3, ni_a4, ni_a5, ni_a6, am_w1_i, am_w1_r, am_w1_x, am_w1_l, am_w1_w, va_rf_s, am_push_n, am_push_s, am_cs_0, am_cs_i, am_cs_l, am_cs_r, m_uI_K, m_uI_N, m_uI_R, m_uI_L, m_uI_I, m_uL_K, m_uL_N, m_uL_R, m_uL_I, m_uL_L, m_uR_K, m_uR_N, m_uR_I, m_uR_L, m_uR_R, true_and, and_true, true_implies, false_implies, not_true_eq_false, not_false_eq_true, if_true, if_false, false_and, and_false]
  refine am_E_mono h2 (fun r M2 h3 => ?_)
  obtain ⟨rfl, hI2⟩ := h3
  have h0 := hQ M2 hI2
  simp +decide (disch := omega) only [qL_20 xs L, qL_25 xs L, eq_self, lgc_0, ni_in_t, ni_tn, ni_add1, ni_a2, ni_a3, ni_a4, ni_a5, ni_a6, am_w1_i, am_w1_r, am_w1_x, am_w1_l, am_w1_w, va_rf_s, am_push_n, am_push_s, am_cs_0, am_cs_i, am_cs_l, am_cs_r, m_uI_K, m_uI_N, m_uI_R, m_uI_L, m_uI_I, m_uL_K, m_uL_N, m_uL_R, m_uL_I, m_uL_L, m_uR_K, m_uR_N, m_uR_I, m_uR_L, m_uR_R, true_and, and_true, true_implies, false_implies, not_true_eq_false, not_false_eq_true, if_true, if_false, false_and, and_false]
  exact h0
theorem lc_whose (xs : Nat → Int32) (L d i : Nat) (M : am_M) (Q : Option Value → am_M → Prop) (hd : 200 ≤ d) (hi : i + 6 ≤ L) (hL : L ≤ 3072) (hI : Inv M) (hQ : ∀ M', Inv M' → am_P am_P0 (d + 1) (am_look (tL xs L)) 18 [.retAddr 0, .ref 0, .ref 277, .int (nI (i + 6))] [] M' Q) : am_P am_P0 (d + 1) (am_look (tL xs L)) 1187 [.retAddr 0, .ref 0, .ref 277, .int (nI i)] [] M Q := by
  obtain ⟨z, b, D, hD, hX, -⟩ := id hI
  have kx : mK M 0 = 20 := (lx hX.1.1).1
  simp +decide (disch := omega) only [qL_20 xs L, qL_25 xs L, kx, ni_in_t, ni_tn, ni_add1, ni_a2, ni_a3, ni_a4, ni_a5, ni_a6, am_w1_i, am_w1_r, am_w1_x, am_w1_l, am_w1_w, va_rf_s, am_push_n, am_push_s, am_cs_0, am_cs_i, am_cs_l, am_cs_r, m_uI_K, m_uI_N, m_uI_R, m_uI_L, m_uI_I, m_uL_K, m_uL_N, m_uL_R, m_uL_I, m_uL_L, m_uR_K, m_uR_N, m_uR_I, m_uR_L, m_uR_R, true_and, and_true, true_implies, false_implies, not_true_eq_false, not_false_eq_true, if_true, if_false, false_and, and_false]
  refine am_E_mono (op_whose M hI d hd) (fun r M1 h1 => ?_)
  obtain ⟨v, rfl, ⟨x, rfl⟩, L1, h2⟩ := h1
  have k1 : mK M1 277 = 21 := (lm L1).1
  simp +decide (disch := omega) only [qL_20 xs L, qL_25 xs L, k1, ni_in_t, ni_tn, ni_add1, ni_a2, ni_a3, ni_a4, ni_a5, ni_a6, am_w1_i, am_w1_r, am_w1_x, am_w1_l, am_w1_w, va_rf_s, am_push_n, am_push_s, am_cs_0, am_cs_i, am_cs_l, am_cs_r, m_uI_K, m_uI_N, m_uI_R, m_uI_L, m_uI_I, m_uL_K, m_uL_N, m_uL_R, m_uL_I, m_uL_L, m_uR_K, m_uR_N, m_uR_I, m_uR_L, m_uR_R, true_and, and_true, true_implies, false_implies, not_true_eq_false, not_false_eq_true, if_true, if_false, false_and, and_false]
  refine am_E_mono h2 (fun r M2 h3 => ?_)
  obtain ⟨rfl, hI2⟩ := h3
  have h0 := hQ M2 hI2
  simp +decide (disch := omega) only [qL_20 xs L, qL_25 xs L, eq_self, lgc_0, ni_in_t, ni_tn, ni_add1, ni_a2, ni_a3, ni_a4, ni_a5, ni_a6, am_w1_i, am_w1_r, am_w1_x, am_w1_l, am_w1_w, va_rf_s, am_push_n, am_push_s, am_cs_0, am_cs_i, am_cs_l, am_cs_r, m_uI_K, m_uI_N, m_uI_R, m_uI_L, m_uI_I, m_uL_K, m_uL_N, m_uL_R, m_uL_I, m_uL_L, m_uR_K, m_uR_N, m_uR_I, m_uR_L, m_uR_R, true_and, and_true, true_implies, false_implies, not_true_eq_false, not_false_eq_true, if_true, if_false, false_and, and_false]
  exact h0
theorem lc_add (xs : Nat → Int32) (L d i : Nat) (M : am_M) (Q : Option Value → am_M → Prop) (hd : 200 ≤ d) (hi : i + 6 ≤ L) (hL : L ≤ 3072) (hI : Inv M) (hQ : ∀ M', Inv M' → am_P am_P0 (d + 1) (am_look (tL xs L)) 18 [.retAddr 0, .ref 0, .ref 277, .int (nI (i + 6))] [] M' Q) : am_P am_P0 (d + 1) (am_look (tL xs L)) 1200 [.retAddr 0, .ref 0, .ref 277, .int (nI i)] [] M Q := by
  obtain ⟨z, b, D, hD, hX, -⟩ := id hI
  have kx : mK M 0 = 20 := (lx hX.1.1).1
  by_cases c5 : xs (i + 5) = 0
  · simp +decide (disch := omega) only [qL_20 xs L, qL_21 xs L, qL_22 xs L, qL_25 xs L, kx, c5, ni_in_t, ni_tn, ni_add1, ni_a2, ni_a3, ni_a4, ni_a5, ni_a6, am_w1_i, am_w1_r, am_w1_x, am_w1_l, am_w1_w, va_rf_s, am_push_n, am_push_s, am_cs_0, am_cs_i, am_cs_l, am_cs_r, m_uI_K, m_uI_N, m_uI_R, m_uI_L, m_uI_I, m_uL_K, m_uL_N, m_uL_R, m_uL_I, m_uL_L, m_uR_K, m_uR_N, m_uR_I, m_uR_L, m_uR_R, true_and, and_true, true_implies, false_implies, not_true_eq_false, not_false_eq_true, if_true, if_false, false_and, and_false]
    refine am_E_mono (op_add (xs (i + 1)) (xs (i + 2)) (xs (i + 3)) (xs (i + 4)) false M hI d hd) (fun r M1 h1 => ?_)
    obtain ⟨v, rfl, ⟨x, rfl⟩, L1, h2⟩ := h1
    have k1 : mK M1 277 = 21 := (lm L1).1
    simp +decide (disch := omega) only [qL_20 xs L, qL_21 xs L, qL_22 xs L, qL_25 xs L, k1, c5, ni_in_t, ni_tn, ni_add1, ni_a2, ni_a3, ni_a4, ni_a5, ni_a6, am_w1_i, am_w1_r, am_w1_x, am_w1_l, am_w1_w, va_rf_s, am_push_n, am_push_s, am_cs_0, am_cs_i, am_cs_l, am_cs_r, m_uI_K, m_uI_N, m_uI_R, m_uI_L, m_uI_I, m_uL_K, m_uL_N, m_uL_R, m_uL_I, m_uL_L, m_uR_K, m_uR_N, m_uR_I, m_uR_L, m_uR_R, true_and, and_true, true_implies, false_implies, not_true_eq_false, not_false_eq_true, if_true, if_false, false_and, and_false]
    refine am_E_mono h2 (fun r M2 h3 => ?_)
    obtain ⟨rfl, hI2⟩ := h3
    have h0 := hQ M2 hI2
    simp +decide (disch := omega) only [qL_20 xs L, qL_21 xs L, qL_22 xs L, qL_25 xs L, eq_self, lgc_0, ni_in_t, ni_tn, ni_add1, ni_a2, ni_a3, ni_a4, ni_a5, ni_a6, am_w1_i, am_w1_r, am_w1_x, am_w1_l, am_w1_w, va_rf_s, am_push_n, am_push_s, am_cs_0, am_cs_i, am_cs_l, am_cs_r, m_uI_K, m_uI_N, m_uI_R, m_uI_L, m_uI_I, m_uL_K, m_uL_N, m_uL_R, m_uL_I, m_uL_L, m_uR_K, m_uR_N, m_uR_I, m_uR_L, m_uR_R, true_and, and_true, true_implies, false_implies, not_true_eq_false, not_false_eq_true, if_true, if_false, false_and, and_false]
    exact h0
  · simp +decide (disch := omega) only [qL_20 xs L, qL_21 xs L, qL_22 xs L, qL_25 xs L, kx, c5, ni_in_t, ni_tn, ni_add1, ni_a2, ni_a3, ni_a4, ni_a5, ni_a6, am_w1_i, am_w1_r, am_w1_x, am_w1_l, am_w1_w, va_rf_s, am_push_n, am_push_s, am_cs_0, am_cs_i, am_cs_l, am_cs_r, m_uI_K, m_uI_N, m_uI_R, m_uI_L, m_uI_I, m_uL_K, m_uL_N, m_uL_R, m_uL_I, m_uL_L, m_uR_K, m_uR_N, m_uR_I, m_uR_L, m_uR_R, true_and, and_true, true_implies, false_implies, not_true_eq_false, not_false_eq_true, if_true, if_false, false_and, and_false]
    refine am_E_mono (op_add (xs (i + 1)) (xs (i + 2)) (xs (i + 3)) (xs (i + 4)) true M hI d hd) (fun r M1 h1 => ?_)
    obtain ⟨v, rfl, ⟨x, rfl⟩, L1, h2⟩ := h1
    have k1 : mK M1 277 = 21 := (lm L1).1
    simp +decide (disch := omega) only [qL_20 xs L, qL_21 xs L, qL_22 xs L, qL_25 xs L, k1, c5, ni_in_t, ni_tn, ni_add1, ni_a2, ni_a3, ni_a4, ni_a5, ni_a6, am_w1_i, am_w1_r, am_w1_x, am_w1_l, am_w1_w, va_rf_s, am_push_n, am_push_s, am_cs_0, am_cs_i, am_cs_l, am_cs_r, m_uI_K, m_uI_N, m_uI_R, m_uI_L, m_uI_I, m_uL_K, m_uL_N, m_uL_R, m_uL_I, m_uL_L, m_uR_K, m_uR_N, m_uR_I, m_uR_L, m_uR_R, true_and, and_true, true_implies, false_implies, not_true_eq_false, not_false_eq_true, if_true, if_false, false_and, and_false]
    refine am_E_mono h2 (fun r M2 h3 => ?_)
    obtain ⟨rfl, hI2⟩ := h3
    have h0 := hQ M2 hI2
    simp +decide (disch := omega) only [qL_20 xs L, qL_21 xs L, qL_22 xs L, qL_25 xs L, eq_self, lgc_0, ni_in_t, ni_tn, ni_add1, ni_a2, ni_a3, ni_a4, ni_a5, ni_a6, am_w1_i, am_w1_r, am_w1_x, am_w1_l, am_w1_w, va_rf_s, am_push_n, am_push_s, am_cs_0, am_cs_i, am_cs_l, am_cs_r, m_uI_K, m_uI_N, m_uI_R, m_uI_L, m_uI_I, m_uL_K, m_uL_N, m_uL_R, m_uL_I, m_uL_L, m_uR_K, m_uR_N, m_uR_I, m_uR_L, m_uR_R, true_and, and_true, true_implies, false_implies, not_true_eq_false, not_false_eq_true, if_true, if_false, false_and, and_false]
    exact h0
theorem lc_drop (xs : Nat → Int32) (L d i : Nat) (M : am_M) (Q : Option Value → am_M → Prop) (hd : 200 ≤ d) (hi : i + 6 ≤ L) (hL : L ≤ 3072) (hI : Inv M) (hQ : ∀ M', Inv M' → am_P am_P0 (d + 1) (am_look (tL xs L)) 18 [.retAddr 0, .ref 0, .ref 277, .int (nI (i + 6))] [] M' Q) : am_P am_P0 (d + 1) (am_look (tL xs L)) 1279 [.retAddr 0, .ref 0, .ref 277, .int (nI i)] [] M Q := by
  obtain ⟨z, b, D, hD, hX, -⟩ := id hI
  have kx : mK M 0 = 20 := (lx hX.1.1).1
  simp +decide (disch := omega) only [qL_22 xs L, qL_25 xs L, kx, ni_in_t, ni_tn, ni_add1, ni_a2, ni_a3, ni_a4, ni_a5, ni_a6, am_w1_i, am_w1_r, am_w1_x, am_w1_l, am_w1_w, va_rf_s, am_push_n, am_push_s, am_cs_0, am_cs_i, am_cs_l, am_cs_r, m_uI_K, m_uI_N, m_uI_R, m_uI_L, m_uI_I, m_uL_K, m_uL_N, m_uL_R, m_uL_I, m_uL_L, m_uR_K, m_uR_N, m_uR_I, m_uR_L, m_uR_R, true_and, and_true, true_implies, false_implies, not_true_eq_false, not_false_eq_true, if_true, if_false, false_and, and_false]
  refine am_E_mono (op_drop (xs (i + 1)) (xs (i + 2)) M hI d hd) (fun r M1 h1 => ?_)
  obtain ⟨v, rfl, ⟨x, rfl⟩, L1, h2⟩ := h1
  have k1 : mK M1 277 = 21 := (lm L1).1
  simp +decide (disch := omega) only [qL_22 xs L, qL_25 xs L, k1, ni_in_t, ni_tn, ni_add1, ni_a2, ni_a3, ni_a4, ni_a5, ni_a6, am_w1_i, am_w1_r, am_w1_x, am_w1_l, am_w1_w, va_rf_s, am_push_n, am_push_s, am_cs_0, am_cs_i, am_cs_l, am_cs_r, m_uI_K, m_uI_N, m_uI_R, m_uI_L, m_uI_I, m_uL_K, m_uL_N, m_uL_R, m_uL_I, m_uL_L, m_uR_K, m_uR_N, m_uR_I, m_uR_L, m_uR_R, true_and, and_true, true_implies, false_implies, not_true_eq_false, not_false_eq_true, if_true, if_false, false_and, and_false]
  refine am_E_mono h2 (fun r M2 h3 => ?_)
  obtain ⟨rfl, hI2⟩ := h3
  have h0 := hQ M2 hI2
  simp +decide (disch := omega) only [qL_22 xs L, qL_25 xs L, eq_self, lgc_0, ni_in_t, ni_tn, ni_add1, ni_a2, ni_a3, ni_a4, ni_a5, ni_a6, am_w1_i, am_w1_r, am_w1_x, am_w1_l, am_w1_w, va_rf_s, am_push_n, am_push_s, am_cs_0, am_cs_i, am_cs_l, am_cs_r, m_uI_K, m_uI_N, m_uI_R, m_uI_L, m_uI_I, m_uL_K, m_uL_N, m_uL_R, m_uL_I, m_uL_L, m_uR_K, m_uR_N, m_uR_I, m_uR_L, m_uR_R, true_and, and_true, true_implies, false_implies, not_true_eq_false, not_false_eq_true, if_true, if_false, false_and, and_false]
  exact h0
theorem lc_spot (xs : Nat → Int32) (L d i : Nat) (M : am_M) (Q : Option Value → am_M → Prop) (hd : 200 ≤ d) (hi : i + 6 ≤ L) (hL : L ≤ 3072) (hI : Inv M) (hQ : ∀ M', Inv M' → am_P am_P0 (d + 1) (am_look (tL xs L)) 18 [.retAddr 0, .ref 0, .ref 277, .int (nI (i + 6))] [] M' Q) : am_P am_P0 (d + 1) (am_look (tL xs L)) 1312 [.retAddr 0, .ref 0, .ref 277, .int (nI i)] [] M Q := by
  obtain ⟨z, b, D, hD, hX, -⟩ := id hI
  have kx : mK M 0 = 20 := (lx hX.1.1).1
  simp +decide (disch := omega) only [qL_22 xs L, qL_23 xs L, qL_24 xs L, qL_25 xs L, kx, ni_in_t, ni_tn, ni_add1, ni_a2, ni_a3, ni_a4, ni_a5, ni_a6, am_w1_i, am_w1_r, am_w1_x, am_w1_l, am_w1_w, va_rf_s, am_push_n, am_push_s, am_cs_0, am_cs_i, am_cs_l, am_cs_r, m_uI_K, m_uI_N, m_uI_R, m_uI_L, m_uI_I, m_uL_K, m_uL_N, m_uL_R, m_uL_I, m_uL_L, m_uR_K, m_uR_N, m_uR_I, m_uR_L, m_uR_R, true_and, and_true, true_implies, false_implies, not_true_eq_false, not_false_eq_true, if_true, if_false, false_and, and_false]
  refine am_E_mono (op_spot (xs (i + 1)) (xs (i + 2)) (xs (i + 3)) (xs (i + 4)) M hI d hd) (fun r M1 h1 => ?_)
  obtain ⟨v, rfl, ⟨x, rfl⟩, L1, h2⟩ := h1
  have k1 : mK M1 277 = 21 := (lm L1).1
  simp +decide (disch := omega) only [qL_22 xs L, qL_23 xs L, qL_24 xs L, qL_25 xs L, k1, ni_in_t, ni_tn, ni_add1, ni_a2, ni_a3, ni_a4, ni_a5, ni_a6, am_w1_i, am_w1_r, am_w1_x, am_w1_l, am_w1_w, va_rf_s, am_push_n, am_push_s, am_cs_0, am_cs_i, am_cs_l, am_cs_r, m_uI_K, m_uI_N, m_uI_R, m_uI_L, m_uI_I, m_uL_K, m_uL_N, m_uL_R, m_uL_I, m_uL_L, m_uR_K, m_uR_N, m_uR_I, m_uR_L, m_uR_R, true_and, and_true, true_implies, false_implies, not_true_eq_false, not_false_eq_true, if_true, if_false, false_and, and_false]
  refine am_E_mono h2 (fun r M2 h3 => ?_)
  obtain ⟨rfl, hI2⟩ := h3
  have h0 := hQ M2 hI2
  simp +decide (disch := omega) only [qL_22 xs L, qL_23 xs L, qL_24 xs L, qL_25 xs L, eq_self, lgc_0, ni_in_t, ni_tn, ni_add1, ni_a2, ni_a3, ni_a4, ni_a5, ni_a6, am_w1_i, am_w1_r, am_w1_x, am_w1_l, am_w1_w, va_rf_s, am_push_n, am_push_s, am_cs_0, am_cs_i, am_cs_l, am_cs_r, m_uI_K, m_uI_N, m_uI_R, m_uI_L, m_uI_I, m_uL_K, m_uL_N, m_uL_R, m_uL_I, m_uL_L, m_uR_K, m_uR_N, m_uR_I, m_uR_L, m_uR_R, true_and, and_true, true_implies, false_implies, not_true_eq_false, not_false_eq_true, if_true, if_false, false_and, and_false]
  exact h0
theorem lc_image (xs : Nat → Int32) (L d i : Nat) (M : am_M) (Q : Option Value → am_M → Prop) (hd : 200 ≤ d) (hi : i + 6 ≤ L) (hL : L ≤ 3072) (hI : Inv M) (hQ : ∀ M', Inv M' → am_P am_P0 (d + 1) (am_look (tL xs L)) 18 [.retAddr 0, .ref 0, .ref 277, .int (nI (i + 6))] [] M' Q) : am_P am_P0 (d + 1) (am_look (tL xs L)) 1365 [.retAddr 0, .ref 0, .ref 277, .int (nI i)] [] M Q := by
  obtain ⟨z, b, D, hD, hX, -⟩ := id hI
  have kx : mK M 0 = 20 := (lx hX.1.1).1
  simp +decide (disch := omega) only [qL_24 xs L, qL_25 xs L, kx, ni_in_t, ni_tn, ni_add1, ni_a2, ni_a3, ni_a4, ni_a5, ni_a6, am_w1_i, am_w1_r, am_w1_x, am_w1_l, am_w1_w, va_rf_s, am_push_n, am_push_s, am_cs_0, am_cs_i, am_cs_l, am_cs_r, m_uI_K, m_uI_N, m_uI_R, m_uI_L, m_uI_I, m_uL_K, m_uL_N, m_uL_R, m_uL_I, m_uL_L, m_uR_K, m_uR_N, m_uR_I, m_uR_L, m_uR_R, true_and, and_true, true_implies, false_implies, not_true_eq_false, not_false_eq_true, if_true, if_false, false_and, and_false]
  refine am_E_mono (op_image M hI d hd) (fun r M1 h1 => ?_)
  obtain ⟨v, rfl, ⟨x, rfl⟩, L1, h2⟩ := h1
  have k1 : mK M1 277 = 21 := (lm L1).1
  simp +decide (disch := omega) only [qL_24 xs L, qL_25 xs L, k1, ni_in_t, ni_tn, ni_add1, ni_a2, ni_a3, ni_a4, ni_a5, ni_a6, am_w1_i, am_w1_r, am_w1_x, am_w1_l, am_w1_w, va_rf_s, am_push_n, am_push_s, am_cs_0, am_cs_i, am_cs_l, am_cs_r, m_uI_K, m_uI_N, m_uI_R, m_uI_L, m_uI_I, m_uL_K, m_uL_N, m_uL_R, m_uL_I, m_uL_L, m_uR_K, m_uR_N, m_uR_I, m_uR_L, m_uR_R, true_and, and_true, true_implies, false_implies, not_true_eq_false, not_false_eq_true, if_true, if_false, false_and, and_false]
  refine am_E_mono h2 (fun r M2 h3 => ?_)
  obtain ⟨rfl, hI2⟩ := h3
  have h0 := hQ M2 hI2
  simp +decide (disch := omega) only [qL_24 xs L, qL_25 xs L, eq_self, lgc_0, ni_in_t, ni_tn, ni_add1, ni_a2, ni_a3, ni_a4, ni_a5, ni_a6, am_w1_i, am_w1_r, am_w1_x, am_w1_l, am_w1_w, va_rf_s, am_push_n, am_push_s, am_cs_0, am_cs_i, am_cs_l, am_cs_r, m_uI_K, m_uI_N, m_uI_R, m_uI_L, m_uI_I, m_uL_K, m_uL_N, m_uL_R, m_uL_I, m_uL_L, m_uR_K, m_uR_N, m_uR_I, m_uR_L, m_uR_R, true_and, and_true, true_implies, false_implies, not_true_eq_false, not_false_eq_true, if_true, if_false, false_and, and_false]
  exact h0
theorem lc_octet (xs : Nat → Int32) (L d i : Nat) (M : am_M) (Q : Option Value → am_M → Prop) (hd : 200 ≤ d) (hi : i + 6 ≤ L) (hL : L ≤ 3072) (hI : Inv M) (hQ : ∀ M', Inv M' → am_P am_P0 (d + 1) (am_look (tL xs L)) 18 [.retAddr 0, .ref 0, .ref 277, .int (nI (i + 6))] [] M' Q) : am_P am_P0 (d + 1) (am_look (tL xs L)) 1378 [.retAddr 0, .ref 0, .ref 277, .int (nI i)] [] M Q := by
  obtain ⟨z, b, D, hD, hX, -⟩ := id hI
  have kx : mK M 0 = 20 := (lx hX.1.1).1
  simp +decide (disch := omega) only [qL_24 xs L, qL_25 xs L, kx, ni_in_t, ni_tn, ni_add1, ni_a2, ni_a3, ni_a4, ni_a5, ni_a6, am_w1_i, am_w1_r, am_w1_x, am_w1_l, am_w1_w, va_rf_s, am_push_n, am_push_s, am_cs_0, am_cs_i, am_cs_l, am_cs_r, m_uI_K, m_uI_N, m_uI_R, m_uI_L, m_uI_I, m_uL_K, m_uL_N, m_uL_R, m_uL_I, m_uL_L, m_uR_K, m_uR_N, m_uR_I, m_uR_L, m_uR_R, true_and, and_true, true_implies, false_implies, not_true_eq_false, not_false_eq_true, if_true, if_false, false_and, and_false]
  refine am_E_mono (op_octet (xs (i + 1)) M hI d hd) (fun r M1 h1 => ?_)
  obtain ⟨v, rfl, ⟨x, rfl⟩, L1, h2⟩ := h1
  have k1 : mK M1 277 = 21 := (lm L1).1
  simp +decide (disch := omega) only [qL_24 xs L, qL_25 xs L, k1, ni_in_t, ni_tn, ni_add1, ni_a2, ni_a3, ni_a4, ni_a5, ni_a6, am_w1_i, am_w1_r, am_w1_x, am_w1_l, am_w1_w, va_rf_s, am_push_n, am_push_s, am_cs_0, am_cs_i, am_cs_l, am_cs_r, m_uI_K, m_uI_N, m_uI_R, m_uI_L, m_uI_I, m_uL_K, m_uL_N, m_uL_R, m_uL_I, m_uL_L, m_uR_K, m_uR_N, m_uR_I, m_uR_L, m_uR_R, true_and, and_true, true_implies, false_implies, not_true_eq_false, not_false_eq_true, if_true, if_false, false_and, and_false]
  refine am_E_mono h2 (fun r M2 h3 => ?_)
  obtain ⟨rfl, hI2⟩ := h3
  have h0 := hQ M2 hI2
  simp +decide (disch := omega) only [qL_24 xs L, qL_25 xs L, eq_self, lgc_0, ni_in_t, ni_tn, ni_add1, ni_a2, ni_a3, ni_a4, ni_a5, ni_a6, am_w1_i, am_w1_r, am_w1_x, am_w1_l, am_w1_w, va_rf_s, am_push_n, am_push_s, am_cs_0, am_cs_i, am_cs_l, am_cs_r, m_uI_K, m_uI_N, m_uI_R, m_uI_L, m_uI_I, m_uL_K, m_uL_N, m_uL_R, m_uL_I, m_uL_L, m_uR_K, m_uR_N, m_uR_I, m_uR_L, m_uR_R, true_and, and_true, true_implies, false_implies, not_true_eq_false, not_false_eq_true, if_true, if_false, false_and, and_false]
  exact h0
theorem lc_on (xs : Nat → Int32) (L d i : Nat) (M : am_M) (Q : Option Value → am_M → Prop) (hd : 200 ≤ d) (hi : i + 6 ≤ L) (hL : L ≤ 3072) (hI : Inv M) (hQ : ∀ M', Inv M' → am_P am_P0 (d + 1) (am_look (tL xs L)) 18 [.retAddr 0, .ref 0, .ref 277, .int (nI (i + 6))] [] M' Q) : am_P am_P0 (d + 1) (am_look (tL xs L)) 1401 [.retAddr 0, .ref 0, .ref 277, .int (nI i)] [] M Q := by
  obtain ⟨z, b, D, hD, hX, -⟩ := id hI
  have kx : mK M 0 = 20 := (lx hX.1.1).1
  simp +decide (disch := omega) only [qL_24 xs L, qL_25 xs L, kx, ni_in_t, ni_tn, ni_add1, ni_a2, ni_a3, ni_a4, ni_a5, ni_a6, am_w1_i, am_w1_r, am_w1_x, am_w1_l, am_w1_w, va_rf_s, am_push_n, am_push_s, am_cs_0, am_cs_i, am_cs_l, am_cs_r, m_uI_K, m_uI_N, m_uI_R, m_uI_L, m_uI_I, m_uL_K, m_uL_N, m_uL_R, m_uL_I, m_uL_L, m_uR_K, m_uR_N, m_uR_I, m_uR_L, m_uR_R, true_and, and_true, true_implies, false_implies, not_true_eq_false, not_false_eq_true, if_true, if_false, false_and, and_false]
  refine am_E_mono (op_on M hI d hd) (fun r M1 h1 => ?_)
  obtain ⟨v, rfl, ⟨x, rfl⟩, L1, h2⟩ := h1
  have k1 : mK M1 277 = 21 := (lm L1).1
  simp +decide (disch := omega) only [qL_24 xs L, qL_25 xs L, k1, ni_in_t, ni_tn, ni_add1, ni_a2, ni_a3, ni_a4, ni_a5, ni_a6, am_w1_i, am_w1_r, am_w1_x, am_w1_l, am_w1_w, va_rf_s, am_push_n, am_push_s, am_cs_0, am_cs_i, am_cs_l, am_cs_r, m_uI_K, m_uI_N, m_uI_R, m_uI_L, m_uI_I, m_uL_K, m_uL_N, m_uL_R, m_uL_I, m_uL_L, m_uR_K, m_uR_N, m_uR_I, m_uR_L, m_uR_R, true_and, and_true, true_implies, false_implies, not_true_eq_false, not_false_eq_true, if_true, if_false, false_and, and_false]
  refine am_E_mono h2 (fun r M2 h3 => ?_)
  obtain ⟨rfl, hI2⟩ := h3
  have h0 := hQ M2 hI2
  simp +decide (disch := omega) only [qL_24 xs L, qL_25 xs L, eq_self, lgc_0, ni_in_t, ni_tn, ni_add1, ni_a2, ni_a3, ni_a4, ni_a5, ni_a6, am_w1_i, am_w1_r, am_w1_x, am_w1_l, am_w1_w, va_rf_s, am_push_n, am_push_s, am_cs_0, am_cs_i, am_cs_l, am_cs_r, m_uI_K, m_uI_N, m_uI_R, m_uI_L, m_uI_I, m_uL_K, m_uL_N, m_uL_R, m_uL_I, m_uL_L, m_uR_K, m_uR_N, m_uR_I, m_uR_L, m_uR_R, true_and, and_true, true_implies, false_implies, not_true_eq_false, not_false_eq_true, if_true, if_false, false_and, and_false]
  exact h0
theorem lc_status (xs : Nat → Int32) (L d i : Nat) (M : am_M) (Q : Option Value → am_M → Prop) (hd : 200 ≤ d) (hi : i + 6 ≤ L) (hL : L ≤ 3072) (hI : Inv M) (hQ : ∀ M', Inv M' → am_P am_P0 (d + 1) (am_look (tL xs L)) 18 [.retAddr 0, .ref 0, .ref 277, .int (nI (i + 6))] [] M' Q) : am_P am_P0 (d + 1) (am_look (tL xs L)) 1414 [.retAddr 0, .ref 0, .ref 277, .int (nI i)] [] M Q := by
  obtain ⟨z, b, D, hD, hX, -⟩ := id hI
  have kx : mK M 0 = 20 := (lx hX.1.1).1
  simp +decide (disch := omega) only [qL_24 xs L, qL_25 xs L, kx, ni_in_t, ni_tn, ni_add1, ni_a2, ni_a3, ni_a4, ni_a5, ni_a6, am_w1_i, am_w1_r, am_w1_x, am_w1_l, am_w1_w, va_rf_s, am_push_n, am_push_s, am_cs_0, am_cs_i, am_cs_l, am_cs_r, m_uI_K, m_uI_N, m_uI_R, m_uI_L, m_uI_I, m_uL_K, m_uL_N, m_uL_R, m_uL_I, m_uL_L, m_uR_K, m_uR_N, m_uR_I, m_uR_L, m_uR_R, true_and, and_true, true_implies, false_implies, not_true_eq_false, not_false_eq_true, if_true, if_false, false_and, and_false]
  refine am_E_mono (op_status (xs (i + 1)) M hI d hd) (fun r M1 h1 => ?_)
  obtain ⟨v, rfl, ⟨x, rfl⟩, L1, h2⟩ := h1
  have k1 : mK M1 277 = 21 := (lm L1).1
  simp +decide (disch := omega) only [qL_24 xs L, qL_25 xs L, k1, ni_in_t, ni_tn, ni_add1, ni_a2, ni_a3, ni_a4, ni_a5, ni_a6, am_w1_i, am_w1_r, am_w1_x, am_w1_l, am_w1_w, va_rf_s, am_push_n, am_push_s, am_cs_0, am_cs_i, am_cs_l, am_cs_r, m_uI_K, m_uI_N, m_uI_R, m_uI_L, m_uI_I, m_uL_K, m_uL_N, m_uL_R, m_uL_I, m_uL_L, m_uR_K, m_uR_N, m_uR_I, m_uR_L, m_uR_R, true_and, and_true, true_implies, false_implies, not_true_eq_false, not_false_eq_true, if_true, if_false, false_and, and_false]
  refine am_E_mono h2 (fun r M2 h3 => ?_)
  obtain ⟨rfl, hI2⟩ := h3
  have h0 := hQ M2 hI2
  simp +decide (disch := omega) only [qL_24 xs L, qL_25 xs L, eq_self, lgc_0, ni_in_t, ni_tn, ni_add1, ni_a2, ni_a3, ni_a4, ni_a5, ni_a6, am_w1_i, am_w1_r, am_w1_x, am_w1_l, am_w1_w, va_rf_s, am_push_n, am_push_s, am_cs_0, am_cs_i, am_cs_l, am_cs_r, m_uI_K, m_uI_N, m_uI_R, m_uI_L, m_uI_I, m_uL_K, m_uL_N, m_uL_R, m_uL_I, m_uL_L, m_uR_K, m_uR_N, m_uR_I, m_uR_L, m_uR_R, true_and, and_true, true_implies, false_implies, not_true_eq_false, not_false_eq_true, if_true, if_false, false_and, and_false]
  exact h0
