/-! has -/
theorem x_ship {M : am_M} {z s : Nat} {D : Dat} (h : XR M z D) (hs : s < dN D) : ShX M (z + 25 + 7 * s) (dSp D s) (dY D s) (dBs D s) := by
  obtain ⟨-, ⟨c, hP⟩, -⟩ := h
  exact hP.2.1 s _ (dSp_at hs)
/-- how many sayings, by the model's row -/
theorem nSaid_Y {M : am_M} {b C R s : Nat} {Y : List Sy} (hY : SyM M b C R s Y) (hC : C ≤ 16) (hR : R ≤ 16) : ∀ t, t ≤ 48 → nSaid (mSaid M b s) t = (bef Y t).length := by
  intro t
  induction t with
  | zero => intro _; rw [bef_0]; rfl
  | succ t ih =>
    intro ht
    have e := ih (by omega)
    show nSaid (mSaid M b s) t + (if mI M 292 (384 * b + 48 * s + t) = -1 then 0 else 1) = _
    rcases hY.2.2 t (by omega) with ⟨y, y1, y2, y3, y4⟩ | ⟨y1, y2⟩
    · have hv := (hY.2.1 y y1).2
      have hne : ¬ mI M 292 (384 * b + 48 * s + t) = -1 := by rw [y3]; exact nI_m1 (by have := (cel_lt hC hR hv).2.1; omega)
      rw [if_neg hne, bef_t hY.1 y1 y2, List.length_append, e]
      rfl
    · rw [if_pos y2, bef_f y1, e]
      rfl
theorem nSaid_48 {M : am_M} {b C R s : Nat} {Y : List Sy} (hY : SyM M b C R s Y) (hC : C ≤ 16) (hR : R ≤ 16) : nSaid (mSaid M b s) 48 = Y.length := by
  rw [nSaid_Y hY hC hR 48 (by omega), bef_all (fun y hy => (hY.2.1 y hy).1)]
theorem m_sayN {M : am_M} {b s : Nat} {D : Dat} (hD : dOK D) (hL : Lay M) (h : MdM M b D) (hs : s < 8) (d : Nat) (Q : Option Value → am_M → Prop) : am_E am_P0 (d + 1) 228 [.ref 277, .int (nI s)] M Q ↔ Q (some (.int (nI (dY D s).length))) M := by
  rw [c_m_sayingsOf d s M Q hL b h.1.1 h.1.2 hs, nSaid_48 (h.2.2.2.2.1.2 s hs) hD.1.1.1 hD.1.1.2]
/-- ships that say something -/
def syN (D : Dat) : Nat → Nat := cnt (fun s => decide (0 < (dY D s).length))
theorem ni_pos {n : Nat} (h : n < 2147483648) : nI n ≤ 0 ↔ n = 0 := by
  rw [show (0 : Int32) = nI 0 from rfl, ni_le h (by omega)]; omega
theorem l_x_sayers (d z : Nat) (D : Dat) (M : am_M) (Q : Option Value → am_M → Prop) (hD : dOK D) (h : XR M z D) : ∀ (m k : Nat), k + m = dN D → (am_P am_P0 d (am_look tX5_countSayers) 4 [.ref z, .int (nI (syN D k)), .int (nI k)] [] M Q ↔ Q (some (.int (nI (syN D (dN D))))) M) := by
  have n8 := dN_8 hD
  have hn := (x_n h).1
  have hz := h.1.2.2.1
  have hL := h.1.1
  intro m
  induction m with
  | zero =>
    intro k hk
    have e : k = dN D := by omega
    have hle : nI (dN D) ≤ nI k := (ni_le (by omega) (by omega)).mpr (by omega)
    rw [hX5_countSayers_4]
    simp +decide only [qX5_countSayers, lz hL hz, hn, am_w1_i, am_w1_r, am_w1_x, am_w1_l, am_w1_w, va_rf_s, am_push_n, am_push_s, am_cs_0, am_cs_i, am_cs_l, am_cs_r, m_uI_K, m_uI_N, m_uI_R, m_uI_L, m_uI_I, m_uL_K, m_uL_N, m_uL_R, m_uL_I, m_uL_L, m_uR_K, m_uR_N, m_uR_I, m_uR_L, m_uR_R, true_and, and_true, true_implies, false_implies, not_true_eq_false, not_false_eq_true, if_true, if_false, false_and, and_false]
    rw [br_p hle, e]
  | succ m ih =>
    intro k hk
    have hlt : ¬ nI (dN D) ≤ nI k := by rw [ni_le (by omega) (by omega)]; omega
    have hr := lsh hL hz (s := k) (by omega)
    have hk16 : mK M (z + 25 + 7 * k) = 16 := (lw_ hL (isSh_z hz (by omega))).1
    have h5 := (x_ship h (s := k) (by omega)).2.1.1
    have h48 := dY_len hD k
    have h0 := ih (k + 1) (by omega)
    rw [hX5_countSayers_4]
    simp +decide (disch := omega) only [qX5_countSayers, lz hL hz, hn, hr, hk16, h5, ni_in_t, ni_tn, ni_add1, ni_add, am_w1_i, am_w1_r, am_w1_x, am_w1_l, am_w1_w, va_rf_s, am_push_n, am_push_s, am_cs_0, am_cs_i, am_cs_l, am_cs_r, m_uI_K, m_uI_N, m_uI_R, m_uI_L, m_uI_I, m_uL_K, m_uL_N, m_uL_R, m_uL_I, m_uL_L, m_uR_K, m_uR_N, m_uR_I, m_uR_L, m_uR_R, true_and, and_true, true_implies, false_implies, not_true_eq_false, not_false_eq_true, if_true, if_false, false_and, and_false, true_or]
    rw [br_n hlt, ni_pos (by omega)]
    by_cases c : (dY D k).length = 0
    · rw [br_p c]
      have e : syN D (k + 1) = syN D k := cnt_f (by simp [c])
      rw [e] at h0
      rw [show (0 : Int32) = nI 0 from rfl, ni_add, Nat.add_zero]
      exact h0
    · rw [br_n c]
      have e : syN D (k + 1) = syN D k + 1 := cnt_t (by simp; omega)
      rw [e] at h0
      exact h0
theorem x_sayers {M : am_M} {z : Nat} {D : Dat} (hD : dOK D) (h : XR M z D) (d : Nat) (Q : Option Value → am_M → Prop) : am_E am_P0 d 60 [.ref z] M Q ↔ Q (some (.int (nI (syN D (dN D))))) M := by
  have h0 := l_x_sayers d z D M Q hD h (dN D) 0 (by omega)
  rw [eX5_countSayers]
  simp +decide only [qX5_countSayers, am_w1_i, am_w1_r, am_w1_x, am_w1_l, am_w1_w, va_rf_s, am_push_n, am_push_s, am_cs_0, am_cs_i, am_cs_l, am_cs_r, m_uI_K, m_uI_N, m_uI_R, m_uI_L, m_uI_I, m_uL_K, m_uL_N, m_uL_R, m_uL_I, m_uL_L, m_uR_K, m_uR_N, m_uR_I, m_uR_L, m_uR_R, true_and, and_true, true_implies, false_implies, not_true_eq_false, not_false_eq_true, if_true, if_false, false_and, and_false]
  exact h0
theorem l_m_has (d b : Nat) (w : Int32) (D : Dat) (M : am_M) (Q : Option Value → am_M → Prop) (hD : dOK D) (hL : Lay M) (h : MdM M b D) : ∀ (m k : Nat), k + m = dN D → (am_P am_P0 (d + 2) (am_look tX11_has) 120 [.ref 277, .int w, .int (nI (syN D k)), .int (nI k)] [] M Q ↔ Q (some (.int (nI (syN D (dN D))))) M) := by
  have n8 := dN_8 hD
  have hb := h.1.1
  have hb2 := h.1.2
  have hn := h.2.2.2.1.1
  intro m
  induction m with
  | zero =>
    intro k hk
    have e : k = dN D := by omega
    have hle : nI (dN D) ≤ nI k := (ni_le (by omega) (by omega)).mpr (by omega)
    rw [hX11_has_120]
    simp +decide (disch := omega) only [qX11_has_0, qX11_has_1, lm hL, hb, hn, ni_in_t, ni_tn, am_w1_i, am_w1_r, am_w1_x, am_w1_l, am_w1_w, va_rf_s, am_push_n, am_push_s, am_cs_0, am_cs_i, am_cs_l, am_cs_r, m_uI_K, m_uI_N, m_uI_R, m_uI_L, m_uI_I, m_uL_K, m_uL_N, m_uL_R, m_uL_I, m_uL_L, m_uR_K, m_uR_N, m_uR_I, m_uR_L, m_uR_R, true_and, and_true, true_implies, false_implies, not_true_eq_false, not_false_eq_true, if_true, if_false, false_and, and_false]
    rw [br_p hle, e]
  | succ m ih =>
    intro k hk
    have hlt : ¬ nI (dN D) ≤ nI k := by rw [ni_le (by omega) (by omega)]; omega
    have hsay := fun Q => m_sayN hD hL h (s := k) (by omega) d Q
    have h48 := dY_len hD k
    have h0 := ih (k + 1) (by omega)
    rw [hX11_has_120]
    simp +decide (disch := omega) only [qX11_has_0, qX11_has_1, lm hL, hb, hn, hsay, ni_in_t, ni_tn, ni_add1, am_w1_i, am_w1_r, am_w1_x, am_w1_l, am_w1_w, va_rf_s, am_push_n, am_push_s, am_cs_0, am_cs_i, am_cs_l, am_cs_r, m_uI_K, m_uI_N, m_uI_R, m_uI_L, m_uI_I, m_uL_K, m_uL_N, m_uL_R, m_uL_I, m_uL_L, m_uR_K, m_uR_N, m_uR_I, m_uR_L, m_uR_R, true_and, and_true, true_implies, false_implies, not_true_eq_false, not_false_eq_true, if_true, if_false, false_and, and_false]
    rw [br_n hlt, ni_pos (by omega)]
    by_cases c : (dY D k).length = 0
    · rw [br_p c]
      have e : syN D (k + 1) = syN D k := cnt_f (by simp [c])
      rw [e] at h0
      rw [show (0 : Int32) = nI 0 from rfl, ni_add, Nat.add_zero]
      exact h0
    · rw [br_n c]
      have e : syN D (k + 1) = syN D k + 1 := cnt_t (by simp; omega)
      rw [e] at h0
      exact h0
def aHas (w : Int32) (D : Dat) : Value := .int (if w.toInt = 0 then nI (dC D) else if w.toInt = 1 then nI (dR D) else if w.toInt = 2 then nI (dN D) else if w.toInt = 3 then nI (dTot D) else if w.toInt = 4 then nI (dBk D).length else if w.toInt = 5 then nI (dSg D).length else if w.toInt = 6 then nI (dLk D) else if w.toInt = 7 then nI (syN D (dN D)) else -1)
/-- a small number, or not -/
theorem sw_of (w : Int32) (N : Nat) (hN : N < 2147483648) : (∃ k, k < N ∧ w = nI k ∧ w.toInt = k) ∨ (w.toInt < 0 ∨ (N : Int) ≤ w.toInt) := by
  by_cases h : 0 ≤ w.toInt ∧ w.toInt < N
  · exact Or.inl ⟨w.toInt.toNat, by omega, i32_of (by omega) (by omega), by omega⟩
  · exact Or.inr (by omega)
theorem x_has (w : Int32) : XqO 113 [.int w] (aHas w) := by
  intro d M z D Q hD h hQ
  have h0 := hQ M (XR_2 h) h
  have hz := h.1.2.2.1
  have hL := h.1.1
  have hr := h.1.2.2.2.1
  obtain ⟨n3, n0, n1, n2⟩ := x_n h
  obtain ⟨-, ⟨c, hP⟩, -⟩ := id h
  have e59 := fun Q => c_x_tot (d + 19) z c D M Q hL hz hP hD.1
  have e61 := fun Q => c_x_countBooks (d + 19) z c D M Q hL hz hP hD.1
  have e60 := fun Q => x_sayers hD h (d + 19) Q
  have g5 : mI M (z + 2) 0 = nI (dSg D).length := hP.2.2.1.1
  unfold aHas at h0
  rw [eX10_has]
  simp +decide only [qX10_has, am_w1_i, am_w1_r, am_w1_x, am_w1_l, am_w1_w, va_rf_s, am_push_n, am_push_s, am_cs_0, am_cs_i, am_cs_l, am_cs_r, m_uI_K, m_uI_N, m_uI_R, m_uI_L, m_uI_I, m_uL_K, m_uL_N, m_uL_R, m_uL_I, m_uL_L, m_uR_K, m_uR_N, m_uR_I, m_uR_L, m_uR_R, true_and, and_true, true_implies, false_implies, not_true_eq_false, not_false_eq_true, if_true, if_false, false_and, and_false]
  rcases sw_of w 8 (by omega) with ⟨k, k1, k2, k3⟩ | c1
  · rw [k3] at h0
    rw [k2]
    rcases (by omega : k = 0 ∨ k = 1 ∨ k = 2 ∨ k = 3 ∨ k = 4 ∨ k = 5 ∨ k = 6 ∨ k = 7) with e | e | e | e | e | e | e | e <;> subst e
    · rw [show am_tab 0 [48, 56, 64, 72, 80, 88, 99, 107] 115 (nI 0) = 48 from rfl]
      simp +decide only [qX10_has, lx hL, lz hL hz, hr, n0, if_true, if_false, am_w1_i, am_w1_r, am_w1_x, am_w1_l, am_w1_w, va_rf_s, am_push_n, am_push_s, am_cs_0, am_cs_i, am_cs_l, am_cs_r, m_uI_K, m_uI_N, m_uI_R, m_uI_L, m_uI_I, m_uL_K, m_uL_N, m_uL_R, m_uL_I, m_uL_L, m_uR_K, m_uR_N, m_uR_I, m_uR_L, m_uR_R, true_and, and_true, true_implies, false_implies, not_true_eq_false, not_false_eq_true, if_true, if_false, false_and, and_false] at h0 ⊢
      exact h0
    · rw [show am_tab 0 [48, 56, 64, 72, 80, 88, 99, 107] 115 (nI 1) = 56 from rfl]
      simp +decide only [qX10_has, lx hL, lz hL hz, hr, n1, if_true, if_false, am_w1_i, am_w1_r, am_w1_x, am_w1_l, am_w1_w, va_rf_s, am_push_n, am_push_s, am_cs_0, am_cs_i, am_cs_l, am_cs_r, m_uI_K, m_uI_N, m_uI_R, m_uI_L, m_uI_I, m_uL_K, m_uL_N, m_uL_R, m_uL_I, m_uL_L, m_uR_K, m_uR_N, m_uR_I, m_uR_L, m_uR_R, true_and, and_true, true_implies, false_implies, not_true_eq_false, not_false_eq_true, if_true, if_false, false_and, and_false] at h0 ⊢
      exact h0
    · rw [show am_tab 0 [48, 56, 64, 72, 80, 88, 99, 107] 115 (nI 2) = 64 from rfl]
      simp +decide only [qX10_has, lx hL, lz hL hz, hr, n3, if_true, if_false, am_w1_i, am_w1_r, am_w1_x, am_w1_l, am_w1_w, va_rf_s, am_push_n, am_push_s, am_cs_0, am_cs_i, am_cs_l, am_cs_r, m_uI_K, m_uI_N, m_uI_R, m_uI_L, m_uI_I, m_uL_K, m_uL_N, m_uL_R, m_uL_I, m_uL_L, m_uR_K, m_uR_N, m_uR_I, m_uR_L, m_uR_R, true_and, and_true, true_implies, false_implies, not_true_eq_false, not_false_eq_true, if_true, if_false, false_and, and_false] at h0 ⊢
      exact h0
    · rw [show am_tab 0 [48, 56, 64, 72, 80, 88, 99, 107] 115 (nI 3) = 72 from rfl]
      simp +decide only [qX10_has, lx hL, lz hL hz, hr, e59, if_true, if_false, am_w1_i, am_w1_r, am_w1_x, am_w1_l, am_w1_w, va_rf_s, am_push_n, am_push_s, am_cs_0, am_cs_i, am_cs_l, am_cs_r, m_uI_K, m_uI_N, m_uI_R, m_uI_L, m_uI_I, m_uL_K, m_uL_N, m_uL_R, m_uL_I, m_uL_L, m_uR_K, m_uR_N, m_uR_I, m_uR_L, m_uR_R, true_and, and_true, true_implies, false_implies, not_true_eq_false, not_false_eq_true, if_true, if_false, false_and, and_false] at h0 ⊢
      exact h0
    · rw [show am_tab 0 [48, 56, 64, 72, 80, 88, 99, 107] 115 (nI 4) = 80 from rfl]
      simp +decide only [qX10_has, lx hL, lz hL hz, hr, e61, if_true, if_false, am_w1_i, am_w1_r, am_w1_x, am_w1_l, am_w1_w, va_rf_s, am_push_n, am_push_s, am_cs_0, am_cs_i, am_cs_l, am_cs_r, m_uI_K, m_uI_N, m_uI_R, m_uI_L, m_uI_I, m_uL_K, m_uL_N, m_uL_R, m_uL_I, m_uL_L, m_uR_K, m_uR_N, m_uR_I, m_uR_L, m_uR_R, true_and, and_true, true_implies, false_implies, not_true_eq_false, not_false_eq_true, if_true, if_false, false_and, and_false] at h0 ⊢
      exact h0
    · rw [show am_tab 0 [48, 56, 64, 72, 80, 88, 99, 107] 115 (nI 5) = 88 from rfl]
      simp +decide only [qX10_has, lx hL, lz hL hz, hr, g5, if_true, if_false, am_w1_i, am_w1_r, am_w1_x, am_w1_l, am_w1_w, va_rf_s, am_push_n, am_push_s, am_cs_0, am_cs_i, am_cs_l, am_cs_r, m_uI_K, m_uI_N, m_uI_R, m_uI_L, m_uI_I, m_uL_K, m_uL_N, m_uL_R, m_uL_I, m_uL_L, m_uR_K, m_uR_N, m_uR_I, m_uR_L, m_uR_R, true_and, and_true, true_implies, false_implies, not_true_eq_false, not_false_eq_true, if_true, if_false, false_and, and_false] at h0 ⊢
      exact h0
    · rw [show am_tab 0 [48, 56, 64, 72, 80, 88, 99, 107] 115 (nI 6) = 99 from rfl]
      simp +decide only [qX10_has, lx hL, lz hL hz, hr, n2, if_true, if_false, am_w1_i, am_w1_r, am_w1_x, am_w1_l, am_w1_w, va_rf_s, am_push_n, am_push_s, am_cs_0, am_cs_i, am_cs_l, am_cs_r, m_uI_K, m_uI_N, m_uI_R, m_uI_L, m_uI_I, m_uL_K, m_uL_N, m_uL_R, m_uL_I, m_uL_L, m_uR_K, m_uR_N, m_uR_I, m_uR_L, m_uR_R, true_and, and_true, true_implies, false_implies, not_true_eq_false, not_false_eq_true, if_true, if_false, false_and, and_false] at h0 ⊢
      exact h0
    · rw [show am_tab 0 [48, 56, 64, 72, 80, 88, 99, 107] 115 (nI 7) = 107 from rfl]
      simp +decide only [qX10_has, lx hL, lz hL hz, hr, e60, if_true, if_false, am_w1_i, am_w1_r, am_w1_x, am_w1_l, am_w1_w, va_rf_s, am_push_n, am_push_s, am_cs_0, am_cs_i, am_cs_l, am_cs_r, m_uI_K, m_uI_N, m_uI_R, m_uI_L, m_uI_I, m_uL_K, m_uL_N, m_uL_R, m_uL_I, m_uL_L, m_uR_K, m_uR_N, m_uR_I, m_uR_L, m_uR_R, true_and, and_true, true_implies, false_implies, not_true_eq_false, not_false_eq_true, if_true, if_false, false_and, and_false] at h0 ⊢
      exact h0
  · rw [if_neg (by omega), if_neg (by omega), if_neg (by omega), if_neg (by omega), if_neg (by omega), if_neg (by omega), if_neg (by omega), if_neg (by omega)] at h0
    rw [am_tab_out (by simp; omega)]
    simp +decide only [qX10_has, am_w1_i, am_w1_r, am_w1_x, am_w1_l, am_w1_w, va_rf_s, am_push_n, am_push_s, am_cs_0, am_cs_i, am_cs_l, am_cs_r, m_uI_K, m_uI_N, m_uI_R, m_uI_L, m_uI_I, m_uL_K, m_uL_N, m_uL_R, m_uL_I, m_uL_L, m_uR_K, m_uR_N, m_uR_I, m_uR_L, m_uR_R, true_and, and_true, true_implies, false_implies, not_true_eq_false, not_false_eq_true, if_true, if_false, false_and, and_false]
    exact h0
theorem m_has (w : Int32) : MqO 232 [.int w] (aHas w) := by
  intro d M b D Q hD hL h hQ
  have h0 := hQ M (gF_refl _ _ _)
  obtain ⟨⟨hb, hb2⟩, ⟨n0, n1⟩, n6, hsh, hsy, hbk, hsg, -, -⟩ := id h
  have e7 := l_m_has (d + 18) b w D M Q hD hL h (dN D) 0 (by omega)
  unfold aHas at h0
  rw [eX11_has]
  simp +decide only [qX11_has_0, qX11_has_1, am_w1_i, am_w1_r, am_w1_x, am_w1_l, am_w1_w, va_rf_s, am_push_n, am_push_s, am_cs_0, am_cs_i, am_cs_l, am_cs_r, m_uI_K, m_uI_N, m_uI_R, m_uI_L, m_uI_I, m_uL_K, m_uL_N, m_uL_R, m_uL_I, m_uL_L, m_uR_K, m_uR_N, m_uR_I, m_uR_L, m_uR_R, true_and, and_true, true_implies, false_implies, not_true_eq_false, not_false_eq_true, if_true, if_false, false_and, and_false]
  rcases sw_of w 8 (by omega) with ⟨k, k1, k2, k3⟩ | c1
  · rw [k3] at h0
    rw [k2] at e7 ⊢
    rcases (by omega : k = 0 ∨ k = 1 ∨ k = 2 ∨ k = 3 ∨ k = 4 ∨ k = 5 ∨ k = 6 ∨ k = 7) with e | e | e | e | e | e | e | e <;> subst e
    · rw [show am_tab 0 [48, 58, 68, 78, 88, 98, 108, 118] 157 (nI 0) = 48 from rfl]
      simp +decide (disch := omega) only [qX11_has_0, qX11_has_1, lm hL, hb, n0, ni_in_t, ni_tn, if_true, if_false, am_w1_i, am_w1_r, am_w1_x, am_w1_l, am_w1_w, va_rf_s, am_push_n, am_push_s, am_cs_0, am_cs_i, am_cs_l, am_cs_r, m_uI_K, m_uI_N, m_uI_R, m_uI_L, m_uI_I, m_uL_K, m_uL_N, m_uL_R, m_uL_I, m_uL_L, m_uR_K, m_uR_N, m_uR_I, m_uR_L, m_uR_R, true_and, and_true, true_implies, false_implies, not_true_eq_false, not_false_eq_true, if_true, if_false, false_and, and_false] at h0 ⊢
      exact h0
    · rw [show am_tab 0 [48, 58, 68, 78, 88, 98, 108, 118] 157 (nI 1) = 58 from rfl]
      simp +decide (disch := omega) only [qX11_has_0, qX11_has_1, lm hL, hb, n1, ni_in_t, ni_tn, if_true, if_false, am_w1_i, am_w1_r, am_w1_x, am_w1_l, am_w1_w, va_rf_s, am_push_n, am_push_s, am_cs_0, am_cs_i, am_cs_l, am_cs_r, m_uI_K, m_uI_N, m_uI_R, m_uI_L, m_uI_I, m_uL_K, m_uL_N, m_uL_R, m_uL_I, m_uL_L, m_uR_K, m_uR_N, m_uR_I, m_uR_L, m_uR_R, true_and, and_true, true_implies, false_implies, not_true_eq_false, not_false_eq_true, if_true, if_false, false_and, and_false] at h0 ⊢
      exact h0
    · rw [show am_tab 0 [48, 58, 68, 78, 88, 98, 108, 118] 157 (nI 2) = 68 from rfl]
      simp +decide (disch := omega) only [qX11_has_0, qX11_has_1, lm hL, hb, hsh.1, ni_in_t, ni_tn, if_true, if_false, am_w1_i, am_w1_r, am_w1_x, am_w1_l, am_w1_w, va_rf_s, am_push_n, am_push_s, am_cs_0, am_cs_i, am_cs_l, am_cs_r, m_uI_K, m_uI_N, m_uI_R, m_uI_L, m_uI_I, m_uL_K, m_uL_N, m_uL_R, m_uL_I, m_uL_L, m_uR_K, m_uR_N, m_uR_I, m_uR_L, m_uR_R, true_and, and_true, true_implies, false_implies, not_true_eq_false, not_false_eq_true, if_true, if_false, false_and, and_false] at h0 ⊢
      exact h0
    · rw [show am_tab 0 [48, 58, 68, 78, 88, 98, 108, 118] 157 (nI 3) = 78 from rfl]
      simp +decide (disch := omega) only [qX11_has_0, qX11_has_1, lm hL, hb, hsy.1, ni_in_t, ni_tn, if_true, if_false, am_w1_i, am_w1_r, am_w1_x, am_w1_l, am_w1_w, va_rf_s, am_push_n, am_push_s, am_cs_0, am_cs_i, am_cs_l, am_cs_r, m_uI_K, m_uI_N, m_uI_R, m_uI_L, m_uI_I, m_uL_K, m_uL_N, m_uL_R, m_uL_I, m_uL_L, m_uR_K, m_uR_N, m_uR_I, m_uR_L, m_uR_R, true_and, and_true, true_implies, false_implies, not_true_eq_false, not_false_eq_true, if_true, if_false, false_and, and_false] at h0 ⊢
      exact h0
    · rw [show am_tab 0 [48, 58, 68, 78, 88, 98, 108, 118] 157 (nI 4) = 88 from rfl]
      simp +decide (disch := omega) only [qX11_has_0, qX11_has_1, lm hL, hb, hbk.1, ni_in_t, ni_tn, if_true, if_false, am_w1_i, am_w1_r, am_w1_x, am_w1_l, am_w1_w, va_rf_s, am_push_n, am_push_s, am_cs_0, am_cs_i, am_cs_l, am_cs_r, m_uI_K, m_uI_N, m_uI_R, m_uI_L, m_uI_I, m_uL_K, m_uL_N, m_uL_R, m_uL_I, m_uL_L, m_uR_K, m_uR_N, m_uR_I, m_uR_L, m_uR_R, true_and, and_true, true_implies, false_implies, not_true_eq_false, not_false_eq_true, if_true, if_false, false_and, and_false] at h0 ⊢
      exact h0
    · rw [show am_tab 0 [48, 58, 68, 78, 88, 98, 108, 118] 157 (nI 5) = 98 from rfl]
      simp +decide (disch := omega) only [qX11_has_0, qX11_has_1, lm hL, hb, hsg.1, ni_in_t, ni_tn, if_true, if_false, am_w1_i, am_w1_r, am_w1_x, am_w1_l, am_w1_w, va_rf_s, am_push_n, am_push_s, am_cs_0, am_cs_i, am_cs_l, am_cs_r, m_uI_K, m_uI_N, m_uI_R, m_uI_L, m_uI_I, m_uL_K, m_uL_N, m_uL_R, m_uL_I, m_uL_L, m_uR_K, m_uR_N, m_uR_I, m_uR_L, m_uR_R, true_and, and_true, true_implies, false_implies, not_true_eq_false, not_false_eq_true, if_true, if_false, false_and, and_false] at h0 ⊢
      exact h0
    · rw [show am_tab 0 [48, 58, 68, 78, 88, 98, 108, 118] 157 (nI 6) = 108 from rfl]
      simp +decide (disch := omega) only [qX11_has_0, qX11_has_1, lm hL, hb, n6, ni_in_t, ni_tn, if_true, if_false, am_w1_i, am_w1_r, am_w1_x, am_w1_l, am_w1_w, va_rf_s, am_push_n, am_push_s, am_cs_0, am_cs_i, am_cs_l, am_cs_r, m_uI_K, m_uI_N, m_uI_R, m_uI_L, m_uI_I, m_uL_K, m_uL_N, m_uL_R, m_uL_I, m_uL_L, m_uR_K, m_uR_N, m_uR_I, m_uR_L, m_uR_R, true_and, and_true, true_implies, false_implies, not_true_eq_false, not_false_eq_true, if_true, if_false, false_and, and_false] at h0 ⊢
      exact h0
    · rw [show am_tab 0 [48, 58, 68, 78, 88, 98, 108, 118] 157 (nI 7) = 118 from rfl]
      simp +decide only [qX11_has_0, qX11_has_1, if_true, if_false, am_w1_i, am_w1_r, am_w1_x, am_w1_l, am_w1_w, va_rf_s, am_push_n, am_push_s, am_cs_0, am_cs_i, am_cs_l, am_cs_r, m_uI_K, m_uI_N, m_uI_R, m_uI_L, m_uI_I, m_uL_K, m_uL_N, m_uL_R, m_uL_I, m_uL_L, m_uR_K, m_uR_N, m_uR_I, m_uR_L, m_uR_R, true_and, and_true, true_implies, false_implies, not_true_eq_false, not_false_eq_true, if_true, if_false, false_and, and_false] at h0 ⊢
      exact e7.mpr h0
  · rw [if_neg (by omega), if_neg (by omega), if_neg (by omega), if_neg (by omega), if_neg (by omega), if_neg (by omega), if_neg (by omega), if_neg (by omega)] at h0
    rw [am_tab_out (by simp; omega)]
    simp +decide only [qX11_has_0, qX11_has_1, am_w1_i, am_w1_r, am_w1_x, am_w1_l, am_w1_w, va_rf_s, am_push_n, am_push_s, am_cs_0, am_cs_i, am_cs_l, am_cs_r, m_uI_K, m_uI_N, m_uI_R, m_uI_L, m_uI_I, m_uL_K, m_uL_N, m_uL_R, m_uL_I, m_uL_L, m_uR_K, m_uR_N, m_uR_I, m_uR_L, m_uR_R, true_and, and_true, true_implies, false_implies, not_true_eq_false, not_false_eq_true, if_true, if_false, false_and, and_false]
    exact h0
theorem op_has (w : Int32) : OpI 113 232 [.int w] isI := op_q (fun D => ⟨_, rfl⟩) (x_has w) (m_has w)
