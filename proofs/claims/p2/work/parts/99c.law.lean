/-! the law: its loop -/
theorem lw_cmp {L i : Nat} (hL : L ≤ 3072) (hi : i ≤ 3072) : (nI L - 6 < nI i) ↔ L < i + 6 := by
  by_cases c : 6 ≤ L
  · rw [show (6 : Int32) = nI 6 from rfl, ni_sub c, ni_lt (by omega) (by omega)]
    omega
  · have e : (nI L - 6).toInt = (L : Int) - 6 := by
      rcases (by omega : L = 0 ∨ L = 1 ∨ L = 2 ∨ L = 3 ∨ L = 4 ∨ L = 5) with e | e | e | e | e | e <;> subst e <;> rfl
    rw [lt32, e, ni_ti (by omega)]
    omega
theorem l_law (xs : Nat → Int32) (L d : Nat) (Q : Option Value → am_M → Prop) (hL : L ≤ 3072) (hd : 200 ≤ d) (hQ : ∀ M, Inv M → Q (some (.int 1)) M) : ∀ (m i : Nat) (M : am_M), L < i + 6 * m + 6 → i ≤ 3072 → Inv M → am_P am_P0 (d + 1) (am_look (tL xs L)) 18 [.retAddr 0, .ref 0, .ref 277, .int (nI i)] [] M Q := by
  have eL : Int32.ofNat L = nI L := rfl
  have ex : ∀ (i : Nat) (M : am_M), L < i + 6 → i ≤ 3072 → Inv M → am_P am_P0 (d + 1) (am_look (tL xs L)) 18 [.retAddr 0, .ref 0, .ref 277, .int (nI i)] [] M Q := fun i M c hi hI => by
    have h0 := hQ M hI
    have hlt := (lw_cmp hL hi).mpr c
    rw [hL_18]
    simp +decide (disch := omega) only [qL_0 xs L, qL_25 xs L, eL, am_w1_i, am_w1_r, am_w1_x, am_w1_l, am_w1_w, va_rf_s, am_push_n, am_push_s, am_cs_0, am_cs_i, am_cs_l, am_cs_r, m_uI_K, m_uI_N, m_uI_R, m_uI_L, m_uI_I, m_uL_K, m_uL_N, m_uL_R, m_uL_I, m_uL_L, m_uR_K, m_uR_N, m_uR_I, m_uR_L, m_uR_R, true_and, and_true, true_implies, false_implies, not_true_eq_false, not_false_eq_true, if_true, if_false, false_and, and_false]
    rw [br_p hlt]
    exact h0
  intro m
  induction m with
  | zero => intro i M c hi hI; exact ex i M (by omega) hi hI
  | succ m ih =>
    intro i M c hi hI
    by_cases c6 : L < i + 6
    · exact ex i M c6 hi hI
    · have hlt : ¬ nI L - 6 < nI i := fun q => c6 ((lw_cmp hL hi).mp q)
      have hq : ∀ M', Inv M' → am_P am_P0 (d + 1) (am_look (tL xs L)) 18 [.retAddr 0, .ref 0, .ref 277, .int (nI (i + 6))] [] M' Q := fun M' h => ih (i + 6) M' (by omega) (by omega) h
      rw [hL_18]
      simp +decide (disch := omega) only [qL_0 xs L, eL, ni_in_t, ni_tn, am_w1_i, am_w1_r, am_w1_x, am_w1_l, am_w1_w, va_rf_s, am_push_n, am_push_s, am_cs_0, am_cs_i, am_cs_l, am_cs_r, m_uI_K, m_uI_N, m_uI_R, m_uI_L, m_uI_I, m_uL_K, m_uL_N, m_uL_R, m_uL_I, m_uL_L, m_uR_K, m_uR_N, m_uR_I, m_uR_L, m_uR_R, true_and, and_true, true_implies, false_implies, not_true_eq_false, not_false_eq_true, if_true, if_false, false_and, and_false]
      rw [br_n hlt]
      rcases sw_of (xs i &&& 63) 39 (by omega) with ⟨k, k1, k2, k3⟩ | w
      · rw [k2]
        rcases (by omega : k = 0 ∨ k = 1 ∨ k = 2 ∨ k = 3 ∨ k = 4 ∨ k = 5 ∨ k = 6 ∨ k = 7 ∨ k = 8 ∨ k = 9 ∨ k = 10 ∨ k = 11 ∨ k = 12 ∨ k = 13 ∨ k = 14 ∨ k = 15 ∨ k = 16 ∨ k = 17 ∨ k = 18 ∨ k = 19 ∨ k = 20 ∨ k = 21 ∨ k = 22 ∨ k = 23 ∨ k = 24 ∨ k = 25 ∨ k = 26 ∨ k = 27 ∨ k = 28 ∨ k = 29 ∨ k = 30 ∨ k = 31 ∨ k = 32 ∨ k = 33 ∨ k = 34 ∨ k = 35 ∨ k = 36 ∨ k = 37 ∨ k = 38) with e | e | e | e | e | e | e | e | e | e | e | e | e | e | e | e | e | e | e | e | e | e | e | e | e | e | e | e | e | e | e | e | e | e | e | e | e | e | e <;> subst e
        · exact lc_feed xs L d i M Q hd (by omega) hL hI hq
        · exact lc_end xs L d i M Q hd (by omega) hL hI hq
        · exact lc_sea xs L d i M Q hd (by omega) hL hI hq
        · exact lc_fault xs L d i M Q hd (by omega) hL hI hq
        · exact lc_has xs L d i M Q hd (by omega) hL hI hq
        · exact lc_letter xs L d i M Q hd (by omega) hL hI hq
        · exact lc_ship xs L d i M Q hd (by omega) hL hI hq
        · exact lc_saying xs L d i M Q hd (by omega) hL hI hq
        · exact lc_cell xs L d i M Q hd (by omega) hL hI hq
        · exact lc_far xs L d i M Q hd (by omega) hL hI hq
        · exact lc_can xs L d i M Q hd (by omega) hL hI hq
        · exact lc_reach xs L d i M Q hd (by omega) hL hI hq
        · exact lc_may xs L d i M Q hd (by omega) hL hI hq
        · exact lc_judge xs L d i M Q hd (by omega) hL hI hq
        · exact lc_tale xs L d i M Q hd (by omega) hL hI hq
        · exact lc_bars xs L d i M Q hd (by omega) hL hI hq
        · exact lc_clash xs L d i M Q hd (by omega) hL hI hq
        · exact lc_who xs L d i M Q hd (by omega) hL hI hq
        · exact lc_swap xs L d i M Q hd (by omega) hL hI hq
        · exact lc_kinds xs L d i M Q hd (by omega) hL hI hq
        · exact lc_lies xs L d i M Q hd (by omega) hL hI hq
        · exact lc_met xs L d i M Q hd (by omega) hL hI hq
        · exact lc_sighting xs L d i M Q hd (by omega) hL hI hq
        · exact lc_strange xs L d i M Q hd (by omega) hL hI hq
        · exact lc_doubted xs L d i M Q hd (by omega) hL hI hq
        · exact lc_gaps xs L d i M Q hd (by omega) hL hI hq
        · exact lc_chance xs L d i M Q hd (by omega) hL hI hq
        · exact lc_beyond xs L d i M Q hd (by omega) hL hI hq
        · exact lc_settles xs L d i M Q hd (by omega) hL hI hq
        · exact lc_next xs L d i M Q hd (by omega) hL hI hq
        · exact lc_off xs L d i M Q hd (by omega) hL hI hq
        · exact lc_whose xs L d i M Q hd (by omega) hL hI hq
        · exact lc_add xs L d i M Q hd (by omega) hL hI hq
        · exact lc_drop xs L d i M Q hd (by omega) hL hI hq
        · exact lc_spot xs L d i M Q hd (by omega) hL hI hq
        · exact lc_image xs L d i M Q hd (by omega) hL hI hq
        · exact lc_octet xs L d i M Q hd (by omega) hL hI hq
        · exact lc_on xs L d i M Q hd (by omega) hL hI hq
        · exact lc_status xs L d i M Q hd (by omega) hL hI hq
      · have h0 := hq M hI
        rw [am_tab_out (by simp; omega)]
        simp +decide (disch := omega) only [qL_25 xs L, ni_a6, am_w1_i, am_w1_r, am_w1_x, am_w1_l, am_w1_w, va_rf_s, am_push_n, am_push_s, am_cs_0, am_cs_i, am_cs_l, am_cs_r, m_uI_K, m_uI_N, m_uI_R, m_uI_L, m_uI_I, m_uL_K, m_uL_N, m_uL_R, m_uL_I, m_uL_L, m_uR_K, m_uR_N, m_uR_I, m_uR_L, m_uR_R, true_and, and_true, true_implies, false_implies, not_true_eq_false, not_false_eq_true, if_true, if_false, false_and, and_false]
        exact h0
theorem ly_W : (ly_S.map Prod.snd).sum ≤ 100000 := by decide +kernel
theorem rep_W : ∀ n, ((List.replicate n ((1, 192) : am_S)).map Prod.snd).sum = 192 * n := by
  intro n
  induction n with
  | zero => rfl
  | succ n ih => rw [List.replicate_succ, List.map_cons, List.sum_cons, ih]; omega
theorem inv_room {M : am_M} (h : Inv M) : mC M ≤ 600000 ∧ mW M ≤ 7302250 := by
  obtain ⟨z, b, D, hD, hX, -⟩ := h
  obtain ⟨⟨n, n1, n2⟩, -⟩ := hX.1.1
  have e := ly_len
  constructor
  · unfold mC
    rw [n2, List.length_append, List.length_replicate, e]
    omega
  · have w := ly_W
    unfold mW
    rw [n2, List.map_append, List.sum_append, rep_W]
    omega
theorem goal (xs : Nat → Int32) (L : Nat) (hL : L ≤ 3072) : am_Goal xs L := by
  unfold am_Goal
  have h9 := l_law xs L 999 (fun r M => r = some (.int 1) ∧ mC M ≤ 600000 ∧ mW M ≤ 7302250) hL (by omega) (fun M hI => ⟨rfl, inv_room hI⟩) 600 0 (pa x11 am_M0) (by omega) (by omega) inv0
  obtain ⟨F, hF⟩ : ∃ F, F = pa x11 am_M0 := ⟨_, rfl⟩
  obtain ⟨A, hA⟩ : ∃ A, A = pa [nw 20 17] am_M0 := ⟨_, rfl⟩
  obtain ⟨B, hB⟩ : ∃ B, B = pa x10 am_M0 := ⟨_, rfl⟩
  obtain ⟨C, hC⟩ : ∃ C, C = pa y0 am_M0 := ⟨_, rfl⟩
  have eA : uN am_M0 (20, 17) = A := by rw [hA]; rfl
  have eC : uN B (21, 83) = C := by rw [hB, hC]; rfl
  have cB : mC B = 277 := by rw [hB, pz_C, evC_x10]
  have kA : mK A 0 = 20 := by rw [hA, (pz_K _ 0 (by show 0 < 1; omega)).1]; rfl
  have kC : mK C 277 = 21 := by rw [hC, (pz_K _ 277 (by rw [evC_y0]; omega)).1, y_kd.1]
  rw [← hF] at h9
  show am_P am_P0 (999 + 1) (am_look (tL xs L)) 0 [.retAddr 0, am_x, am_x, am_x] [] am_M0 _
  simp +decide (disch := omega) only [qL_0 xs L, eA, z0_C, kA, am_w1_i, am_w1_r, am_w1_x, am_w1_l, am_w1_w, va_rf_s, am_push_n, am_push_s, am_cs_0, am_cs_i, am_cs_l, am_cs_r, m_uI_K, m_uI_N, m_uI_R, m_uI_L, m_uI_I, m_uL_K, m_uL_N, m_uL_R, m_uL_I, m_uL_L, m_uR_K, m_uR_N, m_uR_I, m_uR_L, m_uR_R, true_and, and_true, true_implies, false_implies, not_true_eq_false, not_false_eq_true, if_true, if_false, false_and, and_false]
  rw [hA]
  refine c_x10 993 _ ?_
  rw [← hB]
  simp +decide (disch := omega) only [qL_0 xs L, cB, eC, kC, am_w1_i, am_w1_r, am_w1_x, am_w1_l, am_w1_w, va_rf_s, am_push_n, am_push_s, am_cs_0, am_cs_i, am_cs_l, am_cs_r, m_uI_K, m_uI_N, m_uI_R, m_uI_L, m_uI_I, m_uL_K, m_uL_N, m_uL_R, m_uL_I, m_uL_L, m_uR_K, m_uR_N, m_uR_I, m_uR_L, m_uR_R, true_and, and_true, true_implies, false_implies, not_true_eq_false, not_false_eq_true, if_true, if_false, false_and, and_false]
  rw [hC]
  refine c_x11 999 _ ?_
  rw [← hF]
  simp +decide (disch := omega) only [qL_0 xs L, am_w1_i, am_w1_r, am_w1_x, am_w1_l, am_w1_w, va_rf_s, am_push_n, am_push_s, am_cs_0, am_cs_i, am_cs_l, am_cs_r, m_uI_K, m_uI_N, m_uI_R, m_uI_L, m_uI_I, m_uL_K, m_uL_N, m_uL_R, m_uL_I, m_uL_L, m_uR_K, m_uR_N, m_uR_I, m_uR_L, m_uR_R, true_and, and_true, true_implies, false_implies, not_true_eq_false, not_false_eq_true, if_true, if_false, false_and, and_false]
  exact h9
