/-! making: the reader's own words -/
def owW : List Nat := [0, 0, 0, 0, 0, 1, 1, 1, 1, 1, 1, 2, 2, 2, 2, 2, 3, 3, 3, 3, 3, 3, 4, 4, 4, 4, 4, 5, 5, 5, 5, 5, 6, 6, 6, 6, 6, 6, 7, 7, 7, 7, 7, 7, 8, 8, 8, 8, 8, 9, 9, 9, 9, 9, 10, 10, 10, 11, 11, 11, 11, 11, 11, 12, 12, 12, 12, 12, 13, 13, 13, 13, 13, 14, 14, 14, 15, 15, 15, 15, 15, 16, 16, 16, 16, 16, 17, 17, 17, 17, 17, 18, 18, 18, 18, 18, 19, 19, 19, 20, 20, 20, 20, 21, 21, 21, 21, 22, 22, 22, 22, 23, 23, 23, 23, 23, 23, 23, 24, 24, 24, 24, 25, 25, 25, 25, 26, 26, 26, 26, 27]
def owK : List Nat := [0, 1, 2, 3, 4, 0, 1, 2, 3, 4, 5, 0, 1, 2, 3, 4, 0, 1, 2, 3, 4, 5, 0, 1, 2, 3, 4, 0, 1, 2, 3, 4, 0, 1, 2, 3, 4, 5, 0, 1, 2, 3, 4, 5, 0, 1, 2, 3, 4, 0, 1, 2, 3, 4, 0, 1, 2, 0, 1, 2, 3, 4, 5, 0, 1, 2, 3, 4, 0, 1, 2, 3, 4, 0, 1, 2, 0, 1, 2, 3, 4, 0, 1, 2, 3, 4, 0, 1, 2, 3, 4, 0, 1, 2, 3, 4, 0, 1, 2, 0, 1, 2, 3, 0, 1, 2, 3, 0, 1, 2, 3, 0, 1, 2, 3, 4, 5, 6, 0, 1, 2, 3, 0, 1, 2, 3, 0, 1, 2, 3, 0]
theorem c_len (d : Nat) (M : am_M) (Q : Option Value → am_M → Prop) : am_E am_P0 (d + 1) 311 [.retAddr 1] M Q ↔ Q (some (.int 130)) M := by
  rw [eJ0_length_8abf5]
  simp +decide only [qJ0_length_8abf5, eJ0_coder_7d493, qJ0_coder_7d493, am_w1_i, am_w1_r, am_w1_x, am_w1_l, am_w1_w, va_rf_s, am_push_n, am_push_s, am_cs_0, am_cs_i, am_cs_l, am_cs_r, m_uI_K, m_uI_N, m_uI_R, m_uI_L, m_uI_I, m_uL_K, m_uL_N, m_uL_R, m_uL_I, m_uL_L, m_uR_K, m_uR_N, m_uR_I, m_uR_L, m_uR_R, true_and, and_true, true_implies, false_implies, not_true_eq_false, not_false_eq_true, if_true, if_false, false_and, and_false]
  exact Iff.rfl
theorem ow_ch : ∀ i, i < 130 → ((am_own.getD i 0 &&& 255).toUInt32 % 65536).toInt32 = am_own.getD i 0 ∧ am_own.getD i 0 ∈ am_let := by decide +kernel
theorem c_chr (d i : Nat) (M : am_M) (Q : Option Value → am_M → Prop) (hi : i < 130) : am_E am_P0 (d + 3) 312 [.retAddr 1, .int (nI i)] M Q ↔ Q (some (.int (am_own.getD i 0))) M := by
  obtain ⟨h1, h2⟩ := ow_ch i hi
  have a1 : ¬ nI i < 0 := by rw [show (0 : Int32) = nI 0 from rfl, ni_lt (by omega) (by omega)]; omega
  have a2 : nI i < 130 := by rw [show (130 : Int32) = nI 130 from rfl, ni_lt (by omega) (by omega)]; exact hi
  rw [eJ0_charAt_5068e]
  simp +decide (disch := omega) only [qJ0_charAt_5068e, eJ0_isLatin1_aae02, qJ0_isLatin1_aae02, eJ1_charAt_3b067, qJ1_charAt_3b067, eJ0_checkIndex_df160, qJ0_checkIndex_df160, eJ3_checkIndex_8e157, qJ3_checkIndex_8e157, a1, a2, h1, h2, ni_in_t, ni_tn, am_w1_i, am_w1_r, am_w1_x, am_w1_l, am_w1_w, va_rf_s, am_push_n, am_push_s, am_cs_0, am_cs_i, am_cs_l, am_cs_r, m_uI_K, m_uI_N, m_uI_R, m_uI_L, m_uI_I, m_uL_K, m_uL_N, m_uL_R, m_uL_I, m_uL_L, m_uR_K, m_uR_N, m_uR_I, m_uR_L, m_uR_R, true_and, and_true, true_implies, false_implies, not_true_eq_false, not_false_eq_true, if_true, if_false, false_and, and_false]
/-- a row of ints is set -/
def rowE (A : Nat) (f : Nat → Int32) : Nat → List Ev
  | 0 => []
  | n + 1 => pI A n (f n) :: rowE A f n
theorem pa_row (A : Nat) (f : Nat → Int32) (M : am_M) : ∀ n, (∀ a j, mI (pa (rowE A f n) M) a j = if a = A ∧ j < n then f j else mI M a j) ∧ (∀ a j, mL (pa (rowE A f n) M) a j = mL M a j) ∧ (∀ a j, mR (pa (rowE A f n) M) a j = mR M a j) ∧ mS (pa (rowE A f n) M) = mS M := by
  intro n
  induction n with
  | zero => exact ⟨fun a j => by rw [if_neg (by omega)]; rfl, fun _ _ => rfl, fun _ _ => rfl, rfl⟩
  | succ n ih =>
    obtain ⟨h1, h2, h3, h4⟩ := ih
    refine ⟨fun a j => ?_, h2, h3, h4⟩
    show mI (uI (pa (rowE A f n) M) A n (f n)) a j = _
    rw [m_uI_I, h1]
    by_cases e : a = A ∧ j = n
    · rw [if_pos e, if_pos (by omega), e.2]
    · rw [if_neg e]
      by_cases c : a = A ∧ j < n
      · rw [if_pos c, if_pos (by omega)]
      · rw [if_neg c, if_neg (by omega)]
abbrev owF (j : Nat) : Int32 := nI (pkL (ownW.getD j []))
abbrev rd0E (a n : Nat) : List Ev := [pR a 1 (n + 1), nw 0 0, pR a 0 n, nw 0 27]
def rdrE (a n : Nat) : List Ev := rowE n owF 27 ++ rd0E a n
/-- one letter -/
theorem ow_st : ∀ i, i < 130 → owW.getD i 0 < 27 ∧ (if am_own.getD i 0 = 32 then owW.getD (i + 1) 0 = owW.getD i 0 + 1 ∧ owK.getD (i + 1) 0 = 0 ∧ owK.getD i 0 = (ownW.getD (owW.getD i 0) []).length else owW.getD (i + 1) 0 = owW.getD i 0 ∧ owK.getD (i + 1) 0 = owK.getD i 0 + 1 ∧ nI (pkL ((ownW.getD (owW.getD i 0) []).take (owK.getD i 0))) ||| ((am_own.getD i 0 - 96) <<< ((5 * nI (owK.getD i 0)) &&& 31)) = nI (pkL ((ownW.getD (owW.getD i 0) []).take (owK.getD i 0 + 1)))) := by decide +kernel
def owV (i j : Nat) : Int32 := if j < owW.getD i 0 then owF j else if j = owW.getD i 0 then nI (pkL ((ownW.getD j []).take (owK.getD i 0))) else 0
theorem l_rdr (d a A : Nat) (M0 : am_M) (Q : Option Value → am_M → Prop) (hk : mK M0 a = 13) (hr : mR M0 a 0 = some A) (hA : mK M0 A = 0) (hN : mN M0 A = 27)
    (hQ : ∀ M', gF (fun b j => b = A ∧ j < 27) nT M0 M' → (∀ j, j < 27 → mI M' A j = owF j) → (∀ b j, mL M' b j = mL M0 b j) → Q none M') :
    ∀ (m i : Nat), i + m = 130 → ∀ (M : am_M), gF (fun b j => b = A ∧ j < 27) nT M0 M → (∀ j, j < 27 → mI M A j = owV i j) → (∀ b j, mL M b j = mL M0 b j) → am_P am_P0 (d + 4) (am_look tX3_init) 25 [.ref a, .int (nI (owW.getD i 0)), .int (nI (owK.getD i 0)), .int (nI i)] [] M Q := by
  have eL := fun M Q => c_len (d + 2) M Q
  intro m
  induction m with
  | zero =>
    intro i hi M g hv hl
    have e : i = 130 := by omega
    subst e
    have h0 := hQ M g (fun j hj => by
      rw [hv j hj]
      unfold owV
      rw [if_pos (by rw [show owW.getD 130 0 = 27 from rfl]; exact hj)]) hl
    rw [hX3_init_25]
    simp +decide (disch := omega) only [qX3_init_0, qX3_init_1, eL, am_w1_i, am_w1_r, am_w1_x, am_w1_l, am_w1_w, va_rf_s, am_push_n, am_push_s, am_cs_0, am_cs_i, am_cs_l, am_cs_r, m_uI_K, m_uI_N, m_uI_R, m_uI_L, m_uI_I, m_uL_K, m_uL_N, m_uL_R, m_uL_I, m_uL_L, m_uR_K, m_uR_N, m_uR_I, m_uR_L, m_uR_R, true_and, and_true, true_implies, false_implies, not_true_eq_false, not_false_eq_true, if_true, if_false, false_and, and_false]
    exact h0
  | succ m ih =>
    intro i hi M g hv hl
    obtain ⟨w27, hst⟩ := ow_st i (by omega)
    have kk : mK M a = 13 ∧ mK M A = 0 ∧ mN M A = 27 := by
      have e : mS M = mS M0 := g.2.2.2
      unfold mK mN at *
      rw [e]
      exact ⟨hk, hA, hN⟩
    have rr : mR M a 0 = some A := by rw [g.2.2.1 _ _ (fun w => w)]; exact hr
    have eC := fun M Q => c_chr d i M Q (by omega)
    have hlt : ¬ (130 : Int32) ≤ nI i := by rw [show (130 : Int32) = nI 130 from rfl, ni_le (by omega) (by omega)]; omega
    have hw : ¬ (27 : Int32) ≤ nI (owW.getD i 0) := by rw [show (27 : Int32) = nI 27 from rfl, ni_le (by omega) (by omega)]; omega
    obtain ⟨w, ew⟩ : ∃ w, w = owW.getD i 0 := ⟨_, rfl⟩
    obtain ⟨k, ek⟩ : ∃ k, k = owK.getD i 0 := ⟨_, rfl⟩
    by_cases c : am_own.getD i 0 = 32
    · rw [if_pos c, ← ew, ← ek] at hst
      have h0 := ih (i + 1) (by omega) M g (fun j hj => by
        rw [hv j hj]
        unfold owV
        rw [hst.1, hst.2.1, ← ew, ← ek]
        by_cases e1 : j < w
        · rw [if_pos e1, if_pos (by omega)]
        · rw [if_neg e1]
          by_cases e2 : j = w
          · rw [if_pos e2, if_pos (by omega), e2, hst.2.2, List.take_of_length_le (Nat.le_refl _)]
          · rw [if_neg e2, if_neg (by omega)]
            by_cases e3 : j = w + 1
            · rw [if_pos e3, List.take_zero]; rfl
            · rw [if_neg e3]) hl
      rw [hst.1, hst.2.1] at h0
      rw [hX3_init_25]
      rw [← ew] at hw
      simp +decide (disch := omega) only [qX3_init_0, qX3_init_1, eL, eC, c, ← ew, hlt, hw, ni_add1, am_w1_i, am_w1_r, am_w1_x, am_w1_l, am_w1_w, va_rf_s, am_push_n, am_push_s, am_cs_0, am_cs_i, am_cs_l, am_cs_r, m_uI_K, m_uI_N, m_uI_R, m_uI_L, m_uI_I, m_uL_K, m_uL_N, m_uL_R, m_uL_I, m_uL_L, m_uR_K, m_uR_N, m_uR_I, m_uR_L, m_uR_R, true_and, and_true, true_implies, false_implies, not_true_eq_false, not_false_eq_true, if_true, if_false, false_and, and_false]
      exact h0
    · rw [if_neg c, ← ew, ← ek] at hst
      rw [← ew] at w27 hw
      have vw : mI M A w = nI (pkL ((ownW.getD w []).take k)) := by
        rw [hv w w27]
        unfold owV
        rw [← ew, if_neg (by omega), if_pos rfl, ← ek]
      have h0 := ih (i + 1) (by omega) (uI M A w (nI (pkL ((ownW.getD w []).take (k + 1))))) (gF_trans g (gF_i _ ⟨rfl, w27⟩)) (fun j hj => by
        rw [m_uI_I]
        unfold owV
        rw [hst.1, hst.2.1]
        by_cases e2 : j = w
        · rw [if_pos ⟨rfl, e2⟩, if_neg (by omega), if_pos e2, e2]
        · rw [if_neg (fun q => e2 q.2), hv j hj]
          unfold owV
          rw [← ew, if_neg e2, if_neg e2]) hl
      rw [hst.1, hst.2.1] at h0
      rw [hX3_init_25, ← ew, ← ek]
      simp +decide (disch := omega) only [qX3_init_0, qX3_init_1, eL, eC, c, hlt, hw, kk, rr, vw, hst.2.2, ni_in_t, ni_tn, ni_add1, am_w1_i, am_w1_r, am_w1_x, am_w1_l, am_w1_w, va_rf_s, am_push_n, am_push_s, am_cs_0, am_cs_i, am_cs_l, am_cs_r, m_uI_K, m_uI_N, m_uI_R, m_uI_L, m_uI_I, m_uL_K, m_uL_N, m_uL_R, m_uL_I, m_uL_L, m_uR_K, m_uR_N, m_uR_I, m_uR_L, m_uR_R, true_and, and_true, true_implies, false_implies, not_true_eq_false, not_false_eq_true, if_true, if_false, false_and, and_false]
      exact h0
theorem c_rdr (d a : Nat) (M : am_M) (Q : Option Value → am_M → Prop) (hk : mK M a = 13) (ha : a < mC M) (hQ : Q none (pa (rdrE a (mC M)) M)) : am_E am_P0 (d + 4) 33 [.ref a] M Q := by
  obtain ⟨A, hA⟩ : ∃ A, A = pa (rd0E a (mC M)) M := ⟨_, rfl⟩
  have kA := fun b (hb : b < mC M) => pa_K (rd0E a (mC M)) M b hb
  have kN : mK A (mC M) = 0 ∧ mN A (mC M) = 27 := by
    rw [hA]
    exact pa_K2 (rd0E a (mC M)) M 0 (by show 0 < 2; omega)
  have rA : mR A a 0 = some (mC M) := by
    have n1 : ¬ a = mC M + 1 := by omega
    rw [hA, pa_R]
    simp [rvR, evC, n1]
  have iA : ∀ j, mI A (mC M) j = 0 := fun j => by
    rw [hA, pa_I]
    simp [rvI, evC]
  have main := l_rdr d a (mC M) A Q (by rw [hA, (kA a ha).1]; exact hk) rA kN.1 kN.2 (fun M' g hv hl => by
    have e : M' = pa (rowE (mC M) owF 27) A := by
      obtain ⟨r1, r2, r3, r4⟩ := pa_row (mC M) owF A 27
      refine am_ext (fun b j => ?_) (fun b j => ?_) (fun b j => ?_) ?_
      · rw [r1]
        by_cases c : b = mC M ∧ j < 27
        · rw [if_pos c, c.1]; exact hv j c.2
        · rw [if_neg c]; exact g.1 _ _ c
      · rw [r2]
        exact hl b j
      · rw [r3]; exact g.2.2.1 _ _ (fun w => w)
      · rw [r4]; exact g.2.2.2
    rw [e, hA, ← pa_app]
    exact hQ) 130 0 (by omega) A (gF_refl _ _ _) (fun j hj => by
    rw [iA]
    unfold owV
    rw [show owW.getD 0 0 = 0 from rfl, show owK.getD 0 0 = 0 from rfl, if_neg (by omega)]
    by_cases c : j = 0
    · rw [if_pos c, List.take_zero]; rfl
    · rw [if_neg c]) (fun _ _ => rfl)
  rw [eX3_init]
  simp +decide (disch := first | omega | (simp only [uN_C, uR_C, uI_C]; omega)) only [qX3_init_0, qX3_init_1, uN_K, uN_C, uR_C, uI_C, hk, am_w1_i, am_w1_r, am_w1_x, am_w1_l, am_w1_w, va_rf_s, am_push_n, am_push_s, am_cs_0, am_cs_i, am_cs_l, am_cs_r, m_uI_K, m_uI_N, m_uI_R, m_uI_L, m_uI_I, m_uL_K, m_uL_N, m_uL_R, m_uL_I, m_uL_L, m_uR_K, m_uR_N, m_uR_I, m_uR_L, m_uR_R, true_and, and_true, true_implies, false_implies, not_true_eq_false, not_false_eq_true, if_true, if_false, false_and, and_false]
  rw [hA] at main
  exact main
