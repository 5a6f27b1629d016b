/-! places as words and bits; rows filled -/
theorem sr6 : ∀ p, p < 256 → nI p >>> ((6 : Int32) &&& 31) = nI (p / 64) := by decide +kernel
theorem an63 : ∀ p, p < 256 → nI p &&& 63 = nI (p % 64) := by decide +kernel
theorem sh_u : ∀ i, i < 64 → ((nI i).toInt64 &&& 63).toUInt64.toNat % 64 = i := by decide +kernel
theorem sh_s : ∀ i, i < 64 → ((nI i).toInt64 &&& 63).toBitVec.smod 64 = BitVec.ofNat 64 i := by decide +kernel
theorem bt_test (x : Int64) {i : Nat} (hi : i < 64) : ((x.toUInt64 >>> ((nI i).toInt64 &&& 63).toUInt64).toInt64 &&& 1 = 0) ↔ ¬ sbit x i = true := by
  rw [sb_bit0, sb_shr x (sh_u i hi), Nat.add_zero]
  simp
theorem bt_one {i : Nat} (hi : i < 64) (j : Nat) : sbit ((1 : Int64) <<< ((nI i).toInt64 &&& 63)) j = decide (j = i) := by
  rw [sb_shl 1 (sh_s i hi) hi, sb_one]
  by_cases h1 : j < 64
  · by_cases h2 : j < i
    · have : ¬ j = i := by omega
      simp [h1, h2, this]
    · by_cases h3 : j = i
      · subst h3; simp [hi]
      · have : ¬ j - i = 0 := by omega
        simp [h1, h2, h3, this]
  · have : ¬ j = i := by omega
    simp [h1, this]
theorem l_fillJ (d a : Nat) (v : Int64) (M : am_M) (Q : Option Value → am_M → Prop) (hK : mK M a = 1) (hN : mN M a ≤ 60000) : ∀ (m k : Nat), k + m = mN M a → (am_P am_P0 d (am_look tJ7_fill_d0a16) 6 [.ref a, .long v, am_x, .int (nI k), .int (nI (mN M a))] [] (uB M a (fun j => if j < k then v else mL M a j)) Q ↔ Q none (uB M a (fun j => if j < mN M a then v else mL M a j))) := by
  intro m
  induction m with
  | zero =>
    intro k hk
    have e : k = mN M a := by omega
    subst e
    have hle : nI (mN M a) ≤ nI (mN M a) := (ni_le (by omega) (by omega)).mpr (Nat.le_refl _)
    rw [hJ7_fill_d0a16_6]
    simp +decide only [qJ7_fill_d0a16, am_w1_i, am_w1_r, am_w1_x, am_w1_l, am_w1_w, va_rf_s, am_push_n, am_push_s, am_cs_0, am_cs_i, am_cs_l, am_cs_r, m_uI_K, m_uI_N, m_uI_R, m_uI_L, m_uI_I, m_uL_K, m_uL_N, m_uL_R, m_uL_I, m_uL_L, m_uR_K, m_uR_N, m_uR_I, m_uR_L, m_uR_R, true_and, and_true]
    rw [br_p hle]
  | succ m ih =>
    intro k hk
    have hlt : ¬ nI (mN M a) ≤ nI k := by rw [ni_le (by omega) (by omega)]; omega
    rw [hJ7_fill_d0a16_6]
    simp +decide (disch := omega) only [qJ7_fill_d0a16, uB_K, uB_N, hK, ni_in_t, ni_tn, ni_add1, am_w1_i, am_w1_r, am_w1_x, am_w1_l, am_w1_w, va_rf_s, am_push_n, am_push_s, am_cs_0, am_cs_i, am_cs_l, am_cs_r, m_uI_K, m_uI_N, m_uI_R, m_uI_L, m_uI_I, m_uL_K, m_uL_N, m_uL_R, m_uL_I, m_uL_L, m_uR_K, m_uR_N, m_uR_I, m_uR_L, m_uR_R, true_and, and_true]
    rw [br_n hlt, uL_B]
    have e : (fun j => if j = k then v else if j < k then v else mL M a j) = (fun j => if j < k + 1 then v else mL M a j) := by
      funext j
      by_cases h1 : j = k
      · rw [if_pos h1, if_pos (by omega)]
      · rw [if_neg h1]
        by_cases h2 : j < k
        · rw [if_pos h2, if_pos (by omega)]
        · rw [if_neg h2, if_neg (by omega)]
    rw [e]
    exact ih (k + 1) (by omega)
theorem c_fillJ (d a : Nat) (v : Int64) (M : am_M) (Q : Option Value → am_M → Prop) (hK : mK M a = 1) (hN : mN M a ≤ 60000) : am_E am_P0 d 322 [.ref a, .long v] M Q ↔ Q none (uB M a (fun j => if j < mN M a then v else mL M a j)) := by
  rw [eJ7_fill_d0a16]
  simp +decide only [qJ7_fill_d0a16, hK, am_w1_i, am_w1_r, am_w1_x, am_w1_l, am_w1_w, va_rf_s, am_push_n, am_push_s, am_cs_0, am_cs_i, am_cs_l, am_cs_r, m_uI_K, m_uI_N, m_uI_R, m_uI_L, m_uI_I, m_uL_K, m_uL_N, m_uL_R, m_uL_I, m_uL_L, m_uR_K, m_uR_N, m_uR_I, m_uR_L, m_uR_R, true_and, and_true]
  have h0 := l_fillJ d a v M Q hK hN (mN M a) 0 (by omega)
  have e : uB M a (fun j => if j < 0 then v else mL M a j) = M := by
    have : (fun j => if j < 0 then v else mL M a j) = (fun j => mL M a j) := by funext j; rw [if_neg (by omega)]
    rw [this, uB_id]
  rw [e] at h0
  exact h0
theorem l_fillI (d a : Nat) (v : Int32) (M : am_M) (Q : Option Value → am_M → Prop) (hK : mK M a = 0) (hN : mN M a ≤ 60000) : ∀ (m k : Nat), k + m = mN M a → (am_P am_P0 d (am_look tJ7_fill_53178) 5 [.ref a, .int v, .int (nI k), .int (nI (mN M a))] [] (uA M a (fun j => if j < k then v else mI M a j)) Q ↔ Q none (uA M a (fun j => if j < mN M a then v else mI M a j))) := by
  intro m
  induction m with
  | zero =>
    intro k hk
    have e : k = mN M a := by omega
    subst e
    have hle : nI (mN M a) ≤ nI (mN M a) := (ni_le (by omega) (by omega)).mpr (Nat.le_refl _)
    rw [hJ7_fill_53178_5]
    simp +decide only [qJ7_fill_53178, am_w1_i, am_w1_r, am_w1_x, am_w1_l, am_w1_w, va_rf_s, am_push_n, am_push_s, am_cs_0, am_cs_i, am_cs_l, am_cs_r, m_uI_K, m_uI_N, m_uI_R, m_uI_L, m_uI_I, m_uL_K, m_uL_N, m_uL_R, m_uL_I, m_uL_L, m_uR_K, m_uR_N, m_uR_I, m_uR_L, m_uR_R, true_and, and_true]
    rw [br_p hle]
  | succ m ih =>
    intro k hk
    have hlt : ¬ nI (mN M a) ≤ nI k := by rw [ni_le (by omega) (by omega)]; omega
    rw [hJ7_fill_53178_5]
    simp +decide (disch := omega) only [qJ7_fill_53178, uA_K, uA_N, hK, ni_in_t, ni_tn, ni_add1, am_w1_i, am_w1_r, am_w1_x, am_w1_l, am_w1_w, va_rf_s, am_push_n, am_push_s, am_cs_0, am_cs_i, am_cs_l, am_cs_r, m_uI_K, m_uI_N, m_uI_R, m_uI_L, m_uI_I, m_uL_K, m_uL_N, m_uL_R, m_uL_I, m_uL_L, m_uR_K, m_uR_N, m_uR_I, m_uR_L, m_uR_R, true_and, and_true]
    rw [br_n hlt, uI_A]
    have e : (fun j => if j = k then v else if j < k then v else mI M a j) = (fun j => if j < k + 1 then v else mI M a j) := by
      funext j
      by_cases h1 : j = k
      · rw [if_pos h1, if_pos (by omega)]
      · rw [if_neg h1]
        by_cases h2 : j < k
        · rw [if_pos h2, if_pos (by omega)]
        · rw [if_neg h2, if_neg (by omega)]
    rw [e]
    exact ih (k + 1) (by omega)
theorem c_fillI (d a : Nat) (v : Int32) (M : am_M) (Q : Option Value → am_M → Prop) (hK : mK M a = 0) (hN : mN M a ≤ 60000) : am_E am_P0 d 324 [.ref a, .int v] M Q ↔ Q none (uA M a (fun j => if j < mN M a then v else mI M a j)) := by
  rw [eJ7_fill_53178]
  simp +decide only [qJ7_fill_53178, hK, am_w1_i, am_w1_r, am_w1_x, am_w1_l, am_w1_w, va_rf_s, am_push_n, am_push_s, am_cs_0, am_cs_i, am_cs_l, am_cs_r, m_uI_K, m_uI_N, m_uI_R, m_uI_L, m_uI_I, m_uL_K, m_uL_N, m_uL_R, m_uL_I, m_uL_L, m_uR_K, m_uR_N, m_uR_I, m_uR_L, m_uR_R, true_and, and_true]
  have h0 := l_fillI d a v M Q hK hN (mN M a) 0 (by omega)
  have e : uA M a (fun j => if j < 0 then v else mI M a j) = M := by
    have : (fun j => if j < 0 then v else mI M a j) = (fun j => mI M a j) := by funext j; rw [if_neg (by omega)]
    rw [this, uA_id]
  rw [e] at h0
  exact h0
/-- is a place in the water's set -/
theorem c_x_isWater (d w p : Nat) (M : am_M) (Q : Option Value → am_M → Prop) (h : Lay M) (hw : isTr w) (hp : p < 256) : am_E am_P0 d 103 [.ref (w + 1), .int (nI p)] M Q ↔ Q (some (.int (tI (inS (fun i => mL M (w + 2) i) p)))) M := by
  rw [eX9_isWater]
  simp +decide (disch := omega) only [qX9_isWater, lt_ h hw, sr6 p hp, an63 p hp, ni_in_t, ni_tn, lgc_0, bt_test _ (Nat.mod_lt p (show 0 < 64 by decide)), am_w1_i, am_w1_r, am_w1_x, am_w1_l, am_w1_w, va_rf_s, am_push_n, am_push_s, am_cs_0, am_cs_i, am_cs_l, am_cs_r, m_uI_K, m_uI_N, m_uI_R, m_uI_L, m_uI_I, m_uL_K, m_uL_N, m_uL_R, m_uL_I, m_uL_L, m_uR_K, m_uR_N, m_uR_I, m_uR_L, m_uR_R, true_and, and_true]
  by_cases e : sbit (mL M (w + 2) (p / 64)) (p % 64) = true
  · rw [br_r e, tI_t ⟨hp, e⟩]
  · rw [br_q e, tI_f (fun q => e q.2)]
