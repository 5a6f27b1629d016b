/-! the model's counts -/
/-- how many of the first k places hold something -/
def nSaid (f : Nat → Int32) : Nat → Nat
  | 0 => 0
  | k + 1 => nSaid f k + (if f k = -1 then 0 else 1)
theorem nSaid_le (f : Nat → Int32) : ∀ k, nSaid f k ≤ k := by
  intro k
  induction k with
  | zero => exact Nat.le_refl _
  | succ k ih => unfold nSaid; split <;> omega
/-- what the ship s says at each hour, as the model keeps it -/
abbrev mSaid (M : am_M) (b s : Nat) : Nat → Int32 := fun t => mI M 292 (384 * b + 48 * s + t)
theorem l_m_sayingsOf (d : Nat) (s : Nat) (M : am_M) (Q : Option Value → am_M → Prop) (h : Lay M) (b : Nat) (hb : mI M 277 12 = nI b) (hb2 : b < 2) (hs : s < 8) : ∀ (m k : Nat), k + m = 48 → (am_P am_P0 (d + 1) (am_look tX11_sayingsOf) 4 [.ref 277, .int (nI s), .int (nI (nSaid (mSaid M b s) k)), .int (nI k)] [] M Q ↔ Q (some (.int (nI (nSaid (mSaid M b s) 48)))) M) := by
  intro m
  induction m with
  | zero =>
    intro k hk
    have e : k = 48 := by omega
    subst e
    rw [hX11_sayingsOf_4]
    simp +decide only [qX11_sayingsOf, am_w1_i, am_w1_r, am_w1_x, am_w1_l, am_w1_w, va_rf_s, am_push_n, am_push_s, am_cs_0, am_cs_i, am_cs_l, am_cs_r, m_uI_K, m_uI_N, m_uI_R, m_uI_L, m_uI_I, m_uL_K, m_uL_N, m_uL_R, m_uL_I, m_uL_L, m_uR_K, m_uR_N, m_uR_I, m_uR_L, m_uR_R, true_and, and_true, true_implies, false_implies]
  | succ m ih =>
    intro k hk
    have h48 : ¬ (48 : Int32) ≤ nI k := by rw [show (48 : Int32) = nI 48 from rfl, ni_le (by omega) (by omega)]; omega
    have hq := fun Q => c_m_said d s k M Q h b hb hb2 hs (by omega)
    rw [hX11_sayingsOf_4]
    simp +decide only [qX11_sayingsOf, lm h, hq, am_w1_i, am_w1_r, am_w1_x, am_w1_l, am_w1_w, va_rf_s, am_push_n, am_push_s, am_cs_0, am_cs_i, am_cs_l, am_cs_r, m_uI_K, m_uI_N, m_uI_R, m_uI_L, m_uI_I, m_uL_K, m_uL_N, m_uL_R, m_uL_I, m_uL_L, m_uR_K, m_uR_N, m_uR_I, m_uR_L, m_uR_R, true_and, and_true, ni_add1]
    rw [br_n h48]
    have ih2 := ih (k + 1) (by omega)
    by_cases e : mI M 292 (384 * b + 48 * s + k) = -1
    · rw [br_p e]
      have e2 : nSaid (mSaid M b s) (k + 1) = nSaid (mSaid M b s) k := by show nSaid _ k + (if mI M 292 (384 * b + 48 * s + k) = -1 then 0 else 1) = _; rw [if_pos e, Nat.add_zero]
      rw [e2] at ih2
      rw [← ih2]
      rw [show nI (nSaid (mSaid M b s) k) + 0 = nI (nSaid (mSaid M b s) k) from ni_add _ 0]
    · rw [br_n e]
      have e2 : nSaid (mSaid M b s) (k + 1) = nSaid (mSaid M b s) k + 1 := by show nSaid _ k + (if mI M 292 (384 * b + 48 * s + k) = -1 then 0 else 1) = _; rw [if_neg e]
      rw [e2] at ih2
      rw [← ih2]
theorem c_m_sayingsOf (d : Nat) (s : Nat) (M : am_M) (Q : Option Value → am_M → Prop) (h : Lay M) (b : Nat) (hb : mI M 277 12 = nI b) (hb2 : b < 2) (hs : s < 8) : am_E am_P0 (d + 1) 228 [.ref 277, .int (nI s)] M Q ↔ Q (some (.int (nI (nSaid (mSaid M b s) 48)))) M := by
  rw [eX11_sayingsOf]
  simp +decide only [qX11_sayingsOf, am_w1_i, am_w1_r, am_w1_x, am_w1_l, am_w1_w, va_rf_s, am_push_n, am_push_s, am_cs_0, am_cs_i, am_cs_l, am_cs_r, m_uI_K, m_uI_N, m_uI_R, m_uI_L, m_uI_I, m_uL_K, m_uL_N, m_uL_R, m_uL_I, m_uL_L, m_uR_K, m_uR_N, m_uR_I, m_uR_L, m_uR_R, true_and, and_true]
  exact l_m_sayingsOf d s M Q h b hb hb2 hs 48 0 rfl
theorem l_m_numberOf (d : Nat) (s t : Nat) (M : am_M) (Q : Option Value → am_M → Prop) (h : Lay M) (b : Nat) (hb : mI M 277 12 = nI b) (hb2 : b < 2) (hs : s < 8) (ht : t ≤ 48) : ∀ (m k : Nat), k + m = t → (am_P am_P0 (d + 1) (am_look tX11_numberOf) 5 [.ref 277, .int (nI s), .int (nI t), .int (nI (nSaid (mSaid M b s) k)), .int (nI k)] [] M Q ↔ Q (some (.int (nI (nSaid (mSaid M b s) t)))) M) := by
  intro m
  induction m with
  | zero =>
    intro k hk
    have e : k = t := by omega
    subst e
    have hle : nI k ≤ nI k := (ni_le (by omega) (by omega)).mpr (Nat.le_refl _)
    rw [hX11_numberOf_5]
    simp +decide only [qX11_numberOf, am_w1_i, am_w1_r, am_w1_x, am_w1_l, am_w1_w, va_rf_s, am_push_n, am_push_s, am_cs_0, am_cs_i, am_cs_l, am_cs_r, m_uI_K, m_uI_N, m_uI_R, m_uI_L, m_uI_I, m_uL_K, m_uL_N, m_uL_R, m_uL_I, m_uL_L, m_uR_K, m_uR_N, m_uR_I, m_uR_L, m_uR_R, true_and, and_true]
    rw [br_p hle]
  | succ m ih =>
    intro k hk
    have h48 : ¬ nI t ≤ nI k := by rw [ni_le (by omega) (by omega)]; omega
    have hq := fun Q => c_m_said d s k M Q h b hb hb2 hs (by omega)
    rw [hX11_numberOf_5]
    simp +decide only [qX11_numberOf, lm h, hq, am_w1_i, am_w1_r, am_w1_x, am_w1_l, am_w1_w, va_rf_s, am_push_n, am_push_s, am_cs_0, am_cs_i, am_cs_l, am_cs_r, m_uI_K, m_uI_N, m_uI_R, m_uI_L, m_uI_I, m_uL_K, m_uL_N, m_uL_R, m_uL_I, m_uL_L, m_uR_K, m_uR_N, m_uR_I, m_uR_L, m_uR_R, true_and, and_true, ni_add1]
    rw [br_n h48]
    have ih2 := ih (k + 1) (by omega)
    by_cases e : mI M 292 (384 * b + 48 * s + k) = -1
    · rw [br_p e]
      have e2 : nSaid (mSaid M b s) (k + 1) = nSaid (mSaid M b s) k := by show nSaid _ k + (if mI M 292 (384 * b + 48 * s + k) = -1 then 0 else 1) = _; rw [if_pos e, Nat.add_zero]
      rw [e2] at ih2
      rw [← ih2]
      rw [show nI (nSaid (mSaid M b s) k) + 0 = nI (nSaid (mSaid M b s) k) from ni_add _ 0]
    · rw [br_n e]
      have e2 : nSaid (mSaid M b s) (k + 1) = nSaid (mSaid M b s) k + 1 := by show nSaid _ k + (if mI M 292 (384 * b + 48 * s + k) = -1 then 0 else 1) = _; rw [if_neg e]
      rw [e2] at ih2
      rw [← ih2]
theorem c_m_numberOf (d : Nat) (s t : Nat) (M : am_M) (Q : Option Value → am_M → Prop) (h : Lay M) (b : Nat) (hb : mI M 277 12 = nI b) (hb2 : b < 2) (hs : s < 8) (ht : t ≤ 48) : am_E am_P0 (d + 1) 230 [.ref 277, .int (nI s), .int (nI t)] M Q ↔ Q (some (.int (nI (nSaid (mSaid M b s) t)))) M := by
  rw [eX11_numberOf]
  simp +decide only [qX11_numberOf, am_w1_i, am_w1_r, am_w1_x, am_w1_l, am_w1_w, va_rf_s, am_push_n, am_push_s, am_cs_0, am_cs_i, am_cs_l, am_cs_r, m_uI_K, m_uI_N, m_uI_R, m_uI_L, m_uI_I, m_uL_K, m_uL_N, m_uL_R, m_uL_I, m_uL_L, m_uR_K, m_uR_N, m_uR_I, m_uR_L, m_uR_R, true_and, and_true]
  exact l_m_numberOf d s t M Q h b hb hb2 hs ht t 0 (by omega)
/-- the hour of the i-th saying from the hour k on, or none -/
def hSaid (f : Nat → Int32) (i : Int) : Nat → Nat → Int32
  | 0, _ => -1
  | m + 1, k => if i < 0 then -1 else if f k = -1 then hSaid f i m (k + 1) else if i = 0 then nI k else hSaid f (i - 1) m (k + 1)
theorem l_m_hourOf (d : Nat) (s : Nat) (M : am_M) (Q : Option Value → am_M → Prop) (h : Lay M) (b : Nat) (hb : mI M 277 12 = nI b) (hb2 : b < 2) (hs : s < 8) (x0 : Int32) : ∀ (m k : Nat), k + m = 48 → ∀ (i : Int32), (am_P am_P0 (d + 1) (am_look tX11_hourOf) 5 [.ref 277, .int (nI s), .int x0, .int i, .int (nI k)] [] M Q ↔ Q (some (.int (hSaid (mSaid M b s) i.toInt m k))) M) := by
  intro m
  induction m with
  | zero =>
    intro k hk i
    have e : k = 48 := by omega
    subst e
    rw [hX11_hourOf_5]
    simp +decide only [qX11_hourOf, am_w1_i, am_w1_r, am_w1_x, am_w1_l, am_w1_w, va_rf_s, am_push_n, am_push_s, am_cs_0, am_cs_i, am_cs_l, am_cs_r, m_uI_K, m_uI_N, m_uI_R, m_uI_L, m_uI_I, m_uL_K, m_uL_N, m_uL_R, m_uL_I, m_uL_L, m_uR_K, m_uR_N, m_uR_I, m_uR_L, m_uR_R, true_and, and_true, true_implies, false_implies]
    rfl
  | succ m ih =>
    intro k hk i
    have h48 : ¬ (48 : Int32) ≤ nI k := by rw [show (48 : Int32) = nI 48 from rfl, ni_le (by omega) (by omega)]; omega
    have hq := fun Q => c_m_said d s k M Q h b hb hb2 hs (by omega)
    rw [hX11_hourOf_5]
    simp +decide only [qX11_hourOf, lm h, hq, am_w1_i, am_w1_r, am_w1_x, am_w1_l, am_w1_w, va_rf_s, am_push_n, am_push_s, am_cs_0, am_cs_i, am_cs_l, am_cs_r, m_uI_K, m_uI_N, m_uI_R, m_uI_L, m_uI_I, m_uL_K, m_uL_N, m_uL_R, m_uL_I, m_uL_L, m_uR_K, m_uR_N, m_uR_I, m_uR_L, m_uR_R, true_and, and_true, ni_add1]
    rw [br_n h48]
    by_cases h0 : i < 0
    · have h0' : i.toInt < 0 := by have := lt32.mp h0; rw [z32] at this; exact this
      rw [br_p h0]
      show _ ↔ Q (some (.int (if i.toInt < 0 then -1 else _))) M
      rw [if_pos h0']
    · have h0' : ¬ i.toInt < 0 := fun q => h0 (lt32.mpr (by rw [z32]; exact q))
      rw [br_n h0]
      show _ ↔ Q (some (.int (if i.toInt < 0 then -1 else if mI M 292 (384 * b + 48 * s + k) = -1 then hSaid (mSaid M b s) i.toInt m (k + 1) else if i.toInt = 0 then nI k else hSaid (mSaid M b s) (i.toInt - 1) m (k + 1)))) M
      rw [if_neg h0']
      by_cases e : mI M 292 (384 * b + 48 * s + k) = -1
      · rw [br_r e, if_pos e]
        exact ih (k + 1) (by omega) i
      · rw [br_q e, if_neg e]
        by_cases e0 : i = 0
        · rw [br_r e0, if_pos (by rw [e0]; rfl)]
        · have e0' : ¬ i.toInt = 0 := fun q => e0 (Int32.toInt_inj.mp q)
          rw [br_q e0, if_neg e0']
          have hn : i = nI i.toInt.toNat := i32_of (by omega) (by have := Int32.toInt_lt i; omega)
          have e1 : (i + -1).toInt = i.toInt - 1 := by
            have hlt := Int32.toInt_lt i
            have e2 : i + -1 = nI (i.toInt.toNat - 1) := by
              have e3 : nI i.toInt.toNat + -1 = nI (i.toInt.toNat - 1) := sb_m1 (by omega)
              rw [← hn] at e3
              exact e3
            rw [e2, ni_ti (by omega)]
            omega
          rw [← e1]
          exact ih (k + 1) (by omega) (i + -1)
theorem c_m_hourOf (d : Nat) (s : Nat) (i : Int32) (M : am_M) (Q : Option Value → am_M → Prop) (h : Lay M) (b : Nat) (hb : mI M 277 12 = nI b) (hb2 : b < 2) (hs : s < 8) : am_E am_P0 (d + 1) 229 [.ref 277, .int (nI s), .int i] M Q ↔ Q (some (.int (hSaid (mSaid M b s) i.toInt 48 0))) M := by
  rw [eX11_hourOf]
  simp +decide only [qX11_hourOf, am_w1_i, am_w1_r, am_w1_x, am_w1_l, am_w1_w, va_rf_s, am_push_n, am_push_s, am_cs_0, am_cs_i, am_cs_l, am_cs_r, m_uI_K, m_uI_N, m_uI_R, m_uI_L, m_uI_I, m_uL_K, m_uL_N, m_uL_R, m_uL_I, m_uL_L, m_uR_K, m_uR_N, m_uR_I, m_uR_L, m_uR_R, true_and, and_true]
  exact l_m_hourOf d s M Q h b hb hb2 hs i 48 0 rfl i
