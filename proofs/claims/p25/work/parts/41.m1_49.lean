/-! 41.m1 42.m2 43.m3 44.x1 45.m4 46.x2 47.x3 48.x4 49.m5 -/
section
/-! the model's sea: cells, ships, hours -/
theorem ti_pred {n : Nat} (h : n < 2147483648) : (nI n - 1).toInt = (n : Int) - 1 := by
  cases n with
  | zero => decide
  | succ k =>
    have e : nI (k + 1) - 1 = nI k := by rw [ni_1, ni_sub (by omega)]; rfl
    rw [e, ni_ti (by omega)]
    omega
theorem is_lt {v : Int32} {n : Nat} (h : n < 2147483648) : (0 ≤ v ∧ v ≤ nI n - 1) ↔ (0 ≤ v.toInt ∧ v.toInt < n) := by
  rw [le32, le32, ti_pred h, z32]
  omega
theorem bI_c {p q : Prop} [Decidable p] [Decidable q] (h : p ↔ q) : bI p = bI q := by
  by_cases e : p
  · rw [bI_t e, bI_t (h.mp e)]
  · rw [bI_f e, bI_f (fun z => e (h.mpr z))]
theorem c_m_isHour (d : Nat) (v : Int32) (M : am_M) (Q : Option Value → am_M → Prop) : am_E am_P0 (d + 1) 219 [.int v] M Q ↔ Q (some (.int (bI (0 ≤ v.toInt ∧ v.toInt < 48)))) M := by
  rw [eX11_isHour]
  simp +decide only [qX11_isHour, c_m_is, am_w1_i, am_w1_r, am_w1_x, am_w1_l, am_w1_w, va_rf_s, am_push_n, am_push_s, am_cs_0, am_cs_i, am_cs_l, am_cs_r, m_uI_K, m_uI_N, m_uI_R, m_uI_L, m_uI_I, m_uL_K, m_uL_N, m_uL_R, m_uL_I, m_uL_L, m_uR_K, m_uR_N, m_uR_I, m_uR_L, m_uR_R, true_and, and_true, bI_01]
  have e : bI (0 ≤ v ∧ v ≤ 47) = bI (0 ≤ v.toInt ∧ v.toInt < 48) := bI_c (by rw [le32, le32, z32, show (47 : Int32).toInt = 47 from rfl]; omega)
  rw [e]
theorem c_m_isShip (d : Nat) (v : Int32) (M : am_M) (Q : Option Value → am_M → Prop) (h : Lay M) (b n : Nat) (hb : mI M 277 12 = nI b) (hb2 : b < 2) (hn : mI M 285 b = nI n) (hn2 : n ≤ 8) : am_E am_P0 (d + 1) 220 [.ref 277, .int v] M Q ↔ Q (some (.int (bI (0 ≤ v.toInt ∧ v.toInt < n)))) M := by
  rw [eX11_isShip]
  simp +decide (disch := omega) only [qX11_isShip, c_m_is, lm h, hb, ni_in_t, ni_tn, hn, am_w1_i, am_w1_r, am_w1_x, am_w1_l, am_w1_w, va_rf_s, am_push_n, am_push_s, am_cs_0, am_cs_i, am_cs_l, am_cs_r, m_uI_K, m_uI_N, m_uI_R, m_uI_L, m_uI_I, m_uL_K, m_uL_N, m_uL_R, m_uL_I, m_uL_L, m_uR_K, m_uR_N, m_uR_I, m_uR_L, m_uR_R, true_and, and_true, bI_01]
  rw [bI_c (is_lt (v := v) (n := n) (by omega))]
theorem c_m_cells (d : Nat) (M : am_M) (Q : Option Value → am_M → Prop) (h : Lay M) (b c r : Nat) (hb : mI M 277 12 = nI b) (hb2 : b < 2) (hc : mI M 279 b = nI c) (hr : mI M 280 b = nI r) : am_E am_P0 d 214 [.ref 277] M Q ↔ Q (some (.int (nI (c * r)))) M := by
  rw [eX11_cells]
  simp +decide (disch := omega) only [qX11_cells, lm h, hb, ni_in_t, ni_tn, hc, hr, ni_mul, am_w1_i, am_w1_r, am_w1_x, am_w1_l, am_w1_w, va_rf_s, am_push_n, am_push_s, am_cs_0, am_cs_i, am_cs_l, am_cs_r, m_uI_K, m_uI_N, m_uI_R, m_uI_L, m_uI_I, m_uL_K, m_uL_N, m_uL_R, m_uL_I, m_uL_L, m_uR_K, m_uR_N, m_uR_I, m_uR_L, m_uR_R, true_and, and_true]
theorem c_m_isCell (d : Nat) (v w : Int32) (M : am_M) (Q : Option Value → am_M → Prop) (h : Lay M) (b c r : Nat) (hb : mI M 277 12 = nI b) (hb2 : b < 2) (hc : mI M 279 b = nI c) (hr : mI M 280 b = nI r) (hc2 : c ≤ 16) (hr2 : r ≤ 16) : am_E am_P0 (d + 1) 217 [.ref 277, .int v, .int w] M Q ↔ Q (some (.int (bI ((0 ≤ v.toInt ∧ v.toInt < c) ∧ (0 ≤ w.toInt ∧ w.toInt < r))))) M := by
  rw [eX11_isCell]
  simp +decide (disch := omega) only [qX11_isCell, c_m_is, lm h, hb, ni_in_t, ni_tn, hc, hr, am_w1_i, am_w1_r, am_w1_x, am_w1_l, am_w1_w, va_rf_s, am_push_n, am_push_s, am_cs_0, am_cs_i, am_cs_l, am_cs_r, m_uI_K, m_uI_N, m_uI_R, m_uI_L, m_uI_I, m_uL_K, m_uL_N, m_uL_R, m_uL_I, m_uL_L, m_uR_K, m_uR_N, m_uR_I, m_uR_L, m_uR_R, true_and, and_true, bI_0]
  rw [is_lt (v := v) (n := c) (by omega), is_lt (v := w) (n := r) (by omega)]
  by_cases h1 : 0 ≤ v.toInt ∧ v.toInt < c
  · by_cases h2 : 0 ≤ w.toInt ∧ w.toInt < r
    · rw [br_r h1, br_r h2, bI_t ⟨h1, h2⟩]
    · rw [br_r h1, br_q h2, bI_f (fun q => h2 q.2)]
  · rw [br_q h1, bI_f (fun q => h1 q.1)]
theorem c_m_said (d : Nat) (s t : Nat) (M : am_M) (Q : Option Value → am_M → Prop) (h : Lay M) (b : Nat) (hb : mI M 277 12 = nI b) (hb2 : b < 2) (hs : s < 8) (ht : t < 48) : am_E am_P0 d 226 [.ref 277, .int (nI s), .int (nI t)] M Q ↔ Q (some (.int (mI M 292 (384 * b + 48 * s + t)))) M := by
  rw [eX11_said]
  have e : 384 * nI b + 48 * nI s + nI t = nI (384 * b + 48 * s + t) := by
    rw [show (384 : Int32) = nI 384 from rfl, show (48 : Int32) = nI 48 from rfl, ni_mul, ni_mul, ni_add, ni_add]
  simp +decide (disch := omega) only [qX11_said, lm h, hb, e, ni_in_t, ni_tn, am_w1_i, am_w1_r, am_w1_x, am_w1_l, am_w1_w, va_rf_s, am_push_n, am_push_s, am_cs_0, am_cs_i, am_cs_l, am_cs_r, m_uI_K, m_uI_N, m_uI_R, m_uI_L, m_uI_I, m_uL_K, m_uL_N, m_uL_R, m_uL_I, m_uL_L, m_uR_K, m_uR_N, m_uR_I, m_uR_L, m_uR_R, true_and, and_true]
theorem c_m_laden (d : Nat) (s t : Nat) (M : am_M) (Q : Option Value → am_M → Prop) (h : Lay M) (b : Nat) (hb : mI M 277 12 = nI b) (hb2 : b < 2) (hs : s < 8) (ht : t < 48) (h01 : mI M 293 (384 * b + 48 * s + t) = 0 ∨ mI M 293 (384 * b + 48 * s + t) = 1) : am_E am_P0 d 227 [.ref 277, .int (nI s), .int (nI t)] M Q ↔ Q (some (.int (mI M 293 (384 * b + 48 * s + t)))) M := by
  rw [eX11_laden]
  have e : 384 * nI b + 48 * nI s + nI t = nI (384 * b + 48 * s + t) := by
    rw [show (384 : Int32) = nI 384 from rfl, show (48 : Int32) = nI 48 from rfl, ni_mul, ni_mul, ni_add, ni_add]
  simp +decide (disch := omega) only [qX11_laden, lm h, hb, e, ni_in_t, ni_tn, am_w1_i, am_w1_r, am_w1_x, am_w1_l, am_w1_w, va_rf_s, am_push_n, am_push_s, am_cs_0, am_cs_i, am_cs_l, am_cs_r, m_uI_K, m_uI_N, m_uI_R, m_uI_L, m_uI_I, m_uL_K, m_uL_N, m_uL_R, m_uL_I, m_uL_L, m_uR_K, m_uR_N, m_uR_I, m_uR_L, m_uR_R, true_and, and_true]
  simp only [eq_true h01, true_and]
end
section
/-! the model's counts -/
/-- how many of the first k places hold something -/
def nSaid (f : Nat → Int32) : Nat → Nat
  | 0 => 0
  | k + 1 => nSaid f k + (if f k = -1 then 0 else 1)
theorem nSaid_le (f : Nat → Int32) : ∀ k, nSaid f k ≤ k := by
  intro k
  induction k with
  | zero => exact Nat.le_refl _
  | succ k ih => unfold nSaid; split <;> omega
/-- what the ship s says at each hour, as the model keeps it -/
abbrev mSaid (M : am_M) (b s : Nat) : Nat → Int32 := fun t => mI M 292 (384 * b + 48 * s + t)
theorem l_m_sayingsOf (d : Nat) (s : Nat) (M : am_M) (Q : Option Value → am_M → Prop) (h : Lay M) (b : Nat) (hb : mI M 277 12 = nI b) (hb2 : b < 2) (hs : s < 8) : ∀ (m k : Nat), k + m = 48 → (am_P am_P0 (d + 1) (am_look tX11_sayingsOf) 4 [.ref 277, .int (nI s), .int (nI (nSaid (mSaid M b s) k)), .int (nI k)] [] M Q ↔ Q (some (.int (nI (nSaid (mSaid M b s) 48)))) M) := by
  intro m
  induction m with
  | zero =>
    intro k hk
    have e : k = 48 := by omega
    subst e
    rw [hX11_sayingsOf_4]
    simp +decide only [qX11_sayingsOf, am_w1_i, am_w1_r, am_w1_x, am_w1_l, am_w1_w, va_rf_s, am_push_n, am_push_s, am_cs_0, am_cs_i, am_cs_l, am_cs_r, m_uI_K, m_uI_N, m_uI_R, m_uI_L, m_uI_I, m_uL_K, m_uL_N, m_uL_R, m_uL_I, m_uL_L, m_uR_K, m_uR_N, m_uR_I, m_uR_L, m_uR_R, true_and, and_true, true_implies, false_implies]
  | succ m ih =>
    intro k hk
    have h48 : ¬ (48 : Int32) ≤ nI k := by rw [show (48 : Int32) = nI 48 from rfl, ni_le (by omega) (by omega)]; omega
    have hq := fun Q => c_m_said d s k M Q h b hb hb2 hs (by omega)
    rw [hX11_sayingsOf_4]
    simp +decide only [qX11_sayingsOf, lm h, hq, am_w1_i, am_w1_r, am_w1_x, am_w1_l, am_w1_w, va_rf_s, am_push_n, am_push_s, am_cs_0, am_cs_i, am_cs_l, am_cs_r, m_uI_K, m_uI_N, m_uI_R, m_uI_L, m_uI_I, m_uL_K, m_uL_N, m_uL_R, m_uL_I, m_uL_L, m_uR_K, m_uR_N, m_uR_I, m_uR_L, m_uR_R, true_and, and_true, ni_add1]
    rw [br_n h48]
    have ih2 := ih (k + 1) (by omega)
    by_cases e : mI M 292 (384 * b + 48 * s + k) = -1
    · rw [br_p e]
      have e2 : nSaid (mSaid M b s) (k + 1) = nSaid (mSaid M b s) k := by show nSaid _ k + (if mI M 292 (384 * b + 48 * s + k) = -1 then 0 else 1) = _; rw [if_pos e, Nat.add_zero]
      rw [e2] at ih2
      rw [← ih2]
      rw [show nI (nSaid (mSaid M b s) k) + 0 = nI (nSaid (mSaid M b s) k) from ni_add _ 0]
    · rw [br_n e]
      have e2 : nSaid (mSaid M b s) (k + 1) = nSaid (mSaid M b s) k + 1 := by show nSaid _ k + (if mI M 292 (384 * b + 48 * s + k) = -1 then 0 else 1) = _; rw [if_neg e]
      rw [e2] at ih2
      rw [← ih2]
theorem c_m_sayingsOf (d : Nat) (s : Nat) (M : am_M) (Q : Option Value → am_M → Prop) (h : Lay M) (b : Nat) (hb : mI M 277 12 = nI b) (hb2 : b < 2) (hs : s < 8) : am_E am_P0 (d + 1) 228 [.ref 277, .int (nI s)] M Q ↔ Q (some (.int (nI (nSaid (mSaid M b s) 48)))) M := by
  rw [eX11_sayingsOf]
  simp +decide only [qX11_sayingsOf, am_w1_i, am_w1_r, am_w1_x, am_w1_l, am_w1_w, va_rf_s, am_push_n, am_push_s, am_cs_0, am_cs_i, am_cs_l, am_cs_r, m_uI_K, m_uI_N, m_uI_R, m_uI_L, m_uI_I, m_uL_K, m_uL_N, m_uL_R, m_uL_I, m_uL_L, m_uR_K, m_uR_N, m_uR_I, m_uR_L, m_uR_R, true_and, and_true]
  exact l_m_sayingsOf d s M Q h b hb hb2 hs 48 0 rfl
theorem l_m_numberOf (d : Nat) (s t : Nat) (M : am_M) (Q : Option Value → am_M → Prop) (h : Lay M) (b : Nat) (hb : mI M 277 12 = nI b) (hb2 : b < 2) (hs : s < 8) (ht : t ≤ 48) : ∀ (m k : Nat), k + m = t → (am_P am_P0 (d + 1) (am_look tX11_numberOf) 5 [.ref 277, .int (nI s), .int (nI t), .int (nI (nSaid (mSaid M b s) k)), .int (nI k)] [] M Q ↔ Q (some (.int (nI (nSaid (mSaid M b s) t)))) M) := by
  intro m
  induction m with
  | zero =>
    intro k hk
    have e : k = t := by omega
    subst e
    have hle : nI k ≤ nI k := (ni_le (by omega) (by omega)).mpr (Nat.le_refl _)
    rw [hX11_numberOf_5]
    simp +decide only [qX11_numberOf, am_w1_i, am_w1_r, am_w1_x, am_w1_l, am_w1_w, va_rf_s, am_push_n, am_push_s, am_cs_0, am_cs_i, am_cs_l, am_cs_r, m_uI_K, m_uI_N, m_uI_R, m_uI_L, m_uI_I, m_uL_K, m_uL_N, m_uL_R, m_uL_I, m_uL_L, m_uR_K, m_uR_N, m_uR_I, m_uR_L, m_uR_R, true_and, and_true]
    rw [br_p hle]
  | succ m ih =>
    intro k hk
    have h48 : ¬ nI t ≤ nI k := by rw [ni_le (by omega) (by omega)]; omega
    have hq := fun Q => c_m_said d s k M Q h b hb hb2 hs (by omega)
    rw [hX11_numberOf_5]
    simp +decide only [qX11_numberOf, lm h, hq, am_w1_i, am_w1_r, am_w1_x, am_w1_l, am_w1_w, va_rf_s, am_push_n, am_push_s, am_cs_0, am_cs_i, am_cs_l, am_cs_r, m_uI_K, m_uI_N, m_uI_R, m_uI_L, m_uI_I, m_uL_K, m_uL_N, m_uL_R, m_uL_I, m_uL_L, m_uR_K, m_uR_N, m_uR_I, m_uR_L, m_uR_R, true_and, and_true, ni_add1]
    rw [br_n h48]
    have ih2 := ih (k + 1) (by omega)
    by_cases e : mI M 292 (384 * b + 48 * s + k) = -1
    · rw [br_p e]
      have e2 : nSaid (mSaid M b s) (k + 1) = nSaid (mSaid M b s) k := by show nSaid _ k + (if mI M 292 (384 * b + 48 * s + k) = -1 then 0 else 1) = _; rw [if_pos e, Nat.add_zero]
      rw [e2] at ih2
      rw [← ih2]
      rw [show nI (nSaid (mSaid M b s) k) + 0 = nI (nSaid (mSaid M b s) k) from ni_add _ 0]
    · rw [br_n e]
      have e2 : nSaid (mSaid M b s) (k + 1) = nSaid (mSaid M b s) k + 1 := by show nSaid _ k + (if mI M 292 (384 * b + 48 * s + k) = -1 then 0 else 1) = _; rw [if_neg e]
      rw [e2] at ih2
      rw [← ih2]
theorem c_m_numberOf (d : Nat) (s t : Nat) (M : am_M) (Q : Option Value → am_M → Prop) (h : Lay M) (b : Nat) (hb : mI M 277 12 = nI b) (hb2 : b < 2) (hs : s < 8) (ht : t ≤ 48) : am_E am_P0 (d + 1) 230 [.ref 277, .int (nI s), .int (nI t)] M Q ↔ Q (some (.int (nI (nSaid (mSaid M b s) t)))) M := by
  rw [eX11_numberOf]
  simp +decide only [qX11_numberOf, am_w1_i, am_w1_r, am_w1_x, am_w1_l, am_w1_w, va_rf_s, am_push_n, am_push_s, am_cs_0, am_cs_i, am_cs_l, am_cs_r, m_uI_K, m_uI_N, m_uI_R, m_uI_L, m_uI_I, m_uL_K, m_uL_N, m_uL_R, m_uL_I, m_uL_L, m_uR_K, m_uR_N, m_uR_I, m_uR_L, m_uR_R, true_and, and_true]
  exact l_m_numberOf d s t M Q h b hb hb2 hs ht t 0 (by omega)
/-- the hour of the i-th saying from the hour k on, or none -/
def hSaid (f : Nat → Int32) (i : Int) : Nat → Nat → Int32
  | 0, _ => -1
  | m + 1, k => if i < 0 then -1 else if f k = -1 then hSaid f i m (k + 1) else if i = 0 then nI k else hSaid f (i - 1) m (k + 1)
theorem l_m_hourOf (d : Nat) (s : Nat) (M : am_M) (Q : Option Value → am_M → Prop) (h : Lay M) (b : Nat) (hb : mI M 277 12 = nI b) (hb2 : b < 2) (hs : s < 8) (x0 : Int32) : ∀ (m k : Nat), k + m = 48 → ∀ (i : Int32), (am_P am_P0 (d + 1) (am_look tX11_hourOf) 5 [.ref 277, .int (nI s), .int x0, .int i, .int (nI k)] [] M Q ↔ Q (some (.int (hSaid (mSaid M b s) i.toInt m k))) M) := by
  intro m
  induction m with
  | zero =>
    intro k hk i
    have e : k = 48 := by omega
    subst e
    rw [hX11_hourOf_5]
    simp +decide only [qX11_hourOf, am_w1_i, am_w1_r, am_w1_x, am_w1_l, am_w1_w, va_rf_s, am_push_n, am_push_s, am_cs_0, am_cs_i, am_cs_l, am_cs_r, m_uI_K, m_uI_N, m_uI_R, m_uI_L, m_uI_I, m_uL_K, m_uL_N, m_uL_R, m_uL_I, m_uL_L, m_uR_K, m_uR_N, m_uR_I, m_uR_L, m_uR_R, true_and, and_true, true_implies, false_implies]
    rfl
  | succ m ih =>
    intro k hk i
    have h48 : ¬ (48 : Int32) ≤ nI k := by rw [show (48 : Int32) = nI 48 from rfl, ni_le (by omega) (by omega)]; omega
    have hq := fun Q => c_m_said d s k M Q h b hb hb2 hs (by omega)
    rw [hX11_hourOf_5]
    simp +decide only [qX11_hourOf, lm h, hq, am_w1_i, am_w1_r, am_w1_x, am_w1_l, am_w1_w, va_rf_s, am_push_n, am_push_s, am_cs_0, am_cs_i, am_cs_l, am_cs_r, m_uI_K, m_uI_N, m_uI_R, m_uI_L, m_uI_I, m_uL_K, m_uL_N, m_uL_R, m_uL_I, m_uL_L, m_uR_K, m_uR_N, m_uR_I, m_uR_L, m_uR_R, true_and, and_true, ni_add1]
    rw [br_n h48]
    by_cases h0 : i < 0
    · have h0' : i.toInt < 0 := by have := lt32.mp h0; rw [z32] at this; exact this
      rw [br_p h0]
      show _ ↔ Q (some (.int (if i.toInt < 0 then -1 else _))) M
      rw [if_pos h0']
    · have h0' : ¬ i.toInt < 0 := fun q => h0 (lt32.mpr (by rw [z32]; exact q))
      rw [br_n h0]
      show _ ↔ Q (some (.int (if i.toInt < 0 then -1 else if mI M 292 (384 * b + 48 * s + k) = -1 then hSaid (mSaid M b s) i.toInt m (k + 1) else if i.toInt = 0 then nI k else hSaid (mSaid M b s) (i.toInt - 1) m (k + 1)))) M
      rw [if_neg h0']
      by_cases e : mI M 292 (384 * b + 48 * s + k) = -1
      · rw [br_r e, if_pos e]
        exact ih (k + 1) (by omega) i
      · rw [br_q e, if_neg e]
        by_cases e0 : i = 0
        · rw [br_r e0, if_pos (by rw [e0]; rfl)]
        · have e0' : ¬ i.toInt = 0 := fun q => e0 (Int32.toInt_inj.mp q)
          rw [br_q e0, if_neg e0']
          have hn : i = nI i.toInt.toNat := i32_of (by omega) (by have := Int32.toInt_lt i; omega)
          have e1 : (i + -1).toInt = i.toInt - 1 := by
            have hlt := Int32.toInt_lt i
            have e2 : i + -1 = nI (i.toInt.toNat - 1) := by
              have e3 : nI i.toInt.toNat + -1 = nI (i.toInt.toNat - 1) := sb_m1 (by omega)
              rw [← hn] at e3
              exact e3
            rw [e2, ni_ti (by omega)]
            omega
          rw [← e1]
          exact ih (k + 1) (by omega) (i + -1)
theorem c_m_hourOf (d : Nat) (s : Nat) (i : Int32) (M : am_M) (Q : Option Value → am_M → Prop) (h : Lay M) (b : Nat) (hb : mI M 277 12 = nI b) (hb2 : b < 2) (hs : s < 8) : am_E am_P0 (d + 1) 229 [.ref 277, .int (nI s), .int i] M Q ↔ Q (some (.int (hSaid (mSaid M b s) i.toInt 48 0))) M := by
  rw [eX11_hourOf]
  simp +decide only [qX11_hourOf, am_w1_i, am_w1_r, am_w1_x, am_w1_l, am_w1_w, va_rf_s, am_push_n, am_push_s, am_cs_0, am_cs_i, am_cs_l, am_cs_r, m_uI_K, m_uI_N, m_uI_R, m_uI_L, m_uI_I, m_uL_K, m_uL_N, m_uL_R, m_uL_I, m_uL_L, m_uR_K, m_uR_N, m_uR_I, m_uR_L, m_uR_R, true_and, and_true]
  exact l_m_hourOf d s M Q h b hb hb2 hs i 48 0 rfl i
end
section
/-! the model's water and hours -/
theorem c_m_isWater (d : Nat) (s c : Nat) (M : am_M) (Q : Option Value → am_M → Prop) (h : Lay M) (b : Nat) (hb : mI M 277 12 = nI b) (hb2 : b < 2) (hs : s < 8) (hc : c < 256) : am_E am_P0 d 234 [.ref 277, .int (nI s), .int (nI c)] M Q ↔ Q (some (.int (bI (mI M 289 (8 * b + s) ≤ mI M 315 c)))) M := by
  rw [eX11_isWater]
  have e : 8 * nI b + nI s = nI (8 * b + s) := by rw [show (8 : Int32) = nI 8 from rfl, ni_mul, ni_add]
  simp +decide (disch := omega) only [qX11_isWater, lm h, hb, e, ni_in_t, ni_tn, am_w1_i, am_w1_r, am_w1_x, am_w1_l, am_w1_w, va_rf_s, am_push_n, am_push_s, am_cs_0, am_cs_i, am_cs_l, am_cs_r, m_uI_K, m_uI_N, m_uI_R, m_uI_L, m_uI_I, m_uL_K, m_uL_N, m_uL_R, m_uL_I, m_uL_L, m_uR_K, m_uR_N, m_uR_I, m_uR_L, m_uR_R, true_and, and_true]
  by_cases h1 : mI M 315 c < mI M 289 (8 * b + s)
  · rw [br_p h1, bI_f (Int32.not_le.mpr h1)]
  · rw [br_n h1, bI_t (Int32.not_lt.mp h1)]
theorem c_m_isSound (d : Nat) (s c : Nat) (z : Int32) (M : am_M) (Q : Option Value → am_M → Prop) (h : Lay M) (b : Nat) (hb : mI M 277 12 = nI b) (hb2 : b < 2) (hs : s < 8) (hc : c < 256) : am_E am_P0 d 235 [.ref 277, .int (nI s), .int (nI c), .int z] M Q ↔ Q (some (.int (bI (mI M 289 (8 * b + s) + (if z = 0 then 0 else mI M 290 (8 * b + s)) ≤ mI M 315 c)))) M := by
  rw [eX11_isSound]
  have e : 8 * nI b + nI s = nI (8 * b + s) := by rw [show (8 : Int32) = nI 8 from rfl, ni_mul, ni_add]
  simp +decide (disch := omega) only [qX11_isSound, lm h, hb, e, ni_in_t, ni_tn, am_w1_i, am_w1_r, am_w1_x, am_w1_l, am_w1_w, va_rf_s, am_push_n, am_push_s, am_cs_0, am_cs_i, am_cs_l, am_cs_r, m_uI_K, m_uI_N, m_uI_R, m_uI_L, m_uI_I, m_uL_K, m_uL_N, m_uL_R, m_uL_I, m_uL_L, m_uR_K, m_uR_N, m_uR_I, m_uR_L, m_uR_R, true_and, and_true]
  by_cases hz : z = 0
  · rw [br_p hz, if_pos hz]
    by_cases h1 : mI M 315 c < mI M 289 (8 * b + s) + 0
    · rw [br_p h1, bI_f (Int32.not_le.mpr h1)]
    · rw [br_n h1, bI_t (Int32.not_lt.mp h1)]
  · rw [br_n hz, if_neg hz]
    by_cases h1 : mI M 315 c < mI M 289 (8 * b + s) + mI M 290 (8 * b + s)
    · rw [br_p h1, bI_f (Int32.not_le.mpr h1)]
    · rw [br_n h1, bI_t (Int32.not_lt.mp h1)]
theorem c_m_between (d : Nat) (a b e f : Int32) (M : am_M) (Q : Option Value → am_M → Prop) : am_E am_P0 d 243 [.int a, .int b, .int e, .int f] M Q ↔ Q (some (.int (if b < e then e - b else if f < a then a - f else 0))) M := by
  rw [eX11_between]
  simp +decide only [qX11_between, am_w1_i, am_w1_r, am_w1_x, am_w1_l, am_w1_w, va_rf_s, am_push_n, am_push_s, am_cs_0, am_cs_i, am_cs_l, am_cs_r, m_uI_K, m_uI_N, m_uI_R, m_uI_L, m_uI_I, m_uL_K, m_uL_N, m_uL_R, m_uL_I, m_uL_L, m_uR_K, m_uR_N, m_uR_I, m_uR_L, m_uR_R, true_and, and_true]
  by_cases h1 : b < e
  · have h1' : ¬ e ≤ b := Int32.not_le.mpr h1
    rw [br_n h1', if_pos h1]
  · have h1' : e ≤ b := Int32.not_lt.mp h1
    rw [br_p h1', if_neg h1]
    by_cases h2 : f < a
    · have h2' : ¬ a ≤ f := Int32.not_le.mpr h2
      rw [br_n h2', if_pos h2]
    · have h2' : a ≤ f := Int32.not_lt.mp h2
      rw [br_p h2', if_neg h2]
theorem c_m_at (d : Nat) (x y : Nat) (M : am_M) (Q : Option Value → am_M → Prop) (h : Lay M) (b c : Nat) (hb : mI M 277 12 = nI b) (hb2 : b < 2) (hc : mI M 279 b = nI c) : am_E am_P0 d 218 [.ref 277, .int (nI x), .int (nI y)] M Q ↔ Q (some (.int (nI (c * y + x)))) M := by
  rw [eX11_at]
  simp +decide (disch := omega) only [qX11_at, lm h, hb, ni_in_t, ni_tn, hc, ni_mul, ni_add, am_w1_i, am_w1_r, am_w1_x, am_w1_l, am_w1_w, va_rf_s, am_push_n, am_push_s, am_cs_0, am_cs_i, am_cs_l, am_cs_r, m_uI_K, m_uI_N, m_uI_R, m_uI_L, m_uI_I, m_uL_K, m_uL_N, m_uL_R, m_uL_I, m_uL_L, m_uR_K, m_uR_N, m_uR_I, m_uR_L, m_uR_R, true_and, and_true]
theorem c_m_fact (d : Nat) (c f t : Int32) (M : am_M) (Q : Option Value → am_M → Prop) (h : Lay M) (n : Nat) (hn : mI M 277 60 = nI n) (hn2 : n < 120) : am_E am_P0 d 240 [.ref 277, .int c, .int f, .int t] M Q ↔ Q none (uI (uI (uI (uI M 319 n c) 320 n f) 321 n t) 277 60 (nI (n + 1))) := by
  rw [eX11_fact]
  simp +decide (disch := omega) only [qX11_fact, lm h, hn, ni_in_t, ni_tn, ni_add1, am_w1_i, am_w1_r, am_w1_x, am_w1_l, am_w1_w, va_rf_s, am_push_n, am_push_s, am_cs_0, am_cs_i, am_cs_l, am_cs_r, m_uI_K, m_uI_N, m_uI_R, m_uI_L, m_uI_I, m_uL_K, m_uL_N, m_uL_R, m_uL_I, m_uL_L, m_uR_K, m_uR_N, m_uR_I, m_uR_L, m_uR_R, true_and, and_true, false_and, if_false]
theorem c_m_writes (d : Nat) (v : Int32) (M : am_M) (Q : Option Value → am_M → Prop) (h : Lay M) (n : Nat) (hn : mI M 277 82 = nI n) (hn2 : n < 520) : am_E am_P0 d 298 [.ref 277, .int v] M Q ↔ Q none (uI (uI M 335 n (v &&& 255)) 277 82 (nI (n + 1))) := by
  rw [eX11_writes]
  simp +decide (disch := omega) only [qX11_writes, lm h, hn, ni_in_t, ni_tn, ni_add1, am_w1_i, am_w1_r, am_w1_x, am_w1_l, am_w1_w, va_rf_s, am_push_n, am_push_s, am_cs_0, am_cs_i, am_cs_l, am_cs_r, m_uI_K, m_uI_N, m_uI_R, m_uI_L, m_uI_I, m_uL_K, m_uL_N, m_uL_R, m_uL_I, m_uL_L, m_uR_K, m_uR_N, m_uR_I, m_uR_L, m_uR_R, true_and, and_true, false_and, if_false]
end
section
/-! the class's small methods -/
theorem c_x_isHour (d : Nat) (v : Int32) (M : am_M) (Q : Option Value → am_M → Prop) : am_E am_P0 d 149 [.int v] M Q ↔ Q (some (.int (bI (0 ≤ v.toInt ∧ v.toInt < 48)))) M := by
  rw [eX10_isHour]
  simp +decide only [qX10_isHour, am_w1_i, am_w1_r, am_w1_x, am_w1_l, am_w1_w, va_rf_s, am_push_n, am_push_s, am_cs_0, am_cs_i, am_cs_l, am_cs_r, m_uI_K, m_uI_N, m_uI_R, m_uI_L, m_uI_I, m_uL_K, m_uL_N, m_uL_R, m_uL_I, m_uL_L, m_uR_K, m_uR_N, m_uR_I, m_uR_L, m_uR_R, true_and, and_true]
  by_cases h0 : v < 0
  · have h0' := lt32.mp h0
    rw [z32] at h0'
    rw [br_p h0, bI_f (by omega)]
  · have h0' : ¬ v.toInt < 0 := fun q => h0 (lt32.mpr (by rw [z32]; exact q))
    by_cases h1 : (48 : Int32) ≤ v
    · have h1' := le32.mp h1
      rw [show (48 : Int32).toInt = 48 from rfl] at h1'
      rw [br_n h0, br_p h1, bI_f (by omega)]
    · have h1' : ¬ 48 ≤ v.toInt := fun q => h1 (le32.mpr q)
      rw [br_n h0, br_n h1, bI_t (by omega)]
theorem c_x_isShip (d : Nat) (v : Int32) (M : am_M) (Q : Option Value → am_M → Prop) (h : Lay M) (z n : Nat) (hz : z = 2 ∨ z = 83) (hs : mR M 0 2 = some z) (hn : mI M z 3 = nI n) (hn2 : n ≤ 8) : am_E am_P0 d 150 [.ref 0, .int v] M Q ↔ Q (some (.int (bI (0 ≤ v.toInt ∧ v.toInt < n)))) M := by
  rw [eX10_isShip]
  simp +decide only [qX10_isShip, lx h, hs, lz h hz, hn, am_w1_i, am_w1_r, am_w1_x, am_w1_l, am_w1_w, va_rf_s, am_push_n, am_push_s, am_cs_0, am_cs_i, am_cs_l, am_cs_r, m_uI_K, m_uI_N, m_uI_R, m_uI_L, m_uI_I, m_uL_K, m_uL_N, m_uL_R, m_uL_I, m_uL_L, m_uR_K, m_uR_N, m_uR_I, m_uR_L, m_uR_R, true_and, and_true]
  by_cases h0 : v < 0
  · have h0' := lt32.mp h0
    rw [z32] at h0'
    rw [br_p h0, bI_f (by omega)]
  · have h0' : ¬ v.toInt < 0 := fun q => h0 (lt32.mpr (by rw [z32]; exact q))
    by_cases h1 : nI n ≤ v
    · have h1' := le32.mp h1
      rw [ni_ti (by omega)] at h1'
      rw [br_n h0, br_p h1, bI_f (by omega)]
    · have h1' : ¬ (n : Int) ≤ v.toInt := fun q => h1 (le32.mpr (by rw [ni_ti (by omega)]; exact q))
      rw [br_n h0, br_n h1, bI_t (by omega)]
theorem c_x_bit (d : Nat) (v : Int32) (M : am_M) (Q : Option Value → am_M → Prop) (h01 : v = 0 ∨ v = 1) : am_E am_P0 d 148 [.int v] M Q ↔ Q (some (.int v)) M := by
  rw [eX10_bit]
  simp +decide only [qX10_bit, am_w1_i, am_w1_r, am_w1_x, am_w1_l, am_w1_w, va_rf_s, am_push_n, am_push_s, am_cs_0, am_cs_i, am_cs_l, am_cs_r, m_uI_K, m_uI_N, m_uI_R, m_uI_L, m_uI_I, m_uL_K, m_uL_N, m_uL_R, m_uL_I, m_uL_L, m_uR_K, m_uR_N, m_uR_I, m_uR_L, m_uR_R, true_and, and_true]
  rcases h01 with rfl | rfl
  · rw [br_p rfl]
  · rw [br_n (by decide)]
theorem c_x_write (d : Nat) (v : Int32) (M : am_M) (Q : Option Value → am_M → Prop) (h : Lay M) (n : Nat) (hn : mI M 0 10 = nI n) (hn2 : n < 507) : am_E am_P0 d 162 [.ref 0, .int v] M Q ↔ Q none (uI (uI M 170 n v) 0 10 (nI (n + 1))) := by
  rw [eX10_write]
  have h1 : ¬ nI 507 ≤ nI n := by rw [ni_le (by omega) (by omega)]; omega
  rw [show nI 507 = 507 from rfl] at h1
  simp +decide (disch := omega) only [qX10_write, lx h, hn, ni_in_t, ni_tn, ni_add1, am_w1_i, am_w1_r, am_w1_x, am_w1_l, am_w1_w, va_rf_s, am_push_n, am_push_s, am_cs_0, am_cs_i, am_cs_l, am_cs_r, m_uI_K, m_uI_N, m_uI_R, m_uI_L, m_uI_I, m_uL_K, m_uL_N, m_uL_R, m_uL_I, m_uL_L, m_uR_K, m_uR_N, m_uR_I, m_uR_L, m_uR_R, true_and, and_true, false_and, if_false]
  rw [br_n h1]
theorem c_x_append (d : Nat) (l p t : Int32) (M : am_M) (Q : Option Value → am_M → Prop) (h : Lay M) (z n : Nat) (hz : z = 2 ∨ z = 83) (hn : mI M (z + 2) 0 = nI n) (hn2 : n < 40) : am_E am_P0 d 71 [.ref (z + 2), .int l, .int p, .int t] M Q ↔ Q none (uI (uI (uI (uI M (z + 3) n l) (z + 4) n p) (z + 5) n t) (z + 2) 0 (nI (n + 1))) := by
  rw [eX7_append]
  have h1 : ¬ nI 40 ≤ nI n := by rw [ni_le (by omega) (by omega)]; omega
  rw [show nI 40 = 40 from rfl] at h1
  have n3 : ¬ (z + 2 = z + 3) := by omega
  have n4 : ¬ (z + 2 = z + 4) := by omega
  have n5 : ¬ (z + 2 = z + 5) := by omega
  simp +decide (disch := omega) only [qX7_append, lz h hz, hn, n3, n4, n5, ni_in_t, ni_tn, ni_add1, am_w1_i, am_w1_r, am_w1_x, am_w1_l, am_w1_w, va_rf_s, am_push_n, am_push_s, am_cs_0, am_cs_i, am_cs_l, am_cs_r, m_uI_K, m_uI_N, m_uI_R, m_uI_L, m_uI_I, m_uL_K, m_uL_N, m_uL_R, m_uL_I, m_uL_L, m_uR_K, m_uR_N, m_uR_I, m_uR_L, m_uR_R, true_and, and_true, false_and, if_false]
  rw [br_n h1]
theorem c_x_placeAt (d : Nat) (x y : Int32) (M : am_M) (Q : Option Value → am_M → Prop) (h : Lay M) (z c r : Nat) (hz : z = 2 ∨ z = 83) (hc : mI M z 0 = nI c) (hr : mI M z 1 = nI r) (hc2 : c ≤ 16) (hr2 : r ≤ 16) : am_E am_P0 d 56 [.ref z, .int x, .int y] M Q ↔ Q (some (.int (if (0 ≤ x.toInt ∧ x.toInt < c) ∧ (0 ≤ y.toInt ∧ y.toInt < r) then nI (16 * y.toInt.toNat + x.toInt.toNat) else -1))) M := by
  rw [eX5_placeAt]
  simp +decide only [qX5_placeAt, lz h hz, hc, hr, am_w1_i, am_w1_r, am_w1_x, am_w1_l, am_w1_w, va_rf_s, am_push_n, am_push_s, am_cs_0, am_cs_i, am_cs_l, am_cs_r, m_uI_K, m_uI_N, m_uI_R, m_uI_L, m_uI_I, m_uL_K, m_uL_N, m_uL_R, m_uL_I, m_uL_L, m_uR_K, m_uR_N, m_uR_I, m_uR_L, m_uR_R, true_and, and_true]
  have tc := ni_ti (n := c) (by omega)
  have tr := ni_ti (n := r) (by omega)
  have key : ∀ (v : Int32) (n : Nat), (nI n).toInt = n → ((v < 0 ↔ v.toInt < 0) ∧ (nI n ≤ v ↔ (n : Int) ≤ v.toInt)) := fun v n e => ⟨by rw [lt32, z32], by rw [le32, e]⟩
  by_cases h0 : x < 0
  · have g := (key x c tc).1.mp h0
    rw [br_p h0, if_neg (by omega)]
  · have g0 : ¬ x.toInt < 0 := fun q => h0 ((key x c tc).1.mpr q)
    by_cases h1 : nI c ≤ x
    · have g := (key x c tc).2.mp h1
      rw [br_n h0, br_p h1, if_neg (by omega)]
    · have g1 : ¬ (c : Int) ≤ x.toInt := fun q => h1 ((key x c tc).2.mpr q)
      by_cases h2 : y < 0
      · have g := (key y r tr).1.mp h2
        rw [br_n h0, br_n h1, br_p h2, if_neg (by omega)]
      · have g2 : ¬ y.toInt < 0 := fun q => h2 ((key y r tr).1.mpr q)
        by_cases h3 : nI r ≤ y
        · have g := (key y r tr).2.mp h3
          rw [br_n h0, br_n h1, br_n h2, br_n (Int32.not_lt.mpr h3), if_neg (by omega)]
        · have g3 : ¬ (r : Int) ≤ y.toInt := fun q => h3 ((key y r tr).2.mpr q)
          rw [br_n h0, br_n h1, br_n h2, br_p (Int32.not_le.mp h3), if_pos (by omega)]
          have ex : x = nI x.toInt.toNat := i32_of (by omega) (by omega)
          have ey : y = nI y.toInt.toNat := i32_of (by omega) (by omega)
          have e : y * 16 + x = nI (16 * y.toInt.toNat + x.toInt.toNat) := by
            conv => lhs; rw [ex, ey]
            rw [show (16 : Int32) = nI 16 from rfl, ni_mul, ni_add, Nat.mul_comm]
          rw [e]
end
section
/-! the model's reader: small methods; what comes -/
theorem c_m_isLetter (d : Nat) (v : Int32) (M : am_M) (Q : Option Value → am_M → Prop) : am_E am_P0 d 172 [.int v] M Q ↔ Q (some (.int (bI (97 ≤ v.toInt ∧ v.toInt ≤ 122)))) M := by
  rw [eX11_isLetter]
  simp +decide only [qX11_isLetter, am_w1_i, am_w1_r, am_w1_x, am_w1_l, am_w1_w, va_rf_s, am_push_n, am_push_s, am_cs_0, am_cs_i, am_cs_l, am_cs_r, m_uI_K, m_uI_N, m_uI_R, m_uI_L, m_uI_I, m_uL_K, m_uL_N, m_uL_R, m_uL_I, m_uL_L, m_uR_K, m_uR_N, m_uR_I, m_uR_L, m_uR_R, true_and, and_true]
  have a : (97 : Int32).toInt = 97 := rfl
  have z : (122 : Int32).toInt = 122 := rfl
  by_cases h0 : v < 97
  · have g := lt32.mp h0
    rw [a] at g
    rw [br_p h0, bI_f (by omega)]
  · have g : ¬ v.toInt < 97 := fun q => h0 (lt32.mpr (by rw [a]; exact q))
    by_cases h1 : 122 < v
    · have g1 := lt32.mp h1
      rw [z] at g1
      rw [br_n h0, br_p h1, bI_f (by omega)]
    · have g1 : ¬ 122 < v.toInt := fun q => h1 (lt32.mpr (by rw [z]; exact q))
      rw [br_n h0, br_n h1, bI_t (by omega)]
theorem c_m_isDigit (d : Nat) (v : Int32) (M : am_M) (Q : Option Value → am_M → Prop) : am_E am_P0 d 173 [.int v] M Q ↔ Q (some (.int (bI (48 ≤ v.toInt ∧ v.toInt ≤ 57)))) M := by
  rw [eX11_isDigit]
  simp +decide only [qX11_isDigit, am_w1_i, am_w1_r, am_w1_x, am_w1_l, am_w1_w, va_rf_s, am_push_n, am_push_s, am_cs_0, am_cs_i, am_cs_l, am_cs_r, m_uI_K, m_uI_N, m_uI_R, m_uI_L, m_uI_I, m_uL_K, m_uL_N, m_uL_R, m_uL_I, m_uL_L, m_uR_K, m_uR_N, m_uR_I, m_uR_L, m_uR_R, true_and, and_true]
  have a : (48 : Int32).toInt = 48 := rfl
  have z : (57 : Int32).toInt = 57 := rfl
  by_cases h0 : v < 48
  · have g := lt32.mp h0
    rw [a] at g
    rw [br_p h0, bI_f (by omega)]
  · have g : ¬ v.toInt < 48 := fun q => h0 (lt32.mpr (by rw [a]; exact q))
    by_cases h1 : 57 < v
    · have g1 := lt32.mp h1
      rw [z] at g1
      rw [br_n h0, br_p h1, bI_f (by omega)]
    · have g1 : ¬ 57 < v.toInt := fun q => h1 (lt32.mpr (by rw [z]; exact q))
      rw [br_n h0, br_n h1, bI_t (by omega)]
theorem c_m_blame (d : Nat) (k p : Int32) (M : am_M) (Q : Option Value → am_M → Prop) (h : Lay M) : am_E am_P0 d 171 [.ref 277, .int k, .int p] M Q ↔ if 0 < mI M 277 8 then Q none M else Q none (uI (uI M 277 8 k) 277 9 p) := by
  rw [eX11_blame]
  simp +decide only [qX11_blame, lm h, am_w1_i, am_w1_r, am_w1_x, am_w1_l, am_w1_w, va_rf_s, am_push_n, am_push_s, am_cs_0, am_cs_i, am_cs_l, am_cs_r, m_uI_K, m_uI_N, m_uI_R, m_uI_L, m_uI_I, m_uL_K, m_uL_N, m_uL_R, m_uL_I, m_uL_L, m_uR_K, m_uR_N, m_uR_I, m_uR_L, m_uR_R, true_and, and_true]
  by_cases h0 : 0 < mI M 277 8
  · have h1 : ¬ mI M 277 8 ≤ 0 := Int32.not_le.mpr h0
    rw [br_n h1, if_pos h0]
  · have h1 : mI M 277 8 ≤ 0 := Int32.not_lt.mp h0
    rw [br_p h1, if_neg h0]
theorem c_m_isSign (d : Nat) (c : Int32) (M : am_M) (Q : Option Value → am_M → Prop) (h : Lay M) : am_E am_P0 d 175 [.ref 277, .int c] M Q ↔ Q (some (.int (bI (mI M 277 3 = 3 ∧ mI M 277 6 = c)))) M := by
  rw [eX11_isSign]
  simp +decide only [qX11_isSign, lm h, am_w1_i, am_w1_r, am_w1_x, am_w1_l, am_w1_w, va_rf_s, am_push_n, am_push_s, am_cs_0, am_cs_i, am_cs_l, am_cs_r, m_uI_K, m_uI_N, m_uI_R, m_uI_L, m_uI_I, m_uL_K, m_uL_N, m_uL_R, m_uL_I, m_uL_L, m_uR_K, m_uR_N, m_uR_I, m_uR_L, m_uR_R, true_and, and_true]
  by_cases h0 : mI M 277 3 = 3
  · by_cases h1 : mI M 277 6 = c
    · rw [br_r h0, br_r h1, bI_t ⟨h0, h1⟩]
    · rw [br_r h0, br_q h1, bI_f (fun q => h1 q.2)]
  · rw [br_q h0, bI_f (fun q => h0 q.1)]
theorem c_m_says (d : Nat) (s t : Nat) (c z : Int32) (M : am_M) (Q : Option Value → am_M → Prop) (h : Lay M) (b n : Nat) (hb : mI M 277 12 = nI b) (hb2 : b < 2) (hs : s < 8) (ht : t < 48) (hn : mI M 291 b = nI n) (h01 : z = 0 ∨ z = 1) : am_E am_P0 d 293 [.ref 277, .int (nI s), .int (nI t), .int c, .int z] M Q ↔ Q none (uI (uI (uI M 292 (384 * b + 48 * s + t) c) 293 (384 * b + 48 * s + t) z) 291 b (nI (n + 1))) := by
  rw [eX11_says_]
  have e : 384 * nI b + 48 * nI s + nI t = nI (384 * b + 48 * s + t) := by
    rw [show (384 : Int32) = nI 384 from rfl, show (48 : Int32) = nI 48 from rfl, ni_mul, ni_mul, ni_add, ni_add]
  simp +decide (disch := omega) only [qX11_says_, lm h, hb, e, hn, ni_in_t, ni_tn, ni_add1, am_w1_i, am_w1_r, am_w1_x, am_w1_l, am_w1_w, va_rf_s, am_push_n, am_push_s, am_cs_0, am_cs_i, am_cs_l, am_cs_r, m_uI_K, m_uI_N, m_uI_R, m_uI_L, m_uI_I, m_uL_K, m_uL_N, m_uL_R, m_uL_I, m_uL_L, m_uR_K, m_uR_N, m_uR_I, m_uR_L, m_uR_R, true_and, and_true, false_and, if_false]
  simp only [eq_true h01, true_and]
theorem c_m_spots (d : Nat) (l c t : Int32) (M : am_M) (Q : Option Value → am_M → Prop) (h : Lay M) (b n : Nat) (hb : mI M 277 12 = nI b) (hb2 : b < 2) (hn : mI M 299 b = nI n) (hn2 : n < 40) : am_E am_P0 d 296 [.ref 277, .int l, .int c, .int t] M Q ↔ Q none (uI (uI (uI (uI M 300 (40 * b + n) l) 301 (40 * b + n) c) 302 (40 * b + n) t) 299 b (nI (n + 1))) := by
  rw [eX11_spots]
  have e : 40 * nI b + nI n = nI (40 * b + n) := by rw [show (40 : Int32) = nI 40 from rfl, ni_mul, ni_add]
  simp +decide (disch := omega) only [qX11_spots, lm h, hb, hn, e, ni_in_t, ni_tn, ni_add1, am_w1_i, am_w1_r, am_w1_x, am_w1_l, am_w1_w, va_rf_s, am_push_n, am_push_s, am_cs_0, am_cs_i, am_cs_l, am_cs_r, m_uI_K, m_uI_N, m_uI_R, m_uI_L, m_uI_I, m_uL_K, m_uL_N, m_uL_R, m_uL_I, m_uL_L, m_uR_K, m_uR_N, m_uR_I, m_uR_L, m_uR_R, true_and, and_true, false_and, if_false]
end
section
/-! the class's ships -/
def hasF (f : Nat → Int32) (v : Int32) : Nat → Bool
  | 0 => false
  | k + 1 => hasF f v k || decide (f k = v)
theorem hasF_mono (f : Nat → Int32) (v : Int32) {k n : Nat} (h : hasF f v k = true) (hk : k ≤ n) : hasF f v n = true := by
  induction n with
  | zero => have : k = 0 := by omega
            subst this; exact h
  | succ n ih =>
    by_cases e : k = n + 1
    · subst e; exact h
    · show (hasF f v n || _) = true
      rw [ih (by omega)]
      rfl
theorem l_x_hasSaid (d : Nat) (v : Int32) (M : am_M) (Q : Option Value → am_M → Prop) (h : Lay M) (w n : Nat) (hw : isSh w) (hn : mI M w 5 = nI n) (hn2 : n ≤ 48) : ∀ (m k : Nat), k + m = n → hasF (fun i => mI M (w + 1) i) v k = false → (am_P am_P0 d (am_look tX6_hasSaid) 2 [.ref w, .int v, .int (nI k)] [] M Q ↔ Q (some (.int (if hasF (fun i => mI M (w + 1) i) v n = true then 1 else 0))) M) := by
  intro m
  induction m with
  | zero =>
    intro k hk hf
    have e : k = n := by omega
    subst e
    have hle : nI k ≤ nI k := (ni_le (by omega) (by omega)).mpr (Nat.le_refl _)
    rw [hX6_hasSaid_2]
    simp +decide only [qX6_hasSaid, lw_ h hw, hn, am_w1_i, am_w1_r, am_w1_x, am_w1_l, am_w1_w, va_rf_s, am_push_n, am_push_s, am_cs_0, am_cs_i, am_cs_l, am_cs_r, m_uI_K, m_uI_N, m_uI_R, m_uI_L, m_uI_I, m_uL_K, m_uL_N, m_uL_R, m_uL_I, m_uL_L, m_uR_K, m_uR_N, m_uR_I, m_uR_L, m_uR_R, true_and, and_true]
    rw [br_p hle, hf, if_neg (by simp)]
  | succ m ih =>
    intro k hk hf
    have hlt : ¬ nI n ≤ nI k := by rw [ni_le (by omega) (by omega)]; omega
    rw [hX6_hasSaid_2]
    simp +decide (disch := omega) only [qX6_hasSaid, lw_ h hw, hn, ni_in_t, ni_tn, ni_add1, am_w1_i, am_w1_r, am_w1_x, am_w1_l, am_w1_w, va_rf_s, am_push_n, am_push_s, am_cs_0, am_cs_i, am_cs_l, am_cs_r, m_uI_K, m_uI_N, m_uI_R, m_uI_L, m_uI_I, m_uL_K, m_uL_N, m_uL_R, m_uL_I, m_uL_L, m_uR_K, m_uR_N, m_uR_I, m_uR_L, m_uR_R, true_and, and_true]
    rw [br_n hlt]
    by_cases e : mI M (w + 1) k = v
    · have h1 : hasF (fun i => mI M (w + 1) i) v (k + 1) = true := by show (_ || decide (mI M (w + 1) k = v)) = true; rw [decide_eq_true e, Bool.or_true]
      rw [hasF_mono _ _ h1 (by omega : k + 1 ≤ n), if_pos rfl, br_r e]
    · have h1 : hasF (fun i => mI M (w + 1) i) v (k + 1) = false := by show (hasF _ v k || decide (mI M (w + 1) k = v)) = false; rw [hf, decide_eq_false e]; rfl
      rw [br_q e]
      exact ih (k + 1) (by omega) h1
theorem c_x_hasSaid (d : Nat) (v : Int32) (M : am_M) (Q : Option Value → am_M → Prop) (h : Lay M) (w n : Nat) (hw : isSh w) (hn : mI M w 5 = nI n) (hn2 : n ≤ 48) : am_E am_P0 d 65 [.ref w, .int v] M Q ↔ Q (some (.int (if hasF (fun i => mI M (w + 1) i) v n = true then 1 else 0))) M := by
  rw [eX6_hasSaid]
  simp +decide only [qX6_hasSaid, am_w1_i, am_w1_r, am_w1_x, am_w1_l, am_w1_w, va_rf_s, am_push_n, am_push_s, am_cs_0, am_cs_i, am_cs_l, am_cs_r, m_uI_K, m_uI_N, m_uI_R, m_uI_L, m_uI_I, m_uL_K, m_uL_N, m_uL_R, m_uL_I, m_uL_L, m_uR_K, m_uR_N, m_uR_I, m_uR_L, m_uR_R, true_and, and_true]
  exact l_x_hasSaid d v M Q h w n hw hn hn2 n 0 (by omega) rfl
end
section
/-! the class's counts -/
def sumF (f : Nat → Nat) : Nat → Nat
  | 0 => 0
  | k + 1 => sumF f k + f k
theorem sumF_le (f : Nat → Nat) (c : Nat) (h : ∀ i, f i ≤ c) : ∀ k, sumF f k ≤ k * c := by
  intro k
  induction k with
  | zero => exact Nat.zero_le _
  | succ k ih => have := h k; show sumF f k + f k ≤ (k + 1) * c; rw [Nat.add_mul, Nat.one_mul]; omega
theorem l_x_countSayings (d : Nat) (M : am_M) (Q : Option Value → am_M → Prop) (h : Lay M) (z n : Nat) (g : Nat → Nat) (hz : z = 2 ∨ z = 83) (hn : mI M z 3 = nI n) (hn2 : n ≤ 8) (hg : ∀ s, s < 8 → mI M (z + 25 + 7 * s) 5 = nI (g s)) : ∀ (m k : Nat), k + m = n → (am_P am_P0 d (am_look tX5_countSayings) 4 [.ref z, .int (nI (sumF g k)), .int (nI k)] [] M Q ↔ Q (some (.int (nI (sumF g n)))) M) := by
  intro m
  induction m with
  | zero =>
    intro k hk
    have e : k = n := by omega
    subst e
    have hle : nI k ≤ nI k := (ni_le (by omega) (by omega)).mpr (Nat.le_refl _)
    rw [hX5_countSayings_4]
    simp +decide only [qX5_countSayings, lz h hz, hn, am_w1_i, am_w1_r, am_w1_x, am_w1_l, am_w1_w, va_rf_s, am_push_n, am_push_s, am_cs_0, am_cs_i, am_cs_l, am_cs_r, m_uI_K, m_uI_N, m_uI_R, m_uI_L, m_uI_I, m_uL_K, m_uL_N, m_uL_R, m_uL_I, m_uL_L, m_uR_K, m_uR_N, m_uR_I, m_uR_L, m_uR_R, true_and, and_true]
    rw [br_p hle]
  | succ m ih =>
    intro k hk
    have hlt : ¬ nI n ≤ nI k := by rw [ni_le (by omega) (by omega)]; omega
    have hr := lsh h hz (show k < 8 by omega)
    have hk16 : mK M (z + 25 + 7 * k) = 16 := by
      have hw : isSh (z + 25 + 7 * k) := ⟨k, by omega, by omega⟩
      exact (lw_ h hw).1
    rw [hX5_countSayings_4]
    simp +decide (disch := omega) only [qX5_countSayings, lz h hz, hn, hr, hk16, hg k (by omega), ni_in_t, ni_tn, ni_add1, ni_add, am_w1_i, am_w1_r, am_w1_x, am_w1_l, am_w1_w, va_rf_s, am_push_n, am_push_s, am_cs_0, am_cs_i, am_cs_l, am_cs_r, m_uI_K, m_uI_N, m_uI_R, m_uI_L, m_uI_I, m_uL_K, m_uL_N, m_uL_R, m_uL_I, m_uL_L, m_uR_K, m_uR_N, m_uR_I, m_uR_L, m_uR_R, true_and, and_true, true_or]
    rw [br_n hlt]
    exact ih (k + 1) (by omega)
theorem c_x_countSayings (d : Nat) (M : am_M) (Q : Option Value → am_M → Prop) (h : Lay M) (z n : Nat) (g : Nat → Nat) (hz : z = 2 ∨ z = 83) (hn : mI M z 3 = nI n) (hn2 : n ≤ 8) (hg : ∀ s, s < 8 → mI M (z + 25 + 7 * s) 5 = nI (g s)) : am_E am_P0 d 59 [.ref z] M Q ↔ Q (some (.int (nI (sumF g n)))) M := by
  rw [eX5_countSayings]
  simp +decide only [qX5_countSayings, am_w1_i, am_w1_r, am_w1_x, am_w1_l, am_w1_w, va_rf_s, am_push_n, am_push_s, am_cs_0, am_cs_i, am_cs_l, am_cs_r, m_uI_K, m_uI_N, m_uI_R, m_uI_L, m_uI_I, m_uL_K, m_uL_N, m_uL_R, m_uL_I, m_uL_L, m_uR_K, m_uR_N, m_uR_I, m_uR_L, m_uR_R, true_and, and_true]
  exact l_x_countSayings d M Q h z n g hz hn hn2 hg n 0 (by omega)
end
section
/-! division of small numbers; cells and places -/
theorem ni_div {a b : Nat} (ha : a < 2147483648) (hb : b < 2147483648) : nI a / nI b = nI (a / b) := by
  have hq : a / b ≤ a := Nat.div_le_self a b
  rw [← Int32.toInt_inj, Int32.toInt_div, ni_ti ha, ni_ti hb, ni_ti (by omega)]
  have e : (a : Int).tdiv (b : Int) = ((a / b : Nat) : Int) := rfl
  rw [e]
  generalize a / b = q at hq ⊢
  have h1 : ((2 ^ 32 : Nat) : Int) = 4294967296 := rfl
  simp only [Int.bmod, h1]
  omega
theorem ni_rem {a b : Nat} (ha : a < 2147483648) (hb : b < 2147483648) : nI a - nI a / nI b * nI b = nI (a % b) := by
  have hq : a / b * b ≤ a := Nat.div_mul_le_self a b
  rw [ni_div ha hb, ni_mul, ni_sub hq]
  congr 1
  have := Nat.div_add_mod a b
  rw [Nat.mul_comm] at this
  omega
theorem c_x_numberOf (d : Nat) (p : Nat) (M : am_M) (Q : Option Value → am_M → Prop) (h : Lay M) (z c : Nat) (hz : z = 2 ∨ z = 83) (hc : mI M z 0 = nI c) (hp : p < 256) : am_E am_P0 d 58 [.ref z, .int (nI p)] M Q ↔ Q (some (.int (nI (p / 16 * c + p % 16)))) M := by
  rw [eX5_numberOf]
  have e1 : nI p / 16 = nI (p / 16) := ni_div (b := 16) (by omega) (by omega)
  have e2 : nI p - nI (p / 16) * 16 = nI (p % 16) := by
    have := ni_rem (a := p) (b := 16) (by omega) (by omega)
    rw [ni_div (by omega) (by omega)] at this
    exact this
  simp +decide only [qX5_numberOf, lz h hz, hc, e1, e2, ni_mul, ni_add, am_w1_i, am_w1_r, am_w1_x, am_w1_l, am_w1_w, va_rf_s, am_push_n, am_push_s, am_cs_0, am_cs_i, am_cs_l, am_cs_r, m_uI_K, m_uI_N, m_uI_R, m_uI_L, m_uI_I, m_uL_K, m_uL_N, m_uL_R, m_uL_I, m_uL_L, m_uR_K, m_uR_N, m_uR_I, m_uR_L, m_uR_R, true_and, and_true]
end
section
/-! the model's columns, rows, hours of a way -/
theorem c_m_columnOf (d : Nat) (k : Nat) (M : am_M) (Q : Option Value → am_M → Prop) (h : Lay M) (b c : Nat) (hb : mI M 277 12 = nI b) (hb2 : b < 2) (hc : mI M 279 b = nI c) (hc2 : 0 < c) (hc3 : c ≤ 16) (hk : k < 256) : am_E am_P0 d 215 [.ref 277, .int (nI k)] M Q ↔ Q (some (.int (nI (k % c)))) M := by
  rw [eX11_columnOf]
  have h0 : ¬ nI c = 0 := by rw [ni_0, ni_eq (by omega) (by omega)]; omega
  have e := ni_rem (a := k) (b := c) (by omega) (by omega)
  simp +decide (disch := omega) only [qX11_columnOf, lm h, hb, ni_in_t, ni_tn, hc, e, am_w1_i, am_w1_r, am_w1_x, am_w1_l, am_w1_w, va_rf_s, am_push_n, am_push_s, am_cs_0, am_cs_i, am_cs_l, am_cs_r, m_uI_K, m_uI_N, m_uI_R, m_uI_L, m_uI_I, m_uL_K, m_uL_N, m_uL_R, m_uL_I, m_uL_L, m_uR_K, m_uR_N, m_uR_I, m_uR_L, m_uR_R, true_and, and_true, h0, not_false_eq_true]
theorem c_m_rowOf (d : Nat) (k : Nat) (M : am_M) (Q : Option Value → am_M → Prop) (h : Lay M) (b c : Nat) (hb : mI M 277 12 = nI b) (hb2 : b < 2) (hc : mI M 279 b = nI c) (hc2 : 0 < c) (hc3 : c ≤ 16) (hk : k < 256) : am_E am_P0 d 216 [.ref 277, .int (nI k)] M Q ↔ Q (some (.int (nI (k / c)))) M := by
  rw [eX11_rowOf]
  have h0 : ¬ nI c = 0 := by rw [ni_0, ni_eq (by omega) (by omega)]; omega
  have e := ni_div (a := k) (b := c) (by omega) (by omega)
  simp +decide (disch := omega) only [qX11_rowOf, lm h, hb, ni_in_t, ni_tn, hc, e, am_w1_i, am_w1_r, am_w1_x, am_w1_l, am_w1_w, va_rf_s, am_push_n, am_push_s, am_cs_0, am_cs_i, am_cs_l, am_cs_r, m_uI_K, m_uI_N, m_uI_R, m_uI_L, m_uI_I, m_uL_K, m_uL_N, m_uL_R, m_uL_I, m_uL_L, m_uR_K, m_uR_N, m_uR_I, m_uR_L, m_uR_R, true_and, and_true, h0, not_false_eq_true]
end
