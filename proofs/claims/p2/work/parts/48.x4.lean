/-! division of small numbers; cells and places -/
theorem ni_div {a b : Nat} (ha : a < 2147483648) (hb : b < 2147483648) : nI a / nI b = nI (a / b) := by
  have hq : a / b ≤ a := Nat.div_le_self a b
  rw [← Int32.toInt_inj, Int32.toInt_div, ni_ti ha, ni_ti hb, ni_ti (by omega)]
  have e : (a : Int).tdiv (b : Int) = ((a / b : Nat) : Int) := rfl
  rw [e]
  generalize a / b = q at hq ⊢
  have h1 : ((2 ^ 32 : Nat) : Int) = 4294967296 := rfl
  simp only [Int.bmod, h1]
  omega
theorem ni_rem {a b : Nat} (ha : a < 2147483648) (hb : b < 2147483648) : nI a - nI a / nI b * nI b = nI (a % b) := by
  have hq : a / b * b ≤ a := Nat.div_mul_le_self a b
  rw [ni_div ha hb, ni_mul, ni_sub hq]
  congr 1
  have := Nat.div_add_mod a b
  rw [Nat.mul_comm] at this
  omega
theorem c_x_numberOf (d : Nat) (p : Nat) (M : am_M) (Q : Option Value → am_M → Prop) (h : Lay M) (z c : Nat) (hz : z = 2 ∨ z = 83) (hc : mI M z 0 = nI c) (hp : p < 256) : am_E am_P0 d 58 [.ref z, .int (nI p)] M Q ↔ Q (some (.int (nI (p / 16 * c + p % 16)))) M := by
  rw [eX5_numberOf]
  have e1 : nI p / 16 = nI (p / 16) := ni_div (b := 16) (by omega) (by omega)
  have e2 : nI p - nI (p / 16) * 16 = nI (p % 16) := by
    have := ni_rem (a := p) (b := 16) (by omega) (by omega)
    rw [ni_div (by omega) (by omega)] at this
    exact this
  simp +decide only [qX5_numberOf, lz h hz, hc, e1, e2, ni_mul, ni_add, am_w1_i, am_w1_r, am_w1_x, am_w1_l, am_w1_w, va_rf_s, am_push_n, am_push_s, am_cs_0, am_cs_i, am_cs_l, am_cs_r, m_uI_K, m_uI_N, m_uI_R, m_uI_L, m_uI_I, m_uL_K, m_uL_N, m_uL_R, m_uL_I, m_uL_L, m_uR_K, m_uR_N, m_uR_I, m_uR_L, m_uR_R, true_and, and_true]
