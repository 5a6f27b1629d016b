/-! on: the model finds an image whole -/
def TpO (T : Nat → Nat) (M : am_M) : Prop := ∀ j, j < 1800 → T j < 256 ∧ mI M 278 j = nI (T j)
theorem ge32 {a b : Int32} : b ≤ a ↔ ¬ a < b := by rw [le32, lt32]; omega
theorem l_m_iw71 (d n k : Nat) (T : Nat → Nat) (M : am_M) (Q : Option Value → am_M → Prop) (hL : Lay M) (hT : TpO T M) (hn : n ≤ 1800) (hn1 : 1 ≤ n)
    (hQ : T (n - 1) = ckS (tpL T (n - 1)) 29 → ∀ x3, am_P am_P0 (d + 2) (am_look tX11_isWhole) 121 [.ref 277, .int (nI n), .int (nI k), .int x3, .int (-1), .int (nI 1), am_x] [] M Q) (hF : ¬ T (n - 1) = ckS (tpL T (n - 1)) 29 → Q (some (.int 0)) M) :
    ∀ (m i c : Nat), i + m = n - 1 → c < 241 → c = ckS ((tpL T (n - 1)).take i) 29 → am_P am_P0 (d + 2) (am_look tX11_isWhole) 71 [.ref 277, .int (nI n), .int (nI k), .int (nI c), .int (nI i), am_x, am_x] [] M Q := by
  have em : nI n - 1 = nI (n - 1) := ni_m1 hn1
  intro m
  induction m with
  | zero =>
    intro i c hi hc he
    have hle : nI (n - 1) ≤ nI i := (ni_le (by omega) (by omega)).mpr (by omega)
    rw [List.take_of_length_le (by rw [tpL_len]; omega)] at he
    obtain ⟨ue, ae⟩ := hT (n - 1) (by omega)
    rw [hX11_isWhole_71]
    simp +decide (disch := omega) only [qX11_isWhole_0, qX11_isWhole_1, qX11_isWhole_2, qX11_isWhole_3, qX11_isWhole_4, lm hL, em, ae, ni_in_t, ni_tn, am_w1_i, am_w1_r, am_w1_x, am_w1_l, am_w1_w, va_rf_s, am_push_n, am_push_s, am_cs_0, am_cs_i, am_cs_l, am_cs_r, m_uI_K, m_uI_N, m_uI_R, m_uI_L, m_uI_I, m_uL_K, m_uL_N, m_uL_R, m_uL_I, m_uL_L, m_uR_K, m_uR_N, m_uR_I, m_uR_L, m_uR_R, true_and, and_true, true_implies, false_implies, not_true_eq_false, not_false_eq_true, if_true, if_false, false_and, and_false]
    rw [br_p hle]
    by_cases b : nI (T (n - 1)) = nI c
    · first | rw [br_p (b)] | rw [br_r (b)] | rw [br_s (b)]
      rw [ni_eq (by omega) (by omega)] at b
      exact hQ (by rw [b, he]) _
    · first | rw [br_n (b)] | rw [br_q (b)] | rw [br_u (b)]
      rw [ni_eq (by omega) (by omega)] at b
      exact hF (by rw [← he]; exact b)
  | succ m ih =>
    intro i c hi hc he
    have hlt : ¬ nI (n - 1) ≤ nI i := by rw [ni_le (by omega) (by omega)]; omega
    obtain ⟨v2, v3⟩ := hT i (by omega)
    have hv1 : (tpL T (n - 1))[i]? = some (T i) := by unfold tpL; rw [List.getElem?_map, List.getElem?_range (by omega)]; rfl
    have h0 := ih (i + 1) ((3 * c + T i) % 241) (by omega) (Nat.mod_lt _ (by omega)) (by rw [tk_s hv1, ckS_app, ← he]; rfl)
    have eck := ck_step (v := T i) hc v2
    rw [hX11_isWhole_71]
    simp +decide (disch := omega) only [qX11_isWhole_0, qX11_isWhole_1, qX11_isWhole_2, qX11_isWhole_3, qX11_isWhole_4, lm hL, em, v3, eck, ni_in_t, ni_tn, ni_add1, am_w1_i, am_w1_r, am_w1_x, am_w1_l, am_w1_w, va_rf_s, am_push_n, am_push_s, am_cs_0, am_cs_i, am_cs_l, am_cs_r, m_uI_K, m_uI_N, m_uI_R, m_uI_L, m_uI_I, m_uL_K, m_uL_N, m_uL_R, m_uL_I, m_uL_L, m_uR_K, m_uR_N, m_uR_I, m_uR_L, m_uR_R, true_and, and_true, true_implies, false_implies, not_true_eq_false, not_false_eq_true, if_true, if_false, false_and, and_false]
    rw [br_n hlt]
    exact h0
theorem l_m_iw121 (d b n : Nat) (D : Dat) (T : Nat → Nat) (M : am_M) (Q : Option Value → am_M → Prop) (hD : dOK D) (hL : Lay M) (hM : MdM M b D) (hT : TpO T M) (h96 : T 0 ≤ 96) (x3 : Int32)
    (hQ : (∀ i, i < T 0 → rowOK (dN D) (dC D * dR D) T i) → ∀ x4 v6, am_P am_P0 (d + 2) (am_look tX11_isWhole) 231 [.ref 277, .int (nI n), .int (nI (1 + 4 * T 0)), .int x3, .int x4, .int (nI (1 + 4 * T 0 + 1)), v6] [] M Q) (hF : ¬ (∀ i, i < T 0 → rowOK (dN D) (dC D * dR D) T i) → Q (some (.int 0)) M) :
    ∀ (m i : Nat), i + m = T 0 → (∀ j, j < i → rowOK (dN D) (dC D * dR D) T j) → ∀ v6, am_P am_P0 (d + 2) (am_look tX11_isWhole) 121 [.ref 277, .int (nI n), .int (nI (1 + 4 * T 0)), .int x3, .int (lstI T i), .int (nI (1 + 4 * i)), v6] [] M Q := by
  have n8 := dN_8 hD
  have hCR : dC D * dR D ≤ 16 * 16 := Nat.mul_le_mul hD.1.1.1 hD.1.1.2
  have eC := fun Q => c_m_cells (d + 1) M Q hL b (dC D) (dR D) hM.1.1 hM.1.2 hM.2.1.1 hM.2.1.2
  intro m
  induction m with
  | zero =>
    intro i hi hok v6
    have e : i = T 0 := by omega
    subst e
    have hle : nI (1 + 4 * T 0) ≤ nI (1 + 4 * T 0) := (ni_le (by omega) (by omega)).mpr (Nat.le_refl _)
    have h0 := hQ hok (lstI T (T 0)) v6
    rw [hX11_isWhole_121]
    simp +decide (disch := omega) only [qX11_isWhole_0, qX11_isWhole_1, qX11_isWhole_2, qX11_isWhole_3, qX11_isWhole_4, ni_add1, am_w1_i, am_w1_r, am_w1_x, am_w1_l, am_w1_w, va_rf_s, am_push_n, am_push_s, am_cs_0, am_cs_i, am_cs_l, am_cs_r, m_uI_K, m_uI_N, m_uI_R, m_uI_L, m_uI_I, m_uL_K, m_uL_N, m_uL_R, m_uL_I, m_uL_L, m_uR_K, m_uR_N, m_uR_I, m_uR_L, m_uR_R, true_and, and_true, true_implies, false_implies, not_true_eq_false, not_false_eq_true, if_true, if_false, false_and, and_false]
    rw [br_p hle]
    exact h0
  | succ m ih =>
    intro i hi hok v6
    have hlt : ¬ nI (1 + 4 * T 0) ≤ nI (1 + 4 * i) := by rw [ni_le (by omega) (by omega)]; omega
    obtain ⟨p, hp⟩ : ∃ p, p = 1 + 4 * i := ⟨_, rfl⟩
    obtain ⟨u0, a0⟩ := hT p (by omega)
    obtain ⟨u1, a1⟩ := hT (p + 1) (by omega)
    obtain ⟨u2, a2⟩ := hT (p + 2) (by omega)
    obtain ⟨u3, a3⟩ := hT (p + 3) (by omega)
    have eS : ∀ Q, am_E am_P0 (d + 1) 220 [.ref 277, .int (nI (T p))] M Q ↔ Q (some (.int (bI (T p < dN D)))) M := fun Q => by
      rw [m_isShip hD hL hM d _ Q, bI_n1 u0]
    have eH : ∀ Q, am_E am_P0 (d + 1) 219 [.int (nI (T (p + 1)))] M Q ↔ Q (some (.int (bI (T (p + 1) < 48)))) M := fun Q => by
      rw [c_m_isHour d _ M Q, bI_n2 u1]
    have eo : (48 : Int32) * nI (T p) + nI (T (p + 1)) = nI (ordT T i) := by rw [show (48 : Int32) = nI 48 from rfl, ni_mul, ni_add]; unfold ordT; rw [hp, Nat.mul_comm]
    have o1 : ordT T i < 100000 := by unfold ordT; rw [← hp]; omega
    have o2 : ordT T (i - 1) < 100000 := by
      have v0 := (hT (1 + 4 * (i - 1)) (by omega)).1
      have v1 := (hT (1 + 4 * (i - 1) + 1) (by omega)).1
      unfold ordT; omega
    have hlst := lst_lt o1 o2
    have hno : ¬ rowOK (dN D) (dC D * dR D) T i → Q (some (.int 0)) M := fun q => hF (fun w => q (w i (by omega)))
    rw [hX11_isWhole_121, ← hp]
    simp +decide (disch := omega) only [qX11_isWhole_0, qX11_isWhole_1, qX11_isWhole_2, qX11_isWhole_3, qX11_isWhole_4, lm hL, a0, a1, a2, a3, eS, eH, eC, eo, bI_0, Classical.not_not, ni_in_t, ni_tn, ni_add1, ni_a2, ni_a3, ni_a4, am_w1_i, am_w1_r, am_w1_x, am_w1_l, am_w1_w, va_rf_s, am_push_n, am_push_s, am_cs_0, am_cs_i, am_cs_l, am_cs_r, m_uI_K, m_uI_N, m_uI_R, m_uI_L, m_uI_I, m_uL_K, m_uL_N, m_uL_R, m_uL_I, m_uL_L, m_uR_K, m_uR_N, m_uR_I, m_uR_L, m_uR_R, true_and, and_true, true_implies, false_implies, not_true_eq_false, not_false_eq_true, if_true, if_false, false_and, and_false]
    rw [← hp] at hlt
    rw [br_n hlt]
    by_cases r1 : T p < dN D
    · first | rw [br_p (r1)] | rw [br_r (r1)] | rw [br_s (r1)]
      by_cases r2 : T (p + 1) < 48
      · first | rw [br_p (r2)] | rw [br_r (r2)] | rw [br_s (r2)]
        by_cases r5 : nI (ordT T i) ≤ lstI T i
        · first | rw [br_p (r5)] | rw [br_r (r5)] | rw [br_s (r5)]
          rw [ge32] at r5
          exact hno (fun q => r5 (hlst.mpr q.2.2.2.2))
        · first | rw [br_n (r5)] | rw [br_q (r5)] | rw [br_u (r5)]
          rw [ge32, Classical.not_not] at r5
          by_cases r3 : nI (dC D * dR D) ≤ nI (T (p + 2))
          · first | rw [br_p (r3)] | rw [br_r (r3)] | rw [br_s (r3)]
            rw [ni_le (by omega) (by omega)] at r3
            exact hno (fun q => by have := q.2.2.1; rw [← hp] at this; omega)
          · first | rw [br_n (r3)] | rw [br_q (r3)] | rw [br_u (r3)]
            rw [ni_le (by omega) (by omega)] at r3
            by_cases r4 : nI (T (p + 3)) ≤ (1 : Int32)
            · first | rw [br_p (r4)] | rw [br_r (r4)] | rw [br_s (r4)]
              rw [show (1 : Int32) = nI 1 from rfl, ni_le (by omega) (by omega)] at r4
              have hrow : rowOK (dN D) (dC D * dR D) T i := by unfold rowOK; rw [← hp]; exact ⟨r1, r2, by omega, by omega, hlst.mp r5⟩
              have h0 := ih (i + 1) (by omega) (fun j hj => by
                by_cases e : j = i
                · rw [e]; exact hrow
                · exact hok j (by omega)) (.int (nI (ordT T i)))
              have e1 : lstI T (i + 1) = nI (ordT T i) := by unfold lstI; rw [if_neg (by omega)]; rfl
              rw [e1, show 1 + 4 * (i + 1) = p + 4 by omega] at h0
              exact h0
            · first | rw [br_n (r4)] | rw [br_q (r4)] | rw [br_u (r4)]
              rw [show (1 : Int32) = nI 1 from rfl, ni_le (by omega) (by omega)] at r4
              exact hno (fun q => by have := q.2.2.2.1; rw [← hp] at this; omega)
      · first | rw [br_n (r2)] | rw [br_q (r2)] | rw [br_u (r2)]
        exact hno (fun q => by have := q.2.1; rw [← hp] at this; exact r2 this)
    · first | rw [br_n (r1)] | rw [br_q (r1)] | rw [br_u (r1)]
      exact hno (fun q => by have := q.1; rw [← hp] at this; exact r1 this)
theorem l_m_iw231 (d b n k : Nat) (D : Dat) (T : Nat → Nat) (M : am_M) (Q : Option Value → am_M → Prop) (hD : dOK D) (hL : Lay M) (hM : MdM M b D) (hT : TpO T M) (hk : k ≤ 385) (h40 : T k ≤ 40) (hn : n = k + 2 + 3 * T k) (x3 x4 : Int32) (v6 : Value)
    (hQ : (∀ j, j < T k → sgrOK (dC D * dR D) T k j) → Q (some (.int 1)) M) (hF : ¬ (∀ j, j < T k → sgrOK (dC D * dR D) T k j) → Q (some (.int 0)) M) :
    ∀ (m j : Nat), j + m = T k → (∀ i, i < j → sgrOK (dC D * dR D) T k i) → am_P am_P0 (d + 2) (am_look tX11_isWhole) 231 [.ref 277, .int (nI n), .int (nI k), .int x3, .int x4, .int (nI (k + 1 + 3 * j)), v6] [] M Q := by
  have hCR : dC D * dR D ≤ 16 * 16 := Nat.mul_le_mul hD.1.1.1 hD.1.1.2
  have eC := fun Q => c_m_cells (d + 1) M Q hL b (dC D) (dR D) hM.1.1 hM.1.2 hM.2.1.1 hM.2.1.2
  have em : nI n - 1 = nI (n - 1) := ni_m1 (by omega)
  intro m
  induction m with
  | zero =>
    intro j hj hok
    have hle : nI (n - 1) ≤ nI (k + 1 + 3 * j) := (ni_le (by omega) (by omega)).mpr (by omega)
    have e : j = T k := by omega
    subst e
    have h0 := hQ hok
    rw [hX11_isWhole_231]
    simp +decide (disch := omega) only [qX11_isWhole_0, qX11_isWhole_1, qX11_isWhole_2, qX11_isWhole_3, qX11_isWhole_4, em, am_w1_i, am_w1_r, am_w1_x, am_w1_l, am_w1_w, va_rf_s, am_push_n, am_push_s, am_cs_0, am_cs_i, am_cs_l, am_cs_r, m_uI_K, m_uI_N, m_uI_R, m_uI_L, m_uI_I, m_uL_K, m_uL_N, m_uL_R, m_uL_I, m_uL_L, m_uR_K, m_uR_N, m_uR_I, m_uR_L, m_uR_R, true_and, and_true, true_implies, false_implies, not_true_eq_false, not_false_eq_true, if_true, if_false, false_and, and_false]
    rw [br_p hle]
    exact h0
  | succ m ih =>
    intro j hj hok
    have hlt : ¬ nI (n - 1) ≤ nI (k + 1 + 3 * j) := by rw [ni_le (by omega) (by omega)]; omega
    obtain ⟨p, hp⟩ : ∃ p, p = k + 1 + 3 * j := ⟨_, rfl⟩
    obtain ⟨u0, a0⟩ := hT p (by omega)
    obtain ⟨u1, a1⟩ := hT (p + 1) (by omega)
    obtain ⟨u2, a2⟩ := hT (p + 2) (by omega)
    have eH : ∀ Q, am_E am_P0 (d + 1) 219 [.int (nI (T (p + 2)))] M Q ↔ Q (some (.int (bI (T (p + 2) < 48)))) M := fun Q => by
      rw [c_m_isHour d _ M Q, bI_n2 u2]
    have hno : ¬ sgrOK (dC D * dR D) T k j → Q (some (.int 0)) M := fun q => hF (fun w => q (w j (by omega)))
    rw [hX11_isWhole_231, ← hp]
    simp +decide (disch := omega) only [qX11_isWhole_0, qX11_isWhole_1, qX11_isWhole_2, qX11_isWhole_3, qX11_isWhole_4, lm hL, em, a0, a1, a2, eH, eC, bI_0, Classical.not_not, ni_in_t, ni_tn, ni_add1, ni_a2, ni_a3, am_w1_i, am_w1_r, am_w1_x, am_w1_l, am_w1_w, va_rf_s, am_push_n, am_push_s, am_cs_0, am_cs_i, am_cs_l, am_cs_r, m_uI_K, m_uI_N, m_uI_R, m_uI_L, m_uI_I, m_uL_K, m_uL_N, m_uL_R, m_uL_I, m_uL_L, m_uR_K, m_uR_N, m_uR_I, m_uR_L, m_uR_R, true_and, and_true, true_implies, false_implies, not_true_eq_false, not_false_eq_true, if_true, if_false, false_and, and_false]
    rw [← hp] at hlt
    rw [br_n hlt]
    by_cases r1 : (3 : Int32) < nI (T p)
    · first | rw [br_p (r1)] | rw [br_r (r1)] | rw [br_s (r1)]
      rw [show (3 : Int32) = nI 3 from rfl, ni_lt (by omega) (by omega)] at r1
      exact hno (fun q => by have := q.1; rw [← hp] at this; omega)
    · first | rw [br_n (r1)] | rw [br_q (r1)] | rw [br_u (r1)]
      rw [show (3 : Int32) = nI 3 from rfl, ni_lt (by omega) (by omega)] at r1
      by_cases r3 : nI (dC D * dR D) ≤ nI (T (p + 1))
      · first | rw [br_p (r3)] | rw [br_r (r3)] | rw [br_s (r3)]
        rw [ni_le (by omega) (by omega)] at r3
        exact hno (fun q => by have := q.2.1; rw [← hp] at this; omega)
      · first | rw [br_n (r3)] | rw [br_q (r3)] | rw [br_u (r3)]
        rw [ni_le (by omega) (by omega)] at r3
        by_cases r2 : T (p + 2) < 48
        · first | rw [br_p (r2)] | rw [br_r (r2)] | rw [br_s (r2)]
          have h0 := ih (j + 1) (by omega) (fun i hi => by
            by_cases e : i = j
            · rw [e]; unfold sgrOK; rw [← hp]; exact ⟨by omega, by omega, r2⟩
            · exact hok i (by omega))
          rw [show k + 1 + 3 * (j + 1) = p + 3 by omega] at h0
          exact h0
        · first | rw [br_n (r2)] | rw [br_q (r2)] | rw [br_u (r2)]
          exact hno (fun q => by have := q.2.2; rw [← hp] at this; exact r2 this)
theorem c_m_isWhole (d b n : Nat) (D : Dat) (T : Nat → Nat) (M : am_M) (Q : Option Value → am_M → Prop) (hD : dOK D) (hL : Lay M) (hM : MdM M b D) (hT : TpO T M) (hn : n ≤ 1800)
    (hY : imOK (dN D) (dC D * dR D) T n → Q (some (.int 1)) M) (hN : ¬ imOK (dN D) (dC D * dR D) T n → Q (some (.int 0)) M) : am_E am_P0 (d + 2) 301 [.ref 277, .int (nI n)] M Q := by
  obtain ⟨u0, a0⟩ := hT 0 (by omega)
  have hin : (0 : Int32).toInt.toNat = 0 := rfl
  obtain ⟨k, hk⟩ : ∃ k, k = 1 + 4 * T 0 := ⟨_, rfl⟩
  have ek : (1 : Int32) + 4 * nI (T 0) = nI k := by rw [show (1 : Int32) = nI 1 from rfl, show (4 : Int32) = nI 4 from rfl, ni_mul, ni_add, hk]
  obtain ⟨uk, ak⟩ := hT k (by omega)
  have e3 : nI k + 2 + 3 * nI (T k) = nI (k + 2 + 3 * T k) := by rw [show (2 : Int32) = nI 2 from rfl, show (3 : Int32) = nI 3 from rfl, ni_mul, ni_add, ni_add]
  rw [eX11_isWhole]
  simp +decide (disch := omega) only [qX11_isWhole_0, qX11_isWhole_1, qX11_isWhole_2, qX11_isWhole_3, qX11_isWhole_4, lm hL, a0, ek, ak, e3, hin, ni_in_t, ni_tn, am_w1_i, am_w1_r, am_w1_x, am_w1_l, am_w1_w, va_rf_s, am_push_n, am_push_s, am_cs_0, am_cs_i, am_cs_l, am_cs_r, m_uI_K, m_uI_N, m_uI_R, m_uI_L, m_uI_I, m_uL_K, m_uL_N, m_uL_R, m_uL_I, m_uL_L, m_uR_K, m_uR_N, m_uR_I, m_uR_L, m_uR_R, true_and, and_true, true_implies, false_implies, not_true_eq_false, not_false_eq_true, if_true, if_false, false_and, and_false]
  by_cases b1 : nI n < 3
  · first | rw [br_p (b1)] | rw [br_r (b1)] | rw [br_s (b1)]
    rw [show (3 : Int32) = nI 3 from rfl, ni_lt (by omega) (by omega)] at b1
    exact hN (fun q => by have := q.1.1; omega)
  · first | rw [br_n (b1)] | rw [br_q (b1)] | rw [br_u (b1)]
    rw [show (3 : Int32) = nI 3 from rfl, ni_lt (by omega) (by omega)] at b1
    have em : nI n - 1 = nI (n - 1) := ni_m1 (by omega)
    rw [em]
    by_cases b2 : nI (T 0) ≤ 96
    · first | rw [br_p (b2)] | rw [br_r (b2)] | rw [br_s (b2)]
      rw [show (96 : Int32) = nI 96 from rfl, ni_le (by omega) (by omega)] at b2
      by_cases b3 : nI (n - 1) ≤ nI k
      · first | rw [br_p (b3)] | rw [br_r (b3)] | rw [br_s (b3)]
        rw [ni_le (by omega) (by omega)] at b3
        exact hN (fun q => by have h1 := q.2.1.1; have h2 := q.2.1.2.2; omega)
      · first | rw [br_n (b3)] | rw [br_q (b3)] | rw [br_u (b3)]
        rw [ni_le (by omega) (by omega)] at b3
        by_cases b4 : (40 : Int32) < nI (T k)
        · first | rw [br_p (b4)] | rw [br_r (b4)] | rw [br_s (b4)]
          rw [show (40 : Int32) = nI 40 from rfl, ni_lt (by omega) (by omega)] at b4
          exact hN (fun q => by have := q.2.1.2.1; rw [← hk] at this; omega)
        · first | rw [br_n (b4)] | rw [br_q (b4)] | rw [br_u (b4)]
          rw [show (40 : Int32) = nI 40 from rfl, ni_lt (by omega) (by omega)] at b4
          by_cases b5 : nI n = nI (k + 2 + 3 * T k)
          · first | rw [br_p (b5)] | rw [br_r (b5)] | rw [br_s (b5)]
            rw [ni_eq (by omega) (by omega)] at b5
            refine l_m_iw71 d n k T M Q hL hT hn (by omega) (fun b6 x3 => ?_) (fun b6 => hN (fun q => b6 q.2.2.1)) (n - 1) 0 29 (by omega) (by omega) rfl
            have h0 := l_m_iw121 d b n D T M Q hD hL hM hT b2 x3 (fun hrows x4 v6 => by
              rw [← hk]
              exact l_m_iw231 d b n k D T M Q hD hL hM hT (by omega) (by omega) b5 x3 x4 v6 (fun hsg => hY (by unfold imOK; rw [← hk]; exact ⟨⟨by omega, b2⟩, ⟨by omega, by omega, b5⟩, b6, hrows, hsg⟩)) (fun hsg => hN (fun q => hsg (by have := q.2.2.2.2; rw [← hk] at this; exact this))) (T k) 0 (by omega) (fun i hi => by omega)) (fun hrows => hN (fun q => hrows q.2.2.2.1)) (T 0) 0 (by omega) (fun j hj => by omega) am_x
            rw [← hk] at h0
            exact h0
          · first | rw [br_n (b5)] | rw [br_q (b5)] | rw [br_u (b5)]
            rw [ni_eq (by omega) (by omega)] at b5
            exact hN (fun q => b5 (by have := q.2.1.2.2; rw [← hk] at this; exact this))
    · first | rw [br_n (b2)] | rw [br_q (b2)] | rw [br_u (b2)]
      rw [show (96 : Int32) = nI 96 from rfl, ni_le (by omega) (by omega)] at b2
      exact hN (fun q => b2 q.1.2)
