/-! on: what an image is; the class finds it good -/
theorem ni_a2 (n : Nat) : nI n + 2 = nI (n + 2) := ni_add n 2
theorem ni_a3 (n : Nat) : nI n + 3 = nI (n + 3) := ni_add n 3
theorem ni_a4 (n : Nat) : nI n + 4 = nI (n + 4) := ni_add n 4
theorem ni_m1 {n : Nat} (h : 1 ≤ n) : nI n - 1 = nI (n - 1) := by rw [show (1 : Int32) = nI 1 from rfl, ni_sub h]
def ordT (T : Nat → Nat) (i : Nat) : Nat := T (1 + 4 * i) * 48 + T (1 + 4 * i + 1)
def lstI (T : Nat → Nat) (i : Nat) : Int32 := if i = 0 then -1 else nI (ordT T (i - 1))
def rowOK (N CR : Nat) (T : Nat → Nat) (i : Nat) : Prop := T (1 + 4 * i) < N ∧ T (1 + 4 * i + 1) < 48 ∧ T (1 + 4 * i + 2) < CR ∧ T (1 + 4 * i + 3) ≤ 1 ∧ (i = 0 ∨ ordT T (i - 1) < ordT T i)
def sgrOK (CR : Nat) (T : Nat → Nat) (k j : Nat) : Prop := T (k + 1 + 3 * j) ≤ 3 ∧ T (k + 1 + 3 * j + 1) < CR ∧ T (k + 1 + 3 * j + 2) < 48
def tpL (T : Nat → Nat) (n : Nat) : List Nat := (List.range n).map T
theorem tpL_len (T : Nat → Nat) (n : Nat) : (tpL T n).length = n := by unfold tpL; rw [List.length_map, List.length_range]
theorem tpL_at {T : Nat → Nat} {n j v : Nat} (h : (tpL T n)[j]? = some v) : j < n ∧ v = T j := by
  have hl := (List.getElem?_eq_some_iff.mp h).1
  rw [tpL_len] at hl
  unfold tpL at h
  rw [List.getElem?_map, List.getElem?_range hl] at h
  cases h
  exact ⟨hl, rfl⟩
def imOK (N CR : Nat) (T : Nat → Nat) (n : Nat) : Prop := (3 ≤ n ∧ T 0 ≤ 96) ∧ (1 + 4 * T 0 < n ∧ T (1 + 4 * T 0) ≤ 40 ∧ n = 1 + 4 * T 0 + 2 + 3 * T (1 + 4 * T 0)) ∧ T (n - 1) = ckS (tpL T (n - 1)) 29 ∧ (∀ i, i < T 0 → rowOK N CR T i) ∧ ∀ j, j < T (1 + 4 * T 0) → sgrOK CR T (1 + 4 * T 0) j
theorem lst_lt {T : Nat → Nat} {i : Nat} (h : ordT T i < 100000) (h2 : ordT T (i - 1) < 100000) : lstI T i < nI (ordT T i) ↔ (i = 0 ∨ ordT T (i - 1) < ordT T i) := by
  unfold lstI
  by_cases c : i = 0
  · rw [if_pos c, lt32, ni_ti (by omega), show (-1 : Int32).toInt = -1 from rfl]
    exact ⟨fun _ => Or.inl c, fun _ => by omega⟩
  · rw [if_neg c, ni_lt (by omega) (by omega)]
    exact ⟨fun q => Or.inr q, fun q => by omega⟩
theorem c_x_placeOf (d v z C R : Nat) (M : am_M) (Q : Option Value → am_M → Prop) (hL : Lay M) (hz : z = 2 ∨ z = 83) (h0 : mI M z 0 = nI C) (h1 : mI M z 1 = nI R) (hC : C ≤ 16) (hR : R ≤ 16) (hv : v < 256) : am_E am_P0 d 57 [.ref z, .int (nI v)] M Q ↔ Q (some (.int (if v < C * R then nI (plc C v) else -1))) M := by
  have hCR : C * R ≤ 16 * 16 := Nat.mul_le_mul hC hR
  rw [eX5_placeOf]
  by_cases c0 : C = 0
  · subst c0
    have h0' : mI M z 0 = 0 := h0
    rw [if_neg (by omega)]
    simp +decide (disch := omega) only [qX5_placeOf, lz hL hz, h0', am_w1_i, am_w1_r, am_w1_x, am_w1_l, am_w1_w, va_rf_s, am_push_n, am_push_s, am_cs_0, am_cs_i, am_cs_l, am_cs_r, m_uI_K, m_uI_N, m_uI_R, m_uI_L, m_uI_I, m_uL_K, m_uL_N, m_uL_R, m_uL_I, m_uL_L, m_uR_K, m_uR_N, m_uR_I, m_uR_L, m_uR_R, true_and, and_true, true_implies, false_implies, not_true_eq_false, not_false_eq_true, if_true, if_false, false_and, and_false]
  · have hc0 : ¬ nI C = 0 := fun q => c0 ((ni_eq (b := 0) (by omega) (by omega)).mp q)
    have hv0 : ¬ nI v < 0 := by rw [show (0 : Int32) = nI 0 from rfl, ni_lt (by omega) (by omega)]; omega
    have em : nI C * nI R = nI (C * R) := ni_mul C R
    by_cases c1 : v < C * R
    · have c1' : nI v < nI (C * R) := (ni_lt (by omega) (by omega)).mpr c1
      rw [if_pos c1]
      have ed : nI v / nI C = nI (v / C) := ni_div (by omega) (by omega)
      have er : nI v - nI (v / C) * nI C = nI (v % C) := by
        rw [ni_mul, ni_sub (Nat.div_mul_le_self v C)]
        congr 1
        have := Nat.div_add_mod v C
        rw [Nat.mul_comm] at this
        omega
      have ep : nI (v / C) * 16 + nI (v % C) = nI (plc C v) := by
        rw [show (16 : Int32) = nI 16 from rfl, ni_mul, ni_add, Nat.mul_comm]; rfl
      simp +decide (disch := omega) only [qX5_placeOf, lz hL hz, h0, h1, hc0, em, ed, er, ep, am_w1_i, am_w1_r, am_w1_x, am_w1_l, am_w1_w, va_rf_s, am_push_n, am_push_s, am_cs_0, am_cs_i, am_cs_l, am_cs_r, m_uI_K, m_uI_N, m_uI_R, m_uI_L, m_uI_I, m_uL_K, m_uL_N, m_uL_R, m_uL_I, m_uL_L, m_uR_K, m_uR_N, m_uR_I, m_uR_L, m_uR_R, true_and, and_true, true_implies, false_implies, not_true_eq_false, not_false_eq_true, if_true, if_false, false_and, and_false]
      rw [br_n hv0]
      first | rw [br_p (c1')] | rw [br_r (c1')] | rw [br_s (c1')]
    · have c1' : ¬ nI v < nI (C * R) := by rw [ni_lt (by omega) (by omega)]; exact c1
      rw [if_neg c1]
      simp +decide (disch := omega) only [qX5_placeOf, lz hL hz, h0, h1, hc0, em, am_w1_i, am_w1_r, am_w1_x, am_w1_l, am_w1_w, va_rf_s, am_push_n, am_push_s, am_cs_0, am_cs_i, am_cs_l, am_cs_r, m_uI_K, m_uI_N, m_uI_R, m_uI_L, m_uI_I, m_uL_K, m_uL_N, m_uL_R, m_uL_I, m_uL_L, m_uR_K, m_uR_N, m_uR_I, m_uR_L, m_uR_R, true_and, and_true, true_implies, false_implies, not_true_eq_false, not_false_eq_true, if_true, if_false, false_and, and_false]
      rw [br_n hv0]
      first | rw [br_n (c1')] | rw [br_q (c1')] | rw [br_u (c1')]
theorem x_plcOf {M : am_M} {z : Nat} {D : Dat} (hD : dOK D) (h : XR M z D) (d v : Nat) (Q : Option Value → am_M → Prop) (hv : v < 256) : am_E am_P0 d 57 [.ref z, .int (nI v)] M Q ↔ Q (some (.int (if v < dC D * dR D then nI (plc (dC D) v) else -1))) M := c_x_placeOf d v z (dC D) (dR D) M Q h.1.1 h.1.2.2.1 (x_n h).2.1 (x_n h).2.2.1 hD.1.1.1 hD.1.1.2 hv
theorem bI_n1 {t N : Nat} (ht : t < 256) : bI (0 ≤ (nI t).toInt ∧ (nI t).toInt < (N : Int)) = bI (t < N) := bI_c (by rw [ni_ti (by omega)]; omega)
theorem bI_n2 {t : Nat} (ht : t < 256) : bI (0 ≤ (nI t).toInt ∧ (nI t).toInt < 48) = bI (t < 48) := bI_c (by rw [ni_ti (by omega)]; omega)
def TpT (T : Nat → Nat) (M : am_M) : Prop := ∀ j, j < 1800 → T j < 256 ∧ mI M 1 j = nI (T j)
theorem l_x_im91 (d z n : Nat) (D : Dat) (T : Nat → Nat) (M : am_M) (Q : Option Value → am_M → Prop) (hD : dOK D) (hX : XR M z D) (hT : TpT T M) (h96 : T 0 ≤ 96)
    (hQ : (∀ i, i < T 0 → rowOK (dN D) (dC D * dR D) T i) → ∀ x3 v5, am_P am_P0 (d + 1) (am_look tX10_isImage) 203 [.ref 0, .int (nI n), .int (nI (1 + 4 * T 0)), .int x3, .int (nI (1 + 4 * T 0 + 1)), v5] [] M Q) (hF : ¬ (∀ i, i < T 0 → rowOK (dN D) (dC D * dR D) T i) → Q (some (.int 0)) M) :
    ∀ (m i : Nat), i + m = T 0 → (∀ j, j < i → rowOK (dN D) (dC D * dR D) T j) → ∀ v5, am_P am_P0 (d + 1) (am_look tX10_isImage) 91 [.ref 0, .int (nI n), .int (nI (1 + 4 * T 0)), .int (lstI T i), .int (nI (1 + 4 * i)), v5] [] M Q := by
  have hz := hX.1.2.2.1
  have hL := hX.1.1
  have hr := hX.1.2.2.2.1
  have n8 := dN_8 hD
  intro m
  induction m with
  | zero =>
    intro i hi hok v5
    have e : i = T 0 := by omega
    subst e
    have hle : nI (1 + 4 * T 0) ≤ nI (1 + 4 * T 0) := (ni_le (by omega) (by omega)).mpr (Nat.le_refl _)
    have h0 := hQ hok (lstI T (T 0)) v5
    rw [hX10_isImage_91]
    simp +decide (disch := omega) only [qX10_isImage_0, qX10_isImage_1, qX10_isImage_2, qX10_isImage_3, ni_add1, am_w1_i, am_w1_r, am_w1_x, am_w1_l, am_w1_w, va_rf_s, am_push_n, am_push_s, am_cs_0, am_cs_i, am_cs_l, am_cs_r, m_uI_K, m_uI_N, m_uI_R, m_uI_L, m_uI_I, m_uL_K, m_uL_N, m_uL_R, m_uL_I, m_uL_L, m_uR_K, m_uR_N, m_uR_I, m_uR_L, m_uR_R, true_and, and_true, true_implies, false_implies, not_true_eq_false, not_false_eq_true, if_true, if_false, false_and, and_false]
    rw [br_p hle]
    exact h0
  | succ m ih =>
    intro i hi hok v5
    have hlt : ¬ nI (1 + 4 * T 0) ≤ nI (1 + 4 * i) := by rw [ni_le (by omega) (by omega)]; omega
    obtain ⟨p, hp⟩ : ∃ p, p = 1 + 4 * i := ⟨_, rfl⟩
    obtain ⟨u0, a0⟩ := hT p (by omega)
    obtain ⟨u1, a1⟩ := hT (p + 1) (by omega)
    obtain ⟨u2, a2⟩ := hT (p + 2) (by omega)
    obtain ⟨u3, a3⟩ := hT (p + 3) (by omega)
    have eS : ∀ Q, am_E am_P0 d 150 [.ref 0, .int (nI (T p))] M Q ↔ Q (some (.int (bI (T p < dN D)))) M := fun Q => by
      rw [x_isShip hD hX d _ Q, bI_n1 u0]
    have eH : ∀ Q, am_E am_P0 d 149 [.int (nI (T (p + 1)))] M Q ↔ Q (some (.int (bI (T (p + 1) < 48)))) M := fun Q => by
      rw [c_x_isHour d _ M Q, bI_n2 u1]
    have eP := fun Q => x_plcOf hD hX d (T (p + 2)) Q u2
    have eo : nI (T p) * 48 + nI (T (p + 1)) = nI (ordT T i) := by rw [show (48 : Int32) = nI 48 from rfl, ni_mul, ni_add]; unfold ordT; rw [hp]
    have o1 : ordT T i < 100000 := by unfold ordT; rw [← hp]; omega
    have o2 : ordT T (i - 1) < 100000 := by
      have v0 := (hT (1 + 4 * (i - 1)) (by omega)).1
      have v1 := (hT (1 + 4 * (i - 1) + 1) (by omega)).1
      unfold ordT; omega
    have hlst := lst_lt o1 o2
    have hno : ¬ rowOK (dN D) (dC D * dR D) T i → Q (some (.int 0)) M := fun q => hF (fun w => q (w i (by omega)))
    rw [hX10_isImage_91, ← hp]
    simp +decide (disch := omega) only [qX10_isImage_0, qX10_isImage_1, qX10_isImage_2, qX10_isImage_3, lx hL, lz hL hz, hr, a0, a1, a2, a3, eS, eH, eP, eo, bI_0, Classical.not_not, ni_in_t, ni_tn, ni_add1, ni_a2, ni_a3, ni_a4, am_w1_i, am_w1_r, am_w1_x, am_w1_l, am_w1_w, va_rf_s, am_push_n, am_push_s, am_cs_0, am_cs_i, am_cs_l, am_cs_r, m_uI_K, m_uI_N, m_uI_R, m_uI_L, m_uI_I, m_uL_K, m_uL_N, m_uL_R, m_uL_I, m_uL_L, m_uR_K, m_uR_N, m_uR_I, m_uR_L, m_uR_R, true_and, and_true, true_implies, false_implies, not_true_eq_false, not_false_eq_true, if_true, if_false, false_and, and_false]
    rw [← hp] at hlt
    rw [br_n hlt]
    by_cases r1 : T p < dN D
    · first | rw [br_p (r1)] | rw [br_r (r1)] | rw [br_s (r1)]
      by_cases r2 : T (p + 1) < 48
      · first | rw [br_p (r2)] | rw [br_r (r2)] | rw [br_s (r2)]
        by_cases r3 : T (p + 2) < dC D * dR D
        · rw [if_pos r3]
          have hne : ¬ nI (plc (dC D) (T (p + 2))) = -1 := nI_m1 (by
            have hC1 : 1 ≤ dC D := by
              rcases Nat.eq_zero_or_pos (dC D) with q | q
              · rw [q] at r3; omega
              · exact q
            have := (cel_lt hD.1.1.1 hD.1.1.2 (plc_v (R := dR D) hD.1.1.1 hC1 r3).1).2.2
            omega)
          first | rw [br_n (hne)] | rw [br_q (hne)] | rw [br_u (hne)]
          by_cases r4 : (1 : Int32) < nI (T (p + 3))
          · first | rw [br_p (r4)] | rw [br_r (r4)] | rw [br_s (r4)]
            rw [show (1 : Int32) = nI 1 from rfl, ni_lt (by omega) (by omega)] at r4
            exact hno (fun q => by have := q.2.2.2.1; rw [← hp] at this; omega)
          · first | rw [br_n (r4)] | rw [br_q (r4)] | rw [br_u (r4)]
            rw [show (1 : Int32) = nI 1 from rfl, ni_lt (by omega) (by omega)] at r4
            by_cases r5 : lstI T i < nI (ordT T i)
            · first | rw [br_p (r5)] | rw [br_r (r5)] | rw [br_s (r5)]
              have hrow : rowOK (dN D) (dC D * dR D) T i := by unfold rowOK; rw [← hp]; exact ⟨r1, r2, r3, by omega, hlst.mp r5⟩
              have h0 := ih (i + 1) (by omega) (fun j hj => by
                by_cases e : j = i
                · rw [e]; exact hrow
                · exact hok j (by omega)) (.int (nI (ordT T i)))
              have e1 : lstI T (i + 1) = nI (ordT T i) := by unfold lstI; rw [if_neg (by omega)]; rfl
              rw [e1, show 1 + 4 * (i + 1) = p + 4 by omega] at h0
              exact h0
            · first | rw [br_n (r5)] | rw [br_q (r5)] | rw [br_u (r5)]
              exact hno (fun q => r5 (hlst.mpr q.2.2.2.2))
        · rw [if_neg r3]
          simp +decide only [am_w1_i, am_w1_r, am_w1_x, am_w1_l, am_w1_w, va_rf_s, am_push_n, am_push_s, am_cs_0, am_cs_i, am_cs_l, am_cs_r, m_uI_K, m_uI_N, m_uI_R, m_uI_L, m_uI_I, m_uL_K, m_uL_N, m_uL_R, m_uL_I, m_uL_L, m_uR_K, m_uR_N, m_uR_I, m_uR_L, m_uR_R, true_and, and_true, true_implies, false_implies, not_true_eq_false, not_false_eq_true, if_true, if_false, false_and, and_false]
          exact hno (fun q => by have := q.2.2.1; rw [← hp] at this; exact r3 this)
      · first | rw [br_n (r2)] | rw [br_q (r2)] | rw [br_u (r2)]
        exact hno (fun q => by have := q.2.1; rw [← hp] at this; exact r2 this)
    · first | rw [br_n (r1)] | rw [br_q (r1)] | rw [br_u (r1)]
      exact hno (fun q => by have := q.1; rw [← hp] at this; exact r1 this)
theorem pl_n1 {D : Dat} (hD : dOK D) {c : Nat} (h : c < dC D * dR D) : 1 ≤ dC D ∧ vld (dC D) (dR D) (plc (dC D) c) ∧ cel (dC D) (plc (dC D) c) = c ∧ plc (dC D) c < 256 ∧ ¬ nI (plc (dC D) c) = -1 := by
  have hC1 : 1 ≤ dC D := by
    rcases Nat.eq_zero_or_pos (dC D) with q | q
    · rw [q] at h; omega
    · exact q
  have h1 := plc_v (R := dR D) hD.1.1.1 hC1 h
  have h2 := (cel_lt hD.1.1.1 hD.1.1.2 h1.1).2.2
  exact ⟨hC1, h1.1, h1.2, h2, nI_m1 (by omega)⟩
theorem l_x_im203 (d z n k : Nat) (D : Dat) (T : Nat → Nat) (M : am_M) (Q : Option Value → am_M → Prop) (hD : dOK D) (hX : XR M z D) (hT : TpT T M) (hk : k ≤ 385) (h40 : T k ≤ 40) (hn : n = k + 2 + 3 * T k) (x3 : Int32) (v5 : Value)
    (hQ : (∀ j, j < T k → sgrOK (dC D * dR D) T k j) → Q (some (.int 1)) M) (hF : ¬ (∀ j, j < T k → sgrOK (dC D * dR D) T k j) → Q (some (.int 0)) M) :
    ∀ (m j : Nat), j + m = T k → (∀ i, i < j → sgrOK (dC D * dR D) T k i) → am_P am_P0 (d + 1) (am_look tX10_isImage) 203 [.ref 0, .int (nI n), .int (nI k), .int x3, .int (nI (k + 1 + 3 * j)), v5] [] M Q := by
  have hz := hX.1.2.2.1
  have hL := hX.1.1
  have hr := hX.1.2.2.2.1
  have em : nI n - 1 = nI (n - 1) := ni_m1 (by omega)
  intro m
  induction m with
  | zero =>
    intro j hj hok
    have hle : nI (n - 1) ≤ nI (k + 1 + 3 * j) := (ni_le (by omega) (by omega)).mpr (by omega)
    have e : j = T k := by omega
    subst e
    have h0 := hQ hok
    rw [hX10_isImage_203]
    simp +decide (disch := omega) only [qX10_isImage_0, qX10_isImage_1, qX10_isImage_2, qX10_isImage_3, em, am_w1_i, am_w1_r, am_w1_x, am_w1_l, am_w1_w, va_rf_s, am_push_n, am_push_s, am_cs_0, am_cs_i, am_cs_l, am_cs_r, m_uI_K, m_uI_N, m_uI_R, m_uI_L, m_uI_I, m_uL_K, m_uL_N, m_uL_R, m_uL_I, m_uL_L, m_uR_K, m_uR_N, m_uR_I, m_uR_L, m_uR_R, true_and, and_true, true_implies, false_implies, not_true_eq_false, not_false_eq_true, if_true, if_false, false_and, and_false]
    rw [br_p hle]
    exact h0
  | succ m ih =>
    intro j hj hok
    have hlt : ¬ nI (n - 1) ≤ nI (k + 1 + 3 * j) := by rw [ni_le (by omega) (by omega)]; omega
    obtain ⟨p, hp⟩ : ∃ p, p = k + 1 + 3 * j := ⟨_, rfl⟩
    obtain ⟨u0, a0⟩ := hT p (by omega)
    obtain ⟨u1, a1⟩ := hT (p + 1) (by omega)
    obtain ⟨u2, a2⟩ := hT (p + 2) (by omega)
    have eH : ∀ Q, am_E am_P0 d 149 [.int (nI (T (p + 2)))] M Q ↔ Q (some (.int (bI (T (p + 2) < 48)))) M := fun Q => by
      rw [c_x_isHour d _ M Q, bI_n2 u2]
    have eP := fun Q => x_plcOf hD hX d (T (p + 1)) Q u1
    have hno : ¬ sgrOK (dC D * dR D) T k j → Q (some (.int 0)) M := fun q => hF (fun w => q (w j (by omega)))
    rw [hX10_isImage_203, ← hp]
    simp +decide (disch := omega) only [qX10_isImage_0, qX10_isImage_1, qX10_isImage_2, qX10_isImage_3, lx hL, lz hL hz, hr, em, a0, a1, a2, eH, eP, bI_0, Classical.not_not, ni_in_t, ni_tn, ni_add1, ni_a2, ni_a3, am_w1_i, am_w1_r, am_w1_x, am_w1_l, am_w1_w, va_rf_s, am_push_n, am_push_s, am_cs_0, am_cs_i, am_cs_l, am_cs_r, m_uI_K, m_uI_N, m_uI_R, m_uI_L, m_uI_I, m_uL_K, m_uL_N, m_uL_R, m_uL_I, m_uL_L, m_uR_K, m_uR_N, m_uR_I, m_uR_L, m_uR_R, true_and, and_true, true_implies, false_implies, not_true_eq_false, not_false_eq_true, if_true, if_false, false_and, and_false]
    rw [← hp] at hlt
    rw [br_n hlt]
    by_cases r1 : (4 : Int32) ≤ nI (T p)
    · first | rw [br_p (r1)] | rw [br_r (r1)] | rw [br_s (r1)]
      rw [show (4 : Int32) = nI 4 from rfl, ni_le (by omega) (by omega)] at r1
      exact hno (fun q => by have := q.1; rw [← hp] at this; omega)
    · first | rw [br_n (r1)] | rw [br_q (r1)] | rw [br_u (r1)]
      rw [show (4 : Int32) = nI 4 from rfl, ni_le (by omega) (by omega)] at r1
      by_cases r3 : T (p + 1) < dC D * dR D
      · rw [if_pos r3]
        have hne := (pl_n1 hD r3).2.2.2.2
        first | rw [br_n (hne)] | rw [br_q (hne)] | rw [br_u (hne)]
        by_cases r2 : T (p + 2) < 48
        · first | rw [br_p (r2)] | rw [br_r (r2)] | rw [br_s (r2)]
          have h0 := ih (j + 1) (by omega) (fun i hi => by
            by_cases e : i = j
            · rw [e]; unfold sgrOK; rw [← hp]; exact ⟨by omega, r3, r2⟩
            · exact hok i (by omega))
          rw [show k + 1 + 3 * (j + 1) = p + 3 by omega] at h0
          exact h0
        · first | rw [br_n (r2)] | rw [br_q (r2)] | rw [br_u (r2)]
          exact hno (fun q => by have := q.2.2; rw [← hp] at this; exact r2 this)
      · rw [if_neg r3]
        simp +decide only [am_w1_i, am_w1_r, am_w1_x, am_w1_l, am_w1_w, va_rf_s, am_push_n, am_push_s, am_cs_0, am_cs_i, am_cs_l, am_cs_r, m_uI_K, m_uI_N, m_uI_R, m_uI_L, m_uI_I, m_uL_K, m_uL_N, m_uL_R, m_uL_I, m_uL_L, m_uR_K, m_uR_N, m_uR_I, m_uR_L, m_uR_R, true_and, and_true, true_implies, false_implies, not_true_eq_false, not_false_eq_true, if_true, if_false, false_and, and_false]
        exact hno (fun q => by have := q.2.1; rw [← hp] at this; exact r3 this)
theorem c_x_isImage (d z n : Nat) (D : Dat) (T : Nat → Nat) (M : am_M) (Q : Option Value → am_M → Prop) (hD : dOK D) (hX : XR M z D) (hT : TpT T M) (hn : n ≤ 1800)
    (hY : imOK (dN D) (dC D * dR D) T n → Q (some (.int 1)) M) (hN : ¬ imOK (dN D) (dC D * dR D) T n → Q (some (.int 0)) M) : am_E am_P0 (d + 1) 164 [.ref 0, .int (nI n)] M Q := by
  have hL := hX.1.1
  obtain ⟨u0, a0⟩ := hT 0 (by omega)
  have hin : (0 : Int32).toInt.toNat = 0 := rfl
  obtain ⟨k, hk⟩ : ∃ k, k = 1 + 4 * T 0 := ⟨_, rfl⟩
  have ek : (1 : Int32) + 4 * nI (T 0) = nI k := by rw [show (1 : Int32) = nI 1 from rfl, show (4 : Int32) = nI 4 from rfl, ni_mul, ni_add, hk]
  obtain ⟨uk, ak⟩ := hT k (by omega)
  have e3 : nI k + 1 + 3 * nI (T k) + 1 = nI (k + 2 + 3 * T k) := by rw [show (1 : Int32) = nI 1 from rfl, show (3 : Int32) = nI 3 from rfl, ni_mul, ni_add, ni_add, ni_add]; congr 1; omega
  rw [eX10_isImage]
  simp +decide (disch := omega) only [qX10_isImage_0, qX10_isImage_1, qX10_isImage_2, qX10_isImage_3, lx hL, a0, ek, ak, hin, ni_in_t, ni_tn, am_w1_i, am_w1_r, am_w1_x, am_w1_l, am_w1_w, va_rf_s, am_push_n, am_push_s, am_cs_0, am_cs_i, am_cs_l, am_cs_r, m_uI_K, m_uI_N, m_uI_R, m_uI_L, m_uI_I, m_uL_K, m_uL_N, m_uL_R, m_uL_I, m_uL_L, m_uR_K, m_uR_N, m_uR_I, m_uR_L, m_uR_R, true_and, and_true, true_implies, false_implies, not_true_eq_false, not_false_eq_true, if_true, if_false, false_and, and_false]
  by_cases b1 : nI n < 3
  · first | rw [br_p (b1)] | rw [br_r (b1)] | rw [br_s (b1)]
    rw [show (3 : Int32) = nI 3 from rfl, ni_lt (by omega) (by omega)] at b1
    exact hN (fun q => by have := q.1.1; omega)
  · first | rw [br_n (b1)] | rw [br_q (b1)] | rw [br_u (b1)]
    rw [show (3 : Int32) = nI 3 from rfl, ni_lt (by omega) (by omega)] at b1
    by_cases b2 : nI (T 0) ≤ 96
    · first | rw [br_p (b2)] | rw [br_r (b2)] | rw [br_s (b2)]
      rw [show (96 : Int32) = nI 96 from rfl, ni_le (by omega) (by omega)] at b2
      by_cases b3 : nI n ≤ nI k
      · first | rw [br_p (b3)] | rw [br_r (b3)] | rw [br_s (b3)]
        rw [ni_le (by omega) (by omega)] at b3
        exact hN (fun q => by have := q.2.1.1; omega)
      · first | rw [br_n (b3)] | rw [br_q (b3)] | rw [br_u (b3)]
        rw [ni_le (by omega) (by omega)] at b3
        by_cases b4 : (40 : Int32) < nI (T k)
        · first | rw [br_p (b4)] | rw [br_r (b4)] | rw [br_s (b4)]
          rw [show (40 : Int32) = nI 40 from rfl, ni_lt (by omega) (by omega)] at b4
          exact hN (fun q => by have := q.2.1.2.1; rw [← hk] at this; omega)
        · first | rw [br_n (b4)] | rw [br_q (b4)] | rw [br_u (b4)]
          rw [show (40 : Int32) = nI 40 from rfl, ni_lt (by omega) (by omega)] at b4
          have em : nI n - 1 = nI (n - 1) := ni_m1 (by omega)
          obtain ⟨ue, ae⟩ := hT (n - 1) (by omega)
          have eK := fun Q => c_x_check d 1 (n - 1) 1800 (tpL T (n - 1)) M Q (by simp only [lx hL]) (by simp only [lx hL]) (by omega) (by omega) (tpL_len T (n - 1)) (fun j v hv => by
            obtain ⟨q1, q2⟩ := tpL_at hv
            rw [q2]; exact hT j (by omega))
          have ck241 := ckS_lt (tpL T (n - 1)) 29 (by omega)
          simp +decide (disch := omega) only [qX10_isImage_0, qX10_isImage_1, qX10_isImage_2, qX10_isImage_3, lx hL, e3, em, ae, eK, Classical.not_not, ni_in_t, ni_tn, am_w1_i, am_w1_r, am_w1_x, am_w1_l, am_w1_w, va_rf_s, am_push_n, am_push_s, am_cs_0, am_cs_i, am_cs_l, am_cs_r, m_uI_K, m_uI_N, m_uI_R, m_uI_L, m_uI_I, m_uL_K, m_uL_N, m_uL_R, m_uL_I, m_uL_L, m_uR_K, m_uR_N, m_uR_I, m_uR_L, m_uR_R, true_and, and_true, true_implies, false_implies, not_true_eq_false, not_false_eq_true, if_true, if_false, false_and, and_false]
          by_cases b5 : nI n = nI (k + 2 + 3 * T k)
          · first | rw [br_p (b5)] | rw [br_r (b5)] | rw [br_s (b5)]
            rw [ni_eq (by omega) (by omega)] at b5
            by_cases b6 : nI (T (n - 1)) = nI (ckS (tpL T (n - 1)) 29)
            · first | rw [br_p (b6)] | rw [br_r (b6)] | rw [br_s (b6)]
              rw [ni_eq (by omega) (by omega)] at b6
              have h0 := l_x_im91 d z n D T M Q hD hX hT b2 (fun hrows x3 v5 => by
                rw [← hk]
                exact l_x_im203 d z n k D T M Q hD hX hT (by omega) (by omega) b5 x3 v5 (fun hsg => hY (by unfold imOK; rw [← hk]; exact ⟨⟨by omega, b2⟩, ⟨by omega, by omega, b5⟩, b6, hrows, hsg⟩)) (fun hsg => hN (fun q => hsg (by have := q.2.2.2.2; rw [← hk] at this; exact this))) (T k) 0 (by omega) (fun i hi => by omega)) (fun hrows => hN (fun q => hrows q.2.2.2.1)) (T 0) 0 (by omega) (fun j hj => by omega) am_x
              rw [← hk] at h0
              exact h0
            · first | rw [br_n (b6)] | rw [br_q (b6)] | rw [br_u (b6)]
              rw [ni_eq (by omega) (by omega)] at b6
              exact hN (fun q => b6 q.2.2.1)
          · first | rw [br_n (b5)] | rw [br_q (b5)] | rw [br_u (b5)]
            rw [ni_eq (by omega) (by omega)] at b5
            exact hN (fun q => b5 (by have := q.2.1.2.2; rw [← hk] at this; exact this))
    · first | rw [br_n (b2)] | rw [br_q (b2)] | rw [br_u (b2)]
      rw [show (96 : Int32) = nI 96 from rfl, ni_le (by omega) (by omega)] at b2
      exact hN (fun q => b2 q.1.2)
