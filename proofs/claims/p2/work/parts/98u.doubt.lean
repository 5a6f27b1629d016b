/-! strange, doubted -/
def d0 : Nat × Nat × Nat := (0, 0, 0)
def sgD (D : Dat) (i : Nat) : Nat × Nat × Nat := (dSg D).getD i d0
theorem sgD_at {D : Dat} {i : Nat} (h : i < (dSg D).length) : (dSg D)[i]? = some (sgD D i) := by
  unfold sgD
  rw [List.getD_eq_getElem?_getD, List.getElem?_eq_getElem h]
  rfl
noncomputable def snN (D : Dat) : Nat → Nat := cnt (fun i => dB (exI D (sgD D i) = 0))
noncomputable def aStr (D : Dat) : Value := .int (nI (snN D (dSg D).length))
theorem l_x_strange (d z : Nat) (D : Dat) (M0 : am_M) (Q : Option Value → am_M → Prop) (hD : dOK D) (hQ : ∀ M', zF (sXq z) M0 M' → XR M' z D → Q (some (.int (nI (snN D (dSg D).length)))) M') :
    ∀ (m i : Nat), i + m = (dSg D).length → ∀ (M : am_M), zF (sXq z) M0 M → XR M z D → am_P am_P0 (d + 7) (am_look tX10_strange) 4 [.ref 0, .int (nI (snN D i)), .int (nI i)] [] M Q := by
  have h40 := hD.1.2.2.2.2.2.2.2.1.1
  intro m
  induction m with
  | zero =>
    intro i hi M hM h
    have hz := h.1.2.2.1
    have hL := h.1.1
    have hr := h.1.2.2.2.1
    have hle : nI (dSg D).length ≤ nI i := (ni_le (by omega) (by omega)).mpr (by omega)
    have h0 := hQ M hM h
    rw [hX10_strange_4]
    simp +decide only [qX10_strange, lx hL, lz hL hz, hr, (x_sg h).1, am_w1_i, am_w1_r, am_w1_x, am_w1_l, am_w1_w, va_rf_s, am_push_n, am_push_s, am_cs_0, am_cs_i, am_cs_l, am_cs_r, m_uI_K, m_uI_N, m_uI_R, m_uI_L, m_uI_I, m_uL_K, m_uL_N, m_uL_R, m_uL_I, m_uL_L, m_uR_K, m_uR_N, m_uR_I, m_uR_L, m_uR_R, true_and, and_true, true_implies, false_implies, not_true_eq_false, not_false_eq_true, if_true, if_false, false_and, and_false]
    first | rw [br_p (hle)] | rw [br_r (hle)] | rw [br_s (hle)]
    rw [show i = (dSg D).length by omega]
    exact h0
  | succ m ih =>
    intro i hi M hM h
    have hz := h.1.2.2.1
    have hL := h.1.1
    have hr := h.1.2.2.2.1
    have hlt : ¬ nI (dSg D).length ≤ nI i := by rw [ni_le (by omega) (by omega)]; omega
    rw [hX10_strange_4]
    simp +decide only [qX10_strange, lx hL, lz hL hz, hr, (x_sg h).1, am_w1_i, am_w1_r, am_w1_x, am_w1_l, am_w1_w, va_rf_s, am_push_n, am_push_s, am_cs_0, am_cs_i, am_cs_l, am_cs_r, m_uI_K, m_uI_N, m_uI_R, m_uI_L, m_uI_I, m_uL_K, m_uL_N, m_uL_R, m_uL_I, m_uL_L, m_uR_K, m_uR_N, m_uR_I, m_uR_L, m_uR_R, true_and, and_true, true_implies, false_implies, not_true_eq_false, not_false_eq_true, if_true, if_false, false_and, and_false]
    first | rw [br_n (hlt)] | rw [br_q (hlt)] | rw [br_u (hlt)]
    refine x_expl hD h (sgD_at (by omega)) d _ (fun M1 f1 X1 => ?_)
    have h0 := ih (i + 1) (by omega) M1 (zF_trans hM f1) X1
    simp +decide only [qX10_strange, ni_add1, Classical.not_not, am_w1_i, am_w1_r, am_w1_x, am_w1_l, am_w1_w, va_rf_s, am_push_n, am_push_s, am_cs_0, am_cs_i, am_cs_l, am_cs_r, m_uI_K, m_uI_N, m_uI_R, m_uI_L, m_uI_I, m_uL_K, m_uL_N, m_uL_R, m_uL_I, m_uL_L, m_uR_K, m_uR_N, m_uR_I, m_uR_L, m_uR_R, true_and, and_true, true_implies, false_implies, not_true_eq_false, not_false_eq_true, if_true, if_false, false_and, and_false]
    by_cases c : exI D (sgD D i) = 0
    · rw [show snN D (i + 1) = snN D i + 1 from cnt_t (dB_t.mpr c)] at h0
      first | rw [br_p (c)] | rw [br_r (c)] | rw [br_s (c)]
      exact h0
    · rw [show snN D (i + 1) = snN D i from cnt_f (fun q => c (dB_t.mp q))] at h0
      first | rw [br_n (c)] | rw [br_q (c)] | rw [br_u (c)]
      exact h0
theorem x_strange : XqO 132 [] aStr := by
  intro d M z D Q hD h hQ
  have h0 := l_x_strange (d + 13) z D M Q hD hQ (dSg D).length 0 (by omega) M (XR_2 h) h
  rw [eX10_strange]
  simp +decide only [qX10_strange, am_w1_i, am_w1_r, am_w1_x, am_w1_l, am_w1_w, va_rf_s, am_push_n, am_push_s, am_cs_0, am_cs_i, am_cs_l, am_cs_r, m_uI_K, m_uI_N, m_uI_R, m_uI_L, m_uI_I, m_uL_K, m_uL_N, m_uL_R, m_uL_I, m_uL_L, m_uR_K, m_uR_N, m_uR_I, m_uR_L, m_uR_R, true_and, and_true, true_implies, false_implies, not_true_eq_false, not_false_eq_true, if_true, if_false, false_and, and_false]
  exact h0
theorem l_m_strange (d b : Nat) (D : Dat) (M : am_M) (Q : Option Value → am_M → Prop) (hD : dOK D) (hL : Lay M) (h : MdM M b D) (hE : ExM M D) (hQ : Q (some (.int (nI (snN D (dSg D).length)))) M) :
    ∀ (m i : Nat), i + m = (dSg D).length → am_P am_P0 d (am_look tX11_strange) 8 [.ref 277, .int (nI (snN D i)), .int (nI i)] [] M Q := by
  have h40 := hD.1.2.2.2.2.2.2.2.1.1
  have hb2 := h.1.2
  intro m
  induction m with
  | zero =>
    intro i hi
    have hle : nI (dSg D).length ≤ nI i := (ni_le (by omega) (by omega)).mpr (by omega)
    rw [hX11_strange_8]
    simp +decide (disch := omega) only [qX11_strange, lm hL, h.1.1, h.2.2.2.2.2.2.1.1, ni_in_t, ni_tn, am_w1_i, am_w1_r, am_w1_x, am_w1_l, am_w1_w, va_rf_s, am_push_n, am_push_s, am_cs_0, am_cs_i, am_cs_l, am_cs_r, m_uI_K, m_uI_N, m_uI_R, m_uI_L, m_uI_I, m_uL_K, m_uL_N, m_uL_R, m_uL_I, m_uL_L, m_uR_K, m_uR_N, m_uR_I, m_uR_L, m_uR_R, true_and, and_true, true_implies, false_implies, not_true_eq_false, not_false_eq_true, if_true, if_false, false_and, and_false]
    first | rw [br_p (hle)] | rw [br_r (hle)] | rw [br_s (hle)]
    rw [show i = (dSg D).length by omega]
    exact hQ
  | succ m ih =>
    intro i hi
    have hlt : ¬ nI (dSg D).length ≤ nI i := by rw [ni_le (by omega) (by omega)]; omega
    have he := hE i _ (sgD_at (by omega))
    have h0 := ih (i + 1) (by omega)
    rw [hX11_strange_8]
    simp +decide (disch := omega) only [qX11_strange, lm hL, h.1.1, h.2.2.2.2.2.2.1.1, he, ni_in_t, ni_tn, ni_add1, Classical.not_not, am_w1_i, am_w1_r, am_w1_x, am_w1_l, am_w1_w, va_rf_s, am_push_n, am_push_s, am_cs_0, am_cs_i, am_cs_l, am_cs_r, m_uI_K, m_uI_N, m_uI_R, m_uI_L, m_uI_I, m_uL_K, m_uL_N, m_uL_R, m_uL_I, m_uL_L, m_uR_K, m_uR_N, m_uR_I, m_uR_L, m_uR_R, true_and, and_true, true_implies, false_implies, not_true_eq_false, not_false_eq_true, if_true, if_false, false_and, and_false]
    first | rw [br_n (hlt)] | rw [br_q (hlt)] | rw [br_u (hlt)]
    by_cases c : exI D (sgD D i) = 0
    · rw [show snN D (i + 1) = snN D i + 1 from cnt_t (dB_t.mpr c)] at h0
      first | rw [br_p (c)] | rw [br_r (c)] | rw [br_s (c)]
      exact h0
    · rw [show snN D (i + 1) = snN D i from cnt_f (fun q => c (dB_t.mp q))] at h0
      first | rw [br_n (c)] | rw [br_q (c)] | rw [br_u (c)]
      rw [show (0 : Int32) = nI 0 from rfl, ni_add]
      exact h0
theorem m_strange : MzO 281 [] aStr := by
  intro d M b D Q hD hL h hQ
  rw [eX11_strange]
  simp +decide only [qX11_strange, lm hL, am_w1_i, am_w1_r, am_w1_x, am_w1_l, am_w1_w, va_rf_s, am_push_n, am_push_s, am_cs_0, am_cs_i, am_cs_l, am_cs_r, m_uI_K, m_uI_N, m_uI_R, m_uI_L, m_uI_I, m_uL_K, m_uL_N, m_uL_R, m_uL_I, m_uL_L, m_uR_K, m_uR_N, m_uR_I, m_uR_L, m_uR_R, true_and, and_true, true_implies, false_implies, not_true_eq_false, not_false_eq_true, if_true, if_false, false_and, and_false]
  refine m_explains hD hL h (d + 11) _ (fun M1 g1 x1 => ?_)
  have L1 := gF_LayN g1 hL
  have h0 := l_m_strange (d + 20) b D M1 Q hD L1 (MdM_z h g1) x1 (hQ M1 g1) (dSg D).length 0 (by omega)
  simp +decide only [qX11_strange, am_w1_i, am_w1_r, am_w1_x, am_w1_l, am_w1_w, va_rf_s, am_push_n, am_push_s, am_cs_0, am_cs_i, am_cs_l, am_cs_r, m_uI_K, m_uI_N, m_uI_R, m_uI_L, m_uI_I, m_uL_K, m_uL_N, m_uL_R, m_uL_I, m_uL_L, m_uR_K, m_uR_N, m_uR_I, m_uR_L, m_uR_R, true_and, and_true, true_implies, false_implies, not_true_eq_false, not_false_eq_true, if_true, if_false, false_and, and_false]
  exact h0
theorem op_strange : OpI 132 281 [] isI := op_z (fun D => ⟨_, rfl⟩) x_strange m_strange
/-! doubted -/
theorem lk_or : ∀ m, m < 16 → ∀ a, a < 4 → (nI m ||| ((1 : Int32) <<< (nI a &&& 31))) = nI (m ||| 2 ^ a) ∧ m ||| 2 ^ a < 16 := by decide
theorem lk_bit : ∀ m, m < 16 → ∀ l, l < 4 → (nI m >>> (nI l &&& 31)) &&& 1 = if m.testBit l = true then 1 else 0 := by decide
/-- looks that nobody explains -/
noncomputable def lkN (D : Dat) : Nat → Nat
  | 0 => 0
  | k + 1 => if dB (exI D (sgD D k) = 0) = true then lkN D k ||| 2 ^ (sgD D k).1 else lkN D k
theorem lkN_b {D : Dat} (hD : dOK D) : ∀ k, k ≤ (dSg D).length → lkN D k < 16 ∧ ∀ l, l < 4 → ((lkN D k).testBit l = true ↔ ∃ i, i < k ∧ exI D (sgD D i) = 0 ∧ (sgD D i).1 = l) := by
  intro k
  induction k with
  | zero => intro _; exact ⟨by show 0 < 16; omega, fun l _ => by show (0 : Nat).testBit l = true ↔ _; simp⟩
  | succ k ih =>
    intro hk
    obtain ⟨i1, i2⟩ := ih (by omega)
    have ho := (sg_ok hD (sgD_at (D := D) (i := k) (by omega))).2.1
    show (if dB (exI D (sgD D k) = 0) = true then lkN D k ||| 2 ^ (sgD D k).1 else lkN D k) < 16 ∧ ∀ l, l < 4 → ((if dB (exI D (sgD D k) = 0) = true then lkN D k ||| 2 ^ (sgD D k).1 else lkN D k).testBit l = true ↔ _)
    by_cases c : exI D (sgD D k) = 0
    · rw [if_pos (dB_t.mpr c)]
      refine ⟨(lk_or _ i1 _ (by omega)).2, fun l hl => ?_⟩
      rw [Nat.testBit_or, Bool.or_eq_true, i2 l hl, Nat.testBit_two_pow]
      constructor
      · rintro (⟨i, q1, q2⟩ | q)
        · exact ⟨i, by omega, q2⟩
        · exact ⟨k, by omega, c, of_decide_eq_true q⟩
      · rintro ⟨i, q1, q2, q3⟩
        by_cases e : i = k
        · subst e; exact Or.inr (decide_eq_true q3)
        · exact Or.inl ⟨i, by omega, q2, q3⟩
    · rw [if_neg (fun q => c (dB_t.mp q))]
      refine ⟨i1, fun l hl => ?_⟩
      rw [i2 l hl]
      constructor
      · rintro ⟨i, q1, q2⟩; exact ⟨i, by omega, q2⟩
      · rintro ⟨i, q1, q2, q3⟩
        by_cases e : i = k
        · subst e; exact absurd q2 c
        · exact ⟨i, by omega, q2, q3⟩
def stG (D : Dat) (s n : Nat) : Prop := ∃ i, i < n ∧ exI D (sgD D i) = 0 ∧ (sgD D i).1 = (dSp D s).2.1
def dbP (D : Dat) (s : Nat) : Prop := stG D s (dSg D).length ∧ kdP D s 0
noncomputable def aDou (D : Dat) : Value := .int (btI (dbP D) (dN D))
theorem l_x_doubt1 (d z : Nat) (D : Dat) (M0 : am_M) (Q : Option Value → am_M → Prop) (hD : dOK D) (hN : ∀ M' v3, zF (sXq z) M0 M' → XR M' z D → jk v3 → am_P am_P0 (d + 7) (am_look tX10_doubted) 53 [.ref 0, .int (nI (lkN D (dSg D).length)), .int 0, .int 0] [] M' Q) :
    ∀ (m i : Nat), i + m = (dSg D).length → ∀ (M : am_M), zF (sXq z) M0 M → XR M z D → am_P am_P0 (d + 7) (am_look tX10_doubted) 4 [.ref 0, .int (nI (lkN D i)), .int (nI i), am_x] [] M Q := by
  have h40 := hD.1.2.2.2.2.2.2.2.1.1
  intro m
  induction m with
  | zero =>
    intro i hi M hM h
    have hz := h.1.2.2.1
    have hL := h.1.1
    have hr := h.1.2.2.2.1
    have hle : nI (dSg D).length ≤ nI i := (ni_le (by omega) (by omega)).mpr (by omega)
    have h0 := hN M am_x hM h (Or.inl rfl)
    rw [hX10_doubted_4]
    simp +decide only [qX10_doubted_0, qX10_doubted_1, lx hL, lz hL hz, hr, (x_sg h).1, am_w1_i, am_w1_r, am_w1_x, am_w1_l, am_w1_w, va_rf_s, am_push_n, am_push_s, am_cs_0, am_cs_i, am_cs_l, am_cs_r, m_uI_K, m_uI_N, m_uI_R, m_uI_L, m_uI_I, m_uL_K, m_uL_N, m_uL_R, m_uL_I, m_uL_L, m_uR_K, m_uR_N, m_uR_I, m_uR_L, m_uR_R, true_and, and_true, true_implies, false_implies, not_true_eq_false, not_false_eq_true, if_true, if_false, false_and, and_false]
    first | rw [br_p (hle)] | rw [br_r (hle)] | rw [br_s (hle)]
    rw [show i = (dSg D).length by omega]
    exact h0
  | succ m ih =>
    intro i hi M hM h
    have hz := h.1.2.2.1
    have hL := h.1.1
    have hr := h.1.2.2.2.1
    have hlt : ¬ nI (dSg D).length ≤ nI i := by rw [ni_le (by omega) (by omega)]; omega
    rw [hX10_doubted_4]
    simp +decide only [qX10_doubted_0, qX10_doubted_1, lx hL, lz hL hz, hr, (x_sg h).1, am_w1_i, am_w1_r, am_w1_x, am_w1_l, am_w1_w, va_rf_s, am_push_n, am_push_s, am_cs_0, am_cs_i, am_cs_l, am_cs_r, m_uI_K, m_uI_N, m_uI_R, m_uI_L, m_uI_I, m_uL_K, m_uL_N, m_uL_R, m_uL_I, m_uL_L, m_uR_K, m_uR_N, m_uR_I, m_uR_L, m_uR_R, true_and, and_true, true_implies, false_implies, not_true_eq_false, not_false_eq_true, if_true, if_false, false_and, and_false]
    first | rw [br_n (hlt)] | rw [br_q (hlt)] | rw [br_u (hlt)]
    have hat := sgD_at (D := D) (i := i) (by omega)
    refine x_expl hD h hat d _ (fun M1 f1 X1 => ?_)
    have L1 := X1.1.1
    have hr1 := X1.1.2.2.2.1
    obtain ⟨q1, q2, q3⟩ := (x_sg X1).2 i _ hat
    have ho := (sg_ok hD hat).2.1
    have h0 := ih (i + 1) (by omega) M1 (zF_trans hM f1) X1
    have el : lkN D (i + 1) = if dB (exI D (sgD D i) = 0) = true then lkN D i ||| 2 ^ (sgD D i).1 else lkN D i := rfl
    rw [el] at h0
    simp +decide (disch := omega) only [qX10_doubted_0, qX10_doubted_1, lx L1, lz L1 hz, hr1, q1, ni_in_t, ni_tn, ni_add1, Classical.not_not, am_w1_i, am_w1_r, am_w1_x, am_w1_l, am_w1_w, va_rf_s, am_push_n, am_push_s, am_cs_0, am_cs_i, am_cs_l, am_cs_r, m_uI_K, m_uI_N, m_uI_R, m_uI_L, m_uI_I, m_uL_K, m_uL_N, m_uL_R, m_uL_I, m_uL_L, m_uR_K, m_uR_N, m_uR_I, m_uR_L, m_uR_R, true_and, and_true, true_implies, false_implies, not_true_eq_false, not_false_eq_true, if_true, if_false, false_and, and_false]
    by_cases c : exI D (sgD D i) = 0
    · rw [if_pos (dB_t.mpr c)] at h0
      first | rw [br_p (c)] | rw [br_r (c)] | rw [br_s (c)]
      rw [(lk_or _ (lkN_b hD i (by omega)).1 _ (by omega)).1]
      exact h0
    · rw [if_neg (fun q => c (dB_t.mp q))] at h0
      first | rw [br_n (c)] | rw [br_q (c)] | rw [br_u (c)]
      exact h0
theorem l_x_doubt2 (d z : Nat) (D : Dat) (M0 : am_M) (Q : Option Value → am_M → Prop) (hD : dOK D) (hQ : ∀ M', zF (sXq z) M0 M' → XR M' z D → Q (some (.int (btI (dbP D) (dN D)))) M') :
    ∀ (m s : Nat), s + m = dN D → ∀ (M : am_M), zF (sXq z) M0 M → XR M z D → am_P am_P0 (d + 8) (am_look tX10_doubted) 53 [.ref 0, .int (nI (lkN D (dSg D).length)), .int (btI (dbP D) s), .int (nI s)] [] M Q := by
  have n8 := dN_8 hD
  intro m
  induction m with
  | zero =>
    intro s hs M hM h
    have hz := h.1.2.2.1
    have hL := h.1.1
    have hr := h.1.2.2.2.1
    have hle : nI (dN D) ≤ nI s := (ni_le (by omega) (by omega)).mpr (by omega)
    have h0 := hQ M hM h
    rw [hX10_doubted_53]
    simp +decide only [qX10_doubted_0, qX10_doubted_1, lx hL, lz hL hz, hr, (x_n h).1, am_w1_i, am_w1_r, am_w1_x, am_w1_l, am_w1_w, va_rf_s, am_push_n, am_push_s, am_cs_0, am_cs_i, am_cs_l, am_cs_r, m_uI_K, m_uI_N, m_uI_R, m_uI_L, m_uI_I, m_uL_K, m_uL_N, m_uL_R, m_uL_I, m_uL_L, m_uR_K, m_uR_N, m_uR_I, m_uR_L, m_uR_R, true_and, and_true, true_implies, false_implies, not_true_eq_false, not_false_eq_true, if_true, if_false, false_and, and_false]
    first | rw [br_p (hle)] | rw [br_r (hle)] | rw [br_s (hle)]
    rw [show s = dN D by omega]
    exact h0
  | succ m ih =>
    intro s hs M hM h
    have hz := h.1.2.2.1
    have hL := h.1.1
    have hr := h.1.2.2.2.1
    have hlt : ¬ nI (dN D) ≤ nI s := by rw [ni_le (by omega) (by omega)]; omega
    have hsh := lsh hL hz (s := s) (by omega)
    have hw_ := lw_ hL (isSh_z (z := z) (s := s) hz (by omega))
    have hlk := (x_ship h (s := s) (by omega)).1.2.1
    have hl3 := (dSp_ok hD.1 (s := s) (by omega)).2.2.2.1
    obtain ⟨b1, b2⟩ := lkN_b hD (dSg D).length (Nat.le_refl _)
    have eb := lk_bit _ b1 (dSp D s).2.1 (by omega)
    rw [hX10_doubted_53]
    simp +decide (disch := omega) only [qX10_doubted_0, qX10_doubted_1, lx hL, lz hL hz, hr, (x_n h).1, hsh, hw_, hlk, eb, ni_in_t, ni_tn, ni_add1, am_w1_i, am_w1_r, am_w1_x, am_w1_l, am_w1_w, va_rf_s, am_push_n, am_push_s, am_cs_0, am_cs_i, am_cs_l, am_cs_r, m_uI_K, m_uI_N, m_uI_R, m_uI_L, m_uI_I, m_uL_K, m_uL_N, m_uL_R, m_uL_I, m_uL_L, m_uR_K, m_uR_N, m_uR_I, m_uR_L, m_uR_R, true_and, and_true, true_implies, false_implies, not_true_eq_false, not_false_eq_true, if_true, if_false, false_and, and_false]
    first | rw [br_n (hlt)] | rw [br_q (hlt)] | rw [br_u (hlt)]
    by_cases c : (lkN D (dSg D).length).testBit (dSp D s).2.1 = true
    · have hst : stG D s (dSg D).length := (b2 _ (by omega)).mp c
      rw [if_pos c]
      simp +decide only [am_w1_i, am_w1_r, am_w1_x, am_w1_l, am_w1_w, va_rf_s, am_push_n, am_push_s, am_cs_0, am_cs_i, am_cs_l, am_cs_r, m_uI_K, m_uI_N, m_uI_R, m_uI_L, m_uI_I, m_uL_K, m_uL_N, m_uL_R, m_uL_I, m_uL_L, m_uR_K, m_uR_N, m_uR_I, m_uR_L, m_uR_R, true_and, and_true, true_implies, false_implies, not_true_eq_false, not_false_eq_true, if_true, if_false, false_and, and_false]
      refine x_kindsOf hD h (by omega) d _ (fun M1 f1 X1 => ?_)
      have h0 := ih (s + 1) (by omega) M1 (zF_trans hM f1) X1
      have ek := kd_bit (D := D) (s := s) (k := 0) (by omega)
      rw [show nI 0 = (0 : Int32) from rfl] at ek
      simp +decide only [qX10_doubted_0, qX10_doubted_1, ek, tI_0, ni_add1, am_w1_i, am_w1_r, am_w1_x, am_w1_l, am_w1_w, va_rf_s, am_push_n, am_push_s, am_cs_0, am_cs_i, am_cs_l, am_cs_r, m_uI_K, m_uI_N, m_uI_R, m_uI_L, m_uI_I, m_uL_K, m_uL_N, m_uL_R, m_uL_I, m_uL_L, m_uR_K, m_uR_N, m_uR_I, m_uR_L, m_uR_R, true_and, and_true, true_implies, false_implies, not_true_eq_false, not_false_eq_true, if_true, if_false, false_and, and_false]
      by_cases c2 : kdP D s 0
      · rw [btI_t ⟨hst, c2⟩] at h0
        first | rw [br_p (c2)] | rw [br_r (c2)] | rw [br_s (c2)]
        exact h0
      · rw [btI_f (fun q => c2 q.2)] at h0
        first | rw [br_n (c2)] | rw [br_q (c2)] | rw [br_u (c2)]
        exact h0
    · have hst : ¬ stG D s (dSg D).length := fun q => c ((b2 _ (by omega)).mpr q)
      have h0 := ih (s + 1) (by omega) M hM h
      rw [btI_f (fun q => hst q.1)] at h0
      rw [if_neg c]
      simp +decide only [am_w1_i, am_w1_r, am_w1_x, am_w1_l, am_w1_w, va_rf_s, am_push_n, am_push_s, am_cs_0, am_cs_i, am_cs_l, am_cs_r, m_uI_K, m_uI_N, m_uI_R, m_uI_L, m_uI_I, m_uL_K, m_uL_N, m_uL_R, m_uL_I, m_uL_L, m_uR_K, m_uR_N, m_uR_I, m_uR_L, m_uR_R, true_and, and_true, true_implies, false_implies, not_true_eq_false, not_false_eq_true, if_true, if_false, false_and, and_false]
      exact h0
theorem x_doubted : XqO 133 [] aDou := by
  intro d M z D Q hD h hQ
  have h0 := l_x_doubt1 (d + 13) z D M Q hD (fun M' v3 f' X' _ => l_x_doubt2 (d + 12) z D M Q hD hQ (dN D) 0 (by omega) M' f' X') (dSg D).length 0 (by omega) M (XR_2 h) h
  rw [eX10_doubted]
  simp +decide only [qX10_doubted_0, qX10_doubted_1, am_w1_i, am_w1_r, am_w1_x, am_w1_l, am_w1_w, va_rf_s, am_push_n, am_push_s, am_cs_0, am_cs_i, am_cs_l, am_cs_r, m_uI_K, m_uI_N, m_uI_R, m_uI_L, m_uI_I, m_uL_K, m_uL_N, m_uL_R, m_uL_I, m_uL_L, m_uR_K, m_uR_N, m_uR_I, m_uR_L, m_uR_R, true_and, and_true, true_implies, false_implies, not_true_eq_false, not_false_eq_true, if_true, if_false, false_and, and_false]
  exact h0
theorem l_m_doubt2 (d b s : Nat) (D : Dat) (M : am_M) (Q : Option Value → am_M → Prop) (hD : dOK D) (hL : Lay M) (h : MdM M b D) (hE : ExM M D) (hs : s < dN D) (x1 : Int32)
    (hN : am_P am_P0 d (am_look tX11_doubted) 98 [.ref 277, .int x1, .int (nI s), .int (tI (stG D s (dSg D).length)), .int (nI (dSg D).length)] [] M Q) :
    ∀ (m i : Nat), i + m = (dSg D).length → am_P am_P0 d (am_look tX11_doubted) 26 [.ref 277, .int x1, .int (nI s), .int (tI (stG D s i)), .int (nI i)] [] M Q := by
  have h40 := hD.1.2.2.2.2.2.2.2.1.1
  have n8 := dN_8 hD
  have hb2 := h.1.2
  obtain ⟨-, r1, -⟩ := h.2.2.2.1.2 s _ (dSp_at hs)
  have hl3 := (dSp_ok hD.1 hs).2.2.2.1
  have e8 : (8 : Int32) * nI b + nI s = nI (8 * b + s) := by rw [show (8 : Int32) = nI 8 from rfl, ni_mul, ni_add]
  intro m
  induction m with
  | zero =>
    intro i hi
    have ei : i = (dSg D).length := by omega
    subst ei
    have hle : nI (dSg D).length ≤ nI (dSg D).length := (ni_le (by omega) (by omega)).mpr (by omega)
    rw [hX11_doubted_26]
    simp +decide (disch := omega) only [qX11_doubted_0, qX11_doubted_1, lm hL, h.1.1, h.2.2.2.2.2.2.1.1, ni_in_t, ni_tn, am_w1_i, am_w1_r, am_w1_x, am_w1_l, am_w1_w, va_rf_s, am_push_n, am_push_s, am_cs_0, am_cs_i, am_cs_l, am_cs_r, m_uI_K, m_uI_N, m_uI_R, m_uI_L, m_uI_I, m_uL_K, m_uL_N, m_uL_R, m_uL_I, m_uL_L, m_uR_K, m_uR_N, m_uR_I, m_uR_L, m_uR_R, true_and, and_true, true_implies, false_implies, not_true_eq_false, not_false_eq_true, if_true, if_false, false_and, and_false] at hN ⊢
    first | rw [br_p (hle)] | rw [br_r (hle)] | rw [br_s (hle)]
    exact hN
  | succ m ih =>
    intro i hi
    have hlt : ¬ nI (dSg D).length ≤ nI i := by rw [ni_le (by omega) (by omega)]; omega
    have hat := sgD_at (D := D) (i := i) (by omega)
    have he := hE i _ hat
    obtain ⟨q1, -, -⟩ := h.2.2.2.2.2.2.1.2 i _ hat
    have ho := (sg_ok hD hat).2.1
    have e40 : (40 : Int32) * nI b + nI i = nI (40 * b + i) := by rw [show (40 : Int32) = nI 40 from rfl, ni_mul, ni_add]
    have h0 := ih (i + 1) (by omega)
    rw [hX11_doubted_26]
    simp +decide (disch := omega) only [qX11_doubted_0, qX11_doubted_1, lm hL, h.1.1, h.2.2.2.2.2.2.1.1, he, q1, r1, e40, e8, tI_0, ni_in_t, ni_tn, ni_add1, Classical.not_not, am_w1_i, am_w1_r, am_w1_x, am_w1_l, am_w1_w, va_rf_s, am_push_n, am_push_s, am_cs_0, am_cs_i, am_cs_l, am_cs_r, m_uI_K, m_uI_N, m_uI_R, m_uI_L, m_uI_I, m_uL_K, m_uL_N, m_uL_R, m_uL_I, m_uL_L, m_uR_K, m_uR_N, m_uR_I, m_uR_L, m_uR_R, true_and, and_true, true_implies, false_implies, not_true_eq_false, not_false_eq_true, if_true, if_false, false_and, and_false]
    first | rw [br_n (hlt)] | rw [br_q (hlt)] | rw [br_u (hlt)]
    rw [ni_eq (by omega) (by omega)]
    by_cases c : stG D s i
    · rw [tI_t (show stG D s (i + 1) from by obtain ⟨k, k1, k2⟩ := c; exact ⟨k, by omega, k2⟩)] at h0
      first | rw [br_p (c)] | rw [br_r (c)] | rw [br_s (c)]
      exact h0
    · first | rw [br_n (c)] | rw [br_q (c)] | rw [br_u (c)]
      by_cases c1 : exI D (sgD D i) = 0
      · first | rw [br_p (c1)] | rw [br_r (c1)] | rw [br_s (c1)]
        by_cases c2 : (sgD D i).1 = (dSp D s).2.1
        · rw [tI_t (show stG D s (i + 1) from ⟨i, by omega, c1, c2⟩)] at h0
          first | rw [br_p (c2)] | rw [br_r (c2)] | rw [br_s (c2)]
          exact h0
        · rw [tI_f (fun q => by
            obtain ⟨k, k1, k2, k3⟩ := q
            by_cases e : k = i
            · subst e; exact c2 k3
            · exact c ⟨k, by omega, k2, k3⟩)] at h0
          first | rw [br_n (c2)] | rw [br_q (c2)] | rw [br_u (c2)]
          exact h0
      · rw [tI_f (fun q => by
          obtain ⟨k, k1, k2, k3⟩ := q
          by_cases e : k = i
          · subst e; exact c1 k2
          · exact c ⟨k, by omega, k2, k3⟩)] at h0
        first | rw [br_n (c1)] | rw [br_q (c1)] | rw [br_u (c1)]
        exact h0
theorem l_m_doubt1 (d b : Nat) (D : Dat) (M0 : am_M) (Q : Option Value → am_M → Prop) (hD : dOK D) (hL0 : Lay M0) (h0' : MdM M0 b D) (hE0 : ExM M0 D) (hQ : ∀ M', gF sMq nT M0 M' → Q (some (.int (btI (dbP D) (dN D)))) M') :
    ∀ (m s : Nat), s + m = dN D → ∀ (M : am_M) (v3 v4 : Value), jk v3 → jk v4 → gF sMq nT M0 M → am_P am_P0 (d + 10) (am_look tX11_doubted) 8 [.ref 277, .int (btI (dbP D) s), .int (nI s), v3, v4] [] M Q := by
  have n8 := dN_8 hD
  intro m
  induction m with
  | zero =>
    intro s hs M v3 v4 h3 h4 hM
    have hL := gF_LayN hM hL0
    have h := MdM_q h0' hM
    have hb2 := h.1.2
    have hle : nI (dN D) ≤ nI s := (ni_le (by omega) (by omega)).mpr (by omega)
    have h0 := hQ M hM
    rw [hX11_doubted_8]
    simp +decide (disch := omega) only [qX11_doubted_0, qX11_doubted_1, lm hL, h.1.1, h.2.2.2.1.1, ni_in_t, ni_tn, am_w1_i, am_w1_r, am_w1_x, am_w1_l, am_w1_w, va_rf_s, am_push_n, am_push_s, am_cs_0, am_cs_i, am_cs_l, am_cs_r, m_uI_K, m_uI_N, m_uI_R, m_uI_L, m_uI_I, m_uL_K, m_uL_N, m_uL_R, m_uL_I, m_uL_L, m_uR_K, m_uR_N, m_uR_I, m_uR_L, m_uR_R, true_and, and_true, true_implies, false_implies, not_true_eq_false, not_false_eq_true, if_true, if_false, false_and, and_false]
    first | rw [br_p (hle)] | rw [br_r (hle)] | rw [br_s (hle)]
    rw [show s = dN D by omega]
    exact h0
  | succ m ih =>
    intro s hs M v3 v4 h3 h4 hM
    have hL := gF_LayN hM hL0
    have h := MdM_q h0' hM
    have hE : ExM M D := fun i g hg => by rw [hM.1 _ _ (by unfold sMq; omega)]; exact hE0 i g hg
    have hb2 := h.1.2
    have hlt : ¬ nI (dN D) ≤ nI s := by rw [ni_le (by omega) (by omega)]; omega
    have h9 := l_m_doubt2 (d + 10) b s D M Q hD hL h hE (by omega) (btI (dbP D) s) (by
      by_cases c : stG D s (dSg D).length
      · rw [tI_t c]
        simp +decide only [qX11_doubted_0, qX11_doubted_1, lm hL, am_w1_i, am_w1_r, am_w1_x, am_w1_l, am_w1_w, va_rf_s, am_push_n, am_push_s, am_cs_0, am_cs_i, am_cs_l, am_cs_r, m_uI_K, m_uI_N, m_uI_R, m_uI_L, m_uI_I, m_uL_K, m_uL_N, m_uL_R, m_uL_I, m_uL_L, m_uR_K, m_uR_N, m_uR_I, m_uR_L, m_uR_R, true_and, and_true, true_implies, false_implies, not_true_eq_false, not_false_eq_true, if_true, if_false, false_and, and_false]
        rw [show (0 : Int32) = nI 0 from rfl]
        refine m_isKind hD hL h (show s < dN D by omega) (show 0 < 5 by omega) d _ (fun M1 g1 => ?_)
        have h0 := ih (s + 1) (by omega) M1 (.int 1) (.int (nI (dSg D).length)) (Or.inr ⟨_, rfl⟩) (Or.inr ⟨_, rfl⟩) (gF_trans hM g1)
        simp +decide only [qX11_doubted_0, qX11_doubted_1, tI_0, or_z, ni_add1, am_w1_i, am_w1_r, am_w1_x, am_w1_l, am_w1_w, va_rf_s, am_push_n, am_push_s, am_cs_0, am_cs_i, am_cs_l, am_cs_r, m_uI_K, m_uI_N, m_uI_R, m_uI_L, m_uI_I, m_uL_K, m_uL_N, m_uL_R, m_uL_I, m_uL_L, m_uR_K, m_uR_N, m_uR_I, m_uR_L, m_uR_R, true_and, and_true, true_implies, false_implies, not_true_eq_false, not_false_eq_true, if_true, if_false, false_and, and_false]
        by_cases c2 : kdP D s 0
        · rw [btI_t ⟨c, c2⟩] at h0
          first | rw [br_p (c2)] | rw [br_r (c2)] | rw [br_s (c2)]
          exact h0
        · rw [btI_f (fun q => c2 q.2)] at h0
          first | rw [br_n (c2)] | rw [br_q (c2)] | rw [br_u (c2)]
          exact h0
      · rw [tI_f c]
        simp +decide only [qX11_doubted_0, qX11_doubted_1, lm hL, or_z, ni_add1, am_w1_i, am_w1_r, am_w1_x, am_w1_l, am_w1_w, va_rf_s, am_push_n, am_push_s, am_cs_0, am_cs_i, am_cs_l, am_cs_r, m_uI_K, m_uI_N, m_uI_R, m_uI_L, m_uI_I, m_uL_K, m_uL_N, m_uL_R, m_uL_I, m_uL_L, m_uR_K, m_uR_N, m_uR_I, m_uR_L, m_uR_R, true_and, and_true, true_implies, false_implies, not_true_eq_false, not_false_eq_true, if_true, if_false, false_and, and_false]
        have h0 := ih (s + 1) (by omega) M (.int 0) (.int (nI (dSg D).length)) (Or.inr ⟨_, rfl⟩) (Or.inr ⟨_, rfl⟩) hM
        rw [btI_f (fun q => c q.1)] at h0
        exact h0) (dSg D).length 0 (by omega)
    rw [tI_f (fun q => by obtain ⟨k, k1, -⟩ := q; omega)] at h9
    rw [hX11_doubted_8]
    simp +decide (disch := omega) only [qX11_doubted_0, qX11_doubted_1, lm hL, h.1.1, h.2.2.2.1.1, jk_w h3, jk_w h4, ni_in_t, ni_tn, am_w1_i, am_w1_r, am_w1_x, am_w1_l, am_w1_w, va_rf_s, am_push_n, am_push_s, am_cs_0, am_cs_i, am_cs_l, am_cs_r, m_uI_K, m_uI_N, m_uI_R, m_uI_L, m_uI_I, m_uL_K, m_uL_N, m_uL_R, m_uL_I, m_uL_L, m_uR_K, m_uR_N, m_uR_I, m_uR_L, m_uR_R, true_and, and_true, true_implies, false_implies, not_true_eq_false, not_false_eq_true, if_true, if_false, false_and, and_false]
    first | rw [br_n (hlt)] | rw [br_q (hlt)] | rw [br_u (hlt)]
    exact h9
theorem m_doubted : MzO 282 [] aDou := by
  intro d M b D Q hD hL h hQ
  rw [eX11_doubted]
  simp +decide only [qX11_doubted_0, qX11_doubted_1, lm hL, am_w1_i, am_w1_r, am_w1_x, am_w1_l, am_w1_w, va_rf_s, am_push_n, am_push_s, am_cs_0, am_cs_i, am_cs_l, am_cs_r, m_uI_K, m_uI_N, m_uI_R, m_uI_L, m_uI_I, m_uL_K, m_uL_N, m_uL_R, m_uL_I, m_uL_L, m_uR_K, m_uR_N, m_uR_I, m_uR_L, m_uR_R, true_and, and_true, true_implies, false_implies, not_true_eq_false, not_false_eq_true, if_true, if_false, false_and, and_false]
  refine m_explains hD hL h (d + 11) _ (fun M1 g1 x1 => ?_)
  have L1 := gF_LayN g1 hL
  have h0 := l_m_doubt1 (d + 10) b D M1 Q hD L1 (MdM_z h g1) x1 (fun M' g' => hQ M' (gF_trans g1 (gF_up g' (fun a j q => Or.inl q) (fun _ _ q => q)))) (dN D) 0 (by omega) M1 am_x am_x (Or.inl rfl) (Or.inl rfl) (gF_refl _ _ _)
  simp +decide only [qX11_doubted_0, qX11_doubted_1, am_w1_i, am_w1_r, am_w1_x, am_w1_l, am_w1_w, va_rf_s, am_push_n, am_push_s, am_cs_0, am_cs_i, am_cs_l, am_cs_r, m_uI_K, m_uI_N, m_uI_R, m_uI_L, m_uI_I, m_uL_K, m_uL_N, m_uL_R, m_uL_I, m_uL_L, m_uR_K, m_uR_N, m_uR_I, m_uR_L, m_uR_R, true_and, and_true, true_implies, false_implies, not_true_eq_false, not_false_eq_true, if_true, if_false, false_and, and_false]
  exact h0
theorem op_doubted : OpI 133 282 [] isI := op_z (fun D => ⟨_, rfl⟩) x_doubted m_doubted
