/-! sighting, strange, doubted -/
def exP (D : Dat) (g : Nat × Nat × Nat) (s : Nat) : Prop := (dSp D s).2.1 = g.1 ∧ dMy D s g.2.2 g.2.1
noncomputable def exI (D : Dat) (g : Nat × Nat × Nat) : Int32 := btI (exP D g) (dN D)
theorem x_sg {M : am_M} {z : Nat} {D : Dat} (h : XR M z D) : SgX M z (dSg D) := by
  obtain ⟨-, ⟨c, hP⟩, -⟩ := h
  exact hP.2.2.1
theorem sg_ok {D : Dat} (hD : dOK D) {i : Nat} {g : Nat × Nat × Nat} (hg : (dSg D)[i]? = some g) : i < 40 ∧ g.1 ≤ 3 ∧ vld (dC D) (dR D) g.2.1 ∧ g.2.1 < 256 ∧ g.2.2 < 48 := by
  have h1 := hD.1.2.2.2.2.2.2.2.1
  have h2 := h1.2 g (List.mem_of_getElem? hg)
  have h3 := (List.getElem?_eq_some_iff.mp hg).1
  exact ⟨by omega, h2.1, h2.2.1, (cel_lt hD.1.1.1 hD.1.1.2 h2.2.1).2.2, h2.2.2⟩
theorem l_x_expl (d z i : Nat) (g : Nat × Nat × Nat) (D : Dat) (M0 : am_M) (Q : Option Value → am_M → Prop) (hD : dOK D) (hg : (dSg D)[i]? = some g) (hQ : ∀ M', zF (sXq z) M0 M' → XR M' z D → Q (some (.int (exI D g))) M') :
    ∀ (m s : Nat), s + m = dN D → ∀ (M : am_M), zF (sXq z) M0 M → XR M z D → am_P am_P0 (d + 6) (am_look tX10_explainersOf) 13 [.ref 0, .int (nI i), .ref (z + 2), .int (btI (exP D g) s), .int (nI s)] [] M Q := by
  have n8 := dN_8 hD
  obtain ⟨i40, o1, o2, o3, o4⟩ := sg_ok hD hg
  intro m
  induction m with
  | zero =>
    intro s hs M hM h
    have hz := h.1.2.2.1
    have hL := h.1.1
    have hr := h.1.2.2.2.1
    have hle : nI (dN D) ≤ nI s := (ni_le (by omega) (by omega)).mpr (by omega)
    have h0 := hQ M hM h
    rw [hX10_explainersOf_13]
    simp +decide only [qX10_explainersOf_0, qX10_explainersOf_1, lx hL, lz hL hz, hr, (x_n h).1, am_w1_i, am_w1_r, am_w1_x, am_w1_l, am_w1_w, va_rf_s, am_push_n, am_push_s, am_cs_0, am_cs_i, am_cs_l, am_cs_r, m_uI_K, m_uI_N, m_uI_R, m_uI_L, m_uI_I, m_uL_K, m_uL_N, m_uL_R, m_uL_I, m_uL_L, m_uR_K, m_uR_N, m_uR_I, m_uR_L, m_uR_R, true_and, and_true, true_implies, false_implies, not_true_eq_false, not_false_eq_true, if_true, if_false, false_and, and_false]
    first | rw [br_p (hle)] | rw [br_r (hle)] | rw [br_s (hle)]
    rw [show s = dN D by omega]
    exact h0
  | succ m ih =>
    intro s hs M hM h
    have hz := h.1.2.2.1
    have hL := h.1.1
    have hr := h.1.2.2.2.1
    have hlt : ¬ nI (dN D) ≤ nI s := by rw [ni_le (by omega) (by omega)]; omega
    have hsh := lsh hL hz (s := s) (by omega)
    have hw_ := lw_ hL (isSh_z (z := z) (s := s) hz (by omega))
    have hlk := (x_ship h (s := s) (by omega)).1.2.1
    obtain ⟨q1, q2, q3⟩ := (x_sg h).2 i g hg
    have hok := dSp_ok hD.1 (s := s) (by omega)
    have hl3 := hok.2.2.2.1
    rw [hX10_explainersOf_13]
    simp +decide (disch := omega) only [qX10_explainersOf_0, qX10_explainersOf_1, lx hL, lz hL hz, hr, (x_n h).1, hsh, hw_, hlk, q1, ni_in_t, ni_tn, ni_add1, Classical.not_not, am_w1_i, am_w1_r, am_w1_x, am_w1_l, am_w1_w, va_rf_s, am_push_n, am_push_s, am_cs_0, am_cs_i, am_cs_l, am_cs_r, m_uI_K, m_uI_N, m_uI_R, m_uI_L, m_uI_I, m_uL_K, m_uL_N, m_uL_R, m_uL_I, m_uL_L, m_uR_K, m_uR_N, m_uR_I, m_uR_L, m_uR_R, true_and, and_true, true_implies, false_implies, not_true_eq_false, not_false_eq_true, if_true, if_false, false_and, and_false]
    first | rw [br_n (hlt)] | rw [br_q (hlt)] | rw [br_u (hlt)]
    rw [ni_eq (by omega) (by omega)]
    by_cases c : (dSp D s).2.1 = g.1
    · first | rw [br_p (c)] | rw [br_r (c)] | rw [br_s (c)]
      refine x_settled hD h (d + 0) (by omega) _ (fun M1 f1 X1 _ S1 => ?_)
      have L1 := X1.1.1
      have hst := lt_ L1 (isTr_of (show s < 8 by omega))
      obtain ⟨p1, p2, p3⟩ := (x_sg X1).2 i g hg
      have em := fun Q => x_mayBe (D := D) (t := g.2.2) (p := g.2.1) L1 (show s < 8 by omega) o4 o3 S1 (d + 5) Q
      have h0 := ih (s + 1) (by omega) M1 (zF_trans hM f1) X1
      simp +decide (disch := omega) only [qX10_explainersOf_0, qX10_explainersOf_1, lz L1 hz, hst, p2, p3, em, tI_0, ni_in_t, ni_tn, ni_add1, am_w1_i, am_w1_r, am_w1_x, am_w1_l, am_w1_w, va_rf_s, am_push_n, am_push_s, am_cs_0, am_cs_i, am_cs_l, am_cs_r, m_uI_K, m_uI_N, m_uI_R, m_uI_L, m_uI_I, m_uL_K, m_uL_N, m_uL_R, m_uL_I, m_uL_L, m_uR_K, m_uR_N, m_uR_I, m_uR_L, m_uR_R, true_and, and_true, true_implies, false_implies, not_true_eq_false, not_false_eq_true, if_true, if_false, false_and, and_false]
      by_cases c2 : dMy D s g.2.2 g.2.1
      · rw [btI_t ⟨c, c2⟩] at h0
        first | rw [br_p (c2)] | rw [br_r (c2)] | rw [br_s (c2)]
        exact h0
      · rw [btI_f (fun q => c2 q.2)] at h0
        first | rw [br_n (c2)] | rw [br_q (c2)] | rw [br_u (c2)]
        exact h0
    · have h0 := ih (s + 1) (by omega) M hM h
      rw [btI_f (fun q => c q.1)] at h0
      first | rw [br_n (c)] | rw [br_q (c)] | rw [br_u (c)]
      exact h0
theorem x_expl {M : am_M} {z i : Nat} {g : Nat × Nat × Nat} {D : Dat} (hD : dOK D) (h : XR M z D) (hg : (dSg D)[i]? = some g) (d : Nat) (Q : Option Value → am_M → Prop) (hQ : ∀ M', zF (sXq z) M M' → XR M' z D → Q (some (.int (exI D g))) M') : am_E am_P0 (d + 6) 158 [.ref 0, .int (nI i)] M Q := by
  have hz := h.1.2.2.1
  have hL := h.1.1
  have hr := h.1.2.2.2.1
  have h0 := l_x_expl d z i g D M Q hD hg hQ (dN D) 0 (by omega) M (XR_2 h) h
  rw [eX10_explainersOf]
  simp +decide only [qX10_explainersOf_0, qX10_explainersOf_1, lx hL, lz hL hz, hr, am_w1_i, am_w1_r, am_w1_x, am_w1_l, am_w1_w, va_rf_s, am_push_n, am_push_s, am_cs_0, am_cs_i, am_cs_l, am_cs_r, m_uI_K, m_uI_N, m_uI_R, m_uI_L, m_uI_I, m_uL_K, m_uL_N, m_uL_R, m_uL_I, m_uL_L, m_uR_K, m_uR_N, m_uR_I, m_uR_L, m_uR_R, true_and, and_true, true_implies, false_implies, not_true_eq_false, not_false_eq_true, if_true, if_false, false_and, and_false]
  exact h0
noncomputable def sgA (D : Dat) (i : Nat) (w : Int32) : Int32 := match (dSg D)[i]? with
  | none => -1
  | some g => if w.toInt = 0 then nI g.1 else if w.toInt = 1 then nI (cel (dC D) g.2.1) else if w.toInt = 2 then nI g.2.2 else if w.toInt = 3 then exI D g else -1
noncomputable def aSgt (i w : Int32) (D : Dat) : Value := .int (if 0 ≤ i.toInt then sgA D i.toInt.toNat w else -1)
theorem x_sighting (i w : Int32) : XqO 131 [.int i, .int w] (aSgt i w) := by
  intro d M z D Q hD h hQ
  have hz := h.1.2.2.1
  have hL := h.1.1
  have hr := h.1.2.2.2.1
  have hn := (x_sg h).1
  have h40 := hD.1.2.2.2.2.2.2.2.1.1
  unfold aSgt at hQ
  rw [eX10_sighting]
  simp +decide only [qX10_sighting_0, qX10_sighting_1, lx hL, lz hL hz, hr, hn, am_w1_i, am_w1_r, am_w1_x, am_w1_l, am_w1_w, va_rf_s, am_push_n, am_push_s, am_cs_0, am_cs_i, am_cs_l, am_cs_r, m_uI_K, m_uI_N, m_uI_R, m_uI_L, m_uI_I, m_uL_K, m_uL_N, m_uL_R, m_uL_I, m_uL_L, m_uR_K, m_uR_N, m_uR_I, m_uR_L, m_uR_R, true_and, and_true, true_implies, false_implies, not_true_eq_false, not_false_eq_true, if_true, if_false, false_and, and_false]
  by_cases i0 : i < 0
  · have h0 := hQ M (XR_2 h) h
    rw [if_neg (by rw [lt32, z32] at i0; omega)] at h0
    first | rw [br_p (i0)] | rw [br_r (i0)] | rw [br_s (i0)]
    exact h0
  · first | rw [br_n (i0)] | rw [br_q (i0)] | rw [br_u (i0)]
    rw [lt32, z32] at i0
    rw [if_pos (by omega)] at hQ
    unfold sgA at hQ
    obtain ⟨k, hk⟩ : ∃ k, i.toInt.toNat = k := ⟨_, rfl⟩
    rw [hk] at hQ
    by_cases il : i < nI (dSg D).length
    · first | rw [br_p (il)] | rw [br_r (il)] | rw [br_s (il)]
      rw [lt32, ni_ti (by omega)] at il
      have hkl : k < (dSg D).length := by omega
      have ei : i = nI k := i32_of (by omega) (by omega)
      obtain ⟨g, hg⟩ : ∃ g, (dSg D)[k]? = some g := ⟨(dSg D)[k], List.getElem?_eq_getElem hkl⟩
      rw [hg] at hQ
      dsimp only at hQ
      obtain ⟨q1, q2, q3⟩ := (x_sg h).2 k g hg
      obtain ⟨i40, o1, o2, o3, o4⟩ := sg_ok hD hg
      have en := fun Q => x_numberOf h (d + 19) g.2.1 Q o3
      rw [ei]
      rcases sw_of w 4 (by omega) with ⟨n, n1, n2, n3⟩ | c1
      · rw [n3] at hQ
        rw [n2]
        rcases (by omega : n = 0 ∨ n = 1 ∨ n = 2 ∨ n = 3) with e | e | e | e <;> subst e
        · have h0 := hQ M (XR_2 h) h
          rw [show am_tab 0 [52, 65, 85, 98] 104 (nI 0) = 52 from rfl]
          simp +decide (disch := omega) only [qX10_sighting_0, qX10_sighting_1, lx hL, lz hL hz, hr, q1, ni_in_t, ni_tn, if_true, if_false, am_w1_i, am_w1_r, am_w1_x, am_w1_l, am_w1_w, va_rf_s, am_push_n, am_push_s, am_cs_0, am_cs_i, am_cs_l, am_cs_r, m_uI_K, m_uI_N, m_uI_R, m_uI_L, m_uI_I, m_uL_K, m_uL_N, m_uL_R, m_uL_I, m_uL_L, m_uR_K, m_uR_N, m_uR_I, m_uR_L, m_uR_R, true_and, and_true, true_implies, false_implies, not_true_eq_false, not_false_eq_true, if_true, if_false, false_and, and_false] at h0 ⊢
          exact h0
        · have h0 := hQ M (XR_2 h) h
          rw [show am_tab 0 [52, 65, 85, 98] 104 (nI 1) = 65 from rfl]
          simp +decide (disch := omega) only [qX10_sighting_0, qX10_sighting_1, lx hL, lz hL hz, hr, q2, en, ni_in_t, ni_tn, if_true, if_false, am_w1_i, am_w1_r, am_w1_x, am_w1_l, am_w1_w, va_rf_s, am_push_n, am_push_s, am_cs_0, am_cs_i, am_cs_l, am_cs_r, m_uI_K, m_uI_N, m_uI_R, m_uI_L, m_uI_I, m_uL_K, m_uL_N, m_uL_R, m_uL_I, m_uL_L, m_uR_K, m_uR_N, m_uR_I, m_uR_L, m_uR_R, true_and, and_true, true_implies, false_implies, not_true_eq_false, not_false_eq_true, if_true, if_false, false_and, and_false] at h0 ⊢
          exact h0
        · have h0 := hQ M (XR_2 h) h
          rw [show am_tab 0 [52, 65, 85, 98] 104 (nI 2) = 85 from rfl]
          simp +decide (disch := omega) only [qX10_sighting_0, qX10_sighting_1, lx hL, lz hL hz, hr, q3, ni_in_t, ni_tn, if_true, if_false, am_w1_i, am_w1_r, am_w1_x, am_w1_l, am_w1_w, va_rf_s, am_push_n, am_push_s, am_cs_0, am_cs_i, am_cs_l, am_cs_r, m_uI_K, m_uI_N, m_uI_R, m_uI_L, m_uI_I, m_uL_K, m_uL_N, m_uL_R, m_uL_I, m_uL_L, m_uR_K, m_uR_N, m_uR_I, m_uR_L, m_uR_R, true_and, and_true, true_implies, false_implies, not_true_eq_false, not_false_eq_true, if_true, if_false, false_and, and_false] at h0 ⊢
          exact h0
        · rw [show am_tab 0 [52, 65, 85, 98] 104 (nI 3) = 98 from rfl]
          simp +decide only [qX10_sighting_0, qX10_sighting_1, lx hL, am_w1_i, am_w1_r, am_w1_x, am_w1_l, am_w1_w, va_rf_s, am_push_n, am_push_s, am_cs_0, am_cs_i, am_cs_l, am_cs_r, m_uI_K, m_uI_N, m_uI_R, m_uI_L, m_uI_I, m_uL_K, m_uL_N, m_uL_R, m_uL_I, m_uL_L, m_uR_K, m_uR_N, m_uR_I, m_uR_L, m_uR_R, true_and, and_true, true_implies, false_implies, not_true_eq_false, not_false_eq_true, if_true, if_false, false_and, and_false]
          refine x_expl hD h hg (d + 13) _ (fun M1 f1 X1 => ?_)
          have h0 := hQ M1 f1 X1
          simp +decide only [qX10_sighting_0, qX10_sighting_1, if_true, if_false, am_w1_i, am_w1_r, am_w1_x, am_w1_l, am_w1_w, va_rf_s, am_push_n, am_push_s, am_cs_0, am_cs_i, am_cs_l, am_cs_r, m_uI_K, m_uI_N, m_uI_R, m_uI_L, m_uI_I, m_uL_K, m_uL_N, m_uL_R, m_uL_I, m_uL_L, m_uR_K, m_uR_N, m_uR_I, m_uR_L, m_uR_R, true_and, and_true, true_implies, false_implies, not_true_eq_false, not_false_eq_true, if_true, if_false, false_and, and_false] at h0 ⊢
          exact h0
      · have h0 := hQ M (XR_2 h) h
        rw [if_neg (by omega), if_neg (by omega), if_neg (by omega), if_neg (by omega)] at h0
        rw [am_tab_out (by simp; omega)]
        simp +decide only [qX10_sighting_0, qX10_sighting_1, am_w1_i, am_w1_r, am_w1_x, am_w1_l, am_w1_w, va_rf_s, am_push_n, am_push_s, am_cs_0, am_cs_i, am_cs_l, am_cs_r, m_uI_K, m_uI_N, m_uI_R, m_uI_L, m_uI_I, m_uL_K, m_uL_N, m_uL_R, m_uL_I, m_uL_L, m_uR_K, m_uR_N, m_uR_I, m_uR_L, m_uR_R, true_and, and_true, true_implies, false_implies, not_true_eq_false, not_false_eq_true, if_true, if_false, false_and, and_false]
        exact h0
    · first | rw [br_n (il)] | rw [br_q (il)] | rw [br_u (il)]
      rw [lt32, ni_ti (by omega)] at il
      have h0 := hQ M (XR_2 h) h
      rw [List.getElem?_eq_none (by omega)] at h0
      exact h0
/-- the model: who explains which -/
def ExM (M : am_M) (D : Dat) : Prop := ∀ i g, (dSg D)[i]? = some g → mI M 332 i = exI D g
def s332 (a _j : Nat) : Prop := a = 332
theorem l_m_ex0 (d : Nat) (M0 : am_M) (Q : Option Value → am_M → Prop) (hL0 : Lay M0) (v2 v3 : Value) (h2 : jk v2) (h3 : jk v3) (hN : ∀ M', gF s332 nT M0 M' → (∀ i, i < 40 → mI M' 332 i = 0) → am_P am_P0 d (am_look tX11_explains) 23 [.ref 277, .int 0, v2, v3] [] M' Q) :
    ∀ (m i : Nat), i + m = 40 → ∀ (M : am_M), gF s332 nT M0 M → (∀ k, k < i → mI M 332 k = 0) → am_P am_P0 d (am_look tX11_explains) 2 [.ref 277, .int (nI i), v2, v3] [] M Q := by
  intro m
  induction m with
  | zero =>
    intro i hi M hM hb
    have ei : i = 40 := by omega
    subst ei
    have h0 := hN M hM hb
    rw [hX11_explains_2]
    simp +decide only [qX11_explains_0, qX11_explains_1, show nI 40 = (40 : Int32) from rfl, jk_w h2, jk_w h3, am_w1_i, am_w1_r, am_w1_x, am_w1_l, am_w1_w, va_rf_s, am_push_n, am_push_s, am_cs_0, am_cs_i, am_cs_l, am_cs_r, m_uI_K, m_uI_N, m_uI_R, m_uI_L, m_uI_I, m_uL_K, m_uL_N, m_uL_R, m_uL_I, m_uL_L, m_uR_K, m_uR_N, m_uR_I, m_uR_L, m_uR_R, true_and, and_true, true_implies, false_implies, not_true_eq_false, not_false_eq_true, if_true, if_false, false_and, and_false] at h0 ⊢
    exact h0
  | succ m ih =>
    intro i hi M hM hb
    have hL := gF_LayN hM hL0
    have hlt : ¬ (40 : Int32) ≤ nI i := by rw [show (40 : Int32) = nI 40 from rfl, ni_le (by omega) (by omega)]; omega
    have w1 : gF s332 nT M (uI M 332 i 0) := gF_i _ rfl
    have h0 := ih (i + 1) (by omega) (uI M 332 i 0) (gF_trans hM w1) (fun k hk => by
      rw [m_uI_I]
      by_cases e : k = i
      · rw [if_pos ⟨rfl, e⟩]
      · rw [if_neg (by omega)]; exact hb k (by omega))
    rw [hX11_explains_2]
    simp +decide (disch := omega) only [qX11_explains_0, qX11_explains_1, lm hL, ni_in_t, ni_tn, ni_add1, jk_w h2, jk_w h3, am_w1_i, am_w1_r, am_w1_x, am_w1_l, am_w1_w, va_rf_s, am_push_n, am_push_s, am_cs_0, am_cs_i, am_cs_l, am_cs_r, m_uI_K, m_uI_N, m_uI_R, m_uI_L, m_uI_I, m_uL_K, m_uL_N, m_uL_R, m_uL_I, m_uL_L, m_uR_K, m_uR_N, m_uR_I, m_uR_L, m_uR_R, true_and, and_true, true_implies, false_implies, not_true_eq_false, not_false_eq_true, if_true, if_false, false_and, and_false]
    first | rw [br_n (hlt)] | rw [br_q (hlt)] | rw [br_u (hlt)]
    exact h0
theorem l_m_ex2 (d b s : Nat) (D : Dat) (M0 : am_M) (Q : Option Value → am_M → Prop) (hD : dOK D) (hL0 : Lay M0) (h0' : MdM M0 b D) (hs : s < dN D) (hY0 : LyM M0 (dC D) (dR D) (dWt D s) (dV D s) (dSn D s) (dBs D s) (dY D s))
    (hN : ∀ M' v2 v3, gF s332 nT M0 M' → jk v2 → jk v3 → (∀ i g, (dSg D)[i]? = some g → mI M' 332 i = btI (exP D g) (s + 1)) → am_P am_P0 (d + 2) (am_look tX11_explains) 23 [.ref 277, .int (nI (s + 1)), v2, v3] [] M' Q) :
    ∀ (m i : Nat), i + m = (dSg D).length → ∀ (M : am_M) (v3 : Value), jk v3 → gF s332 nT M0 M → (∀ k g, k < i → (dSg D)[k]? = some g → mI M 332 k = btI (exP D g) (s + 1)) → (∀ k g, i ≤ k → (dSg D)[k]? = some g → mI M 332 k = btI (exP D g) s) → am_P am_P0 (d + 2) (am_look tX11_explains) 43 [.ref 277, .int (nI s), .int (nI i), v3] [] M Q := by
  have n8 := dN_8 hD
  have h40 := hD.1.2.2.2.2.2.2.2.1.1
  intro m
  induction m with
  | zero =>
    intro i hi M v3 h3 hM hb hc
    have hL := gF_LayN hM hL0
    have h := MdM_g h0' hM (fun a j q z => by unfold s332 at z; unfold tlM at q; omega)
    have hb2 := h.1.2
    have hle : nI (dSg D).length ≤ nI i := (ni_le (by omega) (by omega)).mpr (by omega)
    have h0 := hN M (.int (nI i)) v3 hM (Or.inr ⟨_, rfl⟩) h3 (fun k g hk => hb k g (by have := (List.getElem?_eq_some_iff.mp hk).1; omega) hk)
    rw [hX11_explains_43]
    simp +decide (disch := omega) only [qX11_explains_0, qX11_explains_1, lm hL, h.1.1, h.2.2.2.2.2.2.1.1, ni_in_t, ni_tn, ni_add1, jk_w h3, am_w1_i, am_w1_r, am_w1_x, am_w1_l, am_w1_w, va_rf_s, am_push_n, am_push_s, am_cs_0, am_cs_i, am_cs_l, am_cs_r, m_uI_K, m_uI_N, m_uI_R, m_uI_L, m_uI_I, m_uL_K, m_uL_N, m_uL_R, m_uL_I, m_uL_L, m_uR_K, m_uR_N, m_uR_I, m_uR_L, m_uR_R, true_and, and_true, true_implies, false_implies, not_true_eq_false, not_false_eq_true, if_true, if_false, false_and, and_false] at h0 ⊢
    first | rw [br_p (hle)] | rw [br_r (hle)] | rw [br_s (hle)]
    exact h0
  | succ m ih =>
    intro i hi M v3 h3 hM hb hc
    have hL := gF_LayN hM hL0
    have h := MdM_g h0' hM (fun a j q z => by unfold s332 at z; unfold tlM at q; omega)
    have hY := LyM_g hY0 hM (fun a j q z => by unfold s332 at z; unfold sY sK sP sFG sF sG at q; omega)
    have hb2 := h.1.2
    have hlt : ¬ nI (dSg D).length ≤ nI i := by rw [ni_le (by omega) (by omega)]; omega
    obtain ⟨g, hg⟩ : ∃ g, (dSg D)[i]? = some g := ⟨(dSg D)[i]'(by omega), List.getElem?_eq_getElem (by omega)⟩
    obtain ⟨i40, o1, o2, o3, o4⟩ := sg_ok hD hg
    obtain ⟨q1, q2, q3⟩ := h.2.2.2.2.2.2.1.2 i g hg
    obtain ⟨-, r1, -⟩ := h.2.2.2.1.2 s _ (dSp_at hs)
    have hok := dSp_ok hD.1 hs
    have hl3 := hok.2.2.2.1
    have e40 : (40 : Int32) * nI b + nI i = nI (40 * b + i) := by rw [show (40 : Int32) = nI 40 from rfl, ni_mul, ni_add]
    have e8 : (8 : Int32) * nI b + nI s = nI (8 * b + s) := by rw [show (8 : Int32) = nI 8 from rfl, ni_mul, ni_add]
    have em := fun Q => m_mayBe hD hL h hs d Q hY o2 o4
    have hci := hc i g (by omega) hg
    rw [hX11_explains_43]
    simp +decide (disch := omega) only [qX11_explains_0, qX11_explains_1, lm hL, h.1.1, h.2.2.2.2.2.2.1.1, e40, e8, q1, q2, q3, r1, em, hci, tI_0, ni_in_t, ni_tn, ni_add1, jk_w h3, Classical.not_not, am_w1_i, am_w1_r, am_w1_x, am_w1_l, am_w1_w, va_rf_s, am_push_n, am_push_s, am_cs_0, am_cs_i, am_cs_l, am_cs_r, m_uI_K, m_uI_N, m_uI_R, m_uI_L, m_uI_I, m_uL_K, m_uL_N, m_uL_R, m_uL_I, m_uL_L, m_uR_K, m_uR_N, m_uR_I, m_uR_L, m_uR_R, true_and, and_true, true_implies, false_implies, not_true_eq_false, not_false_eq_true, if_true, if_false, false_and, and_false]
    first | rw [br_n (hlt)] | rw [br_q (hlt)] | rw [br_u (hlt)]
    rw [ni_eq (by omega) (by omega)]
    have stay : ¬ exP D g s → am_P am_P0 (d + 2) (am_look tX11_explains) 43 [.ref 277, .int (nI s), .int (nI (i + 1)), .int (nI (40 * b + i))] [] M Q := fun hn => ih (i + 1) (by omega) M _ (Or.inr ⟨_, rfl⟩) hM (fun k g' hk hg' => by
      by_cases e : k = i
      · subst e; rw [hg] at hg'; cases hg'; rw [btI_f hn]; exact hci
      · exact hb k g' (by omega) hg') (fun k g' hk hg' => hc k g' (by omega) hg')
    by_cases c : g.1 = (dSp D s).2.1
    · first | rw [br_p (c)] | rw [br_r (c)] | rw [br_s (c)]
      by_cases c2 : dMy D s g.2.2 g.2.1
      · first | rw [br_p (c2)] | rw [br_r (c2)] | rw [br_s (c2)]
        have w1 : gF s332 nT M (uI M 332 i (btI (exP D g) s ||| ((1 : Int32) <<< (nI s &&& 31)))) := gF_i _ rfl
        exact ih (i + 1) (by omega) _ _ (Or.inr ⟨_, rfl⟩) (gF_trans hM w1) (fun k g' hk hg' => by
          rw [m_uI_I]
          by_cases e : k = i
          · subst e; rw [hg] at hg'; cases hg'; rw [if_pos ⟨rfl, rfl⟩, btI_t ⟨c.symm, c2⟩]
          · rw [if_neg (by omega)]; exact hb k g' (by omega) hg') (fun k g' hk hg' => by rw [m_uI_I, if_neg (by omega)]; exact hc k g' (by omega) hg')
      · first | rw [br_n (c2)] | rw [br_q (c2)] | rw [br_u (c2)]
        exact stay (fun q => c2 q.2)
    · first | rw [br_n (c)] | rw [br_q (c)] | rw [br_u (c)]
      exact stay (fun q => c q.1.symm)
theorem MdM_z {M M' : am_M} {b : Nat} {D : Dat} (h : MdM M b D) (hg : gF sMz nT M M') : MdM M' b D := MdM_g h hg (fun a j q w => by unfold tlM at q; unfold sMz sMq at w; omega)
theorem l_m_ex1 (d b : Nat) (D : Dat) (M0 : am_M) (Q : Option Value → am_M → Prop) (hD : dOK D) (hL0 : Lay M0) (h0' : MdM M0 b D) (hQ : ∀ M', gF sMz nT M0 M' → ExM M' D → Q none M') :
    ∀ (m s : Nat), s + m = dN D → ∀ (M : am_M) (v2 v3 : Value), jk v2 → jk v3 → gF sMz nT M0 M → (∀ i g, (dSg D)[i]? = some g → mI M 332 i = btI (exP D g) s) → am_P am_P0 (d + 8) (am_look tX11_explains) 23 [.ref 277, .int (nI s), v2, v3] [] M Q := by
  have n8 := dN_8 hD
  intro m
  induction m with
  | zero =>
    intro s hs M v2 v3 h2 h3 hM hb
    have hL := gF_LayN hM hL0
    have h := MdM_z h0' hM
    have hb2 := h.1.2
    have hle : nI (dN D) ≤ nI s := (ni_le (by omega) (by omega)).mpr (by omega)
    have h0 := hQ M hM (fun i g hg => by rw [hb i g hg, show s = dN D by omega]; rfl)
    rw [hX11_explains_23]
    simp +decide (disch := omega) only [qX11_explains_0, qX11_explains_1, lm hL, h.1.1, h.2.2.2.1.1, ni_in_t, ni_tn, am_w1_i, am_w1_r, am_w1_x, am_w1_l, am_w1_w, va_rf_s, am_push_n, am_push_s, am_cs_0, am_cs_i, am_cs_l, am_cs_r, m_uI_K, m_uI_N, m_uI_R, m_uI_L, m_uI_I, m_uL_K, m_uL_N, m_uL_R, m_uL_I, m_uL_L, m_uR_K, m_uR_N, m_uR_I, m_uR_L, m_uR_R, true_and, and_true, true_implies, false_implies, not_true_eq_false, not_false_eq_true, if_true, if_false, false_and, and_false]
    first | rw [br_p (hle)] | rw [br_r (hle)] | rw [br_s (hle)]
    exact h0
  | succ m ih =>
    intro s hs M v2 v3 h2 h3 hM hb
    have hL := gF_LayN hM hL0
    have h := MdM_z h0' hM
    have hb2 := h.1.2
    have hlt : ¬ nI (dN D) ≤ nI s := by rw [ni_le (by omega) (by omega)]; omega
    rw [hX11_explains_23]
    simp +decide (disch := omega) only [qX11_explains_0, qX11_explains_1, lm hL, h.1.1, h.2.2.2.1.1, jk_w h2, jk_w h3, ni_in_t, ni_tn, am_w1_i, am_w1_r, am_w1_x, am_w1_l, am_w1_w, va_rf_s, am_push_n, am_push_s, am_cs_0, am_cs_i, am_cs_l, am_cs_r, m_uI_K, m_uI_N, m_uI_R, m_uI_L, m_uI_I, m_uL_K, m_uL_N, m_uL_R, m_uL_I, m_uL_L, m_uR_K, m_uR_N, m_uR_I, m_uR_L, m_uR_R, true_and, and_true, true_implies, false_implies, not_true_eq_false, not_false_eq_true, if_true, if_false, false_and, and_false]
    first | rw [br_n (hlt)] | rw [br_q (hlt)] | rw [br_u (hlt)]
    obtain ⟨-, u2, -⟩ := mh hD h (s := s) (by omega)
    obtain ⟨w1, w2, w3, w4, w5⟩ := mh hD h (s := s) (by omega)
    refine c_m_lays d s b (dC D) (dR D) (dV D s) (dDp D) (dDr D s) (dLd D s) (dBk D) (dY D s) M _ hL w1 (by omega) w2 w3 w4 (dY_len hD s) (fun M1 o1 y1 => ?_)
    rw [w5] at y1
    have g1 : gF sMz nT M M1 := gF_up (gF_o o1) (fun a j q => Or.inl (sMq_Y q)) (fun _ _ q => q)
    have L1 := gF_LayN g1 hL
    have h1 := MdM_z h g1
    have h9 := l_m_ex2 (d + 6) b s D M1 Q hD L1 h1 (by omega) y1 (fun M' v2' v3' g' q2 q3 e' => ih (s + 1) (by omega) M' v2' v3' q2 q3 (gF_trans hM (gF_trans g1 (gF_up g' (fun a j q => by unfold s332 at q; unfold sMz sMq; omega) (fun _ _ q => q)))) e') (dSg D).length 0 (by omega) M1 v3 h3 (gF_refl _ _ _) (fun k g hk => by omega) (fun k g _ hg => by rw [o1.1 _ _ (by unfold sY sK sP sFG sF sG; omega)]; exact hb k g hg)
    simp +decide only [qX11_explains_0, qX11_explains_1, jk_w h3, am_w1_i, am_w1_r, am_w1_x, am_w1_l, am_w1_w, va_rf_s, am_push_n, am_push_s, am_cs_0, am_cs_i, am_cs_l, am_cs_r, m_uI_K, m_uI_N, m_uI_R, m_uI_L, m_uI_I, m_uL_K, m_uL_N, m_uL_R, m_uL_I, m_uL_L, m_uR_K, m_uR_N, m_uR_I, m_uR_L, m_uR_R, true_and, and_true, true_implies, false_implies, not_true_eq_false, not_false_eq_true, if_true, if_false, false_and, and_false]
    exact h9
theorem m_explains {M : am_M} {b : Nat} {D : Dat} (hD : dOK D) (hL : Lay M) (h : MdM M b D) (d : Nat) (Q : Option Value → am_M → Prop) (hQ : ∀ M', gF sMz nT M M' → ExM M' D → Q none M') : am_E am_P0 (d + 8) 279 [.ref 277] M Q := by
  have h40 := hD.1.2.2.2.2.2.2.2.1.1
  have h0 := l_m_ex0 (d + 8) M Q hL am_x am_x (Or.inl rfl) (Or.inl rfl) (fun M' g' e' => by
    have g2 : gF sMz nT M M' := gF_up g' (fun a j q => by unfold s332 at q; unfold sMz sMq; omega) (fun _ _ q => q)
    exact l_m_ex1 d b D M' Q hD (gF_LayN g' hL) (MdM_z h g2) (fun M2 q2 => hQ M2 (gF_trans g2 q2)) (dN D) 0 (by omega) M' am_x am_x (Or.inl rfl) (Or.inl rfl) (gF_refl _ _ _) (fun i g hg => e' i (by have := (List.getElem?_eq_some_iff.mp hg).1; omega))) 40 0 (by omega) M (gF_refl _ _ _) (fun k hk => by omega)
  rw [eX11_explains]
  simp +decide only [qX11_explains_0, qX11_explains_1, am_w1_i, am_w1_r, am_w1_x, am_w1_l, am_w1_w, va_rf_s, am_push_n, am_push_s, am_cs_0, am_cs_i, am_cs_l, am_cs_r, m_uI_K, m_uI_N, m_uI_R, m_uI_L, m_uI_I, m_uL_K, m_uL_N, m_uL_R, m_uL_I, m_uL_L, m_uR_K, m_uR_N, m_uR_I, m_uR_L, m_uR_R, true_and, and_true, true_implies, false_implies, not_true_eq_false, not_false_eq_true, if_true, if_false, false_and, and_false]
  exact h0
theorem m_sighting (i w : Int32) : MzO 280 [.int i, .int w] (aSgt i w) := by
  intro d M b D Q hD hL h hQ
  have hb2 := h.1.2
  have hn := h.2.2.2.2.2.2.1.1
  have h40 := hD.1.2.2.2.2.2.2.2.1.1
  have e3 : (3 : Int32).toInt = 3 := rfl
  unfold aSgt at hQ
  rw [eX11_sighting]
  simp +decide (disch := omega) only [qX11_sighting_0, qX11_sighting_1, lm hL, h.1.1, hn, c_m_is, bI_0, ni_in_t, ni_tn, Classical.not_not, am_w1_i, am_w1_r, am_w1_x, am_w1_l, am_w1_w, va_rf_s, am_push_n, am_push_s, am_cs_0, am_cs_i, am_cs_l, am_cs_r, m_uI_K, m_uI_N, m_uI_R, m_uI_L, m_uI_I, m_uL_K, m_uL_N, m_uL_R, m_uL_I, m_uL_L, m_uR_K, m_uR_N, m_uR_I, m_uR_L, m_uR_R, true_and, and_true, true_implies, false_implies, not_true_eq_false, not_false_eq_true, if_true, if_false, false_and, and_false]
  rw [is_lt (v := i) (n := (dSg D).length) (by omega)]
  by_cases hi : 0 ≤ i.toInt ∧ i.toInt < (dSg D).length
  · first | rw [br_p (hi)] | rw [br_r (hi)] | rw [br_s (hi)]
    rw [if_pos hi.1] at hQ
    unfold sgA at hQ
    obtain ⟨k, hk⟩ : ∃ k, i.toInt.toNat = k := ⟨_, rfl⟩
    rw [hk] at hQ
    have hkl : k < (dSg D).length := by omega
    have ei : i = nI k := i32_of (by omega) (by omega)
    obtain ⟨g, hg⟩ : ∃ g, (dSg D)[k]? = some g := ⟨(dSg D)[k], List.getElem?_eq_getElem hkl⟩
    rw [hg] at hQ
    dsimp only at hQ
    obtain ⟨q1, q2, q3⟩ := h.2.2.2.2.2.2.1.2 k g hg
    have e40 : (40 : Int32) * nI b + nI k = nI (40 * b + k) := by rw [show (40 : Int32) = nI 40 from rfl, ni_mul, ni_add]
    rw [ei]
    by_cases w3 : 0 ≤ w ∧ w ≤ 3
    · first | rw [br_p (w3)] | rw [br_r (w3)] | rw [br_s (w3)]
      rw [le32, le32, z32, e3] at w3
      obtain ⟨n, n2⟩ : ∃ n, w.toInt.toNat = n := ⟨_, rfl⟩
      have ew : w = nI n := i32_of (by omega) (by omega)
      rw [show w.toInt = n by omega] at hQ
      rw [ew]
      rcases (by omega : n = 0 ∨ n = 1 ∨ n = 2 ∨ n = 3) with e | e | e | e <;> subst e
      · have h0 := hQ M (gF_refl _ _ _)
        simp +decide (disch := omega) only [show nI 0 = (0 : Int32) from rfl, qX11_sighting_0, qX11_sighting_1, lm hL, h.1.1, e40, q1, ni_in_t, ni_tn, if_true, if_false, am_w1_i, am_w1_r, am_w1_x, am_w1_l, am_w1_w, va_rf_s, am_push_n, am_push_s, am_cs_0, am_cs_i, am_cs_l, am_cs_r, m_uI_K, m_uI_N, m_uI_R, m_uI_L, m_uI_I, m_uL_K, m_uL_N, m_uL_R, m_uL_I, m_uL_L, m_uR_K, m_uR_N, m_uR_I, m_uR_L, m_uR_R, true_and, and_true, true_implies, false_implies, not_true_eq_false, not_false_eq_true, if_true, if_false, false_and, and_false] at h0 ⊢
        exact h0
      · have h0 := hQ M (gF_refl _ _ _)
        simp +decide (disch := omega) only [show nI 1 = (1 : Int32) from rfl, qX11_sighting_0, qX11_sighting_1, lm hL, h.1.1, e40, q2, ni_in_t, ni_tn, if_true, if_false, am_w1_i, am_w1_r, am_w1_x, am_w1_l, am_w1_w, va_rf_s, am_push_n, am_push_s, am_cs_0, am_cs_i, am_cs_l, am_cs_r, m_uI_K, m_uI_N, m_uI_R, m_uI_L, m_uI_I, m_uL_K, m_uL_N, m_uL_R, m_uL_I, m_uL_L, m_uR_K, m_uR_N, m_uR_I, m_uR_L, m_uR_R, true_and, and_true, true_implies, false_implies, not_true_eq_false, not_false_eq_true, if_true, if_false, false_and, and_false] at h0 ⊢
        exact h0
      · have h0 := hQ M (gF_refl _ _ _)
        simp +decide (disch := omega) only [show nI 2 = (2 : Int32) from rfl, qX11_sighting_0, qX11_sighting_1, lm hL, h.1.1, e40, q3, ni_in_t, ni_tn, if_true, if_false, am_w1_i, am_w1_r, am_w1_x, am_w1_l, am_w1_w, va_rf_s, am_push_n, am_push_s, am_cs_0, am_cs_i, am_cs_l, am_cs_r, m_uI_K, m_uI_N, m_uI_R, m_uI_L, m_uI_I, m_uL_K, m_uL_N, m_uL_R, m_uL_I, m_uL_L, m_uR_K, m_uR_N, m_uR_I, m_uR_L, m_uR_R, true_and, and_true, true_implies, false_implies, not_true_eq_false, not_false_eq_true, if_true, if_false, false_and, and_false] at h0 ⊢
        exact h0
      · simp +decide (disch := omega) only [show nI 3 = (3 : Int32) from rfl, qX11_sighting_0, qX11_sighting_1, lm hL, am_w1_i, am_w1_r, am_w1_x, am_w1_l, am_w1_w, va_rf_s, am_push_n, am_push_s, am_cs_0, am_cs_i, am_cs_l, am_cs_r, m_uI_K, m_uI_N, m_uI_R, m_uI_L, m_uI_I, m_uL_K, m_uL_N, m_uL_R, m_uL_I, m_uL_L, m_uR_K, m_uR_N, m_uR_I, m_uR_L, m_uR_R, true_and, and_true, true_implies, false_implies, not_true_eq_false, not_false_eq_true, if_true, if_false, false_and, and_false]
        refine m_explains hD hL h (d + 11) _ (fun M1 g1 x1 => ?_)
        have h0 := hQ M1 g1
        have L1 := gF_LayN g1 hL
        simp +decide (disch := omega) only [qX11_sighting_0, qX11_sighting_1, lm L1, x1 k g hg, ni_in_t, ni_tn, if_true, if_false, am_w1_i, am_w1_r, am_w1_x, am_w1_l, am_w1_w, va_rf_s, am_push_n, am_push_s, am_cs_0, am_cs_i, am_cs_l, am_cs_r, m_uI_K, m_uI_N, m_uI_R, m_uI_L, m_uI_I, m_uL_K, m_uL_N, m_uL_R, m_uL_I, m_uL_L, m_uR_K, m_uR_N, m_uR_I, m_uR_L, m_uR_R, true_and, and_true, true_implies, false_implies, not_true_eq_false, not_false_eq_true, if_true, if_false, false_and, and_false] at h0 ⊢
        exact h0
    · first | rw [br_n (w3)] | rw [br_q (w3)] | rw [br_u (w3)]
      rw [le32, le32, z32, e3] at w3
      have h0 := hQ M (gF_refl _ _ _)
      rw [if_neg (by omega), if_neg (by omega), if_neg (by omega), if_neg (by omega)] at h0
      exact h0
  · first | rw [br_n (hi)] | rw [br_q (hi)] | rw [br_u (hi)]
    have h0 := hQ M (gF_refl _ _ _)
    by_cases i0 : 0 ≤ i.toInt
    · rw [if_pos i0] at h0
      unfold sgA at h0
      rw [List.getElem?_eq_none (by omega)] at h0
      exact h0
    · rw [if_neg i0] at h0
      exact h0
theorem op_sighting (i w : Int32) : OpI 131 280 [.int i, .int w] isI := op_z (fun D => ⟨_, rfl⟩) (x_sighting i w) (m_sighting i w)
