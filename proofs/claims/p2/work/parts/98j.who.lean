/-! who, swap -/
def sLn (a _j : Nat) : Prop := ∃ o, o < 8 ∧ a = 180 + 13 * o
theorem sLn_q {z a j : Nat} (h : sLn a j) : sXq z a j := by
  obtain ⟨o, h1, h2⟩ := h
  unfold sXq
  omega
theorem own_t {Y0 : List Sy} {snd : Nat → Bool → Prop} : (ownS true Y0 snd ↔ syS Y0 0 snd) ∧ ownF true Y0 = syF Y0 0 := by
  unfold ownS ownF
  simp
theorem own_f {Y0 : List Sy} {snd : Nat → Bool → Prop} : ownS false Y0 snd ∧ ownF false Y0 = [] := by
  unfold ownS ownF
  simp
/-- a track is asked whether a ship's sayings fit -/
theorem x_fits {M : am_M} {z o s : Nat} {D : Dat} (hD : dOK D) (h : XR M z D) (ho : o < dN D) (hs : s < dN D) (d : Nat) (b : Bool) (Q : Option Value → am_M → Prop) (hQ : ∀ M', zF sLn M M' → XR M' z D → Q (some (.int (tI (ownS b (dY D o) (dSn D o) ∧ syS (dY D s) 0 (dSn D o) ∧ fitP (dWt D o) (dV D o) (dBs D o ++ ownF b (dY D o) ++ syF (dY D s) 0))))) M') : am_E am_P0 (d + 4) 79 [.ref (173 + 13 * o), .ref (z + 25 + 7 * s), .int 0, .int (b01 b)] M Q := by
  have hz := h.1.2.2.1
  have n8 := dN_8 hD
  obtain ⟨t1, t2, t3, t4⟩ := (h.2.2.2.1 o ho).1
  refine c_x_fits d o (z + 25 + 7 * o) z (z + 25 + 7 * s) (dV D o) (dWt D o) (dDp D) (dDr D o) (dLd D o) (dBs D o) (dY D o) (dY D s) 0 b M Q h.1.1 h.1.2.1 (by omega) (isSh_z hz (by omega)) (isSh_z hz (by omega)) hz (by decide) (by decide) t2 t3 t4 (x_ship h hs).2.1 t1 (fun M1 f1 => ?_)
  exact hQ M1 (zF_up (zF_x f1) (fun a j q => ⟨o, by omega, q⟩)) (XR_x hD (by omega) h f1)
theorem l_x_sayersOf (d z s : Nat) (D : Dat) (M0 : am_M) (Q : Option Value → am_M → Prop) (hD : dOK D) (hs : s < dN D) (hQ : ∀ M', zF sLn M0 M' → XR M' z D → Q (some (.int (whI D s))) M') :
    ∀ (m o : Nat), o + m = dN D → ∀ (M : am_M), zF sLn M0 M → XR M z D → am_P am_P0 (d + 5) (am_look tX10_sayersOf) 15 [.ref 0, .int (nI s), .ref (z + 25 + 7 * s), .int (btI (whP D s) o), .int (nI o)] [] M Q := by
  have n8 := dN_8 hD
  intro m
  induction m with
  | zero =>
    intro o ho M hM h
    have hz := h.1.2.2.1
    have hL := h.1.1
    have hr := h.1.2.2.2.1
    have eo : o = dN D := by omega
    have hle : nI (dN D) ≤ nI o := (ni_le (by omega) (by omega)).mpr (by omega)
    have h0 := hQ M hM h
    rw [hX10_sayersOf_15]
    simp +decide only [qX10_sayersOf, lx hL, lz hL hz, hr, (x_n h).1, am_w1_i, am_w1_r, am_w1_x, am_w1_l, am_w1_w, va_rf_s, am_push_n, am_push_s, am_cs_0, am_cs_i, am_cs_l, am_cs_r, m_uI_K, m_uI_N, m_uI_R, m_uI_L, m_uI_I, m_uL_K, m_uL_N, m_uL_R, m_uL_I, m_uL_L, m_uR_K, m_uR_N, m_uR_I, m_uR_L, m_uR_R, true_and, and_true, true_implies, false_implies, not_true_eq_false, not_false_eq_true, if_true, if_false, false_and, and_false]
    first | rw [br_p (hle)] | rw [br_r (hle)] | rw [br_s (hle)]
    rw [eo]
    exact h0
  | succ m ih =>
    intro o ho M hM h
    have hz := h.1.2.2.1
    have hL := h.1.1
    have hr := h.1.2.2.2.1
    have hlt : ¬ nI (dN D) ≤ nI o := by rw [ni_le (by omega) (by omega)]; omega
    have h48 := dY_len hD s
    have hw_ := lw_ hL (isSh_z (z := z) (s := s) hz (by omega))
    have htr := ltr hL (show o < 8 by omega)
    have hst := lt_ hL (isTr_of (show o < 8 by omega))
    have hc := (x_ship h hs).2.1.1
    rw [hX10_sayersOf_15]
    simp +decide (disch := omega) only [qX10_sayersOf, lx hL, lz hL hz, hr, (x_n h).1, hw_, hc, htr, hst, ni_in_t, ni_tn, ni_add1, am_w1_i, am_w1_r, am_w1_x, am_w1_l, am_w1_w, va_rf_s, am_push_n, am_push_s, am_cs_0, am_cs_i, am_cs_l, am_cs_r, m_uI_K, m_uI_N, m_uI_R, m_uI_L, m_uI_I, m_uL_K, m_uL_N, m_uL_R, m_uL_I, m_uL_L, m_uR_K, m_uR_N, m_uR_I, m_uR_L, m_uR_R, true_and, and_true, true_implies, false_implies, not_true_eq_false, not_false_eq_true, if_true, if_false, false_and, and_false]
    first | rw [br_n (hlt)] | rw [br_q (hlt)] | rw [br_u (hlt)]
    rw [ni_eq (by omega) (by omega), ni_pos (by omega)]
    by_cases e : o = s
    · have h0 := ih (o + 1) (by omega) M hM h
      rw [btI_f (fun q => q.1 e)] at h0
      first | rw [br_p (e)] | rw [br_r (e)] | rw [br_s (e)]
      exact h0
    · first | rw [br_n (e)] | rw [br_q (e)] | rw [br_u (e)]
      by_cases l0 : (dY D s).length = 0
      · have h0 := ih (o + 1) (by omega) M hM h
        rw [btI_f (fun q => by have := q.2.1; omega)] at h0
        first | rw [br_p (l0)] | rw [br_r (l0)] | rw [br_s (l0)]
        exact h0
      · first | rw [br_n (l0)] | rw [br_q (l0)] | rw [br_u (l0)]
        refine x_fits hD h (by omega) hs d true _ (fun M1 f1 X1 => ?_)
        rw [(own_t (Y0 := dY D o) (snd := dSn D o)).2, tI_i (and_congr_left' (own_t (Y0 := dY D o) (snd := dSn D o)).1)]
        have h0 := ih (o + 1) (by omega) M1 (zF_trans hM f1) X1
        by_cases c : syS (dY D o) 0 (dSn D o) ∧ syS (dY D s) 0 (dSn D o) ∧ fitP (dWt D o) (dV D o) (dBs D o ++ syF (dY D o) 0 ++ syF (dY D s) 0)
        · rw [btI_t ⟨e, by omega, c⟩] at h0
          rw [tI_t c]
          simp +decide only [qX10_sayersOf, ni_add1, am_w1_i, am_w1_r, am_w1_x, am_w1_l, am_w1_w, va_rf_s, am_push_n, am_push_s, am_cs_0, am_cs_i, am_cs_l, am_cs_r, m_uI_K, m_uI_N, m_uI_R, m_uI_L, m_uI_I, m_uL_K, m_uL_N, m_uL_R, m_uL_I, m_uL_L, m_uR_K, m_uR_N, m_uR_I, m_uR_L, m_uR_R, true_and, and_true, true_implies, false_implies, not_true_eq_false, not_false_eq_true, if_true, if_false, false_and, and_false]
          exact h0
        · rw [btI_f (fun q => c q.2.2)] at h0
          rw [tI_f c]
          simp +decide only [qX10_sayersOf, ni_add1, am_w1_i, am_w1_r, am_w1_x, am_w1_l, am_w1_w, va_rf_s, am_push_n, am_push_s, am_cs_0, am_cs_i, am_cs_l, am_cs_r, m_uI_K, m_uI_N, m_uI_R, m_uI_L, m_uI_I, m_uL_K, m_uL_N, m_uL_R, m_uL_I, m_uL_L, m_uR_K, m_uR_N, m_uR_I, m_uR_L, m_uR_R, true_and, and_true, true_implies, false_implies, not_true_eq_false, not_false_eq_true, if_true, if_false, false_and, and_false]
          exact h0
theorem x_sayersOf {M : am_M} {z s : Nat} {D : Dat} (hD : dOK D) (h : XR M z D) (hs : s < dN D) (d : Nat) (Q : Option Value → am_M → Prop) (hQ : ∀ M', zF sLn M M' → XR M' z D → Q (some (.int (whI D s))) M') : am_E am_P0 (d + 5) 155 [.ref 0, .int (nI s)] M Q := by
  have hz := h.1.2.2.1
  have hL := h.1.1
  have hr := h.1.2.2.2.1
  have n8 := dN_8 hD
  have hsh := lsh hL hz (s := s) (by omega)
  have h0 := l_x_sayersOf d z s D M Q hD hs hQ (dN D) 0 (by omega) M (zF_refl hL h.1.2.1) h
  rw [eX10_sayersOf]
  simp +decide (disch := omega) only [qX10_sayersOf, lx hL, lz hL hz, hr, hsh, ni_in_t, ni_tn, am_w1_i, am_w1_r, am_w1_x, am_w1_l, am_w1_w, va_rf_s, am_push_n, am_push_s, am_cs_0, am_cs_i, am_cs_l, am_cs_r, m_uI_K, m_uI_N, m_uI_R, m_uI_L, m_uI_I, m_uL_K, m_uL_N, m_uL_R, m_uL_I, m_uL_L, m_uR_K, m_uR_N, m_uR_I, m_uR_L, m_uR_R, true_and, and_true, true_implies, false_implies, not_true_eq_false, not_false_eq_true, if_true, if_false, false_and, and_false]
  exact h0
noncomputable def aWho (v : Int32) (D : Dat) : Value := .int (if 0 ≤ v.toInt ∧ v.toInt < dN D then whI D v.toInt.toNat else -1)
theorem x_who (v : Int32) : XqO 126 [.int v] (aWho v) := by
  intro d M z D Q hD h hQ
  have hL := h.1.1
  have n8 := dN_8 hD
  have eS := fun v Q => x_isShip hD h (d + 19) v Q
  unfold aWho at hQ
  rw [eX10_who]
  simp +decide only [qX10_who, lx hL, eS, bI_0, Classical.not_not, am_w1_i, am_w1_r, am_w1_x, am_w1_l, am_w1_w, va_rf_s, am_push_n, am_push_s, am_cs_0, am_cs_i, am_cs_l, am_cs_r, m_uI_K, m_uI_N, m_uI_R, m_uI_L, m_uI_I, m_uL_K, m_uL_N, m_uL_R, m_uL_I, m_uL_L, m_uR_K, m_uR_N, m_uR_I, m_uR_L, m_uR_R, true_and, and_true, true_implies, false_implies, not_true_eq_false, not_false_eq_true, if_true, if_false, false_and, and_false]
  by_cases hv : 0 ≤ v.toInt ∧ v.toInt < dN D
  · first | rw [br_p (hv)] | rw [br_r (hv)] | rw [br_s (hv)]
    rw [if_pos hv] at hQ
    obtain ⟨s, s1, s2, s3⟩ := sh_of (by omega) hv
    rw [s3] at hQ
    rw [s2]
    refine x_sayersOf hD h s1 (d + 14) _ (fun M1 f1 X1 => ?_)
    have h0 := hQ M1 (zF_up f1 (fun a j q => sLn_q q)) X1
    simp +decide only [qX10_who, am_w1_i, am_w1_r, am_w1_x, am_w1_l, am_w1_w, va_rf_s, am_push_n, am_push_s, am_cs_0, am_cs_i, am_cs_l, am_cs_r, m_uI_K, m_uI_N, m_uI_R, m_uI_L, m_uI_I, m_uL_K, m_uL_N, m_uL_R, m_uL_I, m_uL_L, m_uR_K, m_uR_N, m_uR_I, m_uR_L, m_uR_R, true_and, and_true, true_implies, false_implies, not_true_eq_false, not_false_eq_true, if_true, if_false, false_and, and_false]
    exact h0
  · have h0 := hQ M (XR_2 h) h
    rw [if_neg hv] at h0
    first | rw [br_n (hv)] | rw [br_q (hv)] | rw [br_u (hv)]
    exact h0
theorem m_saidBy {M : am_M} {b s o : Nat} {D : Dat} (hD : dOK D) (hL : Lay M) (h : MdM M b D) (hs : s < dN D) (ho : o < dN D) (d : Nat) (Q : Option Value → am_M → Prop) (hQ : ∀ M', gF sMq nT M M' → Q (some (.int (tI (syS (dY D o) 0 (dSn D o) ∧ syS (dY D s) 0 (dSn D o) ∧ fitP (dWt D o) (dV D o) (dBs D o ++ syF (dY D o) 0 ++ syF (dY D s) 0))))) M') : am_E am_P0 (d + 5) 259 [.ref 277, .int (nI s), .int (nI o)] M Q := by
  have n8 := dN_8 hD
  obtain ⟨m1, m2, m3, m4, m5⟩ := mh hD h ho
  obtain ⟨-, p2, -, -, -⟩ := mh hD h hs
  refine c_m_saidBy d o s b (dC D) (dR D) (dV D o) (dV D s) (dDp D) (dDr D o) (dLd D o) (dDr D s) (dLd D s) (dY D o) (dY D s) (dBk D) M Q hL m1 (by omega) (by omega) m2 p2 m3 m4 (fun M1 g1 => ?_)
  have h0 := hQ M1 (gF_up (gF_o g1) (fun a j q => sMq_FG q) (fun _ _ q => q))
  rw [m5, tI_i (q := syS (dY D o) 0 (dSn D o) ∧ syS (dY D s) 0 (dSn D o) ∧ fitP (dWt D o) (dV D o) (dBs D o ++ syF (dY D o) 0 ++ syF (dY D s) 0)) ?_]
  · exact h0
  · have e : fitP (dWt D o) (dV D o) (syF (dY D s) 0 ++ syF (dY D o) 0 ++ bkOf (dBk D) o) ↔ fitP (dWt D o) (dV D o) (dBs D o ++ syF (dY D o) 0 ++ syF (dY D s) 0) := fit_mem (fun a => by
      unfold dBs
      simp only [List.mem_append]
      constructor <;> (intro q; rcases q with (q | q) | q <;> simp [q]))
    rw [e]
    exact ⟨fun q => ⟨q.2.1, q.1, q.2.2⟩, fun q => ⟨q.2.1, q.1, q.2.2⟩⟩
theorem l_m_whoOf (d b s : Nat) (D : Dat) (M0 : am_M) (Q : Option Value → am_M → Prop) (hD : dOK D) (hL0 : Lay M0) (h0' : MdM M0 b D) (hs : s < dN D) (hQ : ∀ M', gF sMq nT M0 M' → Q (some (.int (whI D s))) M') :
    ∀ (m o : Nat), o + m = dN D → ∀ (M : am_M), gF sMq nT M0 M → am_P am_P0 (d + 6) (am_look tX11_whoOf) 4 [.ref 277, .int (nI s), .int (btI (whP D s) o), .int (nI o)] [] M Q := by
  have n8 := dN_8 hD
  intro m
  induction m with
  | zero =>
    intro o ho M hM
    have hL := gF_LayN hM hL0
    have h := MdM_q h0' hM
    have hb2 := h.1.2
    have hle : nI (dN D) ≤ nI o := (ni_le (by omega) (by omega)).mpr (by omega)
    have h0 := hQ M hM
    have eo : o = dN D := by omega
    rw [hX11_whoOf_4]
    simp +decide (disch := omega) only [qX11_whoOf, lm hL, h.1.1, h.2.2.2.1.1, ni_in_t, ni_tn, am_w1_i, am_w1_r, am_w1_x, am_w1_l, am_w1_w, va_rf_s, am_push_n, am_push_s, am_cs_0, am_cs_i, am_cs_l, am_cs_r, m_uI_K, m_uI_N, m_uI_R, m_uI_L, m_uI_I, m_uL_K, m_uL_N, m_uL_R, m_uL_I, m_uL_L, m_uR_K, m_uR_N, m_uR_I, m_uR_L, m_uR_R, true_and, and_true, true_implies, false_implies, not_true_eq_false, not_false_eq_true, if_true, if_false, false_and, and_false]
    first | rw [br_p (hle)] | rw [br_r (hle)] | rw [br_s (hle)]
    rw [eo]
    exact h0
  | succ m ih =>
    intro o ho M hM
    have hL := gF_LayN hM hL0
    have h := MdM_q h0' hM
    have hb2 := h.1.2
    have hlt : ¬ nI (dN D) ≤ nI o := by rw [ni_le (by omega) (by omega)]; omega
    have h48 := dY_len hD s
    have hsay := fun Q => m_sayN hD hL h (s := s) (by omega) (d + 4) Q
    rw [hX11_whoOf_4]
    simp +decide (disch := omega) only [qX11_whoOf, lm hL, h.1.1, h.2.2.2.1.1, hsay, ni_in_t, ni_tn, ni_add1, or_z, am_w1_i, am_w1_r, am_w1_x, am_w1_l, am_w1_w, va_rf_s, am_push_n, am_push_s, am_cs_0, am_cs_i, am_cs_l, am_cs_r, m_uI_K, m_uI_N, m_uI_R, m_uI_L, m_uI_I, m_uL_K, m_uL_N, m_uL_R, m_uL_I, m_uL_L, m_uR_K, m_uR_N, m_uR_I, m_uR_L, m_uR_R, true_and, and_true, true_implies, false_implies, not_true_eq_false, not_false_eq_true, if_true, if_false, false_and, and_false]
    first | rw [br_n (hlt)] | rw [br_q (hlt)] | rw [br_u (hlt)]
    rw [ni_eq (by omega) (by omega), ni_pos (by omega)]
    by_cases e : o = s
    · have h0 := ih (o + 1) (by omega) M hM
      rw [btI_f (fun q => q.1 e)] at h0
      first | rw [br_p (e)] | rw [br_r (e)] | rw [br_s (e)]
      exact h0
    · first | rw [br_n (e)] | rw [br_q (e)] | rw [br_u (e)]
      by_cases l0 : (dY D s).length = 0
      · have h0 := ih (o + 1) (by omega) M hM
        rw [btI_f (fun q => by have := q.2.1; omega)] at h0
        first | rw [br_p (l0)] | rw [br_r (l0)] | rw [br_s (l0)]
        exact h0
      · first | rw [br_n (l0)] | rw [br_q (l0)] | rw [br_u (l0)]
        refine m_saidBy hD hL h hs (by omega) d _ (fun M1 g1 => ?_)
        have h0 := ih (o + 1) (by omega) M1 (gF_trans hM g1)
        by_cases c : syS (dY D o) 0 (dSn D o) ∧ syS (dY D s) 0 (dSn D o) ∧ fitP (dWt D o) (dV D o) (dBs D o ++ syF (dY D o) 0 ++ syF (dY D s) 0)
        · rw [btI_t ⟨e, by omega, c⟩] at h0
          rw [tI_t c]
          simp +decide only [qX11_whoOf, ni_add1, am_w1_i, am_w1_r, am_w1_x, am_w1_l, am_w1_w, va_rf_s, am_push_n, am_push_s, am_cs_0, am_cs_i, am_cs_l, am_cs_r, m_uI_K, m_uI_N, m_uI_R, m_uI_L, m_uI_I, m_uL_K, m_uL_N, m_uL_R, m_uL_I, m_uL_L, m_uR_K, m_uR_N, m_uR_I, m_uR_L, m_uR_R, true_and, and_true, true_implies, false_implies, not_true_eq_false, not_false_eq_true, if_true, if_false, false_and, and_false]
          exact h0
        · rw [btI_f (fun q => c q.2.2)] at h0
          rw [tI_f c]
          simp +decide only [qX11_whoOf, ni_add1, or_z, am_w1_i, am_w1_r, am_w1_x, am_w1_l, am_w1_w, va_rf_s, am_push_n, am_push_s, am_cs_0, am_cs_i, am_cs_l, am_cs_r, m_uI_K, m_uI_N, m_uI_R, m_uI_L, m_uI_I, m_uL_K, m_uL_N, m_uL_R, m_uL_I, m_uL_L, m_uR_K, m_uR_N, m_uR_I, m_uR_L, m_uR_R, true_and, and_true, true_implies, false_implies, not_true_eq_false, not_false_eq_true, if_true, if_false, false_and, and_false]
          exact h0
theorem m_whoOf {M : am_M} {b s : Nat} {D : Dat} (hD : dOK D) (hL : Lay M) (h : MdM M b D) (hs : s < dN D) (d : Nat) (Q : Option Value → am_M → Prop) (hQ : ∀ M', gF sMq nT M M' → Q (some (.int (whI D s))) M') : am_E am_P0 (d + 6) 260 [.ref 277, .int (nI s)] M Q := by
  have h0 := l_m_whoOf d b s D M Q hD hL h hs hQ (dN D) 0 (by omega) M (gF_refl _ _ _)
  rw [eX11_whoOf]
  simp +decide only [qX11_whoOf, am_w1_i, am_w1_r, am_w1_x, am_w1_l, am_w1_w, va_rf_s, am_push_n, am_push_s, am_cs_0, am_cs_i, am_cs_l, am_cs_r, m_uI_K, m_uI_N, m_uI_R, m_uI_L, m_uI_I, m_uL_K, m_uL_N, m_uL_R, m_uL_I, m_uL_L, m_uR_K, m_uR_N, m_uR_I, m_uR_L, m_uR_R, true_and, and_true, true_implies, false_implies, not_true_eq_false, not_false_eq_true, if_true, if_false, false_and, and_false]
  exact h0
theorem m_who (v : Int32) : MqO 271 [.int v] (aWho v) := by
  intro d M b D Q hD hL h hQ
  have n8 := dN_8 hD
  have eS := fun v Q => m_isShip hD hL h (d + 18) v Q
  unfold aWho at hQ
  rw [eX11_who]
  simp +decide only [qX11_who, lm hL, eS, bI_0, Classical.not_not, am_w1_i, am_w1_r, am_w1_x, am_w1_l, am_w1_w, va_rf_s, am_push_n, am_push_s, am_cs_0, am_cs_i, am_cs_l, am_cs_r, m_uI_K, m_uI_N, m_uI_R, m_uI_L, m_uI_I, m_uL_K, m_uL_N, m_uL_R, m_uL_I, m_uL_L, m_uR_K, m_uR_N, m_uR_I, m_uR_L, m_uR_R, true_and, and_true, true_implies, false_implies, not_true_eq_false, not_false_eq_true, if_true, if_false, false_and, and_false]
  by_cases hv : 0 ≤ v.toInt ∧ v.toInt < dN D
  · first | rw [br_p (hv)] | rw [br_r (hv)] | rw [br_s (hv)]
    rw [if_pos hv] at hQ
    obtain ⟨s, s1, s2, s3⟩ := sh_of (by omega) hv
    rw [s3] at hQ
    rw [s2]
    refine m_whoOf hD hL h s1 (d + 13) _ (fun M1 g1 => ?_)
    have h0 := hQ M1 g1
    simp +decide only [qX11_who, am_w1_i, am_w1_r, am_w1_x, am_w1_l, am_w1_w, va_rf_s, am_push_n, am_push_s, am_cs_0, am_cs_i, am_cs_l, am_cs_r, m_uI_K, m_uI_N, m_uI_R, m_uI_L, m_uI_I, m_uL_K, m_uL_N, m_uL_R, m_uL_I, m_uL_L, m_uR_K, m_uR_N, m_uR_I, m_uR_L, m_uR_R, true_and, and_true, true_implies, false_implies, not_true_eq_false, not_false_eq_true, if_true, if_false, false_and, and_false]
    exact h0
  · have h0 := hQ M (gF_refl _ _ _)
    rw [if_neg hv] at h0
    first | rw [br_n (hv)] | rw [br_q (hv)] | rw [br_u (hv)]
    exact h0
theorem op_who (v : Int32) : OpI 126 271 [.int v] isI := op_q (fun D => ⟨_, rfl⟩) (x_who v) (m_who v)
/-- the ship o could have said, instead of its own, what s says -/
def swP (D : Dat) (s o : Nat) : Prop := syS (dY D s) 0 (dSn D o) ∧ fitP (dWt D o) (dV D o) (dBs D o ++ syF (dY D s) 0)
noncomputable def aSwp (v w : Int32) (D : Dat) : Value := .int (if ¬ v = w ∧ (0 ≤ v.toInt ∧ v.toInt < dN D) ∧ (0 ≤ w.toInt ∧ w.toInt < dN D) ∧ ¬ (dY D v.toInt.toNat).length = 0 ∧ ¬ (dY D w.toInt.toNat).length = 0 then tI (swP D w.toInt.toNat v.toInt.toNat ∧ swP D v.toInt.toNat w.toInt.toNat) else -1)
theorem x_fitsF {M : am_M} {z o s : Nat} {D : Dat} (hD : dOK D) (h : XR M z D) (ho : o < dN D) (hs : s < dN D) (d : Nat) (Q : Option Value → am_M → Prop) (hQ : ∀ M', zF sLn M M' → XR M' z D → Q (some (.int (tI (swP D s o)))) M') : am_E am_P0 (d + 4) 79 [.ref (173 + 13 * o), .ref (z + 25 + 7 * s), .int 0, .int 0] M Q := by
  refine x_fits hD h ho hs d false Q (fun M1 f1 X1 => ?_)
  have h0 := hQ M1 f1 X1
  rw [(own_f (Y0 := dY D o) (snd := dSn D o)).2, List.append_nil, tI_i (q := swP D s o) ⟨fun q => q.2, fun q => ⟨own_f.1, q⟩⟩]
  exact h0
theorem x_swap (v w : Int32) : XqO 127 [.int v, .int w] (aSwp v w) := by
  intro d M z D Q hD h hQ
  have hz := h.1.2.2.1
  have hL := h.1.1
  have hr := h.1.2.2.2.1
  have n8 := dN_8 hD
  have eS := fun v Q => x_isShip hD h (d + 19) v Q
  have eb := fun M Q => c_x_bit (d + 19) 0 M Q (Or.inl rfl)
  have eb1 := fun M Q => c_x_bit (d + 19) 1 M Q (Or.inr rfl)
  unfold aSwp at hQ
  rw [eX10_swap]
  simp +decide only [qX10_swap_0, qX10_swap_1, lx hL, lz hL hz, hr, eS, bI_0, Classical.not_not, am_w1_i, am_w1_r, am_w1_x, am_w1_l, am_w1_w, va_rf_s, am_push_n, am_push_s, am_cs_0, am_cs_i, am_cs_l, am_cs_r, m_uI_K, m_uI_N, m_uI_R, m_uI_L, m_uI_I, m_uL_K, m_uL_N, m_uL_R, m_uL_I, m_uL_L, m_uR_K, m_uR_N, m_uR_I, m_uR_L, m_uR_R, true_and, and_true, true_implies, false_implies, not_true_eq_false, not_false_eq_true, if_true, if_false, false_and, and_false]
  by_cases e : v = w
  · have h0 := hQ M (XR_2 h) h
    rw [if_neg (fun q => q.1 e)] at h0
    first | rw [br_p (e)] | rw [br_r (e)] | rw [br_s (e)]
    exact h0
  · first | rw [br_n (e)] | rw [br_q (e)] | rw [br_u (e)]
    by_cases hv : 0 ≤ v.toInt ∧ v.toInt < dN D
    · first | rw [br_p (hv)] | rw [br_r (hv)] | rw [br_s (hv)]
      by_cases hw : 0 ≤ w.toInt ∧ w.toInt < dN D
      · first | rw [br_p (hw)] | rw [br_r (hw)] | rw [br_s (hw)]
        obtain ⟨s, s1, s2, s3⟩ := sh_of (by omega) hv
        obtain ⟨o, o1, o2, o3⟩ := sh_of (by omega) hw
        have hsh := lsh hL hz (s := s) (by omega)
        have hsh' := lsh hL hz (s := o) (by omega)
        have hw_ := lw_ hL (isSh_z (z := z) (s := s) hz (by omega))
        have hw_' := lw_ hL (isSh_z (z := z) (s := o) hz (by omega))
        have h48 := dY_len hD s
        have h48' := dY_len hD o
        have q1 := (x_ship h s1).2.1.1
        have q1' := (x_ship h o1).2.1.1
        have htr := ltr hL (show s < 8 by omega)
        have hst := lt_ hL (isTr_of (show s < 8 by omega))
        have z1 : nI (dY D s).length = 0 ↔ (dY D s).length = 0 := by rw [show (0 : Int32) = nI 0 from rfl, ni_eq (by omega) (by omega)]
        have z1' : nI (dY D o).length = 0 ↔ (dY D o).length = 0 := by rw [show (0 : Int32) = nI 0 from rfl, ni_eq (by omega) (by omega)]
        rw [s3, o3] at hQ
        rw [s2, o2]
        simp +decide (disch := omega) only [qX10_swap_0, qX10_swap_1, lx hL, lz hL hz, hr, hsh, hsh', hw_, hw_', q1, q1', z1, z1', htr, hst, ni_in_t, ni_tn, Classical.not_not, am_w1_i, am_w1_r, am_w1_x, am_w1_l, am_w1_w, va_rf_s, am_push_n, am_push_s, am_cs_0, am_cs_i, am_cs_l, am_cs_r, m_uI_K, m_uI_N, m_uI_R, m_uI_L, m_uI_I, m_uL_K, m_uL_N, m_uL_R, m_uL_I, m_uL_L, m_uR_K, m_uR_N, m_uR_I, m_uR_L, m_uR_R, true_and, and_true, true_implies, false_implies, not_true_eq_false, not_false_eq_true, if_true, if_false, false_and, and_false]
        by_cases l0 : (dY D s).length = 0
        · have h0 := hQ M (XR_2 h) h
          rw [if_neg (fun q => q.2.2.2.1 l0)] at h0
          first | rw [br_p (l0)] | rw [br_r (l0)] | rw [br_s (l0)]
          exact h0
        · first | rw [br_n (l0)] | rw [br_q (l0)] | rw [br_u (l0)]
          by_cases l1 : (dY D o).length = 0
          · have h0 := hQ M (XR_2 h) h
            rw [if_neg (fun q => q.2.2.2.2 l1)] at h0
            first | rw [br_p (l1)] | rw [br_r (l1)] | rw [br_s (l1)]
            exact h0
          · first | rw [br_n (l1)] | rw [br_q (l1)] | rw [br_u (l1)]
            rw [if_pos ⟨e, hv, hw, l0, l1⟩] at hQ
            refine x_fitsF hD h s1 o1 (d + 15) _ (fun M1 f1 X1 => ?_)
            by_cases c : swP D o s
            · rw [tI_t c]
              have htr1 := ltr X1.1.1 (show o < 8 by omega)
              have hst1 := lt_ X1.1.1 (isTr_of (show o < 8 by omega))
              simp +decide (disch := omega) only [qX10_swap_0, qX10_swap_1, lx X1.1.1, htr1, hst1, ni_in_t, ni_tn, am_w1_i, am_w1_r, am_w1_x, am_w1_l, am_w1_w, va_rf_s, am_push_n, am_push_s, am_cs_0, am_cs_i, am_cs_l, am_cs_r, m_uI_K, m_uI_N, m_uI_R, m_uI_L, m_uI_I, m_uL_K, m_uL_N, m_uL_R, m_uL_I, m_uL_L, m_uR_K, m_uR_N, m_uR_I, m_uR_L, m_uR_R, true_and, and_true, true_implies, false_implies, not_true_eq_false, not_false_eq_true, if_true, if_false, false_and, and_false]
              refine x_fitsF hD X1 o1 s1 (d + 15) _ (fun M2 f2 X2 => ?_)
              have h0 := hQ M2 (zF_up (zF_trans f1 f2) (fun a j q => sLn_q q)) X2
              by_cases c2 : swP D s o
              · rw [tI_t ⟨c, c2⟩] at h0
                rw [tI_t c2]
                simp +decide only [qX10_swap_0, qX10_swap_1, eb1, am_w1_i, am_w1_r, am_w1_x, am_w1_l, am_w1_w, va_rf_s, am_push_n, am_push_s, am_cs_0, am_cs_i, am_cs_l, am_cs_r, m_uI_K, m_uI_N, m_uI_R, m_uI_L, m_uI_I, m_uL_K, m_uL_N, m_uL_R, m_uL_I, m_uL_L, m_uR_K, m_uR_N, m_uR_I, m_uR_L, m_uR_R, true_and, and_true, true_implies, false_implies, not_true_eq_false, not_false_eq_true, if_true, if_false, false_and, and_false]
                exact h0
              · rw [tI_f (fun q => c2 q.2)] at h0
                rw [tI_f c2]
                simp +decide only [qX10_swap_0, qX10_swap_1, eb, am_w1_i, am_w1_r, am_w1_x, am_w1_l, am_w1_w, va_rf_s, am_push_n, am_push_s, am_cs_0, am_cs_i, am_cs_l, am_cs_r, m_uI_K, m_uI_N, m_uI_R, m_uI_L, m_uI_I, m_uL_K, m_uL_N, m_uL_R, m_uL_I, m_uL_L, m_uR_K, m_uR_N, m_uR_I, m_uR_L, m_uR_R, true_and, and_true, true_implies, false_implies, not_true_eq_false, not_false_eq_true, if_true, if_false, false_and, and_false]
                exact h0
            · have h0 := hQ M1 (zF_up f1 (fun a j q => sLn_q q)) X1
              rw [tI_f (fun q => c q.1)] at h0
              rw [tI_f c]
              simp +decide only [qX10_swap_0, qX10_swap_1, eb, am_w1_i, am_w1_r, am_w1_x, am_w1_l, am_w1_w, va_rf_s, am_push_n, am_push_s, am_cs_0, am_cs_i, am_cs_l, am_cs_r, m_uI_K, m_uI_N, m_uI_R, m_uI_L, m_uI_I, m_uL_K, m_uL_N, m_uL_R, m_uL_I, m_uL_L, m_uR_K, m_uR_N, m_uR_I, m_uR_L, m_uR_R, true_and, and_true, true_implies, false_implies, not_true_eq_false, not_false_eq_true, if_true, if_false, false_and, and_false]
              exact h0
      · have h0 := hQ M (XR_2 h) h
        rw [if_neg (fun q => hw q.2.2.1)] at h0
        first | rw [br_n (hw)] | rw [br_q (hw)] | rw [br_u (hw)]
        exact h0
    · have h0 := hQ M (XR_2 h) h
      rw [if_neg (fun q => hv q.2.1)] at h0
      first | rw [br_n (hv)] | rw [br_q (hv)] | rw [br_u (hv)]
      exact h0
theorem m_isFor {M : am_M} {b s o : Nat} {D : Dat} (hD : dOK D) (hL : Lay M) (h : MdM M b D) (hs : s < dN D) (ho : o < dN D) (d : Nat) (Q : Option Value → am_M → Prop) (hQ : ∀ M', gF sMq nT M M' → Q (some (.int (tI (swP D s o)))) M') : am_E am_P0 (d + 5) 272 [.ref 277, .int (nI s), .int (nI o)] M Q := by
  have n8 := dN_8 hD
  obtain ⟨m1, m2, m3, m4, m5⟩ := mh hD h ho
  obtain ⟨-, p2, -, -, -⟩ := mh hD h hs
  refine c_m_isFor d o s b (dC D) (dR D) (dV D o) (dV D s) (dDp D) (dDr D o) (dLd D o) (dDr D s) (dLd D s) (dY D o) (dY D s) (dBk D) M Q hL m1 (by omega) (by omega) m2 p2 m3 m4 (fun M1 g1 => ?_)
  have h0 := hQ M1 (gF_up (gF_o g1) (fun a j q => sMq_FG q) (fun _ _ q => q))
  rw [m5, tI_i (q := swP D s o) ?_]
  · exact h0
  · have e : fitP (dWt D o) (dV D o) (syF (dY D s) 0 ++ bkOf (dBk D) o) ↔ fitP (dWt D o) (dV D o) (dBs D o ++ syF (dY D s) 0) := fit_mem (fun a => by
      unfold dBs
      simp only [List.mem_append]
      constructor <;> (intro q; rcases q with q | q <;> simp [q]))
    rw [e]
    exact Iff.rfl
theorem m_swap (v w : Int32) : MqO 273 [.int v, .int w] (aSwp v w) := by
  intro d M b D Q hD hL h hQ
  have n8 := dN_8 hD
  have eS := fun v Q => m_isShip hD hL h (d + 18) v Q
  unfold aSwp at hQ
  rw [eX11_swap]
  simp +decide only [qX11_swap, lm hL, eS, bI_0, Classical.not_not, am_w1_i, am_w1_r, am_w1_x, am_w1_l, am_w1_w, va_rf_s, am_push_n, am_push_s, am_cs_0, am_cs_i, am_cs_l, am_cs_r, m_uI_K, m_uI_N, m_uI_R, m_uI_L, m_uI_I, m_uL_K, m_uL_N, m_uL_R, m_uL_I, m_uL_L, m_uR_K, m_uR_N, m_uR_I, m_uR_L, m_uR_R, true_and, and_true, true_implies, false_implies, not_true_eq_false, not_false_eq_true, if_true, if_false, false_and, and_false]
  by_cases hv : 0 ≤ v.toInt ∧ v.toInt < dN D
  · first | rw [br_p (hv)] | rw [br_r (hv)] | rw [br_s (hv)]
    by_cases hw : 0 ≤ w.toInt ∧ w.toInt < dN D
    · first | rw [br_p (hw)] | rw [br_r (hw)] | rw [br_s (hw)]
      by_cases e : v = w
      · have h0 := hQ M (gF_refl _ _ _)
        rw [if_neg (fun q => q.1 e)] at h0
        first | rw [br_p (e)] | rw [br_r (e)] | rw [br_s (e)]
        exact h0
      · first | rw [br_n (e)] | rw [br_q (e)] | rw [br_u (e)]
        obtain ⟨s, s1, s2, s3⟩ := sh_of (by omega) hv
        obtain ⟨o, o1, o2, o3⟩ := sh_of (by omega) hw
        have h48 := dY_len hD s
        have h48' := dY_len hD o
        have hsay := fun Q => m_sayN hD hL h (s := s) (by omega) (d + 18) Q
        have hsay' := fun Q => m_sayN hD hL h (s := o) (by omega) (d + 18) Q
        have z1 : nI (dY D s).length = 0 ↔ (dY D s).length = 0 := by rw [show (0 : Int32) = nI 0 from rfl, ni_eq (by omega) (by omega)]
        have z1' : nI (dY D o).length = 0 ↔ (dY D o).length = 0 := by rw [show (0 : Int32) = nI 0 from rfl, ni_eq (by omega) (by omega)]
        rw [s3, o3] at hQ
        rw [s2, o2]
        simp +decide (disch := omega) only [qX11_swap, lm hL, hsay, hsay', z1, z1', Classical.not_not, am_w1_i, am_w1_r, am_w1_x, am_w1_l, am_w1_w, va_rf_s, am_push_n, am_push_s, am_cs_0, am_cs_i, am_cs_l, am_cs_r, m_uI_K, m_uI_N, m_uI_R, m_uI_L, m_uI_I, m_uL_K, m_uL_N, m_uL_R, m_uL_I, m_uL_L, m_uR_K, m_uR_N, m_uR_I, m_uR_L, m_uR_R, true_and, and_true, true_implies, false_implies, not_true_eq_false, not_false_eq_true, if_true, if_false, false_and, and_false]
        by_cases l0 : (dY D s).length = 0
        · have h0 := hQ M (gF_refl _ _ _)
          rw [if_neg (fun q => q.2.2.2.1 l0)] at h0
          first | rw [br_p (l0)] | rw [br_r (l0)] | rw [br_s (l0)]
          exact h0
        · first | rw [br_n (l0)] | rw [br_q (l0)] | rw [br_u (l0)]
          by_cases l1 : (dY D o).length = 0
          · have h0 := hQ M (gF_refl _ _ _)
            rw [if_neg (fun q => q.2.2.2.2 l1)] at h0
            first | rw [br_p (l1)] | rw [br_r (l1)] | rw [br_s (l1)]
            exact h0
          · first | rw [br_n (l1)] | rw [br_q (l1)] | rw [br_u (l1)]
            rw [if_pos ⟨e, hv, hw, l0, l1⟩] at hQ
            refine m_isFor hD hL h s1 o1 (d + 14) _ (fun M1 g1 => ?_)
            by_cases c : swP D s o
            · rw [tI_t c]
              have L1 := gF_LayN g1 hL
              have h1 := MdM_q h g1
              simp +decide (disch := omega) only [qX11_swap, lm L1, am_w1_i, am_w1_r, am_w1_x, am_w1_l, am_w1_w, va_rf_s, am_push_n, am_push_s, am_cs_0, am_cs_i, am_cs_l, am_cs_r, m_uI_K, m_uI_N, m_uI_R, m_uI_L, m_uI_I, m_uL_K, m_uL_N, m_uL_R, m_uL_I, m_uL_L, m_uR_K, m_uR_N, m_uR_I, m_uR_L, m_uR_R, true_and, and_true, true_implies, false_implies, not_true_eq_false, not_false_eq_true, if_true, if_false, false_and, and_false]
              refine m_isFor hD L1 h1 o1 s1 (d + 14) _ (fun M2 g2 => ?_)
              have h0 := hQ M2 (gF_trans g1 g2)
              by_cases c2 : swP D o s
              · rw [tI_t ⟨c2, c⟩] at h0
                rw [tI_t c2]
                simp +decide only [qX11_swap, am_w1_i, am_w1_r, am_w1_x, am_w1_l, am_w1_w, va_rf_s, am_push_n, am_push_s, am_cs_0, am_cs_i, am_cs_l, am_cs_r, m_uI_K, m_uI_N, m_uI_R, m_uI_L, m_uI_I, m_uL_K, m_uL_N, m_uL_R, m_uL_I, m_uL_L, m_uR_K, m_uR_N, m_uR_I, m_uR_L, m_uR_R, true_and, and_true, true_implies, false_implies, not_true_eq_false, not_false_eq_true, if_true, if_false, false_and, and_false]
                exact h0
              · rw [tI_f (fun q => c2 q.1)] at h0
                rw [tI_f c2]
                simp +decide only [qX11_swap, am_w1_i, am_w1_r, am_w1_x, am_w1_l, am_w1_w, va_rf_s, am_push_n, am_push_s, am_cs_0, am_cs_i, am_cs_l, am_cs_r, m_uI_K, m_uI_N, m_uI_R, m_uI_L, m_uI_I, m_uL_K, m_uL_N, m_uL_R, m_uL_I, m_uL_L, m_uR_K, m_uR_N, m_uR_I, m_uR_L, m_uR_R, true_and, and_true, true_implies, false_implies, not_true_eq_false, not_false_eq_true, if_true, if_false, false_and, and_false]
                exact h0
            · have h0 := hQ M1 g1
              rw [tI_f (fun q => c q.2)] at h0
              rw [tI_f c]
              simp +decide only [qX11_swap, am_w1_i, am_w1_r, am_w1_x, am_w1_l, am_w1_w, va_rf_s, am_push_n, am_push_s, am_cs_0, am_cs_i, am_cs_l, am_cs_r, m_uI_K, m_uI_N, m_uI_R, m_uI_L, m_uI_I, m_uL_K, m_uL_N, m_uL_R, m_uL_I, m_uL_L, m_uR_K, m_uR_N, m_uR_I, m_uR_L, m_uR_R, true_and, and_true, true_implies, false_implies, not_true_eq_false, not_false_eq_true, if_true, if_false, false_and, and_false]
              exact h0
    · have h0 := hQ M (gF_refl _ _ _)
      rw [if_neg (fun q => hw q.2.2.1)] at h0
      first | rw [br_n (hw)] | rw [br_q (hw)] | rw [br_u (hw)]
      exact h0
  · have h0 := hQ M (gF_refl _ _ _)
    rw [if_neg (fun q => hv q.2.1)] at h0
    first | rw [br_n (hv)] | rw [br_q (hv)] | rw [br_u (hv)]
    exact h0
theorem op_swap (v w : Int32) : OpI 127 273 [.int v, .int w] isI := op_q (fun D => ⟨_, rfl⟩) (x_swap v w) (m_swap v w)
