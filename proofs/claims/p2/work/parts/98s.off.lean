/-! gaps, off, whose -/
noncomputable def aGap (v w : Int32) (D : Dat) : Value := .int (if (0 ≤ v.toInt ∧ v.toInt < dN D) ∧ 0 ≤ w.toInt ∧ w.toInt ≤ 1 then (if w.toInt = 0 then nI (unN (dY D v.toInt.toNat) 48) else nI (gpD D v.toInt.toNat 48)) else -1)
theorem x_gaps (v w : Int32) : XqO 134 [.int v, .int w] (aGap v w) := by
  intro d M z D Q hD h hQ
  have hL := h.1.1
  have n8 := dN_8 hD
  have eS := fun v Q => x_isShip hD h (d + 19) v Q
  have e1 : (1 : Int32).toInt = 1 := rfl
  unfold aGap at hQ
  rw [eX10_gaps]
  simp +decide only [qX10_gaps, lx hL, eS, bI_0, Classical.not_not, am_w1_i, am_w1_r, am_w1_x, am_w1_l, am_w1_w, va_rf_s, am_push_n, am_push_s, am_cs_0, am_cs_i, am_cs_l, am_cs_r, m_uI_K, m_uI_N, m_uI_R, m_uI_L, m_uI_I, m_uL_K, m_uL_N, m_uL_R, m_uL_I, m_uL_L, m_uR_K, m_uR_N, m_uR_I, m_uR_L, m_uR_R, true_and, and_true, true_implies, false_implies, not_true_eq_false, not_false_eq_true, if_true, if_false, false_and, and_false]
  by_cases hv : 0 ≤ v.toInt ∧ v.toInt < dN D
  · first | rw [br_p (hv)] | rw [br_r (hv)] | rw [br_s (hv)]
    by_cases w0 : w < 0
    · have h0 := hQ M (XR_2 h) h
      rw [if_neg (fun q => by rw [lt32, z32] at w0; omega)] at h0
      first | rw [br_p (w0)] | rw [br_r (w0)] | rw [br_s (w0)]
      exact h0
    · first | rw [br_n (w0)] | rw [br_q (w0)] | rw [br_u (w0)]
      rw [lt32, z32] at w0
      by_cases w1 : w ≤ 1
      · first | rw [br_p (w1)] | rw [br_r (w1)] | rw [br_s (w1)]
        rw [le32, e1] at w1
        rw [if_pos ⟨hv, by omega, by omega⟩] at hQ
        obtain ⟨s, s1, s2, s3⟩ := sh_of (by omega) hv
        rw [s3] at hQ
        have htr := ltr hL (show s < 8 by omega)
        have hst := lt_ hL (isTr_of (show s < 8 by omega))
        rw [s2]
        simp +decide (disch := omega) only [qX10_gaps, lx hL, htr, hst, ni_in_t, ni_tn, am_w1_i, am_w1_r, am_w1_x, am_w1_l, am_w1_w, va_rf_s, am_push_n, am_push_s, am_cs_0, am_cs_i, am_cs_l, am_cs_r, m_uI_K, m_uI_N, m_uI_R, m_uI_L, m_uI_I, m_uL_K, m_uL_N, m_uL_R, m_uL_I, m_uL_L, m_uR_K, m_uR_N, m_uR_I, m_uR_L, m_uR_R, true_and, and_true, true_implies, false_implies, not_true_eq_false, not_false_eq_true, if_true, if_false, false_and, and_false]
        refine x_countGaps hD h s1 (d + 13) _ (fun M1 f1 X1 G1 => ?_)
        have h0 := hQ M1 f1 X1
        have ht := lt_ X1.1.1 (isTr_of (show s < 8 by omega))
        simp +decide only [qX10_gaps, ht, G1.2.2.1, G1.2.2.2, Classical.not_not, am_w1_i, am_w1_r, am_w1_x, am_w1_l, am_w1_w, va_rf_s, am_push_n, am_push_s, am_cs_0, am_cs_i, am_cs_l, am_cs_r, m_uI_K, m_uI_N, m_uI_R, m_uI_L, m_uI_I, m_uL_K, m_uL_N, m_uL_R, m_uL_I, m_uL_L, m_uR_K, m_uR_N, m_uR_I, m_uR_L, m_uR_R, true_and, and_true, true_implies, false_implies, not_true_eq_false, not_false_eq_true, if_true, if_false, false_and, and_false]
        by_cases c : w = 0
        · rw [if_pos (by rw [c]; rfl)] at h0
          first | rw [br_p (c)] | rw [br_r (c)] | rw [br_s (c)]
          exact h0
        · have nc : ¬ w.toInt = 0 := fun q => c (Int32.toInt_inj.mp q)
          rw [if_neg nc] at h0
          first | rw [br_n (c)] | rw [br_q (c)] | rw [br_u (c)]
          exact h0
      · have h0 := hQ M (XR_2 h) h
        rw [if_neg (fun q => w1 (by rw [le32, e1]; omega))] at h0
        first | rw [br_n (w1)] | rw [br_q (w1)] | rw [br_u (w1)]
        exact h0
  · have h0 := hQ M (XR_2 h) h
    rw [if_neg (fun q => hv q.1)] at h0
    first | rw [br_n (hv)] | rw [br_q (hv)] | rw [br_u (hv)]
    exact h0
theorem m_gaps (v w : Int32) : MqO 283 [.int v, .int w] (aGap v w) := by
  intro d M b D Q hD hL h hQ
  have n8 := dN_8 hD
  have eS := fun v Q => m_isShip hD hL h (d + 18) v Q
  unfold aGap at hQ
  rw [eX11_gaps]
  simp +decide only [qX11_gaps, lm hL, eS, bI_0, Classical.not_not, am_w1_i, am_w1_r, am_w1_x, am_w1_l, am_w1_w, va_rf_s, am_push_n, am_push_s, am_cs_0, am_cs_i, am_cs_l, am_cs_r, m_uI_K, m_uI_N, m_uI_R, m_uI_L, m_uI_I, m_uL_K, m_uL_N, m_uL_R, m_uL_I, m_uL_L, m_uR_K, m_uR_N, m_uR_I, m_uR_L, m_uR_R, true_and, and_true, true_implies, false_implies, not_true_eq_false, not_false_eq_true, if_true, if_false, false_and, and_false]
  by_cases hv : 0 ≤ v.toInt ∧ v.toInt < dN D
  · first | rw [br_p (hv)] | rw [br_r (hv)] | rw [br_s (hv)]
    obtain ⟨s, s1, s2, s3⟩ := sh_of (by omega) hv
    rw [s3] at hQ
    rw [s2]
    by_cases c : w = 0
    · rw [if_pos ⟨hv, by rw [c]; decide, by rw [c]; decide⟩, if_pos (by rw [c]; rfl)] at hQ
      first | rw [br_p (c)] | rw [br_r (c)] | rw [br_s (c)]
      refine m_gapsOf hD hL h s1 (d + 11) _ (fun M1 g1 k1 u1 => ?_)
      have h0 := hQ M1 g1
      have L1 := gF_LayN g1 hL
      simp +decide only [qX11_gaps, lm L1, c, u1, am_w1_i, am_w1_r, am_w1_x, am_w1_l, am_w1_w, va_rf_s, am_push_n, am_push_s, am_cs_0, am_cs_i, am_cs_l, am_cs_r, m_uI_K, m_uI_N, m_uI_R, m_uI_L, m_uI_I, m_uL_K, m_uL_N, m_uL_R, m_uL_I, m_uL_L, m_uR_K, m_uR_N, m_uR_I, m_uR_L, m_uR_R, true_and, and_true, true_implies, false_implies, not_true_eq_false, not_false_eq_true, if_true, if_false, false_and, and_false]
      exact h0
    · first | rw [br_n (c)] | rw [br_q (c)] | rw [br_u (c)]
      by_cases c1 : w = 1
      · rw [if_pos ⟨hv, by rw [c1]; decide, by rw [c1]; decide⟩, if_neg (by rw [c1]; decide)] at hQ
        first | rw [br_p (c1)] | rw [br_r (c1)] | rw [br_s (c1)]
        refine m_gapsOf hD hL h s1 (d + 11) _ (fun M1 g1 k1 u1 => ?_)
        have h0 := hQ M1 g1
        have L1 := gF_LayN g1 hL
        simp +decide only [qX11_gaps, lm L1, c1, am_w1_i, am_w1_r, am_w1_x, am_w1_l, am_w1_w, va_rf_s, am_push_n, am_push_s, am_cs_0, am_cs_i, am_cs_l, am_cs_r, m_uI_K, m_uI_N, m_uI_R, m_uI_L, m_uI_I, m_uL_K, m_uL_N, m_uL_R, m_uL_I, m_uL_L, m_uR_K, m_uR_N, m_uR_I, m_uR_L, m_uR_R, true_and, and_true, true_implies, false_implies, not_true_eq_false, not_false_eq_true, if_true, if_false, false_and, and_false]
        exact h0
      · have h0 := hQ M (gF_refl _ _ _)
        have n0 : ¬ w.toInt = 0 := fun q => c (Int32.toInt_inj.mp q)
        have n1 : ¬ w.toInt = 1 := fun q => c1 (Int32.toInt_inj.mp q)
        rw [if_neg (fun q => by omega)] at h0
        first | rw [br_n (c1)] | rw [br_q (c1)] | rw [br_u (c1)]
        exact h0
  · have h0 := hQ M (gF_refl _ _ _)
    rw [if_neg (fun q => hv q.1)] at h0
    first | rw [br_n (hv)] | rw [br_q (hv)] | rw [br_u (hv)]
    exact h0
theorem op_gaps (v w : Int32) : OpI 134 283 [.int v, .int w] isI := op_q (fun D => ⟨_, rfl⟩) (x_gaps v w) (m_gaps v w)
/-! off -/
noncomputable def ckD (D : Dat) (s : Nat) : Int32 := ckY (dWt D s) (dV D s) (dSn D s) (dBs D s) (dY D s)
noncomputable def aOff (v : Int32) (D : Dat) : Value := .int (if 0 ≤ v.toInt ∧ v.toInt < dN D then ckD D v.toInt.toNat else 100)
theorem x_clock {M : am_M} {z s : Nat} {D : Dat} (hD : dOK D) (h : XR M z D) (hs : s < dN D) (d : Nat) (Q : Option Value → am_M → Prop) (hQ : ∀ M', zF (sXq z) M M' → XR M' z D → Q (some (.int (ckD D s))) M') : am_E am_P0 (d + 6) 81 [.ref (173 + 13 * s)] M Q := by
  have hz := h.1.2.2.1
  have n8 := dN_8 hD
  refine c_x_findClock d s (z + 25 + 7 * s) z (dV D s) (dWt D s) (dDp D) (dDr D s) (dLd D s) (dBs D s) (dY D s) M Q h.1.1 h.1.2.1 (by omega) (isSh_z hz (by omega)) hz (hD.1.2.2.2.2.1 s) (h.2.2.2.1 s hs).1 (fun M1 f1 => ?_)
  exact hQ M1 (zF_up (zF_x f1) (fun a j q => sLn_q ⟨s, by omega, q⟩)) (XR_x hD (by omega) h f1)
theorem x_off (v : Int32) : XqO 139 [.int v] (aOff v) := by
  intro d M z D Q hD h hQ
  have hL := h.1.1
  have n8 := dN_8 hD
  have eS := fun v Q => x_isShip hD h (d + 19) v Q
  unfold aOff at hQ
  rw [eX10_off]
  simp +decide only [qX10_off, lx hL, eS, bI_0, Classical.not_not, am_w1_i, am_w1_r, am_w1_x, am_w1_l, am_w1_w, va_rf_s, am_push_n, am_push_s, am_cs_0, am_cs_i, am_cs_l, am_cs_r, m_uI_K, m_uI_N, m_uI_R, m_uI_L, m_uI_I, m_uL_K, m_uL_N, m_uL_R, m_uL_I, m_uL_L, m_uR_K, m_uR_N, m_uR_I, m_uR_L, m_uR_R, true_and, and_true, true_implies, false_implies, not_true_eq_false, not_false_eq_true, if_true, if_false, false_and, and_false]
  by_cases hv : 0 ≤ v.toInt ∧ v.toInt < dN D
  · first | rw [br_p (hv)] | rw [br_r (hv)] | rw [br_s (hv)]
    rw [if_pos hv] at hQ
    obtain ⟨s, s1, s2, s3⟩ := sh_of (by omega) hv
    rw [s3] at hQ
    have htr := ltr hL (show s < 8 by omega)
    have hst := lt_ hL (isTr_of (show s < 8 by omega))
    rw [s2]
    simp +decide (disch := omega) only [qX10_off, lx hL, htr, hst, ni_in_t, ni_tn, am_w1_i, am_w1_r, am_w1_x, am_w1_l, am_w1_w, va_rf_s, am_push_n, am_push_s, am_cs_0, am_cs_i, am_cs_l, am_cs_r, m_uI_K, m_uI_N, m_uI_R, m_uI_L, m_uI_I, m_uL_K, m_uL_N, m_uL_R, m_uL_I, m_uL_L, m_uR_K, m_uR_N, m_uR_I, m_uR_L, m_uR_R, true_and, and_true, true_implies, false_implies, not_true_eq_false, not_false_eq_true, if_true, if_false, false_and, and_false]
    refine x_clock hD h s1 (d + 13) _ (fun M1 f1 X1 => ?_)
    have h0 := hQ M1 f1 X1
    simp +decide only [qX10_off, am_w1_i, am_w1_r, am_w1_x, am_w1_l, am_w1_w, va_rf_s, am_push_n, am_push_s, am_cs_0, am_cs_i, am_cs_l, am_cs_r, m_uI_K, m_uI_N, m_uI_R, m_uI_L, m_uI_I, m_uL_K, m_uL_N, m_uL_R, m_uL_I, m_uL_L, m_uR_K, m_uR_N, m_uR_I, m_uR_L, m_uR_R, true_and, and_true, true_implies, false_implies, not_true_eq_false, not_false_eq_true, if_true, if_false, false_and, and_false]
    exact h0
  · have h0 := hQ M (XR_2 h) h
    rw [if_neg hv] at h0
    first | rw [br_n (hv)] | rw [br_q (hv)] | rw [br_u (hv)]
    exact h0
theorem dI_e : ∀ k, k < 13 → (if nI k - nI k / 2 * 2 = 0 then nI k / 2 else -(nI k + 1) / 2) = dI k := by decide
theorem dI_b2 {k : Nat} (h : k < 13) : -100 ≤ (dI k).toInt ∧ (dI k).toInt ≤ 100 := by have := dI_b k h; omega
theorem l_m_off (d b s : Nat) (D : Dat) (M0 : am_M) (Q : Option Value → am_M → Prop) (hD : dOK D) (hL0 : Lay M0) (h0' : MdM M0 b D) (hs : s < dN D) (hQ : ∀ M', gF sMq nT M0 M' → Q (some (.int (ckD D s))) M') :
    ∀ (m k : Nat), k + m = 13 → ∀ (M : am_M) (v3 v4 v5 : Value), jk v3 → jk v4 → jk v5 → gF sMq nT M0 M → (∀ j, j < k → dB (stP (dWt D s) (dV D s) (dSn D s) (dBs D s) (dY D s) (dI j).toInt) = false) → am_P am_P0 (d + 5) (am_look tX11_offOf) 2 [.ref 277, .int (nI s), .int (nI k), v3, v4, v5] [] M Q := by
  have n8 := dN_8 hD
  intro m
  induction m with
  | zero =>
    intro k hk M v3 v4 v5 h3 h4 h5 hM hb
    have ek : k = 13 := by omega
    subst ek
    have h0 := hQ M hM
    unfold ckD ckY ckN at h0
    rw [fs_all hb, if_neg (by omega)] at h0
    rw [hX11_offOf_2]
    simp +decide only [qX11_offOf_0, qX11_offOf_1, show nI 13 = (13 : Int32) from rfl, am_w1_i, am_w1_r, am_w1_x, am_w1_l, am_w1_w, va_rf_s, am_push_n, am_push_s, am_cs_0, am_cs_i, am_cs_l, am_cs_r, m_uI_K, m_uI_N, m_uI_R, m_uI_L, m_uI_I, m_uL_K, m_uL_N, m_uL_R, m_uL_I, m_uL_L, m_uR_K, m_uR_N, m_uR_I, m_uR_L, m_uR_R, true_and, and_true, true_implies, false_implies, not_true_eq_false, not_false_eq_true, if_true, if_false, false_and, and_false]
    exact h0
  | succ m ih =>
    intro k hk M v3 v4 v5 h3 h4 h5 hM hb
    have hL := gF_LayN hM hL0
    have h := MdM_q h0' hM
    have hlt : ¬ (12 : Int32) < nI k := by rw [show (12 : Int32) = nI 12 from rfl, ni_lt (by omega) (by omega)]; omega
    have hde := dI_e k (by omega)
    obtain ⟨b1, b2⟩ := dI_b2 (show k < 13 by omega)
    obtain ⟨q1, q2, q3, q4, q5⟩ := mh hD h hs
    obtain ⟨A, hA⟩ : ∃ A, A = uI M 277 60 0 := ⟨_, rfl⟩
    obtain ⟨fc0, oA⟩ := Fc0 M (dC D) (dR D)
    rw [← hA] at fc0 oA
    have gA : gF sMq nT M A := gF_up (gF_o oA) (fun a j q => by unfold sF at q; unfold sMq; omega) (fun _ _ q => q)
    have LA := gF_LayN gA hL
    have hAd := MdM_q h gA
    obtain ⟨r1, r2, r3, r4, r5⟩ := mh hD hAd hs
    -- behind the shift
    have key : am_P am_P0 (d + 5) (am_look tX11_offOf) 27 [.ref 277, .int (nI s), .int (nI k), .int (dI k), v4, v5] [] M Q := by
      simp +decide only [qX11_offOf_0, qX11_offOf_1, lm hL, jk_w h4, jk_w h5, ← hA, am_w1_i, am_w1_r, am_w1_x, am_w1_l, am_w1_w, va_rf_s, am_push_n, am_push_s, am_cs_0, am_cs_i, am_cs_l, am_cs_r, m_uI_K, m_uI_N, m_uI_R, m_uI_L, m_uI_I, m_uL_K, m_uL_N, m_uL_R, m_uL_I, m_uL_L, m_uR_K, m_uR_N, m_uR_I, m_uR_L, m_uR_R, true_and, and_true, true_implies, false_implies, not_true_eq_false, not_false_eq_true, if_true, if_false, false_and, and_false]
      refine ⟨(lm LA).1, ?_⟩
      refine c_m_addSayings (d + 2) s s b (dC D) (dR D) (dDp D) (dDr D s) (dLd D s) [] (dY D s) (dI k) A _ LA hAd.1.1 hAd.1.2 hD.1.1.1 hD.1.1.2 (by omega) (by omega) b1 b2 r2.2.2.2.1 r2.2.2.2.2 (by simp) fc0 (fun M1 o1 f1 => ?_)
      have g1 : gF sMq nT A M1 := gF_up (gF_o o1) (fun a j q => by unfold sF at q; unfold sMq; omega) (fun _ _ q => q)
      have L1 := gF_LayN g1 LA
      have h1 := MdM_q hAd g1
      rw [List.nil_append] at f1
      have hlen := syF_len (dY D s) (dI k).toInt
      have h48 := dY_len hD s
      simp +decide only [qX11_offOf_0, qX11_offOf_1, lm L1, f1.1, am_w1_i, am_w1_r, am_w1_x, am_w1_l, am_w1_w, va_rf_s, am_push_n, am_push_s, am_cs_0, am_cs_i, am_cs_l, am_cs_r, m_uI_K, m_uI_N, m_uI_R, m_uI_L, m_uI_I, m_uL_K, m_uL_N, m_uL_R, m_uL_I, m_uL_L, m_uR_K, m_uR_N, m_uR_I, m_uR_L, m_uR_R, true_and, and_true, true_implies, false_implies, not_true_eq_false, not_false_eq_true, if_true, if_false, false_and, and_false]
      refine c_m_addBooks (d + 3) s b (dC D) (dR D) (dBk D) (syF (dY D s) (dI k).toInt) M1 _ L1 h1.1.1 h1.1.2 (by omega) h1.2.2.2.2.2.1 hD.1.2.2.2.2.2.2.1.1 (by omega) f1 (fun M2 o2 f2 => ?_)
      have g2 : gF sMq nT M1 M2 := gF_up (gF_o o2) (fun a j q => by unfold sF at q; unfold sMq; omega) (fun _ _ q => q)
      have L2 := gF_LayN g2 L1
      have h2 := MdM_q h1 g2
      obtain ⟨p1, p2, p3, p4, p5⟩ := mh hD h2 hs
      have G2 : gF sMq nT M0 M2 := gF_trans hM (gF_trans gA (gF_trans g1 g2))
      simp +decide only [qX11_offOf_0, qX11_offOf_1, lm L2, ni_pos (show (syF (dY D s) (dI k).toInt).length < 2147483648 by omega), tI_0, am_w1_i, am_w1_r, am_w1_x, am_w1_l, am_w1_w, va_rf_s, am_push_n, am_push_s, am_cs_0, am_cs_i, am_cs_l, am_cs_r, m_uI_K, m_uI_N, m_uI_R, m_uI_L, m_uI_I, m_uL_K, m_uL_N, m_uL_R, m_uL_I, m_uL_L, m_uR_K, m_uR_N, m_uR_I, m_uR_L, m_uR_R, true_and, and_true, true_implies, false_implies, not_true_eq_false, not_false_eq_true, if_true, if_false, false_and, and_false]
      have hsome : (syF (dY D s) (dI k).toInt).length = 0 ↔ ¬ ∃ y, y ∈ dY D s ∧ ¬ hrOf y.1 (dI k).toInt = none := by
        constructor
        · rintro q ⟨y, y1, y2⟩
          have e := List.length_eq_zero_iff.mp q
          cases hh : hrOf y.1 (dI k).toInt with
          | none => exact y2 hh
          | some t =>
            have : (y.2.1, t, t) ∈ syF (dY D s) (dI k).toInt := by
              unfold syF
              rw [List.mem_filterMap]
              exact ⟨y, y1, by rw [hh]; rfl⟩
            rw [e] at this
            cases this
        · intro q
          apply List.length_eq_zero_iff.mpr
          apply List.eq_nil_iff_forall_not_mem.mpr
          intro a ha
          unfold syF at ha
          rw [List.mem_filterMap] at ha
          obtain ⟨y, y1, y2⟩ := ha
          apply q
          refine ⟨y, y1, fun z => ?_⟩
          rw [z] at y2
          cases y2
      have next : ∀ M', gF sMq nT M0 M' → ¬ stP (dWt D s) (dV D s) (dSn D s) (dBs D s) (dY D s) (dI k).toInt → am_P am_P0 (d + 5) (am_look tX11_offOf) 2 [.ref 277, .int (nI s), .int (nI (k + 1)), .int (dI k), .int (tI (syS (dY D s) (dI k).toInt (sndP (dDp D) (dDr D s) (dLd D s)))), .int (nI (syF (dY D s) (dI k).toInt).length)] [] M' Q := fun M' g' n' => ih (k + 1) (by omega) M' _ _ _ (Or.inr ⟨_, rfl⟩) (Or.inr ⟨_, rfl⟩) (Or.inr ⟨_, rfl⟩) g' (fun j hj => by
        by_cases e : j = k
        · subst e; exact dB_f.mpr n'
        · exact hb j (by omega))
      by_cases c0 : (syF (dY D s) (dI k).toInt).length = 0
      · first | rw [br_p (c0)] | rw [br_r (c0)] | rw [br_s (c0)]
        simp +decide only [qX11_offOf_0, qX11_offOf_1, ni_add1, am_w1_i, am_w1_r, am_w1_x, am_w1_l, am_w1_w, va_rf_s, am_push_n, am_push_s, am_cs_0, am_cs_i, am_cs_l, am_cs_r, m_uI_K, m_uI_N, m_uI_R, m_uI_L, m_uI_I, m_uL_K, m_uL_N, m_uL_R, m_uL_I, m_uL_L, m_uR_K, m_uR_N, m_uR_I, m_uR_L, m_uR_R, true_and, and_true, true_implies, false_implies, not_true_eq_false, not_false_eq_true, if_true, if_false, false_and, and_false]
        exact next M2 G2 (fun q => (hsome.mp c0) q.1)
      · first | rw [br_n (c0)] | rw [br_q (c0)] | rw [br_u (c0)]
        have hse : ∃ y, y ∈ dY D s ∧ ¬ hrOf y.1 (dI k).toInt = none := Classical.byContradiction (fun q => c0 (hsome.mpr q))
        by_cases c1 : syS (dY D s) (dI k).toInt (sndP (dDp D) (dDr D s) (dLd D s))
        · first | rw [br_p (c1)] | rw [br_r (c1)] | rw [br_s (c1)]
          refine c_m_fit d s b (dC D) (dR D) (dV D s) (syF (dY D s) (dI k).toInt ++ bkOf (dBk D) s) M2 _ L2 p1 (by omega) p2.1 p2.2.1 p2.2.2.1 f2 (fun M3 o3 => ?_)
          have g3 : gF sMq nT M2 M3 := gF_up (gF_o (onlyG_S o3)) (fun a j q => by unfold sG at q; unfold sMq; omega) (fun _ _ q => q)
          have e : fitP (dWt D s) (dV D s) (syF (dY D s) (dI k).toInt ++ bkOf (dBk D) s) ↔ fitP (dWt D s) (dV D s) (dBs D s ++ syF (dY D s) (dI k).toInt) := fit_mem (fun a => by
            unfold dBs
            simp only [List.mem_append]
            constructor <;> (intro q; rcases q with q | q <;> simp [q]))
          rw [p5, tI_i e]
          by_cases c2 : fitP (dWt D s) (dV D s) (dBs D s ++ syF (dY D s) (dI k).toInt)
          · have h0 := hQ M3 (gF_trans G2 g3)
            unfold ckD ckY ckN at h0
            rw [fs_is (i := k) hb (by omega) (dB_t.mpr ⟨hse, c1, c2⟩), if_pos (by omega)] at h0
            rw [tI_t c2]
            simp +decide only [qX11_offOf_0, qX11_offOf_1, am_w1_i, am_w1_r, am_w1_x, am_w1_l, am_w1_w, va_rf_s, am_push_n, am_push_s, am_cs_0, am_cs_i, am_cs_l, am_cs_r, m_uI_K, m_uI_N, m_uI_R, m_uI_L, m_uI_I, m_uL_K, m_uL_N, m_uL_R, m_uL_I, m_uL_L, m_uR_K, m_uR_N, m_uR_I, m_uR_L, m_uR_R, true_and, and_true, true_implies, false_implies, not_true_eq_false, not_false_eq_true, if_true, if_false, false_and, and_false]
            exact h0
          · have h0 := next M3 (gF_trans G2 g3) (fun q => c2 q.2.2)
            rw [tI_f c2]
            simp +decide only [qX11_offOf_0, qX11_offOf_1, ni_add1, am_w1_i, am_w1_r, am_w1_x, am_w1_l, am_w1_w, va_rf_s, am_push_n, am_push_s, am_cs_0, am_cs_i, am_cs_l, am_cs_r, m_uI_K, m_uI_N, m_uI_R, m_uI_L, m_uI_I, m_uL_K, m_uL_N, m_uL_R, m_uL_I, m_uL_L, m_uR_K, m_uR_N, m_uR_I, m_uR_L, m_uR_R, true_and, and_true, true_implies, false_implies, not_true_eq_false, not_false_eq_true, if_true, if_false, false_and, and_false]
            exact h0
        · first | rw [br_n (c1)] | rw [br_q (c1)] | rw [br_u (c1)]
          simp +decide only [qX11_offOf_0, qX11_offOf_1, ni_add1, am_w1_i, am_w1_r, am_w1_x, am_w1_l, am_w1_w, va_rf_s, am_push_n, am_push_s, am_cs_0, am_cs_i, am_cs_l, am_cs_r, m_uI_K, m_uI_N, m_uI_R, m_uI_L, m_uI_I, m_uL_K, m_uL_N, m_uL_R, m_uL_I, m_uL_L, m_uR_K, m_uR_N, m_uR_I, m_uR_L, m_uR_R, true_and, and_true, true_implies, false_implies, not_true_eq_false, not_false_eq_true, if_true, if_false, false_and, and_false]
          exact next M2 G2 (fun q => c1 q.2.1)
    rw [hX11_offOf_2]
    simp +decide only [qX11_offOf_0, qX11_offOf_1, jk_w h3, jk_w h4, jk_w h5, Classical.not_not, am_w1_i, am_w1_r, am_w1_x, am_w1_l, am_w1_w, va_rf_s, am_push_n, am_push_s, am_cs_0, am_cs_i, am_cs_l, am_cs_r, m_uI_K, m_uI_N, m_uI_R, m_uI_L, m_uI_I, m_uL_K, m_uL_N, m_uL_R, m_uL_I, m_uL_L, m_uR_K, m_uR_N, m_uR_I, m_uR_L, m_uR_R, true_and, and_true, true_implies, false_implies, not_true_eq_false, not_false_eq_true, if_true, if_false, false_and, and_false]
    first | rw [br_n (hlt)] | rw [br_q (hlt)] | rw [br_u (hlt)]
    by_cases c : nI k - nI k / 2 * 2 = 0
    · rw [if_pos c] at hde
      first | rw [br_p (c)] | rw [br_r (c)] | rw [br_s (c)]
      rw [hde]
      simp +decide only [qX11_offOf_0, qX11_offOf_1, jk_w h4, jk_w h5, am_w1_i, am_w1_r, am_w1_x, am_w1_l, am_w1_w, va_rf_s, am_push_n, am_push_s, am_cs_0, am_cs_i, am_cs_l, am_cs_r, m_uI_K, m_uI_N, m_uI_R, m_uI_L, m_uI_I, m_uL_K, m_uL_N, m_uL_R, m_uL_I, m_uL_L, m_uR_K, m_uR_N, m_uR_I, m_uR_L, m_uR_R, true_and, and_true, true_implies, false_implies, not_true_eq_false, not_false_eq_true, if_true, if_false, false_and, and_false] at key ⊢
      exact key
    · rw [if_neg c] at hde
      first | rw [br_n (c)] | rw [br_q (c)] | rw [br_u (c)]
      rw [hde]
      simp +decide only [qX11_offOf_0, qX11_offOf_1, jk_w h4, jk_w h5, am_w1_i, am_w1_r, am_w1_x, am_w1_l, am_w1_w, va_rf_s, am_push_n, am_push_s, am_cs_0, am_cs_i, am_cs_l, am_cs_r, m_uI_K, m_uI_N, m_uI_R, m_uI_L, m_uI_I, m_uL_K, m_uL_N, m_uL_R, m_uL_I, m_uL_L, m_uR_K, m_uR_N, m_uR_I, m_uR_L, m_uR_R, true_and, and_true, true_implies, false_implies, not_true_eq_false, not_false_eq_true, if_true, if_false, false_and, and_false] at key ⊢
      exact key
theorem m_offOf {M : am_M} {b s : Nat} {D : Dat} (hD : dOK D) (hL : Lay M) (h : MdM M b D) (hs : s < dN D) (d : Nat) (Q : Option Value → am_M → Prop) (hQ : ∀ M', gF sMq nT M M' → Q (some (.int (ckD D s))) M') : am_E am_P0 (d + 5) 290 [.ref 277, .int (nI s)] M Q := by
  have h0 := l_m_off d b s D M Q hD hL h hs hQ 13 0 (by omega) M am_x am_x am_x (Or.inl rfl) (Or.inl rfl) (Or.inl rfl) (gF_refl _ _ _) (fun j hj => by omega)
  rw [eX11_offOf]
  simp +decide only [qX11_offOf_0, qX11_offOf_1, am_w1_i, am_w1_r, am_w1_x, am_w1_l, am_w1_w, va_rf_s, am_push_n, am_push_s, am_cs_0, am_cs_i, am_cs_l, am_cs_r, m_uI_K, m_uI_N, m_uI_R, m_uI_L, m_uI_I, m_uL_K, m_uL_N, m_uL_R, m_uL_I, m_uL_L, m_uR_K, m_uR_N, m_uR_I, m_uR_L, m_uR_R, true_and, and_true, true_implies, false_implies, not_true_eq_false, not_false_eq_true, if_true, if_false, false_and, and_false]
  exact h0
theorem m_off (v : Int32) : MqO 291 [.int v] (aOff v) := by
  intro d M b D Q hD hL h hQ
  have n8 := dN_8 hD
  have eS := fun v Q => m_isShip hD hL h (d + 18) v Q
  unfold aOff at hQ
  rw [eX11_off]
  simp +decide only [qX11_off, lm hL, eS, bI_0, Classical.not_not, am_w1_i, am_w1_r, am_w1_x, am_w1_l, am_w1_w, va_rf_s, am_push_n, am_push_s, am_cs_0, am_cs_i, am_cs_l, am_cs_r, m_uI_K, m_uI_N, m_uI_R, m_uI_L, m_uI_I, m_uL_K, m_uL_N, m_uL_R, m_uL_I, m_uL_L, m_uR_K, m_uR_N, m_uR_I, m_uR_L, m_uR_R, true_and, and_true, true_implies, false_implies, not_true_eq_false, not_false_eq_true, if_true, if_false, false_and, and_false]
  by_cases hv : 0 ≤ v.toInt ∧ v.toInt < dN D
  · first | rw [br_p (hv)] | rw [br_r (hv)] | rw [br_s (hv)]
    rw [if_pos hv] at hQ
    obtain ⟨s, s1, s2, s3⟩ := sh_of (by omega) hv
    rw [s3] at hQ
    rw [s2]
    refine m_offOf hD hL h s1 (d + 14) _ (fun M1 g1 => ?_)
    have h0 := hQ M1 g1
    simp +decide only [qX11_off, am_w1_i, am_w1_r, am_w1_x, am_w1_l, am_w1_w, va_rf_s, am_push_n, am_push_s, am_cs_0, am_cs_i, am_cs_l, am_cs_r, m_uI_K, m_uI_N, m_uI_R, m_uI_L, m_uI_I, m_uL_K, m_uL_N, m_uL_R, m_uL_I, m_uL_L, m_uR_K, m_uR_N, m_uR_I, m_uR_L, m_uR_R, true_and, and_true, true_implies, false_implies, not_true_eq_false, not_false_eq_true, if_true, if_false, false_and, and_false]
    exact h0
  · have h0 := hQ M (gF_refl _ _ _)
    rw [if_neg hv] at h0
    first | rw [br_n (hv)] | rw [br_q (hv)] | rw [br_u (hv)]
    exact h0
theorem op_off (v : Int32) : OpI 139 291 [.int v] isI := op_q (fun D => ⟨_, rfl⟩) (x_off v) (m_off v)
/-! whose -/
def wsP (D : Dat) (s : Nat) : Prop := ¬ liN D s = 0 ∧ ¬ ckD D s = 100 ∧ ¬ ckD D s = 0
noncomputable def aWhs (D : Dat) : Value := .int (btI (wsP D) (dN D))
theorem l_x_whose (d z : Nat) (D : Dat) (M0 : am_M) (Q : Option Value → am_M → Prop) (hD : dOK D) (hQ : ∀ M', zF (sXq z) M0 M' → XR M' z D → Q (some (.int (btI (wsP D) (dN D)))) M') :
    ∀ (m s : Nat), s + m = dN D → ∀ (M : am_M) (v3 : Value), jk v3 → zF (sXq z) M0 M → XR M z D → am_P am_P0 (d + 7) (am_look tX10_whose) 4 [.ref 0, .int (btI (wsP D) s), .int (nI s), v3] [] M Q := by
  have n8 := dN_8 hD
  intro m
  induction m with
  | zero =>
    intro s hs M v3 hv3 hM h
    have hz := h.1.2.2.1
    have hL := h.1.1
    have hr := h.1.2.2.2.1
    have hle : nI (dN D) ≤ nI s := (ni_le (by omega) (by omega)).mpr (by omega)
    have h0 := hQ M hM h
    rw [hX10_whose_4]
    simp +decide only [qX10_whose, lx hL, lz hL hz, hr, (x_n h).1, am_w1_i, am_w1_r, am_w1_x, am_w1_l, am_w1_w, va_rf_s, am_push_n, am_push_s, am_cs_0, am_cs_i, am_cs_l, am_cs_r, m_uI_K, m_uI_N, m_uI_R, m_uI_L, m_uI_I, m_uL_K, m_uL_N, m_uL_R, m_uL_I, m_uL_L, m_uR_K, m_uR_N, m_uR_I, m_uR_L, m_uR_R, true_and, and_true, true_implies, false_implies, not_true_eq_false, not_false_eq_true, if_true, if_false, false_and, and_false]
    first | rw [br_p (hle)] | rw [br_r (hle)] | rw [br_s (hle)]
    rw [show s = dN D by omega]
    exact h0
  | succ m ih =>
    intro s hs M v3 hv3 hM h
    have hz := h.1.2.2.1
    have hL := h.1.1
    have hr := h.1.2.2.2.1
    have hlt : ¬ nI (dN D) ≤ nI s := by rw [ni_le (by omega) (by omega)]; omega
    have h48 := dY_len hD s
    have hkl := kc_le (wt := dWt D s) (v := dV D s) (snd := dSn D s) (B := dBs D s) (Y := dY D s)
    rw [hX10_whose_4]
    simp +decide (disch := omega) only [qX10_whose, lx hL, lz hL hz, hr, (x_n h).1, jk_w hv3, am_w1_i, am_w1_r, am_w1_x, am_w1_l, am_w1_w, va_rf_s, am_push_n, am_push_s, am_cs_0, am_cs_i, am_cs_l, am_cs_r, m_uI_K, m_uI_N, m_uI_R, m_uI_L, m_uI_I, m_uL_K, m_uL_N, m_uL_R, m_uL_I, m_uL_L, m_uR_K, m_uR_N, m_uR_I, m_uR_L, m_uR_R, true_and, and_true, true_implies, false_implies, not_true_eq_false, not_false_eq_true, if_true, if_false, false_and, and_false]
    first | rw [br_n (hlt)] | rw [br_q (hlt)] | rw [br_u (hlt)]
    refine x_settled hD h (d + 1) (by omega) _ (fun M1 f1 X1 _ S1 => ?_)
    have L1 := X1.1.1
    have hr1 := X1.1.2.2.2.1
    have ht := lt_ L1 (isTr_of (show s < 8 by omega))
    have htr := ltr L1 (show s < 8 by omega)
    have hsh := lsh L1 hz (s := s) (by omega)
    have hw_ := lw_ L1 (isSh_z (z := z) (s := s) hz (by omega))
    have hc := (x_ship X1 (s := s) (by omega)).2.1.1
    simp +decide (disch := omega) only [qX10_whose, lx L1, lz L1 hz, hr1, ht, htr, hsh, hw_, hc, S1.2.2.1, jk_w hv3, ni_in_t, ni_tn, ni_add1, am_w1_i, am_w1_r, am_w1_x, am_w1_l, am_w1_w, va_rf_s, am_push_n, am_push_s, am_cs_0, am_cs_i, am_cs_l, am_cs_r, m_uI_K, m_uI_N, m_uI_R, m_uI_L, m_uI_I, m_uL_K, m_uL_N, m_uL_R, m_uL_I, m_uL_L, m_uR_K, m_uR_N, m_uR_I, m_uR_L, m_uR_R, true_and, and_true, true_implies, false_implies, not_true_eq_false, not_false_eq_true, if_true, if_false, false_and, and_false]
    rw [ni_le (by omega) (by omega)]
    by_cases c : (dY D s).length ≤ kcY (dWt D s) (dV D s) (dSn D s) (dBs D s) (dY D s)
    · have h0 := ih (s + 1) (by omega) M1 v3 hv3 (zF_trans hM f1) X1
      rw [btI_f (fun q => q.1 (by unfold liN; omega))] at h0
      first | rw [br_p (c)] | rw [br_r (c)] | rw [br_s (c)]
      exact h0
    · first | rw [br_n (c)] | rw [br_q (c)] | rw [br_u (c)]
      refine x_clock hD X1 (by omega) d _ (fun M2 f2 X2 => ?_)
      have h0 := ih (s + 1) (by omega) M2 (.int (ckD D s)) (Or.inr ⟨_, rfl⟩) (zF_trans hM (zF_trans f1 f2)) X2
      simp +decide only [qX10_whose, ni_add1, am_w1_i, am_w1_r, am_w1_x, am_w1_l, am_w1_w, va_rf_s, am_push_n, am_push_s, am_cs_0, am_cs_i, am_cs_l, am_cs_r, m_uI_K, m_uI_N, m_uI_R, m_uI_L, m_uI_I, m_uL_K, m_uL_N, m_uL_R, m_uL_I, m_uL_L, m_uR_K, m_uR_N, m_uR_I, m_uR_L, m_uR_R, true_and, and_true, true_implies, false_implies, not_true_eq_false, not_false_eq_true, if_true, if_false, false_and, and_false]
      by_cases c1 : ckD D s = 100
      · rw [btI_f (fun q => q.2.1 c1)] at h0
        first | rw [br_p (c1)] | rw [br_r (c1)] | rw [br_s (c1)]
        exact h0
      · first | rw [br_n (c1)] | rw [br_q (c1)] | rw [br_u (c1)]
        by_cases c2 : ckD D s = 0
        · rw [btI_f (fun q => q.2.2 c2)] at h0
          first | rw [br_p (c2)] | rw [br_r (c2)] | rw [br_s (c2)]
          exact h0
        · rw [btI_t ⟨by unfold liN; omega, c1, c2⟩] at h0
          first | rw [br_n (c2)] | rw [br_q (c2)] | rw [br_u (c2)]
          exact h0
theorem x_whose : XqO 140 [] aWhs := by
  intro d M z D Q hD h hQ
  have h0 := l_x_whose (d + 13) z D M Q hD hQ (dN D) 0 (by omega) M am_x (Or.inl rfl) (XR_2 h) h
  rw [eX10_whose]
  simp +decide only [qX10_whose, am_w1_i, am_w1_r, am_w1_x, am_w1_l, am_w1_w, va_rf_s, am_push_n, am_push_s, am_cs_0, am_cs_i, am_cs_l, am_cs_r, m_uI_K, m_uI_N, m_uI_R, m_uI_L, m_uI_I, m_uL_K, m_uL_N, m_uL_R, m_uL_I, m_uL_L, m_uR_K, m_uR_N, m_uR_I, m_uR_L, m_uR_R, true_and, and_true, true_implies, false_implies, not_true_eq_false, not_false_eq_true, if_true, if_false, false_and, and_false]
  exact h0
theorem l_m_whose (d b : Nat) (D : Dat) (M0 : am_M) (Q : Option Value → am_M → Prop) (hD : dOK D) (hL0 : Lay M0) (h0' : MdM M0 b D) (hQ : ∀ M', gF sMq nT M0 M' → Q (some (.int (btI (wsP D) (dN D)))) M') :
    ∀ (m s : Nat), s + m = dN D → ∀ (M : am_M) (v3 : Value), jk v3 → gF sMq nT M0 M → am_P am_P0 (d + 8) (am_look tX11_whose) 4 [.ref 277, .int (btI (wsP D) s), .int (nI s), v3] [] M Q := by
  have n8 := dN_8 hD
  intro m
  induction m with
  | zero =>
    intro s hs M v3 hv3 hM
    have hL := gF_LayN hM hL0
    have h := MdM_q h0' hM
    have hb2 := h.1.2
    have hle : nI (dN D) ≤ nI s := (ni_le (by omega) (by omega)).mpr (by omega)
    have h0 := hQ M hM
    rw [hX11_whose_4]
    simp +decide (disch := omega) only [qX11_whose, lm hL, h.1.1, h.2.2.2.1.1, ni_in_t, ni_tn, am_w1_i, am_w1_r, am_w1_x, am_w1_l, am_w1_w, va_rf_s, am_push_n, am_push_s, am_cs_0, am_cs_i, am_cs_l, am_cs_r, m_uI_K, m_uI_N, m_uI_R, m_uI_L, m_uI_I, m_uL_K, m_uL_N, m_uL_R, m_uL_I, m_uL_L, m_uR_K, m_uR_N, m_uR_I, m_uR_L, m_uR_R, true_and, and_true, true_implies, false_implies, not_true_eq_false, not_false_eq_true, if_true, if_false, false_and, and_false]
    first | rw [br_p (hle)] | rw [br_r (hle)] | rw [br_s (hle)]
    rw [show s = dN D by omega]
    exact h0
  | succ m ih =>
    intro s hs M v3 hv3 hM
    have hL := gF_LayN hM hL0
    have h := MdM_q h0' hM
    have hb2 := h.1.2
    have hlt : ¬ nI (dN D) ≤ nI s := by rw [ni_le (by omega) (by omega)]; omega
    have h48 := dY_len hD s
    have hll : liN D s ≤ 48 := by unfold liN; omega
    rw [hX11_whose_4]
    simp +decide (disch := omega) only [qX11_whose, lm hL, h.1.1, h.2.2.2.1.1, jk_w hv3, ni_in_t, ni_tn, am_w1_i, am_w1_r, am_w1_x, am_w1_l, am_w1_w, va_rf_s, am_push_n, am_push_s, am_cs_0, am_cs_i, am_cs_l, am_cs_r, m_uI_K, m_uI_N, m_uI_R, m_uI_L, m_uI_I, m_uL_K, m_uL_N, m_uL_R, m_uL_I, m_uL_L, m_uR_K, m_uR_N, m_uR_I, m_uR_L, m_uR_R, true_and, and_true, true_implies, false_implies, not_true_eq_false, not_false_eq_true, if_true, if_false, false_and, and_false]
    first | rw [br_n (hlt)] | rw [br_q (hlt)] | rw [br_u (hlt)]
    refine m_liesOf hD hL h (by omega) d _ (fun M1 g1 => ?_)
    have L1 := gF_LayN g1 hL
    have h1 := MdM_q h g1
    simp +decide only [qX11_whose, lm L1, jk_w hv3, am_w1_i, am_w1_r, am_w1_x, am_w1_l, am_w1_w, va_rf_s, am_push_n, am_push_s, am_cs_0, am_cs_i, am_cs_l, am_cs_r, m_uI_K, m_uI_N, m_uI_R, m_uI_L, m_uI_I, m_uL_K, m_uL_N, m_uL_R, m_uL_I, m_uL_L, m_uR_K, m_uR_N, m_uR_I, m_uR_L, m_uR_R, true_and, and_true, true_implies, false_implies, not_true_eq_false, not_false_eq_true, if_true, if_false, false_and, and_false]
    rw [ni_pos (by omega)]
    by_cases c : liN D s = 0
    · have h0 := ih (s + 1) (by omega) M1 (.int 100) (Or.inr ⟨_, rfl⟩) (gF_trans hM g1)
      rw [btI_f (fun q => q.1 c)] at h0
      first | rw [br_p (c)] | rw [br_r (c)] | rw [br_s (c)]
      simp +decide only [qX11_whose, or_z, ni_add1, am_w1_i, am_w1_r, am_w1_x, am_w1_l, am_w1_w, va_rf_s, am_push_n, am_push_s, am_cs_0, am_cs_i, am_cs_l, am_cs_r, m_uI_K, m_uI_N, m_uI_R, m_uI_L, m_uI_I, m_uL_K, m_uL_N, m_uL_R, m_uL_I, m_uL_L, m_uR_K, m_uR_N, m_uR_I, m_uR_L, m_uR_R, true_and, and_true, true_implies, false_implies, not_true_eq_false, not_false_eq_true, if_true, if_false, false_and, and_false]
      exact h0
    · first | rw [br_n (c)] | rw [br_q (c)] | rw [br_u (c)]
      refine m_offOf hD L1 h1 (by omega) (d + 2) _ (fun M2 g2 => ?_)
      have h0 := ih (s + 1) (by omega) M2 (.int (ckD D s)) (Or.inr ⟨_, rfl⟩) (gF_trans hM (gF_trans g1 g2))
      simp +decide only [qX11_whose, or_z, ni_add1, jk_w hv3, am_w1_i, am_w1_r, am_w1_x, am_w1_l, am_w1_w, va_rf_s, am_push_n, am_push_s, am_cs_0, am_cs_i, am_cs_l, am_cs_r, m_uI_K, m_uI_N, m_uI_R, m_uI_L, m_uI_I, m_uL_K, m_uL_N, m_uL_R, m_uL_I, m_uL_L, m_uR_K, m_uR_N, m_uR_I, m_uR_L, m_uR_R, true_and, and_true, true_implies, false_implies, not_true_eq_false, not_false_eq_true, if_true, if_false, false_and, and_false]
      by_cases c1 : ckD D s = 100
      · rw [btI_f (fun q => q.2.1 c1)] at h0
        first | rw [br_p (c1)] | rw [br_r (c1)] | rw [br_s (c1)]
        exact h0
      · first | rw [br_n (c1)] | rw [br_q (c1)] | rw [br_u (c1)]
        by_cases c2 : ckD D s = 0
        · rw [btI_f (fun q => q.2.2 c2)] at h0
          first | rw [br_p (c2)] | rw [br_r (c2)] | rw [br_s (c2)]
          exact h0
        · rw [btI_t ⟨c, c1, c2⟩] at h0
          first | rw [br_n (c2)] | rw [br_q (c2)] | rw [br_u (c2)]
          exact h0
theorem m_whose : MqO 292 [] aWhs := by
  intro d M b D Q hD hL h hQ
  have h0 := l_m_whose (d + 12) b D M Q hD hL h hQ (dN D) 0 (by omega) M am_x (Or.inl rfl) (gF_refl _ _ _)
  rw [eX11_whose]
  simp +decide only [qX11_whose, am_w1_i, am_w1_r, am_w1_x, am_w1_l, am_w1_w, va_rf_s, am_push_n, am_push_s, am_cs_0, am_cs_i, am_cs_l, am_cs_r, m_uI_K, m_uI_N, m_uI_R, m_uI_L, m_uI_I, m_uL_K, m_uL_N, m_uL_R, m_uL_I, m_uL_L, m_uR_K, m_uR_N, m_uR_I, m_uR_L, m_uR_R, true_and, and_true, true_implies, false_implies, not_true_eq_false, not_false_eq_true, if_true, if_false, false_and, and_false]
  exact h0
theorem op_whose : OpI 140 292 [] isI := op_q (fun D => ⟨_, rfl⟩) x_whose m_whose
