/-! the class's kindsOf; judge, tale, kinds, lies, gaps -/
theorem XR_kd {M M' : am_M} {z s : Nat} {D : Dat} (hD : dOK D) (hs : s < dN D) (h : XR M z D) (hf : zF (fun a j => a = 173 + 13 * s ∧ (j = 6 ∨ j = 7)) M M') (h6 : mI M' (173 + 13 * s) 6 = 1) (h7 : mI M' (173 + 13 * s) 7 = kdI D s) : XR M' z D := by
  have h0 := h
  obtain ⟨⟨hL, hI, hz, r2, r3, hO⟩, ⟨c, hP⟩, hS1, hTk, hLk⟩ := h0
  have n8 := dN_8 hD
  have k : ∀ j, ¬ j = 6 → ¬ j = 7 → mI M' (173 + 13 * s) j = mI M (173 + 13 * s) j := fun j h1 h2 => hf.2.2.2.1 _ _ (by omega) (fun s' q w => by omega) (fun w => by omega)
  refine XR_z (s0 := s) hD h hf (fun a j q => Or.inl (by unfold sQ1; omega)) (fun _ => ?_) (SqX_z hz hS1 hf (fun a j q1 q2 q3 w => by omega)) (LkX_z hLk hf (fun j hj w => by omega))
  obtain ⟨t1, t2, t3, t4⟩ := hTk s hs
  have kS : ∀ {v wt snd B Y}, SetX M s v wt snd B Y → SetX M' s v wt snd B Y := fun q => SetX_z (by omega) q hf (fun a j w q => by omega)
  refine ⟨TkX_zz (by omega) (isSh_z hz (by omega)) hz t1 hf (fun a j w q => by omega), ?_, ?_, Or.inr ⟨h6, h7⟩⟩
  · rcases t2 with q | q
    · exact Or.inl (by rw [k 4 (by omega) (by omega)]; exact q)
    · exact Or.inr ⟨by rw [k 4 (by omega) (by omega)]; exact q.1, kS q.2⟩
  · rcases t3 with q | q
    · exact Or.inl (by rw [k 5 (by omega) (by omega)]; exact q)
    · exact Or.inr ⟨by rw [k 5 (by omega) (by omega)]; exact q.1, by rw [k 4 (by omega) (by omega)]; exact q.2.1, kS q.2.2.1, by rw [k 13 (by omega) (by omega)]; exact q.2.2.2.1, by rw [k 14 (by omega) (by omega)]; exact q.2.2.2.2⟩
theorem x_countGaps {M : am_M} {z s : Nat} {D : Dat} (hD : dOK D) (h : XR M z D) (hs : s < dN D) (d : Nat) (Q : Option Value → am_M → Prop) (hQ : ∀ M', zF (sXq z) M M' → XR M' z D → GpX (dWt D s) (dV D s) (dSn D s) (dBs D s) (dY D s) (dQt D) M' s → Q none M') : am_E am_P0 (d + 6) 98 [.ref (173 + 13 * s)] M Q := by
  obtain ⟨⟨hL, hI, hz, r2, r3, hO⟩, -, hS1, hTk, hLk⟩ := id h
  have n8 := dN_8 hD
  obtain ⟨t1, t2, t3, t4⟩ := hTk s hs
  refine c_x_countGaps d s (z + 25 + 7 * s) z (dV D s) (dWt D s) (dDp D) (dCs D) (dQt D) (dDr D s) (dLd D s) (dBs D s) (dY D s) M Q hL hI (by omega) (isSh_z hz (by omega)) hz (hD.1.2.2.2.2.1 s) (dSn_w hD s) t1 hS1 t2 t3 (fun M1 f1 q1 h5 hG => ?_)
  exact hQ M1 (zq_up (s := s) (by omega) f1 (fun a j q => by unfold sGp sSt sMm at q; unfold sQ1 sMm; omega)) (XR_gap hD hs h f1 q1 h5 hG) hG
theorem x_kindsOf {M : am_M} {z s : Nat} {D : Dat} (hD : dOK D) (h : XR M z D) (hs : s < dN D) (d : Nat) (Q : Option Value → am_M → Prop) (hQ : ∀ M', zF (sXq z) M M' → XR M' z D → Q (some (.int (kdI D s))) M') : am_E am_P0 (d + 7) 156 [.ref 0, .int (nI s)] M Q := by
  obtain ⟨⟨hL, hI, hz, r2, r3, hO⟩, -, hS1, hTk, hLk⟩ := id h
  have n8 := dN_8 hD
  have htr := ltr hL (show s < 8 by omega)
  have hst := lt_ hL (isTr_of (show s < 8 by omega))
  obtain ⟨t1, t2, t3, t4⟩ := hTk s hs
  rw [eX10_kindsOf]
  simp +decide (disch := omega) only [qX10_kindsOf, lx hL, htr, hst, ni_in_t, ni_tn, Classical.not_not, am_w1_i, am_w1_r, am_w1_x, am_w1_l, am_w1_w, va_rf_s, am_push_n, am_push_s, am_cs_0, am_cs_i, am_cs_l, am_cs_r, m_uI_K, m_uI_N, m_uI_R, m_uI_L, m_uI_I, m_uL_K, m_uL_N, m_uL_R, m_uL_I, m_uL_L, m_uR_K, m_uR_N, m_uR_I, m_uR_L, m_uR_R, true_and, and_true, true_implies, false_implies, not_true_eq_false, not_false_eq_true, if_true, if_false, false_and, and_false]
  rcases t4 with q | q
  · first | rw [br_p (q)] | rw [br_r (q)] | rw [br_s (q)]
    refine x_countGaps hD h hs d _ (fun M1 f1 X1 G1 => ?_)
    have L1 := X1.1.1
    have hst1 := lt_ L1 (isTr_of (show s < 8 by omega))
    simp +decide only [qX10_kindsOf, hst1, am_w1_i, am_w1_r, am_w1_x, am_w1_l, am_w1_w, va_rf_s, am_push_n, am_push_s, am_cs_0, am_cs_i, am_cs_l, am_cs_r, m_uI_K, m_uI_N, m_uI_R, m_uI_L, m_uI_I, m_uL_K, m_uL_N, m_uL_R, m_uL_I, m_uL_L, m_uR_K, m_uR_N, m_uR_I, m_uR_L, m_uR_R, true_and, and_true, true_implies, false_implies, not_true_eq_false, not_false_eq_true, if_true, if_false, false_and, and_false]
    refine c_x_ownKinds (d + 1) s (z + 25 + 7 * s) z (dV D s) (dWt D s) (dDp D) (dQt D) (dDr D s) (dLd D s) (dBs D s) (dY D s) M1 _ L1 X1.1.2.1 (by omega) (isSh_z hz (by omega)) hz (hD.1.2.2.2.2.1 s) (X1.2.2.2.1 s hs).1 G1 (fun M2 f2 => ?_)
    have X2 := XR_k (s0 := s) hD (by omega) X1 f2 (fun a j q => by unfold sCo at q; omega)
    have L2 := X2.1.1
    simp +decide only [qX10_kindsOf, lx L2, am_w1_i, am_w1_r, am_w1_x, am_w1_l, am_w1_w, va_rf_s, am_push_n, am_push_s, am_cs_0, am_cs_i, am_cs_l, am_cs_r, m_uI_K, m_uI_N, m_uI_R, m_uI_L, m_uI_I, m_uL_K, m_uL_N, m_uL_R, m_uL_I, m_uL_L, m_uR_K, m_uR_N, m_uR_I, m_uR_L, m_uR_R, true_and, and_true, true_implies, false_implies, not_true_eq_false, not_false_eq_true, if_true, if_false, false_and, and_false]
    refine x_sayersOf hD X2 hs (d + 1) _ (fun M3 f3 X3 => ?_)
    have L3 := X3.1.1
    have hst3 := lt_ L3 (isTr_of (show s < 8 by omega))
    have eb := fun M Q => c_x_bit (d + 6) 0 M Q (Or.inl rfl)
    have eb1 := fun M Q => c_x_bit (d + 6) 1 M Q (Or.inr rfl)
    obtain ⟨A, hA⟩ : ∃ A, A = uI (uI M3 (173 + 13 * s) 7 (kdI D s)) (173 + 13 * s) 6 1 := ⟨_, rfl⟩
    have gA : gF (fun a j => a = 173 + 13 * s ∧ (j = 6 ∨ j = 7)) nT M3 A := by rw [hA]; exact gF_trans (gF_i _ ⟨rfl, by omega⟩) (gF_i _ ⟨rfl, by omega⟩)
    have zA := zF_g L3 X3.1.2.1 gA (fun a j s' q w => by omega) (fun a j w => by omega)
    have a6 : mI A (173 + 13 * s) 6 = 1 := by rw [hA, m_uI_I, if_pos ⟨rfl, rfl⟩]
    have a7 : mI A (173 + 13 * s) 7 = kdI D s := by rw [hA, m_uI_I, if_neg (by omega), m_uI_I, if_pos ⟨rfl, rfl⟩]
    have XA := XR_kd hD hs X3 zA a6 a7
    have hstA := lt_ XA.1.1 (isTr_of (show s < 8 by omega))
    have h0 := hQ A (zF_trans f1 (zF_trans (zq_up (s := s) (z := z) (by omega) f2 (fun a j q => by unfold sCo at q; unfold sQ1; omega)) (zF_trans (zF_up f3 (fun a j q => sLn_q q)) (zq_up (s := s) (by omega) zA (fun a j q => by unfold sQ1; omega))))) XA
    by_cases c : whI D s = 0
    · have e : kdI D s = okI (dWt D s) (dV D s) (dSn D s) (dBs D s) (dY D s) (dQt D) ||| 0 := by unfold kdI; rw [if_pos c]
      have e4 : (0 : Int32) <<< ((2 : Int32) &&& 31) = 0 := by decide
      rw [c]
      simp +decide only [qX10_kindsOf, eb, hst3, e4, show okI (dWt D s) (dV D s) (sndP (dDp D) (dDr D s) (dLd D s)) (dBs D s) (dY D s) (dQt D) ||| 0 = kdI D s from e.symm, ← hA, am_w1_i, am_w1_r, am_w1_x, am_w1_l, am_w1_w, va_rf_s, am_push_n, am_push_s, am_cs_0, am_cs_i, am_cs_l, am_cs_r, m_uI_K, m_uI_N, m_uI_R, m_uI_L, m_uI_I, m_uL_K, m_uL_N, m_uL_R, m_uL_I, m_uL_L, m_uR_K, m_uR_N, m_uR_I, m_uR_L, m_uR_R, true_and, and_true, true_implies, false_implies, not_true_eq_false, not_false_eq_true, if_true, if_false, false_and, and_false]
      simp +decide only [qX10_kindsOf, hstA, a7, am_w1_i, am_w1_r, am_w1_x, am_w1_l, am_w1_w, va_rf_s, am_push_n, am_push_s, am_cs_0, am_cs_i, am_cs_l, am_cs_r, m_uI_K, m_uI_N, m_uI_R, m_uI_L, m_uI_I, m_uL_K, m_uL_N, m_uL_R, m_uL_I, m_uL_L, m_uR_K, m_uR_N, m_uR_I, m_uR_L, m_uR_R, true_and, and_true, true_implies, false_implies, not_true_eq_false, not_false_eq_true, if_true, if_false, false_and, and_false]
      exact h0
    · have e : kdI D s = okI (dWt D s) (dV D s) (dSn D s) (dBs D s) (dY D s) (dQt D) ||| 4 := by unfold kdI; rw [if_neg c]
      have e4 : (1 : Int32) <<< ((2 : Int32) &&& 31) = 4 := by decide
      simp +decide only [qX10_kindsOf, eb1, hst3, e4, show okI (dWt D s) (dV D s) (sndP (dDp D) (dDr D s) (dLd D s)) (dBs D s) (dY D s) (dQt D) ||| 4 = kdI D s from e.symm, ← hA, am_w1_i, am_w1_r, am_w1_x, am_w1_l, am_w1_w, va_rf_s, am_push_n, am_push_s, am_cs_0, am_cs_i, am_cs_l, am_cs_r, m_uI_K, m_uI_N, m_uI_R, m_uI_L, m_uI_I, m_uL_K, m_uL_N, m_uL_R, m_uL_I, m_uL_L, m_uR_K, m_uR_N, m_uR_I, m_uR_L, m_uR_R, true_and, and_true, true_implies, false_implies, not_true_eq_false, not_false_eq_true, if_true, if_false, false_and, and_false]
      first | rw [br_n (c)] | rw [br_q (c)] | rw [br_u (c)]
      simp +decide only [qX10_kindsOf, hstA, a7, am_w1_i, am_w1_r, am_w1_x, am_w1_l, am_w1_w, va_rf_s, am_push_n, am_push_s, am_cs_0, am_cs_i, am_cs_l, am_cs_r, m_uI_K, m_uI_N, m_uI_R, m_uI_L, m_uI_I, m_uL_K, m_uL_N, m_uL_R, m_uL_I, m_uL_L, m_uR_K, m_uR_N, m_uR_I, m_uR_L, m_uR_R, true_and, and_true, true_implies, false_implies, not_true_eq_false, not_false_eq_true, if_true, if_false, false_and, and_false]
      exact h0
  · have h0 := hQ M (XR_2 h) h
    have hne : ¬ mI M (173 + 13 * s) 6 = 0 := by rw [q.1]; decide
    have h01 : mI M (173 + 13 * s) 6 = 0 ∨ mI M (173 + 13 * s) 6 = 1 := Or.inr q.1
    rw [q.2]
    first | rw [br_n (hne)] | rw [br_q (hne)] | rw [br_u (hne)]
    exact h0
theorem kd_bit {D : Dat} {s k : Nat} (hk : k < 5) : (kdI D s >>> (nI k &&& 31)) &&& 1 = tI (kdP D s k) := by
  have hx1 : k0Y (dWt D s) (dV D s) (dSn D s) (dBs D s) (dY D s) (dQt D) → ¬ k1Y (dWt D s) (dV D s) (dSn D s) (dBs D s) (dY D s) (dQt D) ∧ ¬ k3Y (dWt D s) (dV D s) (dSn D s) (dBs D s) (dY D s) ∧ ¬ k4Y (dWt D s) (dV D s) (dSn D s) (dBs D s) (dY D s) := fun q => ⟨fun w => w.2.2 q.2.2, fun w => w.2.1 q.2.1, fun w => w.2.1 q.2.1⟩
  have hx2 : k1Y (dWt D s) (dV D s) (dSn D s) (dBs D s) (dY D s) (dQt D) → ¬ k3Y (dWt D s) (dV D s) (dSn D s) (dBs D s) (dY D s) ∧ ¬ k4Y (dWt D s) (dV D s) (dSn D s) (dBs D s) (dY D s) := fun q => ⟨fun w => w.2.1 q.2.1, fun w => w.2.1 q.2.1⟩
  unfold kdI okI kdP
  generalize k0Y (dWt D s) (dV D s) (dSn D s) (dBs D s) (dY D s) (dQt D) = p0 at *
  generalize k1Y (dWt D s) (dV D s) (dSn D s) (dBs D s) (dY D s) (dQt D) = p1 at *
  generalize k3Y (dWt D s) (dV D s) (dSn D s) (dBs D s) (dY D s) = p3 at *
  generalize k4Y (dWt D s) (dV D s) (dSn D s) (dBs D s) (dY D s) = p4 at *
  generalize (whI D s = 0) = p2 at *
  have tT : tI True = 1 := tI_t trivial
  have tF : tI False = 0 := tI_f (fun q => q)
  have nT' : tI (¬ True) = 0 := tI_f (fun q => q trivial)
  have nF' : tI (¬ False) = 1 := tI_t (fun q => q)
  by_cases c0 : p0
  · obtain ⟨n1, n3, n4⟩ := hx1 c0
    have e0 : p0 = True := eq_true c0
    have e1 : p1 = False := eq_false n1
    have e3 : p3 = False := eq_false n3
    have e4 : p4 = False := eq_false n4
    subst e0 e1 e3 e4
    by_cases c2 : p2
    · have e2 : p2 = True := eq_true c2
      subst e2
      rcases (by omega : k = 0 ∨ k = 1 ∨ k = 2 ∨ k = 3 ∨ k = 4) with e | e | e | e | e <;> subst e <;> simp +decide only [if_true, if_false, tT, tF, nT', nF'] <;> decide
    · have e2 : p2 = False := eq_false c2
      subst e2
      rcases (by omega : k = 0 ∨ k = 1 ∨ k = 2 ∨ k = 3 ∨ k = 4) with e | e | e | e | e <;> subst e <;> simp +decide only [if_true, if_false, tT, tF, nT', nF'] <;> decide
  · have e0 : p0 = False := eq_false c0
    subst e0
    by_cases c1 : p1
    · obtain ⟨n3, n4⟩ := hx2 c1
      have e1 : p1 = True := eq_true c1
      have e3 : p3 = False := eq_false n3
      have e4 : p4 = False := eq_false n4
      subst e1 e3 e4
      by_cases c2 : p2
      · have e2 : p2 = True := eq_true c2
        subst e2
        rcases (by omega : k = 0 ∨ k = 1 ∨ k = 2 ∨ k = 3 ∨ k = 4) with e | e | e | e | e <;> subst e <;> simp +decide only [if_true, if_false, tT, tF, nT', nF'] <;> decide
      · have e2 : p2 = False := eq_false c2
        subst e2
        rcases (by omega : k = 0 ∨ k = 1 ∨ k = 2 ∨ k = 3 ∨ k = 4) with e | e | e | e | e <;> subst e <;> simp +decide only [if_true, if_false, tT, tF, nT', nF'] <;> decide
    · have e1 : p1 = False := eq_false c1
      subst e1
      by_cases c2 : p2 <;> by_cases c3 : p3 <;> by_cases c4 : p4 <;> simp only [c2, c3, c4] <;> (rcases (by omega : k = 0 ∨ k = 1 ∨ k = 2 ∨ k = 3 ∨ k = 4) with e | e | e | e | e <;> subst e <;> simp +decide only [if_true, if_false, tT, tF, nT', nF'] <;> decide)
noncomputable def aJud (v k : Int32) (D : Dat) : Value := .int (if (0 ≤ v.toInt ∧ v.toInt < dN D) ∧ 0 ≤ k.toInt ∧ k.toInt < 5 then tI (kdP D v.toInt.toNat k.toInt.toNat) else -1)
theorem x_judge (v k : Int32) : XqO 122 [.int v, .int k] (aJud v k) := by
  intro d M z D Q hD h hQ
  have hL := h.1.1
  have n8 := dN_8 hD
  have eS := fun v Q => x_isShip hD h (d + 19) v Q
  have e5 : (5 : Int32).toInt = 5 := rfl
  unfold aJud at hQ
  rw [eX10_judge]
  simp +decide only [qX10_judge, lx hL, eS, bI_0, Classical.not_not, am_w1_i, am_w1_r, am_w1_x, am_w1_l, am_w1_w, va_rf_s, am_push_n, am_push_s, am_cs_0, am_cs_i, am_cs_l, am_cs_r, m_uI_K, m_uI_N, m_uI_R, m_uI_L, m_uI_I, m_uL_K, m_uL_N, m_uL_R, m_uL_I, m_uL_L, m_uR_K, m_uR_N, m_uR_I, m_uR_L, m_uR_R, true_and, and_true, true_implies, false_implies, not_true_eq_false, not_false_eq_true, if_true, if_false, false_and, and_false]
  by_cases hv : 0 ≤ v.toInt ∧ v.toInt < dN D
  · first | rw [br_p (hv)] | rw [br_r (hv)] | rw [br_s (hv)]
    by_cases k0 : k < 0
    · have h0 := hQ M (XR_2 h) h
      rw [if_neg (fun q => by rw [lt32, z32] at k0; omega)] at h0
      first | rw [br_p (k0)] | rw [br_r (k0)] | rw [br_s (k0)]
      exact h0
    · first | rw [br_n (k0)] | rw [br_q (k0)] | rw [br_u (k0)]
      rw [lt32, z32] at k0
      by_cases k5 : k < 5
      · first | rw [br_p (k5)] | rw [br_r (k5)] | rw [br_s (k5)]
        rw [lt32, e5] at k5
        rw [if_pos ⟨hv, by omega, by omega⟩] at hQ
        obtain ⟨s, s1, s2, s3⟩ := sh_of (by omega) hv
        have ek : k = nI k.toInt.toNat := i32_of (by omega) (by omega)
        rw [s3] at hQ
        rw [s2]
        refine x_kindsOf hD h s1 (d + 12) _ (fun M1 f1 X1 => ?_)
        have h0 := hQ M1 f1 X1
        rw [← kd_bit (by omega), ← ek] at h0
        simp +decide only [qX10_judge, am_w1_i, am_w1_r, am_w1_x, am_w1_l, am_w1_w, va_rf_s, am_push_n, am_push_s, am_cs_0, am_cs_i, am_cs_l, am_cs_r, m_uI_K, m_uI_N, m_uI_R, m_uI_L, m_uI_I, m_uL_K, m_uL_N, m_uL_R, m_uL_I, m_uL_L, m_uR_K, m_uR_N, m_uR_I, m_uR_L, m_uR_R, true_and, and_true, true_implies, false_implies, not_true_eq_false, not_false_eq_true, if_true, if_false, false_and, and_false]
        exact h0
      · have h0 := hQ M (XR_2 h) h
        rw [if_neg (fun q => k5 (by rw [lt32, e5]; omega))] at h0
        first | rw [br_n (k5)] | rw [br_q (k5)] | rw [br_u (k5)]
        exact h0
  · have h0 := hQ M (XR_2 h) h
    rw [if_neg (fun q => hv q.1)] at h0
    first | rw [br_n (hv)] | rw [br_q (hv)] | rw [br_u (hv)]
    exact h0
theorem m_judge (v k : Int32) : MqO 266 [.int v, .int k] (aJud v k) := by
  intro d M b D Q hD hL h hQ
  have n8 := dN_8 hD
  have eS := fun v Q => m_isShip hD hL h (d + 18) v Q
  have e4 : (4 : Int32).toInt = 4 := rfl
  unfold aJud at hQ
  rw [eX11_judge]
  simp +decide only [qX11_judge, lm hL, eS, c_m_is, bI_0, Classical.not_not, am_w1_i, am_w1_r, am_w1_x, am_w1_l, am_w1_w, va_rf_s, am_push_n, am_push_s, am_cs_0, am_cs_i, am_cs_l, am_cs_r, m_uI_K, m_uI_N, m_uI_R, m_uI_L, m_uI_I, m_uL_K, m_uL_N, m_uL_R, m_uL_I, m_uL_L, m_uR_K, m_uR_N, m_uR_I, m_uR_L, m_uR_R, true_and, and_true, true_implies, false_implies, not_true_eq_false, not_false_eq_true, if_true, if_false, false_and, and_false]
  by_cases hv : 0 ≤ v.toInt ∧ v.toInt < dN D
  · first | rw [br_p (hv)] | rw [br_r (hv)] | rw [br_s (hv)]
    by_cases k5 : 0 ≤ k ∧ k ≤ 4
    · first | rw [br_p (k5)] | rw [br_r (k5)] | rw [br_s (k5)]
      rw [le32, le32, z32, e4] at k5
      rw [if_pos ⟨hv, by omega, by omega⟩] at hQ
      obtain ⟨s, s1, s2, s3⟩ := sh_of (by omega) hv
      have ek : k = nI k.toInt.toNat := i32_of (by omega) (by omega)
      rw [s3] at hQ
      rw [s2, ek]
      refine m_isKind hD hL h s1 (by omega) (d + 10) _ (fun M1 g1 => ?_)
      have h0 := hQ M1 g1
      by_cases c : kdP D s k.toInt.toNat
      · rw [tI_t c] at h0 ⊢; simp +decide only [qX11_judge, am_w1_i, am_w1_r, am_w1_x, am_w1_l, am_w1_w, va_rf_s, am_push_n, am_push_s, am_cs_0, am_cs_i, am_cs_l, am_cs_r, m_uI_K, m_uI_N, m_uI_R, m_uI_L, m_uI_I, m_uL_K, m_uL_N, m_uL_R, m_uL_I, m_uL_L, m_uR_K, m_uR_N, m_uR_I, m_uR_L, m_uR_R, true_and, and_true, true_implies, false_implies, not_true_eq_false, not_false_eq_true, if_true, if_false, false_and, and_false]; exact h0
      · rw [tI_f c] at h0 ⊢; simp +decide only [qX11_judge, am_w1_i, am_w1_r, am_w1_x, am_w1_l, am_w1_w, va_rf_s, am_push_n, am_push_s, am_cs_0, am_cs_i, am_cs_l, am_cs_r, m_uI_K, m_uI_N, m_uI_R, m_uI_L, m_uI_I, m_uL_K, m_uL_N, m_uL_R, m_uL_I, m_uL_L, m_uR_K, m_uR_N, m_uR_I, m_uR_L, m_uR_R, true_and, and_true, true_implies, false_implies, not_true_eq_false, not_false_eq_true, if_true, if_false, false_and, and_false]; exact h0
    · have h0 := hQ M (gF_refl _ _ _)
      rw [if_neg (fun q => k5 (by rw [le32, le32, z32, e4]; omega))] at h0
      first | rw [br_n (k5)] | rw [br_q (k5)] | rw [br_u (k5)]
      exact h0
  · have h0 := hQ M (gF_refl _ _ _)
    rw [if_neg (fun q => hv q.1)] at h0
    first | rw [br_n (hv)] | rw [br_q (hv)] | rw [br_u (hv)]
    exact h0
theorem op_judge (v k : Int32) : OpI 122 266 [.int v, .int k] isI := op_q (fun D => ⟨_, rfl⟩) (x_judge v k) (m_judge v k)
