/-! making: the class -/
theorem z0_C : mC am_M0 = 0 := rfl
theorem pz_C (E : List Ev) : mC (pa E am_M0) = evC E := by rw [pa_C, z0_C, Nat.zero_add]
theorem pz_K (E : List Ev) (i : Nat) (h : i < evC E) : mK (pa E am_M0) i = (kdE E i).1 ∧ mN (pa E am_M0) i = (kdE E i).2 := by
  have := pa_K2 E am_M0 i h
  rw [z0_C, Nat.zero_add] at this
  exact this
theorem pz_R (E : List Ev) (a j : Nat) : mR (pa E am_M0) a j = rvR a j 0 none E := pa_R a j E am_M0
theorem pz_I (E : List Ev) (a j : Nat) : mI (pa E am_M0) a j = rvI a j 0 0 E := pa_I a j E am_M0
def xA : List Ev := [pR 0 0 1, nw 0 1800, nw 20 17]
def x1 : List Ev := pR 0 2 2 :: (seaE 2 3 ++ (nw 15 14 :: xA))
def x2 : List Ev := pR 0 3 83 :: (seaE 83 84 ++ (nw 15 14 :: x1))
def x3 : List Ev := pR 0 4 164 :: (prsE 164 165 83 ++ (nw 12 2 :: x2))
def x4 : List Ev := pI 0 15 (-1) :: pI 0 14 (-1) :: pR 0 12 172 :: nw 1 36 :: pR 0 11 171 :: nw 1 48 :: pR 0 9 170 :: nw 0 507 :: pR 0 8 169 :: nw 0 5 :: pR 0 7 168 :: nw 4 8 :: pI 0 6 (-1) :: x3
def tr1E (s : Nat) : List Ev := pR 168 s (173 + 13 * s) :: (trkE (173 + 13 * s) (174 + 13 * s) 2 (27 + 7 * s) ++ [nw 18 17])
def trsE : Nat → List Ev
  | 0 => []
  | s + 1 => tr1E s ++ trsE s
def x10 : List Ev := trsE 8 ++ x4
theorem evC_x1 : evC x1 = 83 := by show evC (seaE 2 3 ++ (nw 15 14 :: xA)) = 83; rw [evC_app, evC_sea]; rfl
theorem evC_x2 : evC x2 = 164 := by show evC (seaE 83 84 ++ (nw 15 14 :: x1)) = 164; rw [evC_app, evC_sea, evC_cn, evC_x1]
theorem evC_prs (p n s : Nat) : evC (prsE p n s) = 3 := by unfold prsE rdrE; rw [evC_app, evC_app, evC_app, evC_row]; rfl
theorem evC_x3 : evC x3 = 168 := by show evC (prsE 164 165 83 ++ (nw 12 2 :: x2)) = 168; rw [evC_app, evC_prs, evC_cn, evC_x2]
theorem evC_x4 : evC x4 = 173 := by unfold x4; simp only [nw, pR, pI, evC_cn, evC_cr, evC_x3]
theorem evC_trs : ∀ s, evC (trsE s) = 13 * s := by
  intro s
  induction s with
  | zero => rfl
  | succ s ih =>
    show evC (tr1E s ++ trsE s) = _
    rw [evC_app, ih]
    have : evC (tr1E s) = 13 := by unfold tr1E; rw [evC_cr, evC_app, evC_trk]; rfl
    omega
theorem trs_ok : ∀ s, s < 8 → rvR 0 7 0 none (trsE s ++ x4) = some 168 ∧ rvR 0 2 0 none (.inl (18, 17) :: (trsE s ++ x4)) = some 2 ∧ rvR 2 4 0 none (.inl (18, 17) :: (trsE s ++ x4)) = some 3 ∧ rvR 3 s 0 none (.inl (18, 17) :: (trsE s ++ x4)) = some (27 + 7 * s) := by decide +kernel
theorem trs_kd : kdE x4 0 = (20, 17) ∧ kdE x4 168 = (4, 8) ∧ kdE x4 2 = (15, 14) ∧ kdE x4 3 = (3, 8) := by decide +kernel
theorem l_x10 (d : Nat) (Q : Option Value → am_M → Prop) (hQ : Q none (pa x10 am_M0)) : ∀ (m s : Nat), s + m = 8 → am_P am_P0 (d + 2) (am_look tX10_init) 108 [.ref 0, .int (nI s)] [] (pa (trsE s ++ x4) am_M0) Q := by
  have k4 : ∀ E, mK (pa E (pa x4 am_M0)) 0 = 20 ∧ mK (pa E (pa x4 am_M0)) 168 = 4 ∧ mN (pa E (pa x4 am_M0)) 168 = 8 ∧ mK (pa E (pa x4 am_M0)) 2 = 15 ∧ mK (pa E (pa x4 am_M0)) 3 = 3 ∧ mN (pa E (pa x4 am_M0)) 3 = 8 := fun E => by
    have c4 : mC (pa x4 am_M0) = 173 := by rw [pz_C, evC_x4]
    obtain ⟨t1, t2, t3, t4⟩ := trs_kd
    have q := fun i (hi : i < 173) => pa_K E (pa x4 am_M0) i (by rw [c4]; exact hi)
    have w := fun i (hi : i < 173) => pz_K x4 i (by rw [evC_x4]; exact hi)
    refine ⟨?_, ?_, ?_, ?_, ?_, ?_⟩
    · rw [(q 0 (by omega)).1, (w 0 (by omega)).1, t1]
    · rw [(q 168 (by omega)).1, (w 168 (by omega)).1, t2]
    · rw [(q 168 (by omega)).2, (w 168 (by omega)).2, t2]
    · rw [(q 2 (by omega)).1, (w 2 (by omega)).1, t3]
    · rw [(q 3 (by omega)).1, (w 3 (by omega)).1, t4]
    · rw [(q 3 (by omega)).2, (w 3 (by omega)).2, t4]
  intro m
  induction m with
  | zero =>
    intro s hs
    have e : s = 8 := by omega
    subst e
    have hle : (8 : Int32) ≤ nI 8 := by decide
    have hQ : Q none (pa (trsE 8 ++ x4) am_M0) := hQ
    obtain ⟨M, hM⟩ : ∃ M, M = pa (trsE 8 ++ x4) am_M0 := ⟨_, rfl⟩
    rw [← hM] at hQ ⊢
    rw [hX10_init_108]
    simp +decide (disch := omega) only [qX10_init_0, qX10_init_1, am_w1_i, am_w1_r, am_w1_x, am_w1_l, am_w1_w, va_rf_s, am_push_n, am_push_s, am_cs_0, am_cs_i, am_cs_l, am_cs_r, m_uI_K, m_uI_N, m_uI_R, m_uI_L, m_uI_I, m_uL_K, m_uL_N, m_uL_R, m_uL_I, m_uL_L, m_uR_K, m_uR_N, m_uR_I, m_uR_L, m_uR_R, true_and, and_true, true_implies, false_implies, not_true_eq_false, not_false_eq_true, if_true, if_false, false_and, and_false]
    first | exact hQ | (rw [br_p hle]; exact hQ)
  | succ m ih =>
    intro s hs
    have hlt : ¬ (8 : Int32) ≤ nI s := by rw [show (8 : Int32) = nI 8 from rfl, ni_le (by omega) (by omega)]; omega
    obtain ⟨o1, o2, o3, o4⟩ := trs_ok s (by omega)
    obtain ⟨M, hM⟩ : ∃ M, M = pa (trsE s ++ x4) am_M0 := ⟨_, rfl⟩
    obtain ⟨M1, hM1⟩ : ∃ M1, M1 = uN M (18, 17) := ⟨_, rfl⟩
    have cM : mC M = 173 + 13 * s := by rw [hM, pz_C, evC_app, evC_trs, evC_x4]; omega
    have cM1 : mC M1 = 174 + 13 * s := by rw [hM1, uN_C, cM]; omega
    have kM := k4 (trsE s)
    rw [← pa_app, ← hM] at kM
    have kM1 := k4 (.inl (18, 17) :: trsE s)
    rw [← pa_app] at kM1
    have eM1 : M1 = pa (.inl (18, 17) :: (trsE s ++ x4)) am_M0 := by rw [hM1, hM]; rfl
    have eM1' : M1 = pa (.inl (18, 17) :: trsE s ++ x4) am_M0 := eM1
    rw [← eM1'] at kM1
    have kT : mK M1 (173 + 13 * s) = 18 := by rw [hM1, ← cM]; exact uN_K0 M (18, 17)
    have r7 : mR M 0 7 = some 168 := by rw [hM, pz_R]; exact o1
    have r2 : mR M1 0 2 = some 2 := by rw [eM1, pz_R]; exact o2
    have r3 : mR M1 2 4 = some 3 := by rw [eM1, pz_R]; exact o3
    have r4 : mR M1 3 s = some (27 + 7 * s) := by rw [eM1, pz_R]; exact o4
    have h0 := ih (s + 1) (by omega)
    rw [hX10_init_108, ← hM]
    simp +decide (disch := omega) only [qX10_init_0, qX10_init_1, kM, r7, cM, am_w1_i, am_w1_r, am_w1_x, am_w1_l, am_w1_w, va_rf_s, am_push_n, am_push_s, am_cs_0, am_cs_i, am_cs_l, am_cs_r, m_uI_K, m_uI_N, m_uI_R, m_uI_L, m_uI_I, m_uL_K, m_uL_N, m_uL_R, m_uL_I, m_uL_L, m_uR_K, m_uR_N, m_uR_I, m_uR_L, m_uR_R, true_and, and_true, true_implies, false_implies, not_true_eq_false, not_false_eq_true, if_true, if_false, false_and, and_false, ← hM1, kM1, kT, r2, r3, r4, hlt, ni_in_t, ni_tn]
    refine c_trk d (173 + 13 * s) 2 (27 + 7 * s) M1 _ kT (by omega) ?_
    have kk := fun E i (hi : i < mC M1) => pa_K E M1 i hi
    have k2 := (kk (trkE (173 + 13 * s) (mC M1) 2 (27 + 7 * s)) 168 (by omega)).1.trans kM1.2.1
    have k3 := (kk (trkE (173 + 13 * s) (mC M1) 2 (27 + 7 * s)) 168 (by omega)).2.trans kM1.2.2.1
    have k5 := (kk (trkE (173 + 13 * s) (mC M1) 2 (27 + 7 * s)) (173 + 13 * s) (by omega)).1.trans kT
    have e9 : uR (pa (trkE (173 + 13 * s) (mC M1) 2 (27 + 7 * s)) M1) 168 s (some (173 + 13 * s)) = pa (trsE (s + 1) ++ x4) am_M0 := by
      show _ = pa (tr1E s ++ trsE s ++ x4) am_M0
      rw [cM1, eM1, List.append_assoc, pa_app]
      unfold tr1E
      show _ = ev1 (pa (trkE (173 + 13 * s) (174 + 13 * s) 2 (27 + 7 * s) ++ [nw 18 17]) (pa (trsE s ++ x4) am_M0)) _
      rw [pa_app]
      rfl
    simp +decide (disch := omega) only [qX10_init_0, qX10_init_1, k2, k3, k5, ni_in_t, ni_tn, ni_add1, e9, am_w1_i, am_w1_r, am_w1_x, am_w1_l, am_w1_w, va_rf_s, am_push_n, am_push_s, am_cs_0, am_cs_i, am_cs_l, am_cs_r, m_uI_K, m_uI_N, m_uI_R, m_uI_L, m_uI_I, m_uL_K, m_uL_N, m_uL_R, m_uL_I, m_uL_L, m_uR_K, m_uR_N, m_uR_I, m_uR_L, m_uR_R, true_and, and_true, true_implies, false_implies, not_true_eq_false, not_false_eq_true, if_true, if_false, false_and, and_false]
    exact h0
theorem x_kd : kdE [nw 20 17] 0 = (20, 17) ∧ kdE (nw 15 14 :: xA) 2 = (15, 14) ∧ kdE (seaE 2 3 ++ (nw 15 14 :: xA)) 0 = (20, 17) ∧ kdE (nw 15 14 :: x1) 83 = (15, 14) ∧ kdE (seaE 83 84 ++ (nw 15 14 :: x1)) 0 = (20, 17) ∧ kdE (nw 12 2 :: x2) 164 = (12, 2) ∧ kdE (prsE 164 165 83 ++ (nw 12 2 :: x2)) 0 = (20, 17) := by decide +kernel
theorem x_rf : rvR 0 3 0 none (nw 12 2 :: x2) = some 83 := by decide +kernel
theorem c_x10 (d : Nat) (Q : Option Value → am_M → Prop) (hQ : Q none (pa x10 am_M0)) : am_E am_P0 (d + 6) 108 [.ref 0] (pa [nw 20 17] am_M0) Q := by
  have h0 := l_x10 (d + 4) Q hQ 8 0 (by omega)
  obtain ⟨u1, u2, u3, u4, u5, u6, u7⟩ := x_kd
  obtain ⟨A, hA⟩ : ∃ A, A = pa [nw 20 17] am_M0 := ⟨_, rfl⟩
  have kA : mK A 0 = 20 := by rw [hA, (pz_K _ 0 (by show 0 < 1; omega)).1, u1]
  have cA : mC A = 1 := by rw [hA, pz_C]; rfl
  have eB : uN (uR (uN A (0, (Int32.toInt 1800).toNat)) 0 0 (some 1)) (15, 14) = pa (nw 15 14 :: xA) am_M0 := by rw [hA]; rfl
  have kB : mK (pa (nw 15 14 :: xA) am_M0) 2 = 15 := by rw [(pz_K _ 2 (by show 2 < 3; omega)).1, u2]
  have cB : mC (pa (nw 15 14 :: xA) am_M0) = 3 := by rw [pz_C]; rfl
  have e1 : pa (seaE 2 3) (pa (nw 15 14 :: xA) am_M0) = pa (seaE 2 3 ++ (nw 15 14 :: xA)) am_M0 := (pa_app _ _ _).symm
  obtain ⟨B1, hB1⟩ : ∃ B1, B1 = pa (seaE 2 3 ++ (nw 15 14 :: xA)) am_M0 := ⟨_, rfl⟩
  have c1 : evC (seaE 2 3 ++ (nw 15 14 :: xA)) = 83 := evC_x1
  have kB1 : mK B1 0 = 20 := by rw [hB1, (pz_K _ 0 (by rw [c1]; omega)).1, u3]
  have cB1 : mC B1 = 83 := by rw [hB1, pz_C, c1]
  have eC : uN (uR B1 0 2 (some 2)) (15, 14) = pa (nw 15 14 :: x1) am_M0 := by rw [hB1]; rfl
  have kC : mK (pa (nw 15 14 :: x1) am_M0) 83 = 15 := by rw [(pz_K _ 83 (by rw [evC_cn, evC_x1]; omega)).1, u4]
  have cC : mC (pa (nw 15 14 :: x1) am_M0) = 84 := by rw [pz_C, evC_cn, evC_x1]
  have e2 : pa (seaE 83 84) (pa (nw 15 14 :: x1) am_M0) = pa (seaE 83 84 ++ (nw 15 14 :: x1)) am_M0 := (pa_app _ _ _).symm
  obtain ⟨C1, hC1⟩ : ∃ C1, C1 = pa (seaE 83 84 ++ (nw 15 14 :: x1)) am_M0 := ⟨_, rfl⟩
  have c2 : evC (seaE 83 84 ++ (nw 15 14 :: x1)) = 164 := evC_x2
  have kC1 : mK C1 0 = 20 := by rw [hC1, (pz_K _ 0 (by rw [c2]; omega)).1, u5]
  have cC1 : mC C1 = 164 := by rw [hC1, pz_C, c2]
  obtain ⟨D, hD⟩ : ∃ D, D = pa (nw 12 2 :: x2) am_M0 := ⟨_, rfl⟩
  have eD : uN (uR C1 0 3 (some 83)) (12, 2) = D := by rw [hC1, hD]; rfl
  have kD : mK D 164 = 12 := by rw [hD, (pz_K _ 164 (by rw [evC_cn, evC_x2]; omega)).1, u6]
  have kD0 : mK D 0 = 20 := by
    rw [← eD, uN_K (by show 0 < mC C1; omega)]
    exact kC1
  have cD : mC D = 165 := by rw [hD, pz_C, evC_cn, evC_x2]
  have rD : mR D 0 3 = some 83 := by rw [hD, pz_R]; exact x_rf
  have e3 : pa (prsE 164 165 83) D = pa (prsE 164 165 83 ++ (nw 12 2 :: x2)) am_M0 := by rw [hD]; exact (pa_app _ _ _).symm
  obtain ⟨D1, hD1⟩ : ∃ D1, D1 = pa (prsE 164 165 83 ++ (nw 12 2 :: x2)) am_M0 := ⟨_, rfl⟩
  have c3 : evC (prsE 164 165 83 ++ (nw 12 2 :: x2)) = 168 := evC_x3
  have kD1 : mK D1 0 = 20 := by rw [hD1, (pz_K _ 0 (by rw [c3]; omega)).1, u7]
  have cD1 : mC D1 = 168 := by rw [hD1, pz_C, c3]
  have e4 : pa (trsE 0 ++ x4) am_M0 = uI (uI (uR (uN (uR (uN (uR (uN (uR (uN (uR (uN (uI (uR D1 0 4 (some 164)) 0 6 (-1)) (4, (Int32.toInt 8).toNat)) 0 7 (some 168)) (0, (Int32.toInt 5).toNat)) 0 8 (some 169)) (0, (Int32.toInt 507).toNat)) 0 9 (some 170)) (1, (Int32.toInt 48).toNat)) 0 11 (some 171)) (1, (Int32.toInt 36).toNat)) 0 12 (some 172)) 0 14 (-1)) 0 15 (-1) := by rw [hD1]; rfl
  rw [e4] at h0
  rw [← hA, eX10_init]
  simp +decide (disch := first | omega | (simp only [uN_C, uR_C, uI_C]; omega)) only [qX10_init_0, qX10_init_1, kA, cA, uN_K, uN_C, uR_C, uI_C, Nat.reduceAdd, am_w1_i, am_w1_r, am_w1_x, am_w1_l, am_w1_w, va_rf_s, am_push_n, am_push_s, am_cs_0, am_cs_i, am_cs_l, am_cs_r, m_uI_K, m_uI_N, m_uI_R, m_uI_L, m_uI_I, m_uL_K, m_uL_N, m_uL_R, m_uL_I, m_uL_L, m_uR_K, m_uR_N, m_uR_I, m_uR_L, m_uR_R, true_and, and_true, true_implies, false_implies, not_true_eq_false, not_false_eq_true, if_true, if_false, false_and, and_false]
  rw [eB]
  refine ⟨kB, c_sea (d + 4) 2 _ _ kB (by rw [cB]; omega) ?_⟩
  rw [cB, e1, ← hB1]
  simp +decide (disch := first | omega | (simp only [uN_C, uR_C, uI_C]; omega)) only [qX10_init_0, qX10_init_1, kB1, cB1, uN_K, uN_C, uR_C, uI_C, Nat.reduceAdd, am_w1_i, am_w1_r, am_w1_x, am_w1_l, am_w1_w, va_rf_s, am_push_n, am_push_s, am_cs_0, am_cs_i, am_cs_l, am_cs_r, m_uI_K, m_uI_N, m_uI_R, m_uI_L, m_uI_I, m_uL_K, m_uL_N, m_uL_R, m_uL_I, m_uL_L, m_uR_K, m_uR_N, m_uR_I, m_uR_L, m_uR_R, true_and, and_true, true_implies, false_implies, not_true_eq_false, not_false_eq_true, if_true, if_false, false_and, and_false]
  rw [eC]
  refine ⟨kC, c_sea (d + 4) 83 _ _ kC (by rw [cC]; omega) ?_⟩
  rw [cC, e2, ← hC1]
  simp +decide (disch := first | omega | (simp only [uN_C, uR_C, uI_C]; omega)) only [qX10_init_0, qX10_init_1, kC1, cC1, uN_K, uN_C, uR_C, uI_C, eD, kD, kD0, rD, Nat.reduceAdd, am_w1_i, am_w1_r, am_w1_x, am_w1_l, am_w1_w, va_rf_s, am_push_n, am_push_s, am_cs_0, am_cs_i, am_cs_l, am_cs_r, m_uI_K, m_uI_N, m_uI_R, m_uI_L, m_uI_I, m_uL_K, m_uL_N, m_uL_R, m_uL_I, m_uL_L, m_uR_K, m_uR_N, m_uR_I, m_uR_L, m_uR_R, true_and, and_true, true_implies, false_implies, not_true_eq_false, not_false_eq_true, if_true, if_false, false_and, and_false]
  refine c_prs d 164 83 D _ kD (by omega) ?_
  rw [cD, e3, ← hD1]
  simp +decide (disch := first | omega | (simp only [uN_C, uR_C, uI_C]; omega)) only [qX10_init_0, qX10_init_1, kD1, cD1, uN_K, uN_C, uR_C, uI_C, Nat.reduceAdd, am_w1_i, am_w1_r, am_w1_x, am_w1_l, am_w1_w, va_rf_s, am_push_n, am_push_s, am_cs_0, am_cs_i, am_cs_l, am_cs_r, m_uI_K, m_uI_N, m_uI_R, m_uI_L, m_uI_I, m_uL_K, m_uL_N, m_uL_R, m_uL_I, m_uL_L, m_uR_K, m_uR_N, m_uR_I, m_uR_L, m_uR_R, true_and, and_true, true_implies, false_implies, not_true_eq_false, not_false_eq_true, if_true, if_false, false_and, and_false]
  exact h0
