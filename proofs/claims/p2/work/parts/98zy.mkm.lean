/-! making: the model -/
def md1 : List Ev := [pI 277 82 0, pR 277 81 335, nw 0 520, pR 277 80 334, nw 0 12288, pR 277 79 333, nw 1 50, pR 277 78 332, nw 0 40, pR 277 77 331, nw 2 48, pR 277 76 330, nw 2 12288, pR 277 75 329, nw 0 48, pR 277 74 328, nw 0 48, pI 277 73 0, pR 277 72 327, nw 0 15360, pR 277 71 326, nw 0 48, pR 277 70 325, nw 2 2304, pR 277 69 324, nw 2 48, pR 277 68 323, nw 2 48, pR 277 67 322, nw 0 48, pI 277 66 0, pI 277 65 0, pI 277 64 0, pR 277 63 321, nw 0 120, pR 277 62 320, nw 0 120, pR 277 61 319, nw 0 120, pI 277 60 0, pI 277 59 0, pR 277 58 318, nw 0 256, pR 277 57 317, nw 0 256, pR 277 56 316, nw 0 256, pR 277 55 315, nw 0 256, pR 277 54 314, nw 0 10, pR 277 53 313, nw 1 1850, pR 277 52 312, nw 0 5, pI 277 51 0, pI 277 50 0, pR 277 49 311, nw 0 500, pI 277 48 0, pI 277 47 0, pR 277 46 310, nw 0 20, pR 277 45 309, nw 0 20, pR 277 44 308, nw 2 20, pR 277 43 307, nw 0 20, pR 277 42 306, nw 0 20, pI 277 41 1, pI 277 40 0, pR 277 39 305, nw 0 3600, pR 277 38 304, nw 0 3600, pR 277 37 303, nw 0 2, pR 277 36 302, nw 0 80, pR 277 35 301, nw 0 80, pR 277 34 300, nw 0 80, pR 277 33 299, nw 0 2, pR 277 32 298, nw 0 24, pR 277 31 297, nw 0 24, pR 277 30 296, nw 0 24, pR 277 29 295, nw 0 24, pR 277 28 294, nw 0 2, pR 277 27 293, nw 2 768, pR 277 26 292, nw 0 768, pR 277 25 291, nw 0 2, pR 277 24 290, nw 0 16, pR 277 23 289, nw 0 16, pR 277 22 288, nw 0 16, pR 277 21 287, nw 0 16, pR 277 20 286, nw 1 16, pR 277 19 285, nw 0 2, pR 277 18 284, nw 0 60, pR 277 17 283, nw 0 60, pR 277 16 282, nw 0 60, pR 277 15 281, nw 0 6, pR 277 14 280, nw 0 2, pR 277 13 279, nw 0 2, pI 277 12 0, pI 277 11 (-1), pI 277 10 0, pI 277 9 (-1), pI 277 8 0, pI 277 6 0, pI 277 5 0, pI 277 4 0, pI 277 3 0, pI 277 2 0, pI 277 1 0, pR 277 0 278, nw 0 1800]
theorem evC_md1 : evC md1 = 58 := rfl
def y0 : List Ev := nw 21 83 :: x10
def y1 : List Ev := md1 ++ y0
def y2 : List Ev := pI 303 0 10 :: y1
def x11 : List Ev := rowE 292 (fun _ => -1) 384 ++ y2
theorem evC_x10 : evC x10 = 277 := by unfold x10; rw [evC_app, evC_trs, evC_x4]
theorem evC_y0 : evC y0 = 278 := by unfold y0; rw [evC_cn, evC_x10]
theorem evC_y1 : evC y1 = 336 := by unfold y1; rw [evC_app, evC_md1, evC_y0]
theorem y_kd : kdE y0 277 = (21, 83) ∧ kdE y1 277 = (21, 83) ∧ kdE y1 303 = (0, 2) ∧ kdE y1 292 = (0, 768) := by decide +kernel
theorem y_rf : rvR 277 37 0 none y1 = some 303 ∧ rvR 277 26 0 none y2 = some 292 := by decide +kernel
theorem uL_z {M : am_M} {a j : Nat} (h : mL M a j = 0) : uL M a j 0 = M := by
  refine am_ext (fun _ _ => rfl) (fun b k => ?_) (fun _ _ => rfl) rfl
  show (if b = a ∧ k = j then (0 : Int64) else mL M b k) = mL M b k
  by_cases c : b = a ∧ k = j
  · rw [if_pos c, c.1, c.2, h]
  · rw [if_neg c]
theorem l_x11 (d : Nat) (M0 : am_M) (Q : Option Value → am_M → Prop) (hk : mK M0 277 = 21) (hr : mR M0 277 26 = some 292) (hK : mK M0 292 = 0) (hN : mN M0 292 = 768) (hQ : Q none (pa (rowE 292 (fun _ => -1) 384) M0)) : ∀ (m i : Nat), i + m = 384 → ∀ (M : am_M), M = pa (rowE 292 (fun _ => -1) i) M0 → am_P am_P0 d (am_look tX11_init) 611 [.ref 277, .int (nI i)] [] M Q := by
  intro m
  induction m with
  | zero =>
    intro i hi M hM
    have e : i = 384 := by omega
    subst e
    have hle : (384 : Int32) ≤ nI 384 := by decide
    rw [← hM] at hQ
    rw [hX11_init_611]
    simp +decide (disch := omega) only [qX11_init_0, qX11_init_1, qX11_init_2, qX11_init_3, qX11_init_4, qX11_init_5, qX11_init_6, qX11_init_7, qX11_init_8, am_w1_i, am_w1_r, am_w1_x, am_w1_l, am_w1_w, va_rf_s, am_push_n, am_push_s, am_cs_0, am_cs_i, am_cs_l, am_cs_r, m_uI_K, m_uI_N, m_uI_R, m_uI_L, m_uI_I, m_uL_K, m_uL_N, m_uL_R, m_uL_I, m_uL_L, m_uR_K, m_uR_N, m_uR_I, m_uR_L, m_uR_R, true_and, and_true, true_implies, false_implies, not_true_eq_false, not_false_eq_true, if_true, if_false, false_and, and_false]
    first | exact hQ | (rw [br_p hle]; exact hQ)
  | succ m ih =>
    intro i hi M hM
    obtain ⟨-, -, r3, r4⟩ := pa_row 292 (fun _ => -1) M0 i
    rw [← hM] at r3 r4
    have kk : mK M 277 = 21 ∧ mK M 292 = 0 ∧ mN M 292 = 768 := by
      unfold mK mN at *
      rw [r4]
      exact ⟨hk, hK, hN⟩
    have rr : mR M 277 26 = some 292 := by rw [r3]; exact hr
    have hlt : ¬ (384 : Int32) ≤ nI i := by rw [show (384 : Int32) = nI 384 from rfl, ni_le (by omega) (by omega)]; omega
    have h0 := ih (i + 1) (by omega) (uI M 292 i (-1)) (by rw [hM]; rfl)
    rw [hX11_init_611]
    simp +decide (disch := omega) only [qX11_init_0, qX11_init_1, qX11_init_2, qX11_init_3, qX11_init_4, qX11_init_5, qX11_init_6, qX11_init_7, qX11_init_8, kk, rr, hlt, ni_in_t, ni_tn, ni_add1, am_w1_i, am_w1_r, am_w1_x, am_w1_l, am_w1_w, va_rf_s, am_push_n, am_push_s, am_cs_0, am_cs_i, am_cs_l, am_cs_r, m_uI_K, m_uI_N, m_uI_R, m_uI_L, m_uI_I, m_uL_K, m_uL_N, m_uL_R, m_uL_I, m_uL_L, m_uR_K, m_uR_N, m_uR_I, m_uR_L, m_uR_R, true_and, and_true, true_implies, false_implies, not_true_eq_false, not_false_eq_true, if_true, if_false, false_and, and_false]
    exact h0
set_option maxRecDepth 100000 in
theorem c_x11 (d : Nat) (Q : Option Value → am_M → Prop) (hQ : Q none (pa x11 am_M0)) : am_E am_P0 d 166 [.ref 277] (pa y0 am_M0) Q := by
  obtain ⟨k0, k1, k2, k3⟩ := y_kd
  obtain ⟨f1, f2⟩ := y_rf
  obtain ⟨M, hM⟩ : ∃ M, M = pa y0 am_M0 := ⟨_, rfl⟩
  have cM : mC M = 278 := by rw [hM, pz_C, evC_y0]
  have kM : mK M 277 = 21 := by rw [hM, (pz_K _ 277 (by rw [evC_y0]; omega)).1, k0]
  have K0 : ∀ E, mK (pa E M) 277 = 21 := fun E => (pa_K E M 277 (by omega)).1.trans kM
  have N0 : ∀ sh, uN M sh = pa [.inl sh] M := fun _ => rfl
  have mL0 : ∀ a j, mL M a j = 0 := fun a j => by rw [hM]; exact pa_L a j y0 am_M0 rfl
  have L0 : ∀ E, uL (pa E M) 277 7 0 = pa E M := fun E => uL_z (pa_L 277 7 E M (mL0 _ _))
  obtain ⟨B, hB⟩ : ∃ B, B = pa y1 am_M0 := ⟨_, rfl⟩
  have eB : pa md1 M = B := by rw [hB, hM]; exact (pa_app _ _ _).symm
  have kB : mK B 277 = 21 ∧ mK B 303 = 0 ∧ mN B 303 = 2 := by
    rw [hB]
    exact ⟨by rw [(pz_K y1 277 (by rw [evC_y1]; omega)).1, k1], by rw [(pz_K y1 303 (by rw [evC_y1]; omega)).1, k2], by rw [(pz_K y1 303 (by rw [evC_y1]; omega)).2, k2]⟩
  have rB : mR B 277 37 = some 303 := by rw [hB, pz_R]; exact f1
  obtain ⟨C, hC⟩ : ∃ C, C = pa y2 am_M0 := ⟨_, rfl⟩
  have eC : uI B 303 0 10 = C := by rw [hB, hC]; rfl
  have kC : mK C 277 = 21 ∧ mK C 292 = 0 ∧ mN C 292 = 768 := by
    rw [hC]
    have e : evC y2 = 336 := evC_y1
    exact ⟨by rw [(pz_K y2 277 (by rw [e]; omega)).1]; exact congrArg Prod.fst k1, by rw [(pz_K y2 292 (by rw [e]; omega)).1]; exact congrArg Prod.fst k3, by rw [(pz_K y2 292 (by rw [e]; omega)).2]; exact congrArg Prod.snd k3⟩
  have rC : mR C 277 26 = some 292 := by rw [hC, pz_R]; exact f2
  have h0 := l_x11 d C Q kC.1 rC kC.2.1 kC.2.2 (by rw [hC, ← pa_app]; exact hQ) 384 0 (by omega) C rfl
  have hin : (0 : Int32).toInt.toNat = 0 := rfl
  rw [← hM, eX11_init]
  simp +decide (disch := omega) only [qX11_init_0, qX11_init_1, qX11_init_2, qX11_init_3, qX11_init_4, qX11_init_5, qX11_init_6, qX11_init_7, qX11_init_8, kM, K0, N0, L0, cM, pa_uN, pa_uR, pa_uI, pa_C, evC_cn, evC_cr, evC_0, Nat.reduceAdd, am_w1_i, am_w1_r, am_w1_x, am_w1_l, am_w1_w, va_rf_s, am_push_n, am_push_s, am_cs_0, am_cs_i, am_cs_l, am_cs_r, m_uI_K, m_uI_N, m_uI_R, m_uI_L, m_uI_I, m_uL_K, m_uL_N, m_uL_R, m_uL_I, m_uL_L, m_uR_K, m_uR_N, m_uR_I, m_uR_L, m_uR_R, true_and, and_true, true_implies, false_implies, not_true_eq_false, not_false_eq_true, if_true, if_false, false_and, and_false]
  change am_P am_P0 d (am_look tX11_init) 608 [.ref 277, am_x] [.int 10, .int 0, va_rf (mR (pa md1 M) 277 37)] (pa md1 M) Q
  rw [eB, rB]
  simp +decide (disch := omega) only [qX11_init_0, qX11_init_1, qX11_init_2, qX11_init_3, qX11_init_4, qX11_init_5, qX11_init_6, qX11_init_7, qX11_init_8, kB, hin, eC, am_w1_i, am_w1_r, am_w1_x, am_w1_l, am_w1_w, va_rf_s, am_push_n, am_push_s, am_cs_0, am_cs_i, am_cs_l, am_cs_r, m_uI_K, m_uI_N, m_uI_R, m_uI_L, m_uI_I, m_uL_K, m_uL_N, m_uL_R, m_uL_I, m_uL_L, m_uR_K, m_uR_N, m_uR_I, m_uR_L, m_uR_R, true_and, and_true, true_implies, false_implies, not_true_eq_false, not_false_eq_true, if_true, if_false, false_and, and_false]
  exact h0
