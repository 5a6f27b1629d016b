/-! the class: measure -/
/-- depths, costs, quiet hours of rules -/
noncomputable def dpF (C R : Nat) (Rd : List (Den × Den)) (p : Nat) : Nat := @ite _ (vld C R p) (Classical.propDecidable _) (sumR Rd (p % 16, p / 16, 0, 0)).toNat 0
noncomputable def csF (C R : Nat) (Rd Rc : List (Den × Den)) (p : Nat) : Nat := (sumR Rc (p % 16, p / 16, 0, dpF C R Rd p)).toNat
def qtF (C R : Nat) (Rd Rq : List (Den × Den)) (p h : Nat) : Prop := ¬ fstR Rq (p % 16, p / 16, h, dpF C R Rd p) = none
theorem dpF_le (C R : Nat) (Rd : List (Den × Den)) (p : Nat) : dpF C R Rd p ≤ 99 := by
  unfold dpF
  split
  · have := sumR_bd Rd (p % 16, p / 16, 0, 0); omega
  · omega
def sMe (z a _j : Nat) : Prop := a = z + 8 ∨ (z + 21 ≤ a ∧ a ≤ z + 24)
/-- depths up to a row and a column -/
noncomputable def dpU (C R : Nat) (Rd : List (Den × Den)) (r c p : Nat) : Nat := if p / 16 < r ∨ (p / 16 = r ∧ p % 16 < c) then dpF C R Rd p else 0
theorem l_x_meas2 (d z C R r : Nat) (Rd : List (Den × Den)) (M0 : am_M) (Q : Option Value → am_M → Prop) (hL : Lay M0) (hz : z = 2 ∨ z = 83) (hC : mI M0 z 0 = nI C) (hC2 : C ≤ 16) (hR2 : R ≤ 16) (hr : r < R)
    (hN : ∀ M' v2 v3, gF (sMe z) nT M0 M' → RlX M' z (z + 9) true Rd → (∀ p, p < 256 → mI M' (z + 21) p = nI (dpU C R Rd (r + 1) 0 p)) → (∀ a j, ¬ a = z + 21 → ¬ a = z + 8 → mI M' a j = mI M0 a j) → (∀ a j, mL M' a j = mL M0 a j) → jk v2 → jk v3 → am_P am_P0 (d + 5) (am_look tX5_measure) 34 [.ref z, .int (nI (r + 1)), v2, v3] [] M' Q) :
    ∀ (m c : Nat), c + m = C → ∀ (M : am_M) (v3 : Value), jk v3 → gF (sMe z) nT M0 M → RlX M z (z + 9) true Rd → (∀ p, p < 256 → mI M (z + 21) p = nI (dpU C R Rd r c p)) → (∀ a j, ¬ a = z + 21 → ¬ a = z + 8 → mI M a j = mI M0 a j) → (∀ a j, mL M a j = mL M0 a j) → am_P am_P0 (d + 5) (am_look tX5_measure) 44 [.ref z, .int (nI r), .int (nI c), v3] [] M Q := by
  intro m
  induction m with
  | zero =>
    intro c hc M v3 j3 hM hRl hdp hk hkl
    have hLM := gF_LayN hM hL
    have e : c = C := by omega
    subst e
    have hCM : mI M z 0 = nI c := by rw [hk _ _ (by omega) (by omega)]; exact hC
    have hle : nI c ≤ nI c := (ni_le (by omega) (by omega)).mpr (Nat.le_refl _)
    have h0 := hN M (.int (nI c)) v3 hM hRl (fun p hp => by
      rw [hdp p hp]
      congr 1
      unfold dpU
      by_cases q : p / 16 < r ∨ (p / 16 = r ∧ p % 16 < c)
      · rw [if_pos q, if_pos (by omega)]
      · rw [if_neg q]
        by_cases q2 : p / 16 < r + 1 ∨ (p / 16 = r + 1 ∧ p % 16 < 0)
        · rw [if_pos q2]
          unfold dpF
          rw [if_neg (fun v => by have := v.1; omega)]
        · rw [if_neg q2]) hk hkl (Or.inr ⟨_, rfl⟩) j3
    rw [hX5_measure_44]
    simp +decide only [qX5_measure_0, qX5_measure_1, lz hLM hz, hCM, ni_add1, am_w1_i, am_w1_r, am_w1_x, am_w1_l, am_w1_w, va_rf_s, am_push_n, am_push_s, am_cs_0, am_cs_i, am_cs_l, am_cs_r, m_uI_K, m_uI_N, m_uI_R, m_uI_L, m_uI_I, m_uL_K, m_uL_N, m_uL_R, m_uL_I, m_uL_L, m_uR_K, m_uR_N, m_uR_I, m_uR_L, m_uR_R, true_and, and_true, true_implies, false_implies, not_true_eq_false, not_false_eq_true, if_true, if_false, false_and, and_false]
    rw [br_p hle]
    exact h0
  | succ m ih =>
    intro c hc M v3 j3 hM hRl hdp hk hkl
    have hLM := gF_LayN hM hL
    have hCM : mI M z 0 = nI C := by rw [hk _ _ (by omega) (by omega)]; exact hC
    have hlt : ¬ nI C ≤ nI c := by rw [ni_le (by omega) (by omega)]; omega
    have e1 : nI r * 16 + nI c = nI (16 * r + c) := by rw [show (16 : Int32) = nI 16 from rfl, ni_mul, ni_add, Nat.mul_comm]
    rw [hX5_measure_44]
    simp +decide only [qX5_measure_0, qX5_measure_1, lz hLM hz, hCM, e1, jk_w j3, am_w1_i, am_w1_r, am_w1_x, am_w1_l, am_w1_w, va_rf_s, am_push_n, am_push_s, am_cs_0, am_cs_i, am_cs_l, am_cs_r, m_uI_K, m_uI_N, m_uI_R, m_uI_L, m_uI_I, m_uL_K, m_uL_N, m_uL_R, m_uL_I, m_uL_L, m_uR_K, m_uR_N, m_uR_I, m_uR_L, m_uR_R, true_and, and_true, true_implies, false_implies, not_true_eq_false, not_false_eq_true, if_true, if_false, false_and, and_false]
    rw [br_n hlt, show (0 : Int32) = nI 0 from rfl]
    refine c_x_firstSum d z (z + 9) (16 * r + c) 0 Rd M _ hLM hz (Or.inl rfl) (by omega) (by omega) hRl (fun M1 g1 => ?_)
    have L1 := oS_Lay g1 hLM
    have em : (16 * r + c) % 16 = c ∧ (16 * r + c) / 16 = r := by omega
    have hv : vld C R (16 * r + c) := ⟨by omega, by omega⟩
    have ed : (sumR Rd ((16 * r + c) % 16, (16 * r + c) / 16, 0, 0)).toNat = dpF C R Rd (16 * r + c) := by unfold dpF; rw [if_pos hv]
    rw [ed]
    have n8 : ∀ a j, ¬ a = z + 8 → mI M1 a j = mI M a j := fun a j q => g1.1 a j q
    have G2 : gF (sMe z) nT M1 (uI M1 (z + 21) (16 * r + c) (nI (dpF C R Rd (16 * r + c)))) := gF_i _ (Or.inr ⟨by omega, by omega⟩)
    have G1 : gF (sMe z) nT M M1 := gF_o (oS_up g1 (fun a j q => Or.inl q))
    have h0 := ih (c + 1) (by omega) (uI M1 (z + 21) (16 * r + c) (nI (dpF C R Rd (16 * r + c)))) (.int (nI (16 * r + c))) (Or.inr ⟨_, rfl⟩) (gF_trans hM (gF_trans G1 G2)) (RlX_u hRl (fun j => by rw [m_uI_I, if_neg (by omega), n8 _ _ (by omega)]) (fun j => by rw [m_uI_I, if_neg (by omega), n8 _ _ (by omega)]) (fun j => by rw [m_uI_I, if_neg (by omega), n8 _ _ (by omega)]) (fun j => by rw [m_uI_I, if_neg (by omega), n8 _ _ (by omega)]) (fun j => by rw [m_uI_I, if_neg (by omega), n8 _ _ (by omega)])) (fun p hp => by
      rw [m_uI_I]
      unfold dpU
      by_cases e : p = 16 * r + c
      · rw [if_pos ⟨rfl, e⟩, if_pos (by omega), e]
      · rw [if_neg (fun q => e q.2), n8 _ _ (by omega), hdp p hp]
        unfold dpU
        by_cases q : p / 16 < r ∨ (p / 16 = r ∧ p % 16 < c)
        · rw [if_pos q, if_pos (by omega)]
        · rw [if_neg q, if_neg (by omega)]) (fun a j q1 q2 => by rw [m_uI_I, if_neg (fun q => q1 q.1), n8 _ _ q2, hk _ _ q1 q2]) (fun a j => (g1.2.1 a j).trans (hkl a j))
    simp +decide (disch := omega) only [qX5_measure_0, qX5_measure_1, lz L1 hz, ni_in_t, ni_tn, ni_add1, am_w1_i, am_w1_r, am_w1_x, am_w1_l, am_w1_w, va_rf_s, am_push_n, am_push_s, am_cs_0, am_cs_i, am_cs_l, am_cs_r, m_uI_K, m_uI_N, m_uI_R, m_uI_L, m_uI_I, m_uL_K, m_uL_N, m_uL_R, m_uL_I, m_uL_L, m_uR_K, m_uR_N, m_uR_I, m_uR_L, m_uR_R, true_and, and_true, true_implies, false_implies, not_true_eq_false, not_false_eq_true, if_true, if_false, false_and, and_false]
    exact h0
theorem l_x_meas1 (d z C R : Nat) (Rd : List (Den × Den)) (M0 : am_M) (Q : Option Value → am_M → Prop) (hL : Lay M0) (hz : z = 2 ∨ z = 83) (hC : mI M0 z 0 = nI C) (hC2 : C ≤ 16) (hR : mI M0 z 1 = nI R) (hR2 : R ≤ 16)
    (hN : ∀ M', gF (sMe z) nT M0 M' → (∀ p, p < 256 → mI M' (z + 21) p = nI (dpF C R Rd p)) → (∀ a j, ¬ a = z + 21 → ¬ a = z + 8 → mI M' a j = mI M0 a j) → (∀ a j, mL M' a j = mL M0 a j) → Q none M') :
    ∀ (m r : Nat), r + m = R → ∀ (M : am_M) (v2 v3 : Value), jk v2 → jk v3 → gF (sMe z) nT M0 M → RlX M z (z + 9) true Rd → (∀ p, p < 256 → mI M (z + 21) p = nI (dpU C R Rd r 0 p)) → (∀ a j, ¬ a = z + 21 → ¬ a = z + 8 → mI M a j = mI M0 a j) → (∀ a j, mL M a j = mL M0 a j) → am_P am_P0 (d + 5) (am_look tX5_measure) 34 [.ref z, .int (nI r), v2, v3] [] M Q := by
  intro m
  induction m with
  | zero =>
    intro r hr M v2 v3 j2 j3 hM hRl hdp hk hkl
    have hLM := gF_LayN hM hL
    have e : r = R := by omega
    subst e
    have hRM : mI M z 1 = nI r := by rw [hk _ _ (by omega) (by omega)]; exact hR
    have hle : nI r ≤ nI r := (ni_le (by omega) (by omega)).mpr (Nat.le_refl _)
    have h0 := hN M hM (fun p hp => by
      rw [hdp p hp]
      congr 1
      unfold dpU
      by_cases q : p / 16 < r ∨ (p / 16 = r ∧ p % 16 < 0)
      · rw [if_pos q]
      · rw [if_neg q]
        unfold dpF
        rw [if_neg (fun v => by have := v.2; omega)]) hk hkl
    rw [hX5_measure_34]
    simp +decide only [qX5_measure_0, qX5_measure_1, lz hLM hz, hRM, ni_add1, am_w1_i, am_w1_r, am_w1_x, am_w1_l, am_w1_w, va_rf_s, am_push_n, am_push_s, am_cs_0, am_cs_i, am_cs_l, am_cs_r, m_uI_K, m_uI_N, m_uI_R, m_uI_L, m_uI_I, m_uL_K, m_uL_N, m_uL_R, m_uL_I, m_uL_L, m_uR_K, m_uR_N, m_uR_I, m_uR_L, m_uR_R, true_and, and_true, true_implies, false_implies, not_true_eq_false, not_false_eq_true, if_true, if_false, false_and, and_false]
    rw [br_p hle]
    exact h0
  | succ m ih =>
    intro r hr M v2 v3 j2 j3 hM hRl hdp hk hkl
    have hLM := gF_LayN hM hL
    have hRM : mI M z 1 = nI R := by rw [hk _ _ (by omega) (by omega)]; exact hR
    have hlt : ¬ nI R ≤ nI r := by rw [ni_le (by omega) (by omega)]; omega
    have h0 := l_x_meas2 d z C R r Rd M0 Q hL hz hC hC2 hR2 (by omega) (fun M' v2' v3' a1 a2 a3 a4 a5 a6 a7 => ih (r + 1) (by omega) M' v2' v3' a6 a7 a1 a2 a3 a4 a5) C 0 (by omega) M v3 j3 hM hRl hdp hk hkl
    rw [hX5_measure_34]
    simp +decide only [qX5_measure_0, qX5_measure_1, lz hLM hz, hRM, ni_add1, am_w1_i, am_w1_r, am_w1_x, am_w1_l, am_w1_w, va_rf_s, am_push_n, am_push_s, am_cs_0, am_cs_i, am_cs_l, am_cs_r, m_uI_K, m_uI_N, m_uI_R, m_uI_L, m_uI_I, m_uL_K, m_uL_N, m_uL_R, m_uL_I, m_uL_L, m_uR_K, m_uR_N, m_uR_I, m_uR_L, m_uR_R, true_and, and_true, true_implies, false_implies, not_true_eq_false, not_false_eq_true, if_true, if_false, false_and, and_false]
    rw [br_n hlt]
    exact h0
theorem c_x_measure (d z C R : Nat) (Rd Rc Rq : List (Den × Den)) (M : am_M) (Q : Option Value → am_M → Prop) (hL : Lay M) (hz : z = 2 ∨ z = 83) (hC : mI M z 0 = nI C) (hC2 : C ≤ 16) (hR : mI M z 1 = nI R) (hR2 : R ≤ 16) (hd : RlX M z (z + 9) true Rd) (hc : RlX M z (z + 13) true Rc) (hq : RlX M z (z + 17) false Rq) (hq6 : Rq.length ≤ 6)
    (hQ : ∀ M', gF (sMe z) nT M M' → SqX M' z (dpF C R Rd) (csF C R Rd Rc) (qtF C R Rd Rq) → Q none M') : am_E am_P0 (d + 5) 53 [.ref z] M Q := by
  have hlz := lz hL hz
  rw [eX5_measure]
  simp +decide only [qX5_measure_0, qX5_measure_1, hlz, am_w1_i, am_w1_r, am_w1_x, am_w1_l, am_w1_w, va_rf_s, am_push_n, am_push_s, am_cs_0, am_cs_i, am_cs_l, am_cs_r, m_uI_K, m_uI_N, m_uI_R, m_uI_L, m_uI_I, m_uL_K, m_uL_N, m_uL_R, m_uL_I, m_uL_L, m_uR_K, m_uR_N, m_uR_I, m_uR_L, m_uR_R, true_and, and_true, true_implies, false_implies, not_true_eq_false, not_false_eq_true, if_true, if_false, false_and, and_false]
  have kk : ∀ (M' : am_M), mS M' = mS M → mK M' (z + 21) = 0 ∧ mN M' (z + 21) = 256 ∧ mK M' (z + 22) = 0 ∧ mN M' (z + 22) = 256 ∧ mK M' (z + 23) = 1 ∧ mN M' (z + 23) = 192 ∧ mK M' (z + 24) = 1 ∧ mN M' (z + 24) = 192 ∧ mK M' z = 15 := fun M' h => by
    have e1 : ∀ a, mK M' a = mK M a := fun a => by unfold mK; rw [h]
    have e2 : ∀ a, mN M' a = mN M a := fun a => by unfold mN; rw [h]
    simp only [e1, e2, hlz, and_self]
  rw [c_fillI (d + 4) (z + 21) 0 M _ (kk M rfl).1 (by rw [(kk M rfl).2.1]; decide), (kk M rfl).2.1]
  obtain ⟨M1, hM1⟩ : ∃ M1, M1 = uA M (z + 21) (fun j => if j < 256 then 0 else mI M (z + 21) j) := ⟨_, rfl⟩
  have s1 : mS M1 = mS M := by rw [hM1]; rfl
  have L1 : Lay M1 := by rw [hM1]; exact hL
  have k1 := kk M1 s1
  have G1 : gF (sMe z) nT M M1 := by rw [hM1]; exact gF_A _ (fun j => Or.inr ⟨by omega, by omega⟩)
  rw [← hM1]
  simp +decide only [qX5_measure_0, qX5_measure_1, lz L1 hz, am_w1_i, am_w1_r, am_w1_x, am_w1_l, am_w1_w, va_rf_s, am_push_n, am_push_s, am_cs_0, am_cs_i, am_cs_l, am_cs_r, m_uI_K, m_uI_N, m_uI_R, m_uI_L, m_uI_I, m_uL_K, m_uL_N, m_uL_R, m_uL_I, m_uL_L, m_uR_K, m_uR_N, m_uR_I, m_uR_L, m_uR_R, true_and, and_true, true_implies, false_implies, not_true_eq_false, not_false_eq_true, if_true, if_false, false_and, and_false]
  rw [c_fillI (d + 4) (z + 22) (-1) M1 _ k1.2.2.1 (by rw [k1.2.2.2.1]; decide), k1.2.2.2.1]
  obtain ⟨M2, hM2⟩ : ∃ M2, M2 = uA M1 (z + 22) (fun j => if j < 256 then -1 else mI M1 (z + 22) j) := ⟨_, rfl⟩
  have s2 : mS M2 = mS M := by rw [hM2]; exact s1
  have L2 : Lay M2 := by rw [hM2]; exact L1
  have k2 := kk M2 s2
  have G2 : gF (sMe z) nT M1 M2 := by rw [hM2]; exact gF_A _ (fun j => Or.inr ⟨by omega, by omega⟩)
  rw [← hM2]
  simp +decide only [qX5_measure_0, qX5_measure_1, lz L2 hz, am_w1_i, am_w1_r, am_w1_x, am_w1_l, am_w1_w, va_rf_s, am_push_n, am_push_s, am_cs_0, am_cs_i, am_cs_l, am_cs_r, m_uI_K, m_uI_N, m_uI_R, m_uI_L, m_uI_I, m_uL_K, m_uL_N, m_uL_R, m_uL_I, m_uL_L, m_uR_K, m_uR_N, m_uR_I, m_uR_L, m_uR_R, true_and, and_true, true_implies, false_implies, not_true_eq_false, not_false_eq_true, if_true, if_false, false_and, and_false]
  rw [c_fillJ (d + 4) (z + 23) 0 M2 _ k2.2.2.2.2.1 (by rw [k2.2.2.2.2.2.1]; decide), k2.2.2.2.2.2.1]
  obtain ⟨M3, hM3⟩ : ∃ M3, M3 = uB M2 (z + 23) (fun j => if j < 192 then 0 else mL M2 (z + 23) j) := ⟨_, rfl⟩
  have s3 : mS M3 = mS M := by rw [hM3]; exact s2
  have L3 : Lay M3 := by rw [hM3]; exact L2
  have k3 := kk M3 s3
  have G3 : gF (sMe z) nT M2 M3 := by rw [hM3]; exact gF_B _ (fun j => Or.inr ⟨by omega, by omega⟩)
  rw [← hM3]
  simp +decide only [qX5_measure_0, qX5_measure_1, lz L3 hz, am_w1_i, am_w1_r, am_w1_x, am_w1_l, am_w1_w, va_rf_s, am_push_n, am_push_s, am_cs_0, am_cs_i, am_cs_l, am_cs_r, m_uI_K, m_uI_N, m_uI_R, m_uI_L, m_uI_I, m_uL_K, m_uL_N, m_uL_R, m_uL_I, m_uL_L, m_uR_K, m_uR_N, m_uR_I, m_uR_L, m_uR_R, true_and, and_true, true_implies, false_implies, not_true_eq_false, not_false_eq_true, if_true, if_false, false_and, and_false]
  rw [c_fillJ (d + 4) (z + 24) 0 M3 _ k3.2.2.2.2.2.2.1 (by rw [k3.2.2.2.2.2.2.2.1]; decide), k3.2.2.2.2.2.2.2.1]
  obtain ⟨M4, hM4⟩ : ∃ M4, M4 = uB M3 (z + 24) (fun j => if j < 192 then 0 else mL M3 (z + 24) j) := ⟨_, rfl⟩
  have L4 : Lay M4 := by rw [hM4]; exact L3
  have G4 : gF (sMe z) nT M3 M4 := by rw [hM4]; exact gF_B _ (fun j => Or.inr ⟨by omega, by omega⟩)
  have G : gF (sMe z) nT M M4 := gF_trans G1 (gF_trans G2 (gF_trans G3 G4))
  rw [← hM4]
  have ki : ∀ a j, ¬ a = z + 21 → ¬ a = z + 22 → mI M4 a j = mI M a j := fun a j q1 q2 => by
    rw [hM4, uB_I, hM3, uB_I, hM2, uA_I, if_neg q2, hM1, uA_I, if_neg q1]
  have i21 : ∀ p, p < 256 → mI M4 (z + 21) p = 0 := fun p hp => by rw [hM4, uB_I, hM3, uB_I, hM2, uA_I, if_neg (by omega), hM1, uA_I, if_pos rfl, if_pos hp]
  have i22 : ∀ p, p < 256 → mI M4 (z + 22) p = -1 := fun p hp => by rw [hM4, uB_I, hM3, uB_I, hM2, uA_I, if_pos rfl, if_pos hp]
  have l23 : ∀ j, j < 192 → mL M4 (z + 23) j = 0 := fun j hj => by rw [hM4, uB_L, if_neg (by omega), hM3, uB_L, if_pos rfl, if_pos hj]
  have l24 : ∀ j, j < 192 → mL M4 (z + 24) j = 0 := fun j hj => by rw [hM4, uB_L, if_pos rfl, if_pos hj]
  simp +decide only [qX5_measure_0, qX5_measure_1, am_w1_i, am_w1_r, am_w1_x, am_w1_l, am_w1_w, va_rf_s, am_push_n, am_push_s, am_cs_0, am_cs_i, am_cs_l, am_cs_r, m_uI_K, m_uI_N, m_uI_R, m_uI_L, m_uI_I, m_uL_K, m_uL_N, m_uL_R, m_uL_I, m_uL_L, m_uR_K, m_uR_N, m_uR_I, m_uR_L, m_uR_R, true_and, and_true, true_implies, false_implies, not_true_eq_false, not_false_eq_true, if_true, if_false, false_and, and_false]
  rw [show (0 : Int32) = nI 0 from rfl]
  have rl : ∀ {q sm R'} (M' : am_M), RlX M z q sm R' → (q = z + 9 ∨ q = z + 13 ∨ q = z + 17) → (∀ a j, ¬ a = z + 21 → ¬ a = z + 22 → ¬ a = z + 8 → mI M' a j = mI M a j) → RlX M' z q sm R' := fun M' h hq hk => RlX_u h (fun j => hk _ _ (by omega) (by omega) (by omega)) (fun j => hk _ _ (by omega) (by omega) (by omega)) (fun j => hk _ _ (by omega) (by omega) (by omega)) (fun j => hk _ _ (by omega) (by omega) (by omega)) (fun j => hk _ _ (by omega) (by omega) (by omega))
  refine l_x_meas1 d z C R Rd M4 Q L4 hz (by rw [ki _ _ (by omega) (by omega)]; exact hC) hC2 (by rw [ki _ _ (by omega) (by omega)]; exact hR) hR2 (fun M5 g5 hdp hk hkl => ?_) R 0 (by omega) M4 am_x am_x (Or.inl rfl) (Or.inl rfl) (gF_refl _ _ _) (rl M4 hd (by omega) (fun a j q1 q2 q3 => ki a j q1 q2)) (fun p hp => by
    rw [i21 p hp]
    unfold dpU
    rw [if_neg (by omega)]
    rfl) (fun _ _ _ _ => rfl) (fun _ _ => rfl)
  have k5 : ∀ a j, ¬ a = z + 21 → ¬ a = z + 22 → ¬ a = z + 8 → mI M5 a j = mI M a j := fun a j q1 q2 q3 => (hk a j q1 q3).trans (ki a j q1 q2)
  refine hQ M5 (gF_trans G g5) ⟨⟨Rc, rl M5 hc (by omega) k5, fun p hp => rfl⟩, ⟨Rq, rl M5 hq (by omega) k5, hq6, fun p h _ _ => Iff.rfl⟩, fun p hp => ⟨dpF_le C R Rd p, hdp p hp⟩, fun p hp => Or.inl ?_, fun h p hh hp => ?_⟩
  · rw [hk _ _ (by omega) (by omega)]; exact i22 p hp
  · rw [hkl, hkl, l23 _ (by omega), l24 _ (by omega), sb_0]
    exact ⟨fun q => absurd q (by decide), fun q => absurd q (by decide)⟩
