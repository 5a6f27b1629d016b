/-! the model: depths and costs; sea() -/
theorem m_sumOf (d z kd C R0 p dp : Nat) (R : Rls) (M : am_M) (Q : Option Value → am_M → Prop) (hL : Lay M) (hB : MB M z C R0) (hk : kd ≤ 1) (hp : vld C R0 p) (hdp : dp ≤ 1000) (hR : RaM M z kd true R)
    (hQ : ∀ M', gF sWk nT M M' → Q (some (.int (nI (sumR R (p % 16, p / 16, 0, dp)).toNat))) M') : am_E am_P0 (d + 4) 222 [.ref 277, .int (nI kd), .int (nI (cel C p)), .int (nI dp)] M Q := by
  have heok : eOK (p % 16, p / 16, 0, dp) := ⟨by show p % 16 ≤ 1000; omega, by
    have := hB.2.2.2.2.2.2.2
    have := hp.2
    show p / 16 ≤ 1000; omega, by show 0 ≤ 1000; omega, hdp⟩
  rw [eX11_sumOf]
  simp +decide only [qX11_sumOf, lm hL, am_w1_i, am_w1_r, am_w1_x, am_w1_l, am_w1_w, va_rf_s, am_push_n, am_push_s, am_cs_0, am_cs_i, am_cs_l, am_cs_r, m_uI_K, m_uI_N, m_uI_R, m_uI_L, m_uI_I, m_uL_K, m_uL_N, m_uL_R, m_uL_I, m_uL_L, m_uR_K, m_uR_N, m_uR_I, m_uR_L, m_uR_R, true_and, and_true, true_implies, false_implies, not_true_eq_false, not_false_eq_true, if_true, if_false, false_and, and_false]
  rw [show (0 : Int32) = nI 0 from rfl]
  refine m_ruleOf d z kd C R0 p 0 dp true R M _ hL hB (by omega) hp (by omega) hdp hR (fun hn M1 g1 => ?_) (fun k r hr hf M1 g1 mo => ?_)
  · have h0 := hQ M1 g1
    have hs : sumR R (p % 16, p / 16, 0, dp) = 0 := by unfold sumR; rw [hn]
    rw [hs] at h0
    have c1 : lg_cmp 0 0 = 0 := by decide
    have c2 : lg_cmp 0 99 = -1 := by decide
    have c3 : (0 : Int64).toInt32 = 0 := by decide
    rw [show nI (0 : Int).toNat = (0 : Int32) from rfl] at h0
    simp +decide only [qX11_sumOf, c1, c2, c3, show nI 0 = (0 : Int32) from rfl, am_w1_i, am_w1_r, am_w1_x, am_w1_l, am_w1_w, va_rf_s, am_push_n, am_push_s, am_cs_0, am_cs_i, am_cs_l, am_cs_r, m_uI_K, m_uI_N, m_uI_R, m_uI_L, m_uI_I, m_uL_K, m_uL_N, m_uL_R, m_uL_I, m_uL_L, m_uR_K, m_uR_N, m_uR_I, m_uR_L, m_uR_R, true_and, and_true, true_implies, false_implies, not_true_eq_false, not_false_eq_true, if_true, if_false, false_and, and_false]
    exact h0
  · have L1 := gF_LayN g1 hL
    have hkl := (List.getElem?_eq_some_iff.mp hr).1
    have hR1 := RaM_g hR g1 (fun a j q w => by unfold sWk at w; omega)
    have h12 := hR.1
    obtain ⟨s0, s1, s2, b1, b2, b3, b4, b5, b6, b7, b8, bT, b9⟩ := hR1.2.2 k r hr
    obtain ⟨q1, q2, q3⟩ := b9 rfl
    have hz : z ≤ 1 := by have := hB.2.1; omega
    have hb1 : mI M1 277 12 = nI z := by rw [g1.1 _ _ (by unfold sWk; omega)]; exact hB.1
    have hne : ¬ nI (30 * z + 12 * kd + k) = -1 := nI_m1 (by omega)
    simp +decide (disch := omega) only [qX11_sumOf, lm L1, b4, b5, ni_in_t, ni_tn, am_w1_i, am_w1_r, am_w1_x, am_w1_l, am_w1_w, va_rf_s, am_push_n, am_push_s, am_cs_0, am_cs_i, am_cs_l, am_cs_r, m_uI_K, m_uI_N, m_uI_R, m_uI_L, m_uI_I, m_uL_K, m_uL_N, m_uL_R, m_uL_I, m_uL_L, m_uR_K, m_uR_N, m_uR_I, m_uR_L, m_uR_R, true_and, and_true, true_implies, false_implies, not_true_eq_false, not_false_eq_true, if_true, if_false, false_and, and_false]
    rw [br_q hne]
    have hin : am_in (nI (30 * z + 12 * kd + k)) 60 = True := ni_in_t (by omega) (by omega)
    refine m_works (d + 1) z s0 s1 r.1 _ M1 _ L1 hz hb1 b1 (by omega) heok mo q1 q2 (fun M2 g2 => ?_)
    have G2 : gF sWk nT M M2 := gF_trans g1 (gF_up g2 (fun a j q => Or.inl q) (fun _ _ q => q))
    have h0 := hQ M2 G2
    have hs : sumR R (p % 16, p / 16, 0, dp) = max 0 (min 99 (r.1 (p % 16, p / 16, 0, dp))) := by unfold sumR; rw [hf]
    rw [hs] at h0
    have hbd := q3 _ heok
    generalize r.1 (p % 16, p / 16, 0, dp) = y at hbd h0 ⊢
    have c1 : lg_cmp (zL y) 0 = t3 y 0 := lgc_z (b := 0) (sm_6 hbd.1 hbd.2) (by unfold sm_; omega)
    have c2 : lg_cmp (zL y) 99 = t3 y 99 := by
      rw [show (99 : Int64) = zL 99 from rfl]
      exact lgc_z (sm_6 hbd.1 hbd.2) (by unfold sm_; omega)
    simp +decide only [qX11_sumOf, c1, c2, t3_z, t3_n, t3_p, t3_np, t3_nn, am_w1_i, am_w1_r, am_w1_x, am_w1_l, am_w1_w, va_rf_s, am_push_n, am_push_s, am_cs_0, am_cs_i, am_cs_l, am_cs_r, m_uI_K, m_uI_N, m_uI_R, m_uI_L, m_uI_I, m_uL_K, m_uL_N, m_uL_R, m_uL_I, m_uL_L, m_uR_K, m_uR_N, m_uR_I, m_uR_L, m_uR_R, true_and, and_true, true_implies, false_implies, not_true_eq_false, not_false_eq_true, if_true, if_false, false_and, and_false]
    by_cases y0 : 0 ≤ y
    · rw [br_p y0]
      by_cases y9 : y ≤ 99
      · rw [br_p y9, zLI (by omega) (by omega)]
        have e : max 0 (min 99 y) = ((y.toNat : Nat) : Int) := by omega
        have e2 : (max 0 (min 99 y)).toNat = y.toNat := by omega
        rw [e2] at h0
        have e3 : zI y = nI y.toNat := by rw [← zI_n]; congr 1; omega
        rw [e3]
        exact h0
      · rw [br_n y9]
        have e2 : (max 0 (min 99 y)).toNat = 99 := by omega
        rw [e2] at h0
        exact h0
    · rw [br_n y0]
      have e2 : (max 0 (min 99 y)).toNat = 0 := by omega
      rw [e2] at h0
      exact h0
def sLy (a _j : Nat) : Prop := a = 313 ∨ a = 314 ∨ a = 315 ∨ a = 316
/-- depths and costs of the model's sea -/
def DcM (M : am_M) (C R : Nat) (Rd Rc : Rls) : Prop := ∀ p, vld C R p → mI M 315 (cel C p) = nI (dpF C R Rd p) ∧ mI M 316 (cel C p) = nI (csF C R Rd Rc p)
theorem l_m_lays (d z C R : Nat) (Rd Rc : Rls) (M0 : am_M) (Q : Option Value → am_M → Prop) (hL : Lay M0) (hB : MB M0 z C R) (hd : RaM M0 z 0 true Rd) (hc : RaM M0 z 1 true Rc)
    (hQ : ∀ M', gF sLy nT M0 M' → DcM M' C R Rd Rc → Q none M') :
    ∀ (m c : Nat), c + m = C * R → ∀ (M : am_M), gF sLy nT M0 M → (∀ p, vld C R p → cel C p < c → mI M 315 (cel C p) = nI (dpF C R Rd p) ∧ mI M 316 (cel C p) = nI (csF C R Rd Rc p)) → am_P am_P0 (d + 5) (am_look tX11_lays) 2 [.ref 277, .int (nI c)] [] M Q := by
  have hB0 := hB
  obtain ⟨b1, b2, b3, b4, b5, b6, b7, b8⟩ := hB0
  have hcr : C * R ≤ 16 * 16 := Nat.mul_le_mul b6 b8
  have kB : ∀ M, gF sLy nT M0 M → MB M z C R := fun M g => ⟨by rw [g.1 _ _ (by unfold sLy; omega)]; exact b1, b2, by rw [g.1 _ _ (by unfold sLy; omega)]; exact b3, by rw [g.1 _ _ (by unfold sLy; omega)]; exact b4, b5, b6, b7, b8⟩
  intro m
  induction m with
  | zero =>
    intro c hcm M hM hall
    have ec : c = C * R := by omega
    have hLM := gF_LayN hM hL
    have hB1 := kB M hM
    have hce := fun Q => c_m_cells (d + 4) M Q hLM z C R hB1.1 hB1.2.1 hB1.2.2.1 hB1.2.2.2.1
    have hle : nI (C * R) ≤ nI c := (ni_le (by omega) (by omega)).mpr (by omega)
    have h0 := hQ M hM (fun p hp => hall p hp (by have := (cel_lt b6 b8 hp).1; omega))
    rw [hX11_lays_2]
    simp +decide (disch := omega) only [qX11_lays, lm hLM, hce, am_w1_i, am_w1_r, am_w1_x, am_w1_l, am_w1_w, va_rf_s, am_push_n, am_push_s, am_cs_0, am_cs_i, am_cs_l, am_cs_r, m_uI_K, m_uI_N, m_uI_R, m_uI_L, m_uI_I, m_uL_K, m_uL_N, m_uL_R, m_uL_I, m_uL_L, m_uR_K, m_uR_N, m_uR_I, m_uR_L, m_uR_R, true_and, and_true, true_implies, false_implies, not_true_eq_false, not_false_eq_true, if_true, if_false, false_and, and_false]
    rw [br_p hle]
    exact h0
  | succ m ih =>
    intro c hcm M hM hall
    have hLM := gF_LayN hM hL
    have hB1 := kB M hM
    have hce := fun Q => c_m_cells (d + 4) M Q hLM z C R hB1.1 hB1.2.1 hB1.2.2.1 hB1.2.2.2.1
    have hlt : ¬ nI (C * R) ≤ nI c := by rw [ni_le (by omega) (by omega)]; omega
    have hc256 : c < 256 := by omega
    obtain ⟨p, hp, hpe, -, -⟩ := cel_of (C := C) (R := R) b6 (show c < C * R by omega)
    rw [hX11_lays_2]
    simp +decide (disch := omega) only [qX11_lays, lm hLM, hce, am_w1_i, am_w1_r, am_w1_x, am_w1_l, am_w1_w, va_rf_s, am_push_n, am_push_s, am_cs_0, am_cs_i, am_cs_l, am_cs_r, m_uI_K, m_uI_N, m_uI_R, m_uI_L, m_uI_I, m_uL_K, m_uL_N, m_uL_R, m_uL_I, m_uL_L, m_uR_K, m_uR_N, m_uR_I, m_uR_L, m_uR_R, true_and, and_true, true_implies, false_implies, not_true_eq_false, not_false_eq_true, if_true, if_false, false_and, and_false]
    rw [br_n hlt]
    have hd1 := RaM_g hd hM (fun a j q w => by unfold sLy at w; omega)
    rw [← hpe]
    refine m_sumOf d z 0 C R p 0 Rd M _ hLM hB1 (by omega) hp (by omega) hd1 (fun M1 g1 => ?_)
    have G1 : gF sLy nT M0 M1 := gF_trans hM (gF_up g1 (fun a j q => by unfold sWk at q; unfold sLy; omega) (fun _ _ q => q))
    have L1 := gF_LayN G1 hL
    have edp : (sumR Rd (p % 16, p / 16, 0, 0)).toNat = dpF C R Rd p := by unfold dpF; rw [if_pos hp]
    rw [edp]
    have hcl := cel_lt b6 b8 hp
    obtain ⟨A1, hA1⟩ : ∃ A1, A1 = uI M1 315 (cel C p) (nI (dpF C R Rd p)) := ⟨_, rfl⟩
    have w1 : gF (fun a j => a = 315 ∧ j = cel C p) nT M1 A1 := by rw [hA1]; exact gF_i _ ⟨rfl, rfl⟩
    have GA : gF sLy nT M0 A1 := gF_trans G1 (gF_up w1 (fun a j q => by unfold sLy; omega) (fun _ _ q => q))
    have LA := gF_LayN GA hL
    have v1 : mI A1 315 (cel C p) = nI (dpF C R Rd p) := by rw [hA1, m_uI_I, if_pos ⟨rfl, rfl⟩]
    have hBA := kB A1 GA
    have hcA := RaM_g hc GA (fun a j q w => by unfold sLy at w; omega)
    have hdp99 : dpF C R Rd p ≤ 99 := by
      rw [← edp]
      have := sumR_bd Rd (p % 16, p / 16, 0, 0)
      omega
    simp +decide (disch := omega) only [qX11_lays, lm L1, ni_in_t, ni_tn, ← hA1, am_w1_i, am_w1_r, am_w1_x, am_w1_l, am_w1_w, va_rf_s, am_push_n, am_push_s, am_cs_0, am_cs_i, am_cs_l, am_cs_r, m_uI_K, m_uI_N, m_uI_R, m_uI_L, m_uI_I, m_uL_K, m_uL_N, m_uL_R, m_uL_I, m_uL_L, m_uR_K, m_uR_N, m_uR_I, m_uR_L, m_uR_R, true_and, and_true, true_implies, false_implies, not_true_eq_false, not_false_eq_true, if_true, if_false, false_and, and_false]
    simp +decide (disch := omega) only [qX11_lays, lm LA, v1, ni_in_t, ni_tn, am_w1_i, am_w1_r, am_w1_x, am_w1_l, am_w1_w, va_rf_s, am_push_n, am_push_s, am_cs_0, am_cs_i, am_cs_l, am_cs_r, m_uI_K, m_uI_N, m_uI_R, m_uI_L, m_uI_I, m_uL_K, m_uL_N, m_uL_R, m_uL_I, m_uL_L, m_uR_K, m_uR_N, m_uR_I, m_uR_L, m_uR_R, true_and, and_true, true_implies, false_implies, not_true_eq_false, not_false_eq_true, if_true, if_false, false_and, and_false]
    refine m_sumOf d z 1 C R p (dpF C R Rd p) Rc A1 _ LA hBA (by omega) hp (by omega) hcA (fun M2 g2 => ?_)
    have G2 : gF sLy nT M0 M2 := gF_trans GA (gF_up g2 (fun a j q => by unfold sWk at q; unfold sLy; omega) (fun _ _ q => q))
    have L2 := gF_LayN G2 hL
    have ecs : (sumR Rc (p % 16, p / 16, 0, dpF C R Rd p)).toNat = csF C R Rd Rc p := rfl
    rw [ecs]
    have w2 : gF (fun a j => a = 316 ∧ j = cel C p) nT M2 (uI M2 316 (cel C p) (nI (csF C R Rd Rc p))) := gF_i _ ⟨rfl, rfl⟩
    have h0 := ih (c + 1) (by omega) (uI M2 316 (cel C p) (nI (csF C R Rd Rc p))) (gF_trans G2 (gF_up w2 (fun a j q => by unfold sLy; omega) (fun _ _ q => q))) (fun p' hp' hlt' => by
      by_cases ep : p' = p
      · subst ep
        exact ⟨by rw [w2.1 _ _ (by omega), g2.1 _ _ (by unfold sWk; omega)]; exact v1, by rw [m_uI_I, if_pos ⟨rfl, rfl⟩]⟩
      · have hne : ¬ cel C p' = cel C p := fun q => ep (cel_inj hp' hp q)
        obtain ⟨k1, k2⟩ := hall p' hp' (by omega)
        exact ⟨by rw [w2.1 _ _ (by omega), g2.1 _ _ (by unfold sWk; omega), w1.1 _ _ (by omega), g1.1 _ _ (by unfold sWk; omega)]; exact k1, by rw [w2.1 _ _ (by omega), g2.1 _ _ (by unfold sWk; omega), w1.1 _ _ (by omega), g1.1 _ _ (by unfold sWk; omega)]; exact k2⟩)
    rw [← hpe] at h0
    simp +decide (disch := omega) only [qX11_lays, lm L2, ni_in_t, ni_tn, ni_add1, am_w1_i, am_w1_r, am_w1_x, am_w1_l, am_w1_w, va_rf_s, am_push_n, am_push_s, am_cs_0, am_cs_i, am_cs_l, am_cs_r, m_uI_K, m_uI_N, m_uI_R, m_uI_L, m_uI_I, m_uL_K, m_uL_N, m_uL_R, m_uL_I, m_uL_L, m_uR_K, m_uR_N, m_uR_I, m_uR_L, m_uR_R, true_and, and_true, true_implies, false_implies, not_true_eq_false, not_false_eq_true, if_true, if_false, false_and, and_false]
    exact h0
theorem m_lays (d z C R : Nat) (Rd Rc : Rls) (M : am_M) (Q : Option Value → am_M → Prop) (hL : Lay M) (hB : MB M z C R) (hd : RaM M z 0 true Rd) (hc : RaM M z 1 true Rc)
    (hQ : ∀ M', gF sLy nT M M' → DcM M' C R Rd Rc → Q none M') : am_E am_P0 (d + 5) 223 [.ref 277] M Q := by
  have h0 := l_m_lays d z C R Rd Rc M Q hL hB hd hc hQ (C * R) 0 (by omega) M (gF_refl _ _ _) (fun p hp h => by omega)
  rw [eX11_lays]
  simp +decide only [qX11_lays, am_w1_i, am_w1_r, am_w1_x, am_w1_l, am_w1_w, va_rf_s, am_push_n, am_push_s, am_cs_0, am_cs_i, am_cs_l, am_cs_r, m_uI_K, m_uI_N, m_uI_R, m_uI_L, m_uI_I, m_uL_K, m_uL_N, m_uL_R, m_uL_I, m_uL_L, m_uR_K, m_uR_N, m_uR_I, m_uR_L, m_uR_R, true_and, and_true, true_implies, false_implies, not_true_eq_false, not_false_eq_true, if_true, if_false, false_and, and_false]
  exact h0
/-- is a place quiet at an hour -/
theorem m_isQuiet (d z C R p h : Nat) (Rd Rc Rq : Rls) (M : am_M) (Q : Option Value → am_M → Prop) (hL : Lay M) (hB : MB M z C R) (hD : DcM M C R Rd Rc) (hq : RaM M z 2 false Rq) (hp : vld C R p) (hh : h ≤ 1000)
    (hQ : ∀ M', gF sWk nT M M' → Q (some (.int (tI (qtF C R Rd Rq p h)))) M') : am_E am_P0 (d + 4) 224 [.ref 277, .int (nI (cel C p)), .int (nI h)] M Q := by
  have hcl := cel_lt hB.2.2.2.2.2.1 hB.2.2.2.2.2.2.2 hp
  have hdp99 : dpF C R Rd p ≤ 99 := by
    unfold dpF
    rw [if_pos hp]
    have := sumR_bd Rd (p % 16, p / 16, 0, 0)
    omega
  rw [eX11_isQuiet]
  simp +decide (disch := omega) only [qX11_isQuiet, lm hL, (hD p hp).1, ni_in_t, ni_tn, am_w1_i, am_w1_r, am_w1_x, am_w1_l, am_w1_w, va_rf_s, am_push_n, am_push_s, am_cs_0, am_cs_i, am_cs_l, am_cs_r, m_uI_K, m_uI_N, m_uI_R, m_uI_L, m_uI_I, m_uL_K, m_uL_N, m_uL_R, m_uL_I, m_uL_L, m_uR_K, m_uR_N, m_uR_I, m_uR_L, m_uR_R, true_and, and_true, true_implies, false_implies, not_true_eq_false, not_false_eq_true, if_true, if_false, false_and, and_false]
  refine m_ruleOf d z 2 C R p h (dpF C R Rd p) false Rq M _ hL hB (by omega) hp hh (by omega) hq (fun hn M1 g1 => ?_) (fun k r hr hf M1 g1 mo => ?_)
  · have h0 := hQ M1 g1
    rw [tI_f (fun w => w hn)] at h0
    simp +decide only [qX11_isQuiet, am_w1_i, am_w1_r, am_w1_x, am_w1_l, am_w1_w, va_rf_s, am_push_n, am_push_s, am_cs_0, am_cs_i, am_cs_l, am_cs_r, m_uI_K, m_uI_N, m_uI_R, m_uI_L, m_uI_I, m_uL_K, m_uL_N, m_uL_R, m_uL_I, m_uL_L, m_uR_K, m_uR_N, m_uR_I, m_uR_L, m_uR_R, true_and, and_true, true_implies, false_implies, not_true_eq_false, not_false_eq_true, if_true, if_false, false_and, and_false]
    exact h0
  · have h0 := hQ M1 g1
    have hkl := (List.getElem?_eq_some_iff.mp hr).1
    have h12 := hq.1
    have hz := hB.2.1
    have hqt : qtF C R Rd Rq p h := by
      unfold qtF
      rw [hf]
      exact fun w => by cases w
    rw [tI_t hqt] at h0
    simp +decide only [qX11_isQuiet, am_w1_i, am_w1_r, am_w1_x, am_w1_l, am_w1_w, va_rf_s, am_push_n, am_push_s, am_cs_0, am_cs_i, am_cs_l, am_cs_r, m_uI_K, m_uI_N, m_uI_R, m_uI_L, m_uI_I, m_uL_K, m_uL_N, m_uL_R, m_uL_I, m_uL_L, m_uR_K, m_uR_N, m_uR_I, m_uR_L, m_uR_R, true_and, and_true, true_implies, false_implies, not_true_eq_false, not_false_eq_true, if_true, if_false, false_and, and_false]
    rw [br_n (nI_m1 (by omega))]
    exact h0
