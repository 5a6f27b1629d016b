/-! on: the class -/
def sFa (a j : Nat) : Prop := (173 ≤ a ∧ a < 277 ∧ (a - 173) % 13 = 0 ∧ (j = 4 ∨ j = 5 ∨ j = 6)) ∨ (a = 0 ∧ j = 13)
theorem l_x_on36 (d z n : Nat) (x1 : Int32) (M0 : am_M) (Q : Option Value → am_M → Prop) (hz : z = 2 ∨ z = 83) (hL0 : Lay M0) (hr : mR M0 0 2 = some z) (hn : mI M0 z 3 = nI n) (n8 : n ≤ 8)
    (hQ : ∀ M', gF sFa nT M0 M' → (∀ t, t < n → mI M' (173 + 13 * t) 4 = 0 ∧ mI M' (173 + 13 * t) 5 = 0 ∧ mI M' (173 + 13 * t) 6 = 0) → (0 < n → mI M' 0 13 = 0) → (n = 0 → M' = M0) → Q (some (.int 1)) M') :
    ∀ (m s : Nat), s + m = n → ∀ (M : am_M), gF sFa nT M0 M → (∀ t, t < s → mI M (173 + 13 * t) 4 = 0 ∧ mI M (173 + 13 * t) 5 = 0) → (0 < s → mI M 0 13 = 0 ∧ ∀ t, t < n → mI M (173 + 13 * t) 6 = 0) → (s = 0 → M = M0) → am_P am_P0 (d + 2) (am_look tX10_on) 36 [.ref 0, .int x1, .int (nI s)] [] M Q := by
  intro m
  induction m with
  | zero =>
    intro s hs M g h4 h6 h0
    have hL := gF_LayN g hL0
    have r2 : mR M 0 2 = some z := by rw [g.2.2.1 _ _ (fun w => w)]; exact hr
    have c3 : mI M z 3 = nI n := by rw [g.1 _ _ (by unfold sFa; omega)]; exact hn
    have e : s = n := by omega
    subst e
    have hle : nI s ≤ nI s := (ni_le (by omega) (by omega)).mpr (Nat.le_refl _)
    have h9 := hQ M g (fun t ht => ⟨(h4 t ht).1, (h4 t ht).2, (h6 (by omega)).2 t ht⟩) (fun q => (h6 q).1) h0
    rw [hX10_on_36]
    simp +decide (disch := omega) only [qX10_on, lx hL, lz hL hz, r2, c3, am_w1_i, am_w1_r, am_w1_x, am_w1_l, am_w1_w, va_rf_s, am_push_n, am_push_s, am_cs_0, am_cs_i, am_cs_l, am_cs_r, m_uI_K, m_uI_N, m_uI_R, m_uI_L, m_uI_I, m_uL_K, m_uL_N, m_uL_R, m_uL_I, m_uL_L, m_uR_K, m_uR_N, m_uR_I, m_uR_L, m_uR_R, true_and, and_true, true_implies, false_implies, not_true_eq_false, not_false_eq_true, if_true, if_false, false_and, and_false]
    rw [br_p hle]
    exact h9
  | succ m ih =>
    intro s hs M g h4 h6 h0
    have hL := gF_LayN g hL0
    have r2 : mR M 0 2 = some z := by rw [g.2.2.1 _ _ (fun w => w)]; exact hr
    have c3 : mI M z 3 = nI n := by rw [g.1 _ _ (by unfold sFa; omega)]; exact hn
    have hlt : ¬ nI n ≤ nI s := by rw [ni_le (by omega) (by omega)]; omega
    rw [hX10_on_36]
    simp +decide (disch := omega) only [qX10_on, lx hL, lz hL hz, r2, c3, am_w1_i, am_w1_r, am_w1_x, am_w1_l, am_w1_w, va_rf_s, am_push_n, am_push_s, am_cs_0, am_cs_i, am_cs_l, am_cs_r, m_uI_K, m_uI_N, m_uI_R, m_uI_L, m_uI_I, m_uL_K, m_uL_N, m_uL_R, m_uL_I, m_uL_L, m_uR_K, m_uR_N, m_uR_I, m_uR_L, m_uR_R, true_and, and_true, true_implies, false_implies, not_true_eq_false, not_false_eq_true, if_true, if_false, false_and, and_false]
    rw [br_n hlt]
    refine c_x_forget d s n z M _ hL hz (by omega) r2 c3 n8 (fun M1 g1 k4 k5 k6 k13 => ?_)
    have h9 := ih (s + 1) (by omega) M1 (gF_trans g (gF_up g1 (fun a j q => by unfold sFg at q; unfold sFa; omega) (fun _ _ q => q))) (fun t ht => by
      by_cases e : t = s
      · rw [e]; exact ⟨k4, k5⟩
      · rw [g1.1 _ _ (by unfold sFg; omega), g1.1 _ _ (by unfold sFg; omega)]; exact h4 t (by omega)) (fun _ => ⟨k13, k6⟩) (fun q => by omega)
    simp +decide (disch := omega) only [qX10_on, ni_add1, am_w1_i, am_w1_r, am_w1_x, am_w1_l, am_w1_w, va_rf_s, am_push_n, am_push_s, am_cs_0, am_cs_i, am_cs_l, am_cs_r, m_uI_K, m_uI_N, m_uI_R, m_uI_L, m_uI_I, m_uL_K, m_uL_N, m_uL_R, m_uL_I, m_uL_L, m_uR_K, m_uR_N, m_uR_I, m_uR_L, m_uR_R, true_and, and_true, true_implies, false_implies, not_true_eq_false, not_false_eq_true, if_true, if_false, false_and, and_false]
    exact h9
theorem x_on {M : am_M} {z n : Nat} {D : Dat} {T : Nat → Nat} (hD : dOK D) (hX : XR M z D) (hT : TpT T M) (h1 : mI M 0 1 = nI n) (hn : n ≤ 1800) (d : Nat) (Q : Option Value → am_M → Prop)
    (hY : imOK (dN D) (dC D * dR D) T n → ∀ M', gF (fun a j => sCh z a j ∨ (a = 0 ∧ j = 1)) nT M M' → mI M' 0 1 = 0 → XR M' z (datOn D T) → Q (some (.int 1)) M') (hN : ¬ imOK (dN D) (dC D * dR D) T n → Q (some (.int 0)) (rfX (uI M 0 1 0) 4)) : am_E am_P0 (d + 2) 146 [.ref 0] M Q := by
  have hz := hX.1.2.2.1
  have hL := hX.1.1
  have n8 := dN_8 hD
  obtain ⟨A, hA⟩ : ∃ A, A = uI M 0 1 0 := ⟨_, rfl⟩
  have gA : gF (fun a j => a = 0 ∧ j = 1) nT M A := by rw [hA]; exact gF_i _ ⟨rfl, rfl⟩
  have XA := XR_t hD hX gA (fun a j q => by omega)
  have LA := XA.1.1
  have rA := XA.1.2.2.2.1
  have TA : TpT T A := fun j hj => ⟨(hT j hj).1, by rw [gA.1 _ _ (by omega)]; exact (hT j hj).2⟩
  have hin : (4 : Int32).toInt.toNat = 4 := rfl
  rw [← hA] at hN
  rw [eX10_on]
  simp +decide (disch := omega) only [qX10_on, lx hL, h1, am_w1_i, am_w1_r, am_w1_x, am_w1_l, am_w1_w, va_rf_s, am_push_n, am_push_s, am_cs_0, am_cs_i, am_cs_l, am_cs_r, m_uI_K, m_uI_N, m_uI_R, m_uI_L, m_uI_I, m_uL_K, m_uL_N, m_uL_R, m_uL_I, m_uL_L, m_uR_K, m_uR_N, m_uR_I, m_uR_L, m_uR_R, true_and, and_true, true_implies, false_implies, not_true_eq_false, not_false_eq_true, if_true, if_false, false_and, and_false, ← hA, lx LA]
  refine c_x_isImage d z n D T A _ hD XA TA hn (fun hk => ?_) (fun hk => ?_)
  · simp +decide (disch := omega) only [qX10_on, lx LA, am_w1_i, am_w1_r, am_w1_x, am_w1_l, am_w1_w, va_rf_s, am_push_n, am_push_s, am_cs_0, am_cs_i, am_cs_l, am_cs_r, m_uI_K, m_uI_N, m_uI_R, m_uI_L, m_uI_I, m_uL_K, m_uL_N, m_uL_R, m_uL_I, m_uL_L, m_uR_K, m_uR_N, m_uR_I, m_uR_L, m_uR_R, true_and, and_true, true_implies, false_implies, not_true_eq_false, not_false_eq_true, if_true, if_false, false_and, and_false]
    have RA : TiR A z D T := ⟨LA, rA, (x_n XA).2.1, (x_n XA).2.2.1, (x_n XA).1, TA⟩
    refine c_x_takeImage d z n D T A _ hD hz RA hk (fun M2 g2 y2 s2 => ?_)
    have R2 := TiR_g hz RA g2
    simp +decide (disch := omega) only [qX10_on, am_w1_i, am_w1_r, am_w1_x, am_w1_l, am_w1_w, va_rf_s, am_push_n, am_push_s, am_cs_0, am_cs_i, am_cs_l, am_cs_r, m_uI_K, m_uI_N, m_uI_R, m_uI_L, m_uI_I, m_uL_K, m_uL_N, m_uL_R, m_uL_I, m_uL_L, m_uR_K, m_uR_N, m_uR_I, m_uR_L, m_uR_R, true_and, and_true, true_implies, false_implies, not_true_eq_false, not_false_eq_true, if_true, if_false, false_and, and_false]
    refine l_x_on36 d z (dN D) (nI n) M2 Q hz R2.1 R2.2.1 R2.2.2.2.2.1 n8 (fun M3 g3 k3 k13 k0 => ?_) (dN D) 0 (by omega) M2 (gF_refl _ _ _) (fun t ht => by omega) (fun q => by omega) (fun _ => rfl)
    have g2c : gF (sCh z) nT A M2 := gF_up g2 (fun a j q => by
      rcases q with q | q
      · exact Or.inl q
      · exact Or.inr (Or.inl q)) (fun _ _ q => q)
    have g3c : gF (sCh z) nT M2 M3 := gF_up g3 (fun a j q => by
      rcases q with q | q
      · exact Or.inr (Or.inr (Or.inl ⟨(a - 173) / 13, by omega, by omega, q.2.2.2⟩))
      · exact Or.inr (Or.inr (Or.inr q))) (fun _ _ q => q)
    have gc := gF_trans g2c g3c
    have hrow := hk.2.2.2.1
    have e01 : mI M3 0 1 = 0 := by rw [gc.1 _ _ (fun w => by have := (sCh_no hz w).2.2.2.1; omega), hA, m_uI_I, if_pos ⟨rfl, rfl⟩]
    refine hY hk M3 (gF_trans (gF_up gA (fun a j q => Or.inr q) (fun _ _ q => q)) (gF_up gc (fun a j q => Or.inl q) (fun _ _ q => q))) e01 (XR_D hD XA gc (SgX_g s2 g3 (fun a j q1 q2 w => by unfold sFa at w; omega)) (fun s hs => ?_) (fun s hs => Or.inl ⟨(k3 s hs).1, (k3 s hs).2.1⟩) (fun s hs => Or.inl (k3 s hs).2.2) ?_)
    · rw [dY_on hrow]
      exact SyX_gF (y2 s hs) g3 (fun a j q1 q2 w => by unfold sFa at w; omega)
    · by_cases d0 : dN D = 0
      · have e3 := k0 d0
        have st0 : ∀ D' h p, dN D' = 0 → stN D' h p = 0 := fun D' h p q => by unfold stN; rw [q]; rfl
        have kk : ∀ j, 13 ≤ j → mI M3 0 j = mI A 0 j := fun j hj => by rw [e3]; exact g2.1 _ _ (fun w => by have := sTi_no w; omega)
        rcases XA.2.2.2.2 with q | ⟨q1, q | ⟨h', p', q, -⟩⟩
        · exact Or.inl (by rw [kk 13 (by omega)]; exact q)
        · exact Or.inr ⟨by rw [kk 13 (by omega)]; exact q1, Or.inl ⟨by rw [kk 16 (by omega)]; exact q.1, fun h p _ _ => st0 _ h p d0⟩⟩
        · have := q.2.2.1
          rw [st0 D h' p' d0] at this
          omega
      · exact Or.inl (k13 (by omega))
  · have h0 := hN hk
    simp +decide (disch := omega) only [qX10_on, lx LA, hin, ni_in_t, ni_tn, am_w1_i, am_w1_r, am_w1_x, am_w1_l, am_w1_w, va_rf_s, am_push_n, am_push_s, am_cs_0, am_cs_i, am_cs_l, am_cs_r, m_uI_K, m_uI_N, m_uI_R, m_uI_L, m_uI_I, m_uL_K, m_uL_N, m_uL_R, m_uL_I, m_uL_L, m_uR_K, m_uR_N, m_uR_I, m_uR_L, m_uR_R, true_and, and_true, true_implies, false_implies, not_true_eq_false, not_false_eq_true, if_true, if_false, false_and, and_false]
    exact h0
