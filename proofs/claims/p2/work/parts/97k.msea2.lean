/-! the model: sea() -/
/-- what the model's sea() changes -/
def sSo (z a j : Nat) : Prop := sSm z a j ∨ (a = 277 ∧ (j = 1 ∨ j = 2 ∨ j = 10 ∨ j = 11 ∨ j = 12 ∨ j = 41)) ∨ (a = 312 ∧ j = 1) ∨ (313 ≤ a ∧ a ≤ 316)
theorem l_m_sea40 (d z : Nat) (M0 : am_M) (Q : Option Value → am_M → Prop) (hL : Lay M0) (hz : z ≤ 1) (h41 : mI M0 277 41 = nI z)
    (hN : ∀ M', gF (fun a j => a = 281 ∧ 3 * z ≤ j ∧ j < 3 * z + 3) nT M0 M' → (∀ j, j < 3 → mI M' 281 (3 * z + j) = 0) → am_P am_P0 d (am_look tX11_sea) 67 [.ref 277, .int 0] [] M' Q) :
    ∀ (m k : Nat), k + m = 3 → ∀ (M : am_M), gF (fun a j => a = 281 ∧ 3 * z ≤ j ∧ j < 3 * z + 3) nT M0 M → (∀ j, j < k → mI M 281 (3 * z + j) = 0) → am_P am_P0 d (am_look tX11_sea) 40 [.ref 277, .int (nI k)] [] M Q := by
  intro m
  induction m with
  | zero =>
    intro k hk M hM hall
    have ek : k = 3 := by omega
    subst ek
    rw [hX11_sea_40]
    have h0 := hN M hM hall
    simp +decide only [qX11_sea_0, qX11_sea_1, qX11_sea_2, qX11_sea_3, am_w1_i, am_w1_r, am_w1_x, am_w1_l, am_w1_w, va_rf_s, am_push_n, am_push_s, am_cs_0, am_cs_i, am_cs_l, am_cs_r, m_uI_K, m_uI_N, m_uI_R, m_uI_L, m_uI_I, m_uL_K, m_uL_N, m_uL_R, m_uL_I, m_uL_L, m_uR_K, m_uR_N, m_uR_I, m_uR_L, m_uR_R, true_and, and_true, true_implies, false_implies, not_true_eq_false, not_false_eq_true, if_true, if_false, false_and, and_false]
    exact h0
  | succ m ih =>
    intro k hk M hM hall
    have hLM := gF_LayN hM hL
    have h1 : mI M 277 41 = nI z := by rw [hM.1 _ _ (by omega)]; exact h41
    have hlt : ¬ (3 : Int32) ≤ nI k := by rw [show (3 : Int32) = nI 3 from rfl, ni_le (by omega) (by omega)]; omega
    have e : (3 : Int32) * nI z + nI k = nI (3 * z + k) := by rw [show (3 : Int32) = nI 3 from rfl, ni_mul, ni_add]
    have w1 : gF (fun a j => a = 281 ∧ 3 * z ≤ j ∧ j < 3 * z + 3) nT M (uI M 281 (3 * z + k) 0) := gF_i _ ⟨rfl, by omega, by omega⟩
    have h0 := ih (k + 1) (by omega) (uI M 281 (3 * z + k) 0) (gF_trans hM w1) (fun j hj => by
      rw [m_uI_I]
      by_cases e : j = k
      · subst e; rw [if_pos ⟨rfl, rfl⟩]
      · rw [if_neg (by omega)]; exact hall j (by omega))
    rw [hX11_sea_40]
    simp +decide (disch := omega) only [qX11_sea_0, qX11_sea_1, qX11_sea_2, qX11_sea_3, lm hLM, h1, e, ni_in_t, ni_tn, ni_add1, am_w1_i, am_w1_r, am_w1_x, am_w1_l, am_w1_w, va_rf_s, am_push_n, am_push_s, am_cs_0, am_cs_i, am_cs_l, am_cs_r, m_uI_K, m_uI_N, m_uI_R, m_uI_L, m_uI_I, m_uL_K, m_uL_N, m_uL_R, m_uL_I, m_uL_L, m_uR_K, m_uR_N, m_uR_I, m_uR_L, m_uR_R, true_and, and_true, true_implies, false_implies, not_true_eq_false, not_false_eq_true, if_true, if_false, false_and, and_false]
    rw [br_n hlt]
    exact h0
theorem l_m_sea67 (d z : Nat) (M0 : am_M) (Q : Option Value → am_M → Prop) (hL : Lay M0) (hz : z ≤ 1) (h41 : mI M0 277 41 = nI z)
    (hN : ∀ M', gF (fun a j => a = 292 ∧ 384 * z ≤ j ∧ j < 384 * z + 384) nT M0 M' → (∀ j, j < 384 → mI M' 292 (384 * z + j) = -1) → am_P am_P0 d (am_look tX11_sea) 96 [.ref 277, .int 384] [] M' Q) :
    ∀ (m k : Nat), k + m = 384 → ∀ (M : am_M), gF (fun a j => a = 292 ∧ 384 * z ≤ j ∧ j < 384 * z + 384) nT M0 M → (∀ j, j < k → mI M 292 (384 * z + j) = -1) → am_P am_P0 d (am_look tX11_sea) 67 [.ref 277, .int (nI k)] [] M Q := by
  intro m
  induction m with
  | zero =>
    intro k hk M hM hall
    have ek : k = 384 := by omega
    subst ek
    rw [hX11_sea_67]
    have h0 := hN M hM hall
    simp +decide only [qX11_sea_0, qX11_sea_1, qX11_sea_2, qX11_sea_3, show nI 384 = (384 : Int32) from rfl, am_w1_i, am_w1_r, am_w1_x, am_w1_l, am_w1_w, va_rf_s, am_push_n, am_push_s, am_cs_0, am_cs_i, am_cs_l, am_cs_r, m_uI_K, m_uI_N, m_uI_R, m_uI_L, m_uI_I, m_uL_K, m_uL_N, m_uL_R, m_uL_I, m_uL_L, m_uR_K, m_uR_N, m_uR_I, m_uR_L, m_uR_R, true_and, and_true, true_implies, false_implies, not_true_eq_false, not_false_eq_true, if_true, if_false, false_and, and_false] at h0 ⊢
    exact h0
  | succ m ih =>
    intro k hk M hM hall
    have hLM := gF_LayN hM hL
    have h1 : mI M 277 41 = nI z := by rw [hM.1 _ _ (by omega)]; exact h41
    have hlt : ¬ (384 : Int32) ≤ nI k := by rw [show (384 : Int32) = nI 384 from rfl, ni_le (by omega) (by omega)]; omega
    have e : (384 : Int32) * nI z + nI k = nI (384 * z + k) := by rw [show (384 : Int32) = nI 384 from rfl, ni_mul, ni_add]
    have w1 : gF (fun a j => a = 292 ∧ 384 * z ≤ j ∧ j < 384 * z + 384) nT M (uI M 292 (384 * z + k) (-1)) := gF_i _ ⟨rfl, by omega, by omega⟩
    have h0 := ih (k + 1) (by omega) (uI M 292 (384 * z + k) (-1)) (gF_trans hM w1) (fun j hj => by
      rw [m_uI_I]
      by_cases e : j = k
      · subst e; rw [if_pos ⟨rfl, rfl⟩]
      · rw [if_neg (by omega)]; exact hall j (by omega))
    rw [hX11_sea_67]
    simp +decide (disch := omega) only [qX11_sea_0, qX11_sea_1, qX11_sea_2, qX11_sea_3, lm hLM, h1, e, ni_in_t, ni_tn, ni_add1, am_w1_i, am_w1_r, am_w1_x, am_w1_l, am_w1_w, va_rf_s, am_push_n, am_push_s, am_cs_0, am_cs_i, am_cs_l, am_cs_r, m_uI_K, m_uI_N, m_uI_R, m_uI_L, m_uI_I, m_uL_K, m_uL_N, m_uL_R, m_uL_I, m_uL_L, m_uR_K, m_uR_N, m_uR_I, m_uR_L, m_uR_R, true_and, and_true, true_implies, false_implies, not_true_eq_false, not_false_eq_true, if_true, if_false, false_and, and_false]
    rw [br_n hlt]
    exact h0
/-- what the model's bank b tells -/
def MdM (M : am_M) (b : Nat) (D : Dat) : Prop := (mI M 277 12 = nI b ∧ b < 2) ∧ (mI M 279 b = nI (dC D) ∧ mI M 280 b = nI (dR D)) ∧ mI M 303 b = nI (dLk D) ∧ ShpM M b (dSh D) ∧ SysM M b D ∧ BkM M b (dC D) (dBk D) ∧ SgM M b (dC D) (dSg D) ∧ (RaM M b 0 true (dRd D) ∧ RaM M b 1 true (dRc D) ∧ RaM M b 2 false (dRq D)) ∧ DcM M (dC D) (dR D) (dRd D) (dRc D)
section
variable {T : Nat → Nat} {n b : Nat}
/-- behind the reading -/
theorem l_m_seaF (d : Nat) (M0 M : am_M) (x : Int32) (e : Nat × Nat) (Q : Option Value → am_M → Prop) (hL0 : Lay M0) (g : gF (sSo (1 - b)) nT M0 M) (h1 : mI M 277 1 = 0) (hF : FtM M T n e.1 e.2) (h312 : mI M 312 1 = mI M0 312 1)
    (hQ : ∀ M', gF (sSo (1 - b)) nT M0 M' → mI M' 277 1 = 0 → mI M' 277 10 = nI e.1 → mI M' 277 11 = nI e.2 → mI M' 312 1 = mI M0 312 1 + 1 → mI M' 277 12 = mI M 277 12 → (∀ a j, 313 ≤ a → mI M' a j = mI M a j) → Q (some (.int (-1))) M') : am_P am_P0 (d + 1) (am_look tX11_sea) 186 [.ref 277, .int x] [] M Q := by
  have hL := gF_LayN g hL0
  have hp := FtM_pos hF
  obtain ⟨A, hA⟩ : ∃ A, A = uI (uI M 277 10 (mI M 277 8)) 277 11 (mI M 277 9) := ⟨_, rfl⟩
  have w1 : gF (sSo (1 - b)) nT M A := by rw [hA]; exact gF_trans (gF_i _ (Or.inr (Or.inl ⟨rfl, by omega⟩))) (gF_i _ (Or.inr (Or.inl ⟨rfl, by omega⟩)))
  have LA := gF_LayN w1 hL
  have a8 : mI A 277 8 = mI M 277 8 := by rw [hA, m_uI_I, if_neg (by omega), m_uI_I, if_neg (by omega)]
  have a10 : mI A 277 10 = mI M 277 8 := by rw [hA, m_uI_I, if_neg (by omega), m_uI_I, if_pos ⟨rfl, rfl⟩]
  have a11 : mI A 277 11 = mI M 277 9 := by rw [hA, m_uI_I, if_pos ⟨rfl, rfl⟩]
  have a1 : mI A 277 1 = mI M 277 1 := by rw [hA, m_uI_I, if_neg (by omega), m_uI_I, if_neg (by omega)]
  have a12 : mI A 277 12 = mI M 277 12 := by rw [hA, m_uI_I, if_neg (by omega), m_uI_I, if_neg (by omega)]
  have a312 : mI A 312 1 = mI M 312 1 := by rw [hA, m_uI_I, if_neg (by omega), m_uI_I, if_neg (by omega)]
  have hr := fun Q => c_m_refuses d 1 (by omega) A Q LA
  rw [← ni_1] at hr
  have hpA : ¬ mI A 277 8 ≤ 0 := by rw [a8]; exact hp.2.2
  have h0 := hQ (uI A 312 1 (mI A 312 1 + 1)) (gF_trans (gF_trans g w1) (gF_i _ (Or.inr (Or.inr (Or.inl ⟨rfl, rfl⟩))))) (by rw [m_uI_I, if_neg (by omega), a1]; exact h1) (by rw [m_uI_I, if_neg (by omega), a10]; exact hF.2.1) (by rw [m_uI_I, if_neg (by omega), a11]; exact hF.2.2.2) (by rw [m_uI_I, if_pos ⟨rfl, rfl⟩, a312, h312]) (by rw [m_uI_I, if_neg (by omega), a12]) (fun a j ha => by rw [m_uI_I, if_neg (by omega), hA, m_uI_I, if_neg (by omega), m_uI_I, if_neg (by omega)])
  have e9 : mI (uI M 277 10 (mI M 277 8)) 277 9 = mI M 277 9 := by rw [m_uI_I, if_neg (by omega)]
  simp +decide only [qX11_sea_0, qX11_sea_1, qX11_sea_2, qX11_sea_3, lm hL, am_w1_i, am_w1_r, am_w1_x, am_w1_l, am_w1_w, va_rf_s, am_push_n, am_push_s, am_cs_0, am_cs_i, am_cs_l, am_cs_r, m_uI_K, m_uI_N, m_uI_R, m_uI_L, m_uI_I, m_uL_K, m_uL_N, m_uL_R, m_uL_I, m_uL_L, m_uR_K, m_uR_N, m_uR_I, m_uR_L, m_uR_R, true_and, and_true, true_implies, false_implies, not_true_eq_false, not_false_eq_true, if_true, if_false, false_and, and_false, ← hA]
  simp +decide only [qX11_sea_0, qX11_sea_1, qX11_sea_2, qX11_sea_3, lm LA, hr, am_w1_i, am_w1_r, am_w1_x, am_w1_l, am_w1_w, va_rf_s, am_push_n, am_push_s, am_cs_0, am_cs_i, am_cs_l, am_cs_r, m_uI_K, m_uI_N, m_uI_R, m_uI_L, m_uI_I, m_uL_K, m_uL_N, m_uL_R, m_uL_I, m_uL_L, m_uR_K, m_uR_N, m_uR_I, m_uR_L, m_uR_R, true_and, and_true, true_implies, false_implies, not_true_eq_false, not_false_eq_true, if_true, if_false, false_and, and_false]
  rw [br_n hpA]
  exact h0
end
section
variable {T : Nat → Nat} {n b : Nat}
def sE3 (a j : Nat) : Prop := (a = 277 ∧ (j = 10 ∨ j = 11 ∨ j = 12)) ∨ sLy a j
theorem l_m_seaN (d c : Nat) (t : Tok) (D : Dat) (M0 M : am_M) (x : Int32) (Q : Option Value → am_M → Prop) (hL0 : Lay M0) (hb2 : b < 2) (g : gF (sSo (1 - b)) nT M0 M) (h1 : mI M 277 1 = 0) (hG : GdM T n (1 - b) M D c t) (hC : 1 ≤ dC D) (hR : 1 ≤ dR D)
    (hQ : ∀ M', gF (sSo (1 - b)) nT M0 M' → mI M' 277 1 = 0 → mI M' 277 10 = 0 → mI M' 277 11 = -1 → mI M' 312 1 = mI M 312 1 → MdM M' (1 - b) D → DOK D → Q (some (.int x)) M') : am_P am_P0 (d + 6) (am_look tX11_sea) 186 [.ref 277, .int x] [] M Q := by
  obtain ⟨hL, hRd, hP, hD, hc⟩ := hG
  obtain ⟨hCR, p1, p2, p3, p4, p5, ⟨r1, r2, r3⟩, hFm⟩ := id hP
  have h41 := hFm.2.2.1
  have hc18 := hFm.2.1
  obtain ⟨A, hA⟩ : ∃ A, A = uI (uI (uI M 277 10 0) 277 11 (-1)) 277 12 (nI (1 - b)) := ⟨_, rfl⟩
  have w1 : gF sE3 nT M A := by rw [hA]; exact gF_trans (gF_trans (gF_i _ (Or.inl ⟨rfl, by omega⟩)) (gF_i _ (Or.inl ⟨rfl, by omega⟩))) (gF_i _ (Or.inl ⟨rfl, by omega⟩))
  have LA := gF_LayN w1 hL
  have kS : ∀ a j, sE3 a j → ¬ (279 ≤ a ∧ a ≤ 303) ∧ ¬ ((a = 304 ∨ a = 305) ∧ 1800 * (1 - b) ≤ j ∧ j < 1800 * (1 - b) + c) := fun a j q => by unfold sE3 sLy at q; omega
  have kF : ∀ M', gF sE3 nT M M' → FmM M' (1 - b) c := fun M' q => ⟨by rw [q.1 _ _ (by unfold sE3 sLy; omega)]; exact hFm.1, hFm.2.1, by rw [q.1 _ _ (by unfold sE3 sLy; omega)]; exact h41, hFm.2.2.2⟩
  have a12 : mI A 277 12 = nI (1 - b) := by rw [hA, m_uI_I, if_pos ⟨rfl, rfl⟩]
  have hPA := PdM_g hP hD w1 kS (kF A w1) (Nat.le_refl c)
  obtain ⟨hCRA, q1, q2, q3, q4, q5, ⟨s1, s2, s3⟩, -⟩ := id hPA
  have hB : MB A (1 - b) (dC D) (dR D) := ⟨a12, by omega, hCRA.1, hCRA.2, hC, hD.1.1, hR, hD.1.2⟩
  obtain ⟨-, -, -, -, -, -, -, -, o1, o2, o3⟩ := id hD
  have e1 : nI (1 - b) = mI M 277 41 := h41.symm
  have h8 : mI M 277 8 = 0 := hRd.2.1
  have h9 : mI M 277 9 = -1 := hRd.2.2.1
  simp +decide only [qX11_sea_0, qX11_sea_1, qX11_sea_2, qX11_sea_3, lm hL, h8, h9, h41, am_w1_i, am_w1_r, am_w1_x, am_w1_l, am_w1_w, va_rf_s, am_push_n, am_push_s, am_cs_0, am_cs_i, am_cs_l, am_cs_r, m_uI_K, m_uI_N, m_uI_R, m_uI_L, m_uI_I, m_uL_K, m_uL_N, m_uL_R, m_uL_I, m_uL_L, m_uR_K, m_uR_N, m_uR_I, m_uR_L, m_uR_R, true_and, and_true, true_implies, false_implies, not_true_eq_false, not_false_eq_true, if_true, if_false, false_and, and_false, ← hA]
  refine ⟨(lm LA).1, ?_⟩
  refine m_lays d (1 - b) (dC D) (dR D) (dRd D) (dRc D) A _ LA hB (RlM_a s1 hc18 o1 (by omega) (by omega)) (RlM_a s2 hc18 o2 (by omega) (by omega)) (fun M2 g2 hDc => ?_)
  have G2 : gF sE3 nT M M2 := gF_trans w1 (gF_up g2 (fun a j q => Or.inr q) (fun _ _ q => q))
  have L2 := gF_LayN G2 hL
  have hP2 := PdM_g hP hD G2 kS (kF M2 G2) (Nat.le_refl c)
  obtain ⟨hCR2, u1, u2, u3, u4, u5, ⟨v1, v2, v3⟩, -⟩ := id hP2
  have rd : ∀ j, j ≤ 12 → mI M2 277 j = mI A 277 j := fun j hj => by rw [g2.1 _ _ (by unfold sLy; omega)]
  have h0 := hQ M2 (gF_trans g (gF_up G2 (fun a j q => by unfold sE3 sLy at q; unfold sSo; omega) (fun _ _ q => q))) (by rw [rd 1 (by omega), hA, m_uI_I, if_neg (by omega), m_uI_I, if_neg (by omega), m_uI_I, if_neg (by omega)]; exact h1) (by rw [rd 10 (by omega), hA, m_uI_I, if_neg (by omega), m_uI_I, if_neg (by omega), m_uI_I, if_pos ⟨rfl, rfl⟩]) (by rw [rd 11 (by omega), hA, m_uI_I, if_neg (by omega), m_uI_I, if_pos ⟨rfl, rfl⟩]) (by rw [G2.1 _ _ (by unfold sE3 sLy; omega)])
    ⟨⟨by rw [rd 12 (by omega)]; exact a12, by omega⟩, hCR2, u1, u2, u3, u4, u5, ⟨RlM_a v1 hc18 o1 (by omega) (by omega), RlM_a v2 hc18 o2 (by omega) (by omega), RlM_a v3 hc18 o3 (by omega) (by omega)⟩, hDc⟩ hD
  simp +decide only [qX11_sea_0, qX11_sea_1, qX11_sea_2, qX11_sea_3, am_w1_i, am_w1_r, am_w1_x, am_w1_l, am_w1_w, va_rf_s, am_push_n, am_push_s, am_cs_0, am_cs_i, am_cs_l, am_cs_r, m_uI_K, m_uI_N, m_uI_R, m_uI_L, m_uI_I, m_uL_K, m_uL_N, m_uL_R, m_uL_I, m_uL_L, m_uR_K, m_uR_N, m_uR_I, m_uR_L, m_uR_R, true_and, and_true, true_implies, false_implies, not_true_eq_false, not_false_eq_true, if_true, if_false, false_and, and_false]
  exact h0
theorem m_sea (d : Nat) (r : Sum (Nat × Nat) (Nat × Dat)) (M : am_M) (Q : Option Value → am_M → Prop) (hr : spTx T n = some r) (hL : Lay M) (hb : mI M 277 12 = nI b) (hb2 : b < 2) (hn : mI M 277 1 = nI n) (hn2 : n ≤ 1800) (hT : ∀ j, j < 1800 → T j < 256 ∧ mI M 278 j = nI (T j))
    (hF : ∀ e M', r = .inl e → gF (sSo (1 - b)) nT M M' → mI M' 277 1 = 0 → mI M' 277 10 = nI e.1 → mI M' 277 11 = nI e.2 → mI M' 312 1 = mI M 312 1 + 1 → mI M' 277 12 = nI b → (∀ a j, 313 ≤ a → mI M' a j = mI M a j) → Q (some (.int (-1))) M')
    (hN : ∀ k D M', r = .inr (k, D) → gF (sSo (1 - b)) nT M M' → mI M' 277 1 = 0 → mI M' 277 10 = 0 → mI M' 277 11 = -1 → mI M' 312 1 = mI M 312 1 → MdM M' (1 - b) D → DOK D → Q (some (.int (nI k))) M') : am_E am_P0 (d + 7) 206 [.ref 277] M Q := by
  obtain ⟨z, hz⟩ : ∃ z, z = 1 - b := ⟨_, rfl⟩
  rw [← hz] at hF hN
  have hz1 : z ≤ 1 := by omega
  have e1 : (1 : Int32) - nI b = nI z := by rw [ni_1, ni_sub (by omega), hz]
  obtain ⟨A, hA⟩ : ∃ A, A = uI (uI (uI (uI (uI (uI M 277 2 (nI n)) 277 1 0) 277 5 0) 277 8 0) 277 9 (-1)) 277 41 (nI z) := ⟨_, rfl⟩
  have wA : gF (fun a j => a = 277 ∧ (j = 1 ∨ j = 2 ∨ j = 5 ∨ j = 8 ∨ j = 9 ∨ j = 41)) nT M A := by
    rw [hA]
    exact gF_trans (gF_trans (gF_trans (gF_trans (gF_trans (gF_i _ ⟨rfl, by omega⟩) (gF_i _ ⟨rfl, by omega⟩)) (gF_i _ ⟨rfl, by omega⟩)) (gF_i _ ⟨rfl, by omega⟩)) (gF_i _ ⟨rfl, by omega⟩)) (gF_i _ ⟨rfl, by omega⟩)
  have LA := gF_LayN wA hL
  have a2 : mI A 277 2 = nI n := by rw [hA]; simp +decide only [m_uI_I, if_true, if_false]
  have a1 : mI A 277 1 = 0 := by rw [hA]; simp +decide only [m_uI_I, if_true, if_false]
  have a5 : mI A 277 5 = 0 := by rw [hA]; simp +decide only [m_uI_I, if_true, if_false]
  have a8 : mI A 277 8 = 0 := by rw [hA]; simp +decide only [m_uI_I, if_true, if_false]
  have a9 : mI A 277 9 = -1 := by rw [hA]; simp +decide only [m_uI_I, if_true, if_false]
  have a41 : mI A 277 41 = nI z := by rw [hA]; simp +decide only [m_uI_I, if_true, if_false]
  rw [eX11_sea]
  simp +decide only [qX11_sea_0, qX11_sea_1, qX11_sea_2, qX11_sea_3, lm hL, hb, hn, e1, am_w1_i, am_w1_r, am_w1_x, am_w1_l, am_w1_w, va_rf_s, am_push_n, am_push_s, am_cs_0, am_cs_i, am_cs_l, am_cs_r, m_uI_K, m_uI_N, m_uI_R, m_uI_L, m_uI_I, m_uL_K, m_uL_N, m_uL_R, m_uL_I, m_uL_L, m_uR_K, m_uR_N, m_uR_I, m_uR_L, m_uR_R, true_and, and_true, true_implies, false_implies, not_true_eq_false, not_false_eq_true, if_true, if_false, false_and, and_false, ← hA]
  rw [show (0 : Int32) = nI 0 from rfl]
  refine l_m_sea40 (d + 7) z A _ LA hz1 a41 (fun M1 g1 f1 => ?_) 3 0 rfl A (gF_refl _ _ _) (fun j hj => by omega)
  have L1 := gF_LayN g1 LA
  rw [show (0 : Int32) = nI 0 from rfl]
  refine l_m_sea67 (d + 7) z M1 _ L1 hz1 (by rw [g1.1 _ _ (by omega)]; exact a41) (fun M2 g2 f2 => ?_) 384 0 rfl M1 (gF_refl _ _ _) (fun j hj => by omega)
  have L2 := gF_LayN g2 L1
  have h41 : mI M2 277 41 = nI z := by rw [g2.1 _ _ (by omega), g1.1 _ _ (by omega)]; exact a41
  obtain ⟨E, hE⟩ : ∃ E, E = uI (uI (uI (uI (uI (uI M2 285 z 0) 291 z 0) 294 z 0) 299 z 0) 303 z 10) 277 40 0 := ⟨_, rfl⟩
  have wE : gF (fun a j => ((a = 285 ∨ a = 291 ∨ a = 294 ∨ a = 299 ∨ a = 303) ∧ j = z) ∨ (a = 277 ∧ j = 40)) nT M2 E := by
    rw [hE]
    exact gF_trans (gF_trans (gF_trans (gF_trans (gF_trans (gF_i _ (by omega)) (gF_i _ (by omega))) (gF_i _ (by omega))) (gF_i _ (by omega))) (gF_i _ (by omega))) (gF_i _ (by omega))
  have LE := gF_LayN wE L2
  have GE : gF (sSo z) nT M E := by
    refine gF_trans (gF_up wA (fun a j q => ?_) (fun _ _ q => q)) (gF_trans (gF_up g1 (fun a j q => Or.inl (sS_2 q)) (fun _ _ q => q)) (gF_trans (gF_up g2 (fun a j q => Or.inl (sS_5 ⟨Or.inl q.1, q.2⟩)) (fun _ _ q => q)) (gF_up wE (fun a j q => ?_) (fun _ _ q => q))))
    · by_cases c : j = 5 ∨ j = 8 ∨ j = 9
      · exact Or.inl (sS_0 ⟨q.1, by omega⟩)
      · exact Or.inr (Or.inl ⟨q.1, by omega⟩)
    · rcases q with q | q
      · exact Or.inl (sS_1 ⟨by omega, q.2⟩)
      · exact Or.inl (sS_0 ⟨q.1, by omega⟩)
  have rdE : ∀ j, j ≤ 41 → ¬ j = 40 → mI E 277 j = mI A 277 j := fun j hj h40 => by rw [wE.1 _ _ (by omega), g2.1 _ _ (by omega), g1.1 _ _ (by omega)]
  have hTp : TpM E T n := ⟨by rw [rdE 2 (by omega) (by omega)]; exact a2, hn2, fun j hj => ⟨(hT j hj).1, by rw [wE.1 _ _ (by omega), g2.1 _ _ (by omega), g1.1 _ _ (by omega), wA.1 _ _ (by omega)]; exact (hT j hj).2⟩⟩
  have E40 : mI E 277 40 = nI 0 := by rw [hE, m_uI_I, if_pos ⟨rfl, rfl⟩]; rfl
  have E285 : mI E 285 z = nI 0 := by rw [hE]; simp +decide only [m_uI_I, and_true, true_and, and_false, false_and, if_true, if_false]
  have E291 : mI E 291 z = nI 0 := by rw [hE]; simp +decide only [m_uI_I, and_true, true_and, and_false, false_and, if_true, if_false]
  have E294 : mI E 294 z = nI 0 := by rw [hE]; simp +decide only [m_uI_I, and_true, true_and, and_false, false_and, if_true, if_false]
  have E299 : mI E 299 z = nI 0 := by rw [hE]; simp +decide only [m_uI_I, and_true, true_and, and_false, false_and, if_true, if_false]
  have E303 : mI E 303 z = nI 10 := by rw [hE]; simp +decide only [m_uI_I, and_true, true_and, and_false, false_and, if_true, if_false]
  have m281 : ∀ kd, kd < 3 → mI E 281 (3 * z + kd) = nI 0 := fun kd hk => by rw [wE.1 _ _ (by omega), g2.1 _ _ (by omega)]; exact f1 kd hk
  have hPd : Pd1 E z dat0 0 := ⟨E303, ⟨E285, fun s sp q => by cases q⟩, ⟨E291, fun s hs => ⟨List.Pairwise.nil, fun y hy => absurd hy List.not_mem_nil, fun t ht => Or.inr ⟨fun y hy => absurd hy List.not_mem_nil, by
      rw [wE.1 _ _ (by omega), show 384 * z + 48 * s + t = 384 * z + (48 * s + t) by omega]
      exact f2 _ (by omega)⟩⟩⟩, ⟨E294, fun i k q => by cases q⟩, ⟨E299, fun i k q => by cases q⟩, ⟨⟨m281 0 (by omega), fun k r q => by cases q⟩, ⟨m281 1 (by omega), fun k r q => by cases q⟩, ⟨m281 2 (by omega), fun k r q => by cases q⟩⟩, ⟨E40, by omega, by rw [rdE 41 (by omega) (by omega)]; exact a41, hz1⟩⟩
  have hin : am_in (nI z) 2 = True := ni_in_t (by omega) (by omega)
  simp +decide (disch := omega) only [qX11_sea_0, qX11_sea_1, qX11_sea_2, qX11_sea_3, lm L2, h41, ni_in_t, ni_tn, am_w1_i, am_w1_r, am_w1_x, am_w1_l, am_w1_w, va_rf_s, am_push_n, am_push_s, am_cs_0, am_cs_i, am_cs_l, am_cs_r, m_uI_K, m_uI_N, m_uI_R, m_uI_L, m_uI_I, m_uL_K, m_uL_N, m_uL_R, m_uL_I, m_uL_L, m_uR_K, m_uR_N, m_uR_I, m_uR_L, m_uR_R, true_and, and_true, true_implies, false_implies, not_true_eq_false, not_false_eq_true, if_true, if_false, false_and, and_false, ← hE]
  have mk : ∀ M3, gF sRm nT E M3 → StM M3 T n (advR T n (0, 0, [], 0, 0)) → am_P am_P0 (d + 7) (am_look tX11_sea) 158 [.ref 277, .int 1] [] M3 Q := fun M3 g3 hS3 => by
    have L3 := gF_LayN g3 LE
    have hP3 : Pd1 M3 z dat0 0 := Pd1_R hPd (DOK_0 (C := 0) (R := 0) (by omega) (by omega)) g3
    simp +decide only [qX11_sea_0, qX11_sea_1, qX11_sea_2, qX11_sea_3, lm L3, am_w1_i, am_w1_r, am_w1_x, am_w1_l, am_w1_w, va_rf_s, am_push_n, am_push_s, am_cs_0, am_cs_i, am_cs_l, am_cs_r, m_uI_K, m_uI_N, m_uI_R, m_uI_L, m_uI_I, m_uL_K, m_uL_N, m_uL_R, m_uL_I, m_uL_L, m_uR_K, m_uR_N, m_uR_I, m_uR_L, m_uR_R, true_and, and_true, true_implies, false_implies, not_true_eq_false, not_false_eq_true, if_true, if_false, false_and, and_false]
    refine k_size (d + 3) (advR T n (0, 0, [], 0, 0)) M3 _ L3 hS3 hP3 (fun M4 hM4 => ?_)
    have kG : ∀ M4, gF (sSm z) nT M3 M4 → gF (sSo z) nT M M4 := fun M4 g4 => gF_trans GE (gF_trans (gF_up (sRm_S (z := z) g3) (fun a j q => Or.inl q) (fun _ _ q => q)) (gF_up g4 (fun a j q => Or.inl q) (fun _ _ q => q)))
    have k1 : ∀ M4, gF (sSm z) nT M3 M4 → mI M4 277 1 = 0 ∧ mI M4 312 1 = mI M 312 1 ∧ mI M4 277 12 = nI b := fun M4 g4 => by
      refine ⟨?_, ?_, ?_⟩
      · rw [g4.1 _ _ (by unfold sSm; omega), g3.1 _ _ (by unfold sRm; omega), rdE 1 (by omega) (by omega)]; exact a1
      · rw [g4.1 _ _ (by unfold sSm; omega), g3.1 _ _ (by unfold sRm; omega), wE.1 _ _ (by omega), g2.1 _ _ (by omega), g1.1 _ _ (by omega), wA.1 _ _ (by omega)]
      · rw [g4.1 _ _ (by unfold sSm; omega), g3.1 _ _ (by unfold sRm; omega), rdE 12 (by omega) (by omega), wA.1 _ _ (by omega)]; exact hb
    have k13 : ∀ M4, gF (sSm z) nT M3 M4 → ∀ a j, 313 ≤ a → mI M4 a j = mI M a j := fun M4 g4 a j ha => by
      rw [g4.1 _ _ (by unfold sSm; omega), g3.1 _ _ (by unfold sRm; omega), wE.1 _ _ (by omega), g2.1 _ _ (by omega), g1.1 _ _ (by omega), wA.1 _ _ (by omega)]
    rw [spTx_i] at hr
    cases hq : rq1 T n (advR T n (0, 0, [], 0, 0)) with
    | inl e =>
      rw [hq] at hr hM4
      cases hr
      obtain ⟨g4, f4⟩ := hM4
      have hp := (FtM_pos f4).2.1
      have L4 := gF_LayN g4 L3
      simp +decide only [qX11_sea_0, qX11_sea_1, qX11_sea_2, qX11_sea_3, am_w1_i, am_w1_r, am_w1_x, am_w1_l, am_w1_w, va_rf_s, am_push_n, am_push_s, am_cs_0, am_cs_i, am_cs_l, am_cs_r, m_uI_K, m_uI_N, m_uI_R, m_uI_L, m_uI_I, m_uL_K, m_uL_N, m_uL_R, m_uL_I, m_uL_L, m_uR_K, m_uR_N, m_uR_I, m_uR_L, m_uR_R, true_and, and_true, true_implies, false_implies, not_true_eq_false, not_false_eq_true, if_true, if_false, false_and, and_false]
      rw [hX11_sea_162]
      simp +decide only [qX11_sea_0, qX11_sea_1, qX11_sea_2, qX11_sea_3, lm L4, am_w1_i, am_w1_r, am_w1_x, am_w1_l, am_w1_w, va_rf_s, am_push_n, am_push_s, am_cs_0, am_cs_i, am_cs_l, am_cs_r, m_uI_K, m_uI_N, m_uI_R, m_uI_L, m_uI_I, m_uL_K, m_uL_N, m_uL_R, m_uL_I, m_uL_L, m_uR_K, m_uR_N, m_uR_I, m_uR_L, m_uR_R, true_and, and_true, true_implies, false_implies, not_true_eq_false, not_false_eq_true, if_true, if_false, false_and, and_false]
      rw [br_p hp]
      have h9 := l_m_seaF (T := T) (n := n) (b := b) (d + 6) M M4 1 e Q hL (by rw [← hz]; exact kG M4 g4) (k1 M4 g4).1 f4 (k1 M4 g4).2.1 (fun M5 v1 v2 v3 v4 v5 v6 v7 => hF e M5 rfl (by rw [hz]; exact v1) v2 v3 v4 v5 (by rw [v6]; exact (k1 M4 g4).2.2) (fun a j ha => by rw [v7 a j ha]; exact k13 M4 g4 a j ha))
      simp +decide only [qX11_sea_0, qX11_sea_1, qX11_sea_2, qX11_sea_3, lm L4, am_w1_i, am_w1_r, am_w1_x, am_w1_l, am_w1_w, va_rf_s, am_push_n, am_push_s, am_cs_0, am_cs_i, am_cs_l, am_cs_r, m_uI_K, m_uI_N, m_uI_R, m_uI_L, m_uI_I, m_uL_K, m_uL_N, m_uL_R, m_uL_I, m_uL_L, m_uR_K, m_uR_N, m_uR_I, m_uR_L, m_uR_R, true_and, and_true, true_implies, false_implies, not_true_eq_false, not_false_eq_true, if_true, if_false, false_and, and_false] at h9
      exact h9
    | inr q =>
      rw [hq] at hr hM4
      obtain ⟨g4, G4, c4, r4⟩ := hM4
      have L4 := gF_LayN g4 L3
      simp +decide only [qX11_sea_0, qX11_sea_1, qX11_sea_2, qX11_sea_3, am_w1_i, am_w1_r, am_w1_x, am_w1_l, am_w1_w, va_rf_s, am_push_n, am_push_s, am_cs_0, am_cs_i, am_cs_l, am_cs_r, m_uI_K, m_uI_N, m_uI_R, m_uI_L, m_uI_I, m_uL_K, m_uL_N, m_uL_R, m_uL_I, m_uL_L, m_uR_K, m_uR_N, m_uR_I, m_uR_L, m_uR_R, true_and, and_true, true_implies, false_implies, not_true_eq_false, not_false_eq_true, if_true, if_false, false_and, and_false]
      rw [show (1 : Int32) = nI 1 from rfl]
      refine l_m_sea (T := T) (n := n) (z := z) d M4 Q L4 r (fun e M5 x he g5 f5 => ?_) (fun k D M5 c t he g5 G5 c5 r5 => ?_) (n + 2) 1 q.2 q.1 0 M4 hr (gF_refl _ _ _) G4 c4 r4
      · have g45 := gF_trans g4 g5
        exact l_m_seaF (T := T) (n := n) (b := b) (d + 6) M M5 x e Q hL (by rw [← hz]; exact kG M5 g45) (k1 M5 g45).1 f5 (k1 M5 g45).2.1 (fun M6 v1 v2 v3 v4 v5 v6 v7 => hF e M6 he (by rw [hz]; exact v1) v2 v3 v4 v5 (by rw [v6]; exact (k1 M5 g45).2.2) (fun a j ha => by rw [v7 a j ha]; exact k13 M5 g45 a j ha))
      · have g45 := gF_trans g4 g5
        exact l_m_seaN (T := T) (n := n) (b := b) (d + 1) c t D M M5 (nI k) Q hL hb2 (by rw [← hz]; exact kG M5 g45) (k1 M5 g45).1 (by rw [← hz]; exact G5) c5 r5 (fun M6 v1 v2 v3 v4 v5 v6 v7 => hN k D M6 he (by rw [hz]; exact v1) v2 v3 v4 (by rw [v5]; exact (k1 M5 g45).2.1) (by rw [hz]; exact v6) v7)
  refine ⟨(lm LE).1, ?_⟩
  refine c_m_ahead (d + 5) n T 0 E _ LE hTp (by rw [rdE 8 (by omega) (by omega)]; exact a8) (by rw [rdE 9 (by omega) (by omega)]; exact a9) (by rw [rdE 5 (by omega) (by omega)]; exact a5) (by omega) (fun h4 M3 g3 f3 => ?_) (fun h4 M3 g3 f3 => ?_)
  · have h9 := mk M3 g3 (by
      unfold advR
      rw [show tE (0, 0, [], 0, 0) = 0 from rfl, if_pos h4]
      exact f3)
    have L3 := gF_LayN g3 LE
    simp +decide only [qX11_sea_0, qX11_sea_1, qX11_sea_2, qX11_sea_3, lm L3, am_w1_i, am_w1_r, am_w1_x, am_w1_l, am_w1_w, va_rf_s, am_push_n, am_push_s, am_cs_0, am_cs_i, am_cs_l, am_cs_r, m_uI_K, m_uI_N, m_uI_R, m_uI_L, m_uI_I, m_uL_K, m_uL_N, m_uL_R, m_uL_I, m_uL_L, m_uR_K, m_uR_N, m_uR_I, m_uR_L, m_uR_R, true_and, and_true, true_implies, false_implies, not_true_eq_false, not_false_eq_true, if_true, if_false, false_and, and_false] at h9 ⊢
    exact h9
  · have h9 := mk M3 g3 (by
      unfold advR
      rw [show tE (0, 0, [], 0, 0) = 0 from rfl, if_neg h4]
      exact f3)
    have L3 := gF_LayN g3 LE
    simp +decide only [qX11_sea_0, qX11_sea_1, qX11_sea_2, qX11_sea_3, lm L3, am_w1_i, am_w1_r, am_w1_x, am_w1_l, am_w1_w, va_rf_s, am_push_n, am_push_s, am_cs_0, am_cs_i, am_cs_l, am_cs_r, m_uI_K, m_uI_N, m_uI_R, m_uI_L, m_uI_I, m_uL_K, m_uL_N, m_uL_R, m_uL_I, m_uL_L, m_uR_K, m_uR_N, m_uR_I, m_uR_L, m_uR_R, true_and, and_true, true_implies, false_implies, not_true_eq_false, not_false_eq_true, if_true, if_false, false_and, and_false] at h9 ⊢
    exact h9
end
