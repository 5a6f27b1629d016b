/-! add, drop -/
def sFg (s a j : Nat) : Prop := (a = 173 + 13 * s ∧ (j = 4 ∨ j = 5)) ∨ (173 ≤ a ∧ a < 277 ∧ (a - 173) % 13 = 0 ∧ j = 6) ∨ (a = 0 ∧ j = 13)
theorem l_x_forget (d s n z : Nat) (x : Int32) (M0 : am_M) (Q : Option Value → am_M → Prop) (hL : Lay M0) (hz : z = 2 ∨ z = 83) (hs : s < 8) (hr : mR M0 0 2 = some z) (hn : mI M0 z 3 = nI n) (n8 : n ≤ 8)
    (hQ : ∀ M', gF (sFg s) nT M0 M' → (∀ t, t < n → mI M' (173 + 13 * t) 6 = 0) → (∀ a j, ¬ (a = 0 ∧ j = 13) → ¬ j = 6 → mI M' a j = mI M0 a j) → mI M' 0 13 = 0 → Q none M') : ∀ (m k : Nat), k + m = n → ∀ (M : am_M), gF (sFg s) nT M0 M → (∀ t, t < k → mI M (173 + 13 * t) 6 = 0) → (∀ a j, ¬ (a = 0 ∧ j = 13) → ¬ j = 6 → mI M a j = mI M0 a j) → am_P am_P0 d (am_look tX10_forget) 11 [.ref 0, .int x, .int (nI k)] [] M Q := by
  intro m
  induction m with
  | zero =>
    intro k hk M hM h6 h7
    have e : k = n := by omega
    subst e
    have LM := gF_LayN hM hL
    have hle : nI k ≤ nI k := (ni_le (by omega) (by omega)).mpr (Nat.le_refl _)
    have r1 : mR M 0 2 = some z := by rw [hM.2.2.1 _ _ (fun w => w)]; exact hr
    have n1 : mI M z 3 = nI k := by rw [hM.1 _ _ (by unfold sFg; omega)]; exact hn
    have h0 := hQ (uI M 0 13 0) (gF_trans hM (gF_i _ (Or.inr (Or.inr ⟨rfl, rfl⟩)))) (fun t ht => by rw [m_uI_I, if_neg (by omega)]; exact h6 t ht) (fun a j q1 q2 => by rw [m_uI_I, if_neg q1]; exact h7 a j q1 q2) (by rw [m_uI_I, if_pos ⟨rfl, rfl⟩])
    rw [hX10_forget_11]
    simp +decide (disch := omega) only [qX10_forget, lx LM, lz LM hz, r1, n1, ni_in_t, ni_tn, am_w1_i, am_w1_r, am_w1_x, am_w1_l, am_w1_w, va_rf_s, am_push_n, am_push_s, am_cs_0, am_cs_i, am_cs_l, am_cs_r, m_uI_K, m_uI_N, m_uI_R, m_uI_L, m_uI_I, m_uL_K, m_uL_N, m_uL_R, m_uL_I, m_uL_L, m_uR_K, m_uR_N, m_uR_I, m_uR_L, m_uR_R, true_and, and_true, true_implies, false_implies, not_true_eq_false, not_false_eq_true, if_true, if_false, false_and, and_false]
    rw [br_p hle]
    exact h0
  | succ m ih =>
    intro k hk M hM h6 h7
    have LM := gF_LayN hM hL
    have hlt : ¬ nI n ≤ nI k := by rw [ni_le (by omega) (by omega)]; omega
    have r1 : mR M 0 2 = some z := by rw [hM.2.2.1 _ _ (fun w => w)]; exact hr
    have n1 : mI M z 3 = nI n := by rw [hM.1 _ _ (by unfold sFg; omega)]; exact hn
    have hst := isTr_of (show k < 8 by omega)
    have h0 := ih (k + 1) (by omega) (uI M (173 + 13 * k) 6 0) (gF_trans hM (gF_i _ (Or.inr (Or.inl ⟨by omega, by omega, by omega, rfl⟩)))) (fun t ht => by
      by_cases e : t = k
      · rw [e, m_uI_I, if_pos ⟨rfl, rfl⟩]
      · rw [m_uI_I, if_neg (by omega)]; exact h6 t (by omega)) (fun a j q1 q2 => by rw [m_uI_I, if_neg (by omega)]; exact h7 a j q1 q2)
    rw [hX10_forget_11]
    simp +decide (disch := omega) only [qX10_forget, lx LM, lz LM hz, ltr LM (show k < 8 by omega), lt_ LM hst, r1, n1, ni_in_t, ni_tn, ni_add1, am_w1_i, am_w1_r, am_w1_x, am_w1_l, am_w1_w, va_rf_s, am_push_n, am_push_s, am_cs_0, am_cs_i, am_cs_l, am_cs_r, m_uI_K, m_uI_N, m_uI_R, m_uI_L, m_uI_I, m_uL_K, m_uL_N, m_uL_R, m_uL_I, m_uL_L, m_uR_K, m_uR_N, m_uR_I, m_uR_L, m_uR_R, true_and, and_true, true_implies, false_implies, not_true_eq_false, not_false_eq_true, if_true, if_false, false_and, and_false]
    rw [br_n hlt]
    exact h0
theorem c_x_forget (d s n z : Nat) (M : am_M) (Q : Option Value → am_M → Prop) (hL : Lay M) (hz : z = 2 ∨ z = 83) (hs : s < 8) (hr : mR M 0 2 = some z) (hn : mI M z 3 = nI n) (n8 : n ≤ 8)
    (hQ : ∀ M', gF (sFg s) nT M M' → mI M' (173 + 13 * s) 4 = 0 → mI M' (173 + 13 * s) 5 = 0 → (∀ t, t < n → mI M' (173 + 13 * t) 6 = 0) → mI M' 0 13 = 0 → Q none M') : am_E am_P0 (d + 1) 153 [.ref 0, .int (nI s)] M Q := by
  have hst := isTr_of hs
  have eF := fun Q => c_x_Tforget d s M Q hL hs
  obtain ⟨A, hA⟩ : ∃ A, A = uI (uI M (173 + 13 * s) 4 0) (173 + 13 * s) 5 0 := ⟨_, rfl⟩
  have gA : gF (sFg s) nT M A := by rw [hA]; exact gF_trans (gF_i _ (Or.inl ⟨rfl, by omega⟩)) (gF_i _ (Or.inl ⟨rfl, by omega⟩))
  have h0 := l_x_forget (d + 1) s n z (nI s) A Q (gF_LayN gA hL) hz hs (by rw [gA.2.2.1 _ _ (fun w => w)]; exact hr) (by rw [gA.1 _ _ (by unfold sFg; omega)]; exact hn) n8 (fun M' g' q1 q2 q3 => hQ M' (gF_trans gA g') (by rw [q2 _ _ (by omega) (by omega), hA, m_uI_I, if_neg (by omega), m_uI_I, if_pos ⟨rfl, rfl⟩]) (by rw [q2 _ _ (by omega) (by omega), hA, m_uI_I, if_pos ⟨rfl, rfl⟩]) q1 q3) n 0 (by omega) A (gF_refl _ _ _) (fun t ht => by omega) (fun a j _ _ => rfl)
  rw [eX10_forget]
  simp +decide (disch := omega) only [qX10_forget, lx hL, ltr hL hs, lt_ hL hst, eF, ni_in_t, ni_tn, am_w1_i, am_w1_r, am_w1_x, am_w1_l, am_w1_w, va_rf_s, am_push_n, am_push_s, am_cs_0, am_cs_i, am_cs_l, am_cs_r, m_uI_K, m_uI_N, m_uI_R, m_uI_L, m_uI_I, m_uL_K, m_uL_N, m_uL_R, m_uL_I, m_uL_L, m_uR_K, m_uR_N, m_uR_I, m_uR_L, m_uR_R, true_and, and_true, true_implies, false_implies, not_true_eq_false, not_false_eq_true, if_true, if_false, false_and, and_false, ← hA]
  exact h0
theorem SyX_gF {M M' : am_M} {g : Nat} {Y : List Sy} {S T' : Nat → Nat → Prop} (h : SyX M g Y) (hg : gF S T' M M') (hd : ∀ a j, g ≤ a → a ≤ g + 3 → ¬ S a j) : SyX M' g Y := by
  obtain ⟨b1, b2, b3⟩ := h
  refine ⟨by rw [hg.1 _ _ (hd _ _ (by omega) (by omega))]; exact b1, b2, fun i y hy => ?_⟩
  obtain ⟨q1, q2, q3, q4⟩ := b3 i y hy
  exact ⟨q1, by rw [hg.1 _ _ (hd _ _ (by omega) (by omega))]; exact q2, by rw [hg.1 _ _ (hd _ _ (by omega) (by omega))]; exact q3, by rw [hg.1 _ _ (hd _ _ (by omega) (by omega))]; exact q4⟩
theorem sFg_c {z s a j : Nat} (hs : s < 8) (h : sFg s a j) : sCh z a j := by
  rcases h with q | q | q
  · exact Or.inr (Or.inr (Or.inl ⟨s, hs, by omega, by omega⟩))
  · exact Or.inr (Or.inr (Or.inl ⟨(a - 173) / 13, by omega, by omega, by omega⟩))
  · exact Or.inr (Or.inr (Or.inr q))
/-- the sayings of one ship change, and what was known is forgotten -/
theorem XR_y {M M1 M2 : am_M} {z s : Nat} {D : Dat} {Y : List Sy} (hD : dOK D) (hX : XR M z D) (hs : s < dN D) (g1 : gF (sIn (z + 25 + 7 * s)) nT M M1) (hY : SyX M1 (z + 25 + 7 * s) Y) (g2 : gF (sFg s) nT M1 M2) (h4 : mI M2 (173 + 13 * s) 4 = 0) (h5 : mI M2 (173 + 13 * s) 5 = 0) (h6 : ∀ t, t < dN D → mI M2 (173 + 13 * t) 6 = 0) (h13 : mI M2 0 13 = 0) : gF (sCh z) nT M M2 ∧ XR M2 z (addY D s Y) := by
  have hz := hX.1.2.2.1
  have n8 := dN_8 hD
  have hyl : s < (dYs D).length := by rw [hD.1.2.2.1.2.1]; first | exact hs | exact s1
  have gc : gF (sCh z) nT M M2 := gF_trans (gF_up g1 (fun a j q => Or.inr (Or.inl ⟨s, by omega, q⟩)) (fun _ _ q => q)) (gF_up g2 (fun a j q => sFg_c (by omega) q) (fun _ _ q => q))
  have g12 : gF (fun a j => sIn (z + 25 + 7 * s) a j ∨ sFg s a j) nT M M2 := gF_trans (gF_up g1 (fun a j q => Or.inl q) (fun _ _ q => q)) (gF_up g2 (fun a j q => Or.inr q) (fun _ _ q => q))
  refine ⟨gc, XR_D (Ys := (dYs D).set s Y) (Sg := dSg D) hD hX gc (SgX_g (x_sg hX) g12 (fun a j q1 q2 w => by unfold sIn sFg at w; omega)) (fun s' hs' => ?_) (fun s' hs' => ?_) (fun s' hs' => Or.inl (h6 s' hs')) (Or.inl h13)⟩
  · have e := dY_set (D := D) (s := s) (Y := Y) hyl s'
    unfold addY at e
    rw [e]
    by_cases c : s' = s
    · rw [if_pos c, c]
      exact SyX_gF hY g2 (fun a j q1 q2 w => by unfold sFg at w; omega)
    · rw [if_neg c]
      exact SyX_gF (x_ship hX hs').2.1 g12 (fun a j q1 q2 w => by unfold sIn sFg at w; omega)
  · by_cases c : s' = s
    · rw [c]; exact Or.inl ⟨h4, h5⟩
    · have e := dY_set (D := D) (s := s) (Y := Y) hyl s'
      unfold addY at e
      rw [if_neg c] at e
      exact Or.inr ⟨e, g12.1 _ _ (fun w => by unfold sIn sFg at w; omega), g12.1 _ _ (fun w => by unfold sIn sFg at w; omega)⟩
theorem dOK_y {D : Dat} {s : Nat} {Y : List Sy} (hD : dOK D) (hs : s < dN D) (h1 : srtY Y) (h2 : ∀ y, y ∈ Y → y.1 < 48 ∧ vld (dC D) (dR D) y.2.1) (h3 : dTot (addY D s Y) ≤ 96) : dOK (addY D s Y) := ⟨DOK_y hD.1 hs h1 h2 h3, hD.2⟩
theorem MdM_y {M M' : am_M} {b s : Nat} {D : Dat} {Y : List Sy} {S : Nat → Nat → Prop} (hD : dOK D) (hs : s < dN D) (hM : MdM M b D) (hg : gF S nT M M') (hS : ∀ a j, S a j → (a = 291 ∧ j = b) ∨ ((a = 292 ∨ a = 293) ∧ 384 * b + 48 * s ≤ j ∧ j < 384 * b + 48 * s + 48)) (hn : mI M' 291 b = nI (dTot (addY D s Y))) (hY : SyM M' b (dC D) (dR D) s Y) : MdM M' b (addY D s Y) := by
  obtain ⟨h1, h2, h3, h4, h5, h6, h7, ⟨r1, r2, r3⟩, h8⟩ := hM
  have hyl : s < (dYs D).length := by rw [hD.1.2.2.1.2.1]; first | exact hs | exact s1
  have k : ∀ a j, ¬ (291 ≤ a ∧ a ≤ 293) → ¬ S a j := fun a j q w => by have := hS a j w; omega
  refine ⟨⟨by rw [hg.1 _ _ (k _ _ (by omega))]; exact h1.1, h1.2⟩, ⟨by rw [hg.1 _ _ (k _ _ (by omega))]; exact h2.1, by rw [hg.1 _ _ (k _ _ (by omega))]; exact h2.2⟩, by rw [hg.1 _ _ (k _ _ (by omega))]; exact h3, ShpM_g h4 hg (k _ _ (by omega)) (fun a j q1 q2 _ => k _ _ (by omega)), ⟨hn, fun s' hs' => ?_⟩, BkM_gF h6 hg (k _ _ (by omega)) (fun a j q1 q2 _ => k _ _ (by omega)), SgM_g h7 hg (k _ _ (by omega)) (fun a j q1 q2 _ => k _ _ (by omega)), ⟨RaM_g r1 hg (fun a j q => k _ _ (by omega)), RaM_g r2 hg (fun a j q => k _ _ (by omega)), RaM_g r3 hg (fun a j q => k _ _ (by omega))⟩, fun p hp => ⟨by rw [hg.1 _ _ (k _ _ (by omega))]; exact (h8 p hp).1, by rw [hg.1 _ _ (k _ _ (by omega))]; exact (h8 p hp).2⟩⟩
  rw [dY_set hyl]
  by_cases c : s' = s
  · rw [if_pos c, c]; exact hY
  · rw [if_neg c]
    exact SyM_gF (h5.2 s' hs') hg (fun a t q ht w => by have := hS _ _ w; omega)
