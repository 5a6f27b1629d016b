/-! tale, kinds, lies, gaps -/
def taQ (D : Dat) (s r : Nat) (x : Int32) : Prop := (∃ k, k < 5 ∧ kdP D s k ∧ cnt (fun k => dB (kdP D s k)) k = r ∧ x = nI k) ∨ ((∀ k, k < 5 → kdP D s k → ¬ cnt (fun k => dB (kdP D s k)) k = r) ∧ x = -1)
theorem taQ_1 {D : Dat} {s r : Nat} : ∀ x y, taQ D s r x → taQ D s r y → x = y := by
  rintro x y (⟨p, p1, p2, p3, rfl⟩ | ⟨h1, rfl⟩) (⟨q, q1, q2, q3, rfl⟩ | ⟨h2, rfl⟩)
  · have : p = q := by
      rcases Nat.lt_trichotomy p q with c | c | c
      · have := cnt_in (g := fun k => dB (kdP D s k)) c (dB_t.mpr p2); omega
      · exact c
      · have := cnt_in (g := fun k => dB (kdP D s k)) c (dB_t.mpr q2); omega
    rw [this]
  · exact absurd p3 (h2 p p1 p2)
  · exact absurd q3 (h1 q q1 q2)
  · rfl
noncomputable def aTal (v r : Int32) (D : Dat) : Value := .int (if (0 ≤ v.toInt ∧ v.toInt < dN D) ∧ 0 ≤ r.toInt then theI (taQ D v.toInt.toNat r.toInt.toNat) else -1)
theorem l_x_tale (d s r : Nat) (D : Dat) (M : am_M) (Q : Option Value → am_M → Prop) (x1 x2 : Int32) (hr : r < 2147483648) (hQ : ∀ x, taQ D s r x → Q (some (.int x)) M) :
    ∀ (m k : Nat), k + m = 5 → ∀ l, cnt (fun k => dB (kdP D s k)) k + l = r → am_P am_P0 d (am_look tX10_tale) 26 [.ref 0, .int x1, .int x2, .int (kdI D s), .int (nI l), .int (nI k)] [] M Q := by
  intro m
  induction m with
  | zero =>
    intro k hk l hl
    have ek : k = 5 := by omega
    subst ek
    have h0 := hQ (-1) (Or.inr ⟨fun p hp hm => by have := cnt_in (g := fun k => dB (kdP D s k)) hp (dB_t.mpr hm); omega, rfl⟩)
    rw [hX10_tale_26]
    simp +decide only [qX10_tale, show nI 5 = (5 : Int32) from rfl, am_w1_i, am_w1_r, am_w1_x, am_w1_l, am_w1_w, va_rf_s, am_push_n, am_push_s, am_cs_0, am_cs_i, am_cs_l, am_cs_r, m_uI_K, m_uI_N, m_uI_R, m_uI_L, m_uI_I, m_uL_K, m_uL_N, m_uL_R, m_uL_I, m_uL_L, m_uR_K, m_uR_N, m_uR_I, m_uR_L, m_uR_R, true_and, and_true, true_implies, false_implies, not_true_eq_false, not_false_eq_true, if_true, if_false, false_and, and_false]
    exact h0
  | succ m ih =>
    intro k hk l hl
    have hlt : ¬ (5 : Int32) ≤ nI k := by rw [show (5 : Int32) = nI 5 from rfl, ni_le (by omega) (by omega)]; omega
    rw [hX10_tale_26]
    simp +decide only [qX10_tale, kd_bit (show k < 5 by omega), tI_0, Classical.not_not, am_w1_i, am_w1_r, am_w1_x, am_w1_l, am_w1_w, va_rf_s, am_push_n, am_push_s, am_cs_0, am_cs_i, am_cs_l, am_cs_r, m_uI_K, m_uI_N, m_uI_R, m_uI_L, m_uI_I, m_uL_K, m_uL_N, m_uL_R, m_uL_I, m_uL_L, m_uR_K, m_uR_N, m_uR_I, m_uR_L, m_uR_R, true_and, and_true, true_implies, false_implies, not_true_eq_false, not_false_eq_true, if_true, if_false, false_and, and_false]
    first | rw [br_n (hlt)] | rw [br_q (hlt)] | rw [br_u (hlt)]
    by_cases c : kdP D s k
    · first | rw [br_p (c)] | rw [br_r (c)] | rw [br_s (c)]
      by_cases l0 : l = 0
      · subst l0
        have h0 := hQ _ (Or.inl ⟨k, by omega, c, by omega, rfl⟩)
        simp +decide only [show nI 0 = (0 : Int32) from rfl, qX10_tale, am_w1_i, am_w1_r, am_w1_x, am_w1_l, am_w1_w, va_rf_s, am_push_n, am_push_s, am_cs_0, am_cs_i, am_cs_l, am_cs_r, m_uI_K, m_uI_N, m_uI_R, m_uI_L, m_uI_I, m_uL_K, m_uL_N, m_uL_R, m_uL_I, m_uL_L, m_uR_K, m_uR_N, m_uR_I, m_uR_L, m_uR_R, true_and, and_true, true_implies, false_implies, not_true_eq_false, not_false_eq_true, if_true, if_false, false_and, and_false]
        exact h0
      · obtain ⟨l', rfl⟩ : ∃ l', l = l' + 1 := ⟨l - 1, by omega⟩
        have hne : ¬ nI (l' + 1) = 0 := by rw [show (0 : Int32) = nI 0 from rfl, ni_eq (by omega) (by omega)]; omega
        have h0 := ih (k + 1) (by omega) l' (by rw [cnt_t (dB_t.mpr c)]; omega)
        first | rw [br_n (hne)] | rw [br_q (hne)] | rw [br_u (hne)]
        simp +decide only [qX10_tale, ni_dec, ni_add1, am_w1_i, am_w1_r, am_w1_x, am_w1_l, am_w1_w, va_rf_s, am_push_n, am_push_s, am_cs_0, am_cs_i, am_cs_l, am_cs_r, m_uI_K, m_uI_N, m_uI_R, m_uI_L, m_uI_I, m_uL_K, m_uL_N, m_uL_R, m_uL_I, m_uL_L, m_uR_K, m_uR_N, m_uR_I, m_uR_L, m_uR_R, true_and, and_true, true_implies, false_implies, not_true_eq_false, not_false_eq_true, if_true, if_false, false_and, and_false]
        exact h0
    · have h0 := ih (k + 1) (by omega) l (by rw [cnt_f (fun w => c (dB_t.mp w))]; exact hl)
      first | rw [br_n (c)] | rw [br_q (c)] | rw [br_u (c)]
      simp +decide only [qX10_tale, ni_add1, am_w1_i, am_w1_r, am_w1_x, am_w1_l, am_w1_w, va_rf_s, am_push_n, am_push_s, am_cs_0, am_cs_i, am_cs_l, am_cs_r, m_uI_K, m_uI_N, m_uI_R, m_uI_L, m_uI_I, m_uL_K, m_uL_N, m_uL_R, m_uL_I, m_uL_L, m_uR_K, m_uR_N, m_uR_I, m_uR_L, m_uR_R, true_and, and_true, true_implies, false_implies, not_true_eq_false, not_false_eq_true, if_true, if_false, false_and, and_false]
      exact h0
theorem x_tale (v r : Int32) : XqO 123 [.int v, .int r] (aTal v r) := by
  intro d M z D Q hD h hQ
  have hL := h.1.1
  have n8 := dN_8 hD
  have eS := fun v Q => x_isShip hD h (d + 19) v Q
  unfold aTal at hQ
  rw [eX10_tale]
  simp +decide only [qX10_tale, lx hL, eS, bI_0, Classical.not_not, am_w1_i, am_w1_r, am_w1_x, am_w1_l, am_w1_w, va_rf_s, am_push_n, am_push_s, am_cs_0, am_cs_i, am_cs_l, am_cs_r, m_uI_K, m_uI_N, m_uI_R, m_uI_L, m_uI_I, m_uL_K, m_uL_N, m_uL_R, m_uL_I, m_uL_L, m_uR_K, m_uR_N, m_uR_I, m_uR_L, m_uR_R, true_and, and_true, true_implies, false_implies, not_true_eq_false, not_false_eq_true, if_true, if_false, false_and, and_false]
  by_cases hv : 0 ≤ v.toInt ∧ v.toInt < dN D
  · first | rw [br_p (hv)] | rw [br_r (hv)] | rw [br_s (hv)]
    by_cases k0 : 0 ≤ r
    · first | rw [br_p (k0)] | rw [br_r (k0)] | rw [br_s (k0)]
      rw [le32, z32] at k0
      rw [if_pos ⟨hv, k0⟩] at hQ
      obtain ⟨s, s1, s2, s3⟩ := sh_of (by omega) hv
      have er : r = nI r.toInt.toNat := i32_of (by omega) (by have := Int32.toInt_lt r; omega)
      rw [s3] at hQ
      rw [s2]
      refine x_kindsOf hD h s1 (d + 12) _ (fun M1 f1 X1 => ?_)
      have h0 := hQ M1 f1 X1
      have h9 := l_x_tale (d + 20) s r.toInt.toNat D M1 Q (nI s) r (by have := Int32.toInt_lt r; omega) (fun x hx => by rw [the_e taQ_1 hx] at h0; exact h0) 5 0 (by omega) r.toInt.toNat (by simp [cnt])
      rw [← er] at h9
      simp +decide only [qX10_tale, am_w1_i, am_w1_r, am_w1_x, am_w1_l, am_w1_w, va_rf_s, am_push_n, am_push_s, am_cs_0, am_cs_i, am_cs_l, am_cs_r, m_uI_K, m_uI_N, m_uI_R, m_uI_L, m_uI_I, m_uL_K, m_uL_N, m_uL_R, m_uL_I, m_uL_L, m_uR_K, m_uR_N, m_uR_I, m_uR_L, m_uR_R, true_and, and_true, true_implies, false_implies, not_true_eq_false, not_false_eq_true, if_true, if_false, false_and, and_false]
      exact h9
    · have h0 := hQ M (XR_2 h) h
      rw [if_neg (fun q => k0 (by rw [le32, z32]; exact q.2))] at h0
      first | rw [br_n (k0)] | rw [br_q (k0)] | rw [br_u (k0)]
      exact h0
  · have h0 := hQ M (XR_2 h) h
    rw [if_neg (fun q => hv q.1)] at h0
    first | rw [br_n (hv)] | rw [br_q (hv)] | rw [br_u (hv)]
    exact h0
theorem l_m_taleOf (d b s r : Nat) (D : Dat) (M0 : am_M) (Q : Option Value → am_M → Prop) (x2 : Int32) (hD : dOK D) (hL0 : Lay M0) (h0' : MdM M0 b D) (hs : s < dN D) (hr : r < 2147483648) (hQ : ∀ x M', taQ D s r x → gF sMq nT M0 M' → Q (some (.int x)) M') :
    ∀ (m k : Nat), k + m = 5 → ∀ (l : Nat) (M : am_M), gF sMq nT M0 M → cnt (fun k => dB (kdP D s k)) k + l = r → am_P am_P0 (d + 10) (am_look tX11_taleOf) 5 [.ref 277, .int (nI s), .int x2, .int (nI l), .int (nI k)] [] M Q := by
  intro m
  induction m with
  | zero =>
    intro k hk l M hM hl
    have ek : k = 5 := by omega
    subst ek
    have h0 := hQ (-1) M (Or.inr ⟨fun p hp hm => by have := cnt_in (g := fun k => dB (kdP D s k)) hp (dB_t.mpr hm); omega, rfl⟩) hM
    rw [hX11_taleOf_5]
    simp +decide only [qX11_taleOf, show nI 5 = (5 : Int32) from rfl, am_w1_i, am_w1_r, am_w1_x, am_w1_l, am_w1_w, va_rf_s, am_push_n, am_push_s, am_cs_0, am_cs_i, am_cs_l, am_cs_r, m_uI_K, m_uI_N, m_uI_R, m_uI_L, m_uI_I, m_uL_K, m_uL_N, m_uL_R, m_uL_I, m_uL_L, m_uR_K, m_uR_N, m_uR_I, m_uR_L, m_uR_R, true_and, and_true, true_implies, false_implies, not_true_eq_false, not_false_eq_true, if_true, if_false, false_and, and_false]
    exact h0
  | succ m ih =>
    intro k hk l M hM hl
    have hL := gF_LayN hM hL0
    have h := MdM_q h0' hM
    have hlt : ¬ (4 : Int32) < nI k := by rw [show (4 : Int32) = nI 4 from rfl, ni_lt (by omega) (by omega)]; omega
    have hl0 : ¬ nI l < 0 := by rw [lt32, z32, ni_ti (by omega)]; omega
    rw [hX11_taleOf_5]
    simp +decide only [qX11_taleOf, lm hL, am_w1_i, am_w1_r, am_w1_x, am_w1_l, am_w1_w, va_rf_s, am_push_n, am_push_s, am_cs_0, am_cs_i, am_cs_l, am_cs_r, m_uI_K, m_uI_N, m_uI_R, m_uI_L, m_uI_I, m_uL_K, m_uL_N, m_uL_R, m_uL_I, m_uL_L, m_uR_K, m_uR_N, m_uR_I, m_uR_L, m_uR_R, true_and, and_true, true_implies, false_implies, not_true_eq_false, not_false_eq_true, if_true, if_false, false_and, and_false]
    first | rw [br_n (hlt)] | rw [br_q (hlt)] | rw [br_u (hlt)]
    first | rw [br_n (hl0)] | rw [br_q (hl0)] | rw [br_u (hl0)]
    refine m_isKind hD hL h hs (by omega) d _ (fun M1 g1 => ?_)
    simp +decide only [qX11_taleOf, tI_0, Classical.not_not, am_w1_i, am_w1_r, am_w1_x, am_w1_l, am_w1_w, va_rf_s, am_push_n, am_push_s, am_cs_0, am_cs_i, am_cs_l, am_cs_r, m_uI_K, m_uI_N, m_uI_R, m_uI_L, m_uI_I, m_uL_K, m_uL_N, m_uL_R, m_uL_I, m_uL_L, m_uR_K, m_uR_N, m_uR_I, m_uR_L, m_uR_R, true_and, and_true, true_implies, false_implies, not_true_eq_false, not_false_eq_true, if_true, if_false, false_and, and_false]
    by_cases c : kdP D s k
    · first | rw [br_p (c)] | rw [br_r (c)] | rw [br_s (c)]
      by_cases l0 : l = 0
      · subst l0
        have h0 := hQ _ M1 (Or.inl ⟨k, by omega, c, by omega, rfl⟩) (gF_trans hM g1)
        simp +decide only [show nI 0 = (0 : Int32) from rfl, qX11_taleOf, am_w1_i, am_w1_r, am_w1_x, am_w1_l, am_w1_w, va_rf_s, am_push_n, am_push_s, am_cs_0, am_cs_i, am_cs_l, am_cs_r, m_uI_K, m_uI_N, m_uI_R, m_uI_L, m_uI_I, m_uL_K, m_uL_N, m_uL_R, m_uL_I, m_uL_L, m_uR_K, m_uR_N, m_uR_I, m_uR_L, m_uR_R, true_and, and_true, true_implies, false_implies, not_true_eq_false, not_false_eq_true, if_true, if_false, false_and, and_false]
        exact h0
      · obtain ⟨l', rfl⟩ : ∃ l', l = l' + 1 := ⟨l - 1, by omega⟩
        have hne : ¬ nI (l' + 1) = 0 := by rw [show (0 : Int32) = nI 0 from rfl, ni_eq (by omega) (by omega)]; omega
        have h0 := ih (k + 1) (by omega) l' M1 (gF_trans hM g1) (by rw [cnt_t (dB_t.mpr c)]; omega)
        first | rw [br_n (hne)] | rw [br_q (hne)] | rw [br_u (hne)]
        simp +decide only [qX11_taleOf, ni_dec, ni_add1, am_w1_i, am_w1_r, am_w1_x, am_w1_l, am_w1_w, va_rf_s, am_push_n, am_push_s, am_cs_0, am_cs_i, am_cs_l, am_cs_r, m_uI_K, m_uI_N, m_uI_R, m_uI_L, m_uI_I, m_uL_K, m_uL_N, m_uL_R, m_uL_I, m_uL_L, m_uR_K, m_uR_N, m_uR_I, m_uR_L, m_uR_R, true_and, and_true, true_implies, false_implies, not_true_eq_false, not_false_eq_true, if_true, if_false, false_and, and_false]
        exact h0
    · have h0 := ih (k + 1) (by omega) l M1 (gF_trans hM g1) (by rw [cnt_f (fun w => c (dB_t.mp w))]; exact hl)
      first | rw [br_n (c)] | rw [br_q (c)] | rw [br_u (c)]
      simp +decide only [qX11_taleOf, ni_add1, am_w1_i, am_w1_r, am_w1_x, am_w1_l, am_w1_w, va_rf_s, am_push_n, am_push_s, am_cs_0, am_cs_i, am_cs_l, am_cs_r, m_uI_K, m_uI_N, m_uI_R, m_uI_L, m_uI_I, m_uL_K, m_uL_N, m_uL_R, m_uL_I, m_uL_L, m_uR_K, m_uR_N, m_uR_I, m_uR_L, m_uR_R, true_and, and_true, true_implies, false_implies, not_true_eq_false, not_false_eq_true, if_true, if_false, false_and, and_false]
      exact h0
theorem m_taleOf {M : am_M} {b s r : Nat} {D : Dat} (hD : dOK D) (hL : Lay M) (h : MdM M b D) (hs : s < dN D) (hr : r < 2147483648) (d : Nat) (Q : Option Value → am_M → Prop) (hQ : ∀ M', gF sMq nT M M' → Q (some (.int (theI (taQ D s r)))) M') : am_E am_P0 (d + 10) 267 [.ref 277, .int (nI s), .int (nI r)] M Q := by
  have h0 := l_m_taleOf d b s r D M Q (nI r) hD hL h hs hr (fun x M' hx g' => by have := hQ M' g'; rw [the_e taQ_1 hx] at this; exact this) 5 0 (by omega) r M (gF_refl _ _ _) (by simp [cnt])
  rw [eX11_taleOf]
  simp +decide only [qX11_taleOf, am_w1_i, am_w1_r, am_w1_x, am_w1_l, am_w1_w, va_rf_s, am_push_n, am_push_s, am_cs_0, am_cs_i, am_cs_l, am_cs_r, m_uI_K, m_uI_N, m_uI_R, m_uI_L, m_uI_I, m_uL_K, m_uL_N, m_uL_R, m_uL_I, m_uL_L, m_uR_K, m_uR_N, m_uR_I, m_uR_L, m_uR_R, true_and, and_true, true_implies, false_implies, not_true_eq_false, not_false_eq_true, if_true, if_false, false_and, and_false]
  exact h0
theorem m_tale (v r : Int32) : MqO 268 [.int v, .int r] (aTal v r) := by
  intro d M b D Q hD hL h hQ
  have n8 := dN_8 hD
  have eS := fun v Q => m_isShip hD hL h (d + 18) v Q
  unfold aTal at hQ
  rw [eX11_tale]
  simp +decide only [qX11_tale, lm hL, eS, bI_0, Classical.not_not, am_w1_i, am_w1_r, am_w1_x, am_w1_l, am_w1_w, va_rf_s, am_push_n, am_push_s, am_cs_0, am_cs_i, am_cs_l, am_cs_r, m_uI_K, m_uI_N, m_uI_R, m_uI_L, m_uI_I, m_uL_K, m_uL_N, m_uL_R, m_uL_I, m_uL_L, m_uR_K, m_uR_N, m_uR_I, m_uR_L, m_uR_R, true_and, and_true, true_implies, false_implies, not_true_eq_false, not_false_eq_true, if_true, if_false, false_and, and_false]
  by_cases hv : 0 ≤ v.toInt ∧ v.toInt < dN D
  · first | rw [br_p (hv)] | rw [br_r (hv)] | rw [br_s (hv)]
    obtain ⟨s, s1, s2, s3⟩ := sh_of (by omega) hv
    rw [s3] at hQ
    rw [s2]
    by_cases k0 : 0 ≤ r.toInt
    · rw [if_pos ⟨hv, k0⟩] at hQ
      have er : r = nI r.toInt.toNat := i32_of (by omega) (by have := Int32.toInt_lt r; omega)
      rw [er]
      refine m_taleOf hD hL h s1 (by have := Int32.toInt_lt r; omega) (d + 9) _ (fun M1 g1 => ?_)
      have h0 := hQ M1 g1
      simp +decide only [qX11_tale, am_w1_i, am_w1_r, am_w1_x, am_w1_l, am_w1_w, va_rf_s, am_push_n, am_push_s, am_cs_0, am_cs_i, am_cs_l, am_cs_r, m_uI_K, m_uI_N, m_uI_R, m_uI_L, m_uI_I, m_uL_K, m_uL_N, m_uL_R, m_uL_I, m_uL_L, m_uR_K, m_uR_N, m_uR_I, m_uR_L, m_uR_R, true_and, and_true, true_implies, false_implies, not_true_eq_false, not_false_eq_true, if_true, if_false, false_and, and_false]
      exact h0
    · have h0 := hQ M (gF_refl _ _ _)
      rw [if_neg (fun q => k0 q.2)] at h0
      have kl : r < 0 := by rw [lt32, z32]; omega
      rw [eX11_taleOf]
      simp +decide only [qX11_taleOf, am_w1_i, am_w1_r, am_w1_x, am_w1_l, am_w1_w, va_rf_s, am_push_n, am_push_s, am_cs_0, am_cs_i, am_cs_l, am_cs_r, m_uI_K, m_uI_N, m_uI_R, m_uI_L, m_uI_I, m_uL_K, m_uL_N, m_uL_R, m_uL_I, m_uL_L, m_uR_K, m_uR_N, m_uR_I, m_uR_L, m_uR_R, true_and, and_true, true_implies, false_implies, not_true_eq_false, not_false_eq_true, if_true, if_false, false_and, and_false]
      rw [hX11_taleOf_5]
      simp +decide only [qX11_taleOf, am_w1_i, am_w1_r, am_w1_x, am_w1_l, am_w1_w, va_rf_s, am_push_n, am_push_s, am_cs_0, am_cs_i, am_cs_l, am_cs_r, m_uI_K, m_uI_N, m_uI_R, m_uI_L, m_uI_I, m_uL_K, m_uL_N, m_uL_R, m_uL_I, m_uL_L, m_uR_K, m_uR_N, m_uR_I, m_uR_L, m_uR_R, true_and, and_true, true_implies, false_implies, not_true_eq_false, not_false_eq_true, if_true, if_false, false_and, and_false]
      first | rw [br_p (kl)] | rw [br_r (kl)] | rw [br_s (kl)]
      simp +decide only [qX11_tale, am_w1_i, am_w1_r, am_w1_x, am_w1_l, am_w1_w, va_rf_s, am_push_n, am_push_s, am_cs_0, am_cs_i, am_cs_l, am_cs_r, m_uI_K, m_uI_N, m_uI_R, m_uI_L, m_uI_I, m_uL_K, m_uL_N, m_uL_R, m_uL_I, m_uL_L, m_uR_K, m_uR_N, m_uR_I, m_uR_L, m_uR_R, true_and, and_true, true_implies, false_implies, not_true_eq_false, not_false_eq_true, if_true, if_false, false_and, and_false]
      exact h0
  · have h0 := hQ M (gF_refl _ _ _)
    rw [if_neg (fun q => hv q.1)] at h0
    first | rw [br_n (hv)] | rw [br_q (hv)] | rw [br_u (hv)]
    exact h0
theorem op_tale (v r : Int32) : OpI 123 268 [.int v, .int r] isI := op_q (fun D => ⟨_, rfl⟩) (x_tale v r) (m_tale v r)
/-! kinds -/
theorem l_x_plainest (d s : Nat) (D : Dat) (M : am_M) (Q : Option Value → am_M → Prop) (hQ : ∀ x, taQ D s 0 x → Q (some (.int x)) M) :
    ∀ (m k : Nat), k + m = 5 → (∀ j, j < k → ¬ kdP D s j) → am_P am_P0 d (am_look tX10_plainestOf) 2 [.int (kdI D s), .int (nI k)] [] M Q := by
  intro m
  induction m with
  | zero =>
    intro k hk hb
    have ek : k = 5 := by omega
    subst ek
    have h0 := hQ (-1) (Or.inr ⟨fun p hp hm => absurd hm (hb p hp), rfl⟩)
    rw [hX10_plainestOf_2]
    simp +decide only [qX10_plainestOf, show nI 5 = (5 : Int32) from rfl, am_w1_i, am_w1_r, am_w1_x, am_w1_l, am_w1_w, va_rf_s, am_push_n, am_push_s, am_cs_0, am_cs_i, am_cs_l, am_cs_r, m_uI_K, m_uI_N, m_uI_R, m_uI_L, m_uI_I, m_uL_K, m_uL_N, m_uL_R, m_uL_I, m_uL_L, m_uR_K, m_uR_N, m_uR_I, m_uR_L, m_uR_R, true_and, and_true, true_implies, false_implies, not_true_eq_false, not_false_eq_true, if_true, if_false, false_and, and_false]
    exact h0
  | succ m ih =>
    intro k hk hb
    have hlt : ¬ (5 : Int32) ≤ nI k := by rw [show (5 : Int32) = nI 5 from rfl, ni_le (by omega) (by omega)]; omega
    rw [hX10_plainestOf_2]
    simp +decide only [qX10_plainestOf, kd_bit (show k < 5 by omega), tI_0, ni_add1, am_w1_i, am_w1_r, am_w1_x, am_w1_l, am_w1_w, va_rf_s, am_push_n, am_push_s, am_cs_0, am_cs_i, am_cs_l, am_cs_r, m_uI_K, m_uI_N, m_uI_R, m_uI_L, m_uI_I, m_uL_K, m_uL_N, m_uL_R, m_uL_I, m_uL_L, m_uR_K, m_uR_N, m_uR_I, m_uR_L, m_uR_R, true_and, and_true, true_implies, false_implies, not_true_eq_false, not_false_eq_true, if_true, if_false, false_and, and_false]
    first | rw [br_n (hlt)] | rw [br_q (hlt)] | rw [br_u (hlt)]
    by_cases c : kdP D s k
    · have e0 : cnt (fun k => dB (kdP D s k)) k = 0 := cnt_stay (a := 0) (by omega) (fun t _ a2 q => hb t a2 (dB_t.mp q))
      have h0 := hQ _ (Or.inl ⟨k, by omega, c, e0, rfl⟩)
      first | rw [br_p (c)] | rw [br_r (c)] | rw [br_s (c)]
      exact h0
    · first | rw [br_n (c)] | rw [br_q (c)] | rw [br_u (c)]
      exact ih (k + 1) (by omega) (fun j hj => by
        by_cases e : j = k
        · subst e; exact c
        · exact hb j (by omega))
theorem x_plainest (d s : Nat) (D : Dat) (M : am_M) (Q : Option Value → am_M → Prop) : am_E am_P0 d 157 [.int (kdI D s)] M Q ↔ Q (some (.int (theI (taQ D s 0)))) M := by
  have key : ∃ x, taQ D s 0 x := by
    by_cases c : ∃ k, k < 5 ∧ kdP D s k ∧ cnt (fun k => dB (kdP D s k)) k = 0
    · obtain ⟨k, k1, k2, k3⟩ := c
      exact ⟨nI k, Or.inl ⟨k, k1, k2, k3, rfl⟩⟩
    · exact ⟨-1, Or.inr ⟨fun k k1 k2 k3 => c ⟨k, k1, k2, k3⟩, rfl⟩⟩
  obtain ⟨x, hx⟩ := key
  rw [the_e taQ_1 hx]
  refine am_Edet (d := d) ?_ d (Nat.le_refl _)
  have h0 := l_x_plainest d s D M (fun r' M' => r' = some (.int x) ∧ M' = M) (fun y hy => ⟨by rw [taQ_1 y x hy hx], rfl⟩) 5 0 (by omega) (fun j hj => by omega)
  rw [eX10_plainestOf]
  simp +decide only [qX10_plainestOf, am_w1_i, am_w1_r, am_w1_x, am_w1_l, am_w1_w, va_rf_s, am_push_n, am_push_s, am_cs_0, am_cs_i, am_cs_l, am_cs_r, m_uI_K, m_uI_N, m_uI_R, m_uI_L, m_uI_I, m_uL_K, m_uL_N, m_uL_R, m_uL_I, m_uL_L, m_uR_K, m_uR_N, m_uR_I, m_uR_L, m_uR_R, true_and, and_true, true_implies, false_implies, not_true_eq_false, not_false_eq_true, if_true, if_false, false_and, and_false]
  exact h0
noncomputable def kiN (D : Dat) (k : Int32) : Nat → Nat := cnt (fun s => dB (0 < (dY D s).length ∧ theI (taQ D s 0) = k))
noncomputable def aKin (k : Int32) (D : Dat) : Value := .int (if -1 ≤ k.toInt ∧ k.toInt < 5 then nI (kiN D k (dN D)) else -1)
theorem l_x_kinds (d z : Nat) (k : Int32) (D : Dat) (M0 : am_M) (Q : Option Value → am_M → Prop) (hD : dOK D) (hQ : ∀ M', zF (sXq z) M0 M' → XR M' z D → Q (some (.int (nI (kiN D k (dN D))))) M') :
    ∀ (m s : Nat), s + m = dN D → ∀ (M : am_M), zF (sXq z) M0 M → XR M z D → am_P am_P0 (d + 8) (am_look tX10_kinds) 16 [.ref 0, .int k, .int (nI (kiN D k s)), .int (nI s)] [] M Q := by
  have n8 := dN_8 hD
  intro m
  induction m with
  | zero =>
    intro s hs M hM h
    have hz := h.1.2.2.1
    have hL := h.1.1
    have hr := h.1.2.2.2.1
    have hle : nI (dN D) ≤ nI s := (ni_le (by omega) (by omega)).mpr (by omega)
    have h0 := hQ M hM h
    rw [hX10_kinds_16]
    simp +decide only [qX10_kinds, lx hL, lz hL hz, hr, (x_n h).1, am_w1_i, am_w1_r, am_w1_x, am_w1_l, am_w1_w, va_rf_s, am_push_n, am_push_s, am_cs_0, am_cs_i, am_cs_l, am_cs_r, m_uI_K, m_uI_N, m_uI_R, m_uI_L, m_uI_I, m_uL_K, m_uL_N, m_uL_R, m_uL_I, m_uL_L, m_uR_K, m_uR_N, m_uR_I, m_uR_L, m_uR_R, true_and, and_true, true_implies, false_implies, not_true_eq_false, not_false_eq_true, if_true, if_false, false_and, and_false]
    first | rw [br_p (hle)] | rw [br_r (hle)] | rw [br_s (hle)]
    rw [show s = dN D by omega]
    exact h0
  | succ m ih =>
    intro s hs M hM h
    have hz := h.1.2.2.1
    have hL := h.1.1
    have hr := h.1.2.2.2.1
    have hlt : ¬ nI (dN D) ≤ nI s := by rw [ni_le (by omega) (by omega)]; omega
    have h48 := dY_len hD s
    have hsh := lsh hL hz (s := s) (by omega)
    have hw_ := lw_ hL (isSh_z (z := z) (s := s) hz (by omega))
    have hc := (x_ship h (s := s) (by omega)).2.1.1
    rw [hX10_kinds_16]
    simp +decide (disch := omega) only [qX10_kinds, lx hL, lz hL hz, hr, (x_n h).1, hsh, hw_, hc, ni_in_t, ni_tn, ni_add1, am_w1_i, am_w1_r, am_w1_x, am_w1_l, am_w1_w, va_rf_s, am_push_n, am_push_s, am_cs_0, am_cs_i, am_cs_l, am_cs_r, m_uI_K, m_uI_N, m_uI_R, m_uI_L, m_uI_I, m_uL_K, m_uL_N, m_uL_R, m_uL_I, m_uL_L, m_uR_K, m_uR_N, m_uR_I, m_uR_L, m_uR_R, true_and, and_true, true_implies, false_implies, not_true_eq_false, not_false_eq_true, if_true, if_false, false_and, and_false]
    first | rw [br_n (hlt)] | rw [br_q (hlt)] | rw [br_u (hlt)]
    rw [ni_pos (by omega)]
    by_cases l0 : (dY D s).length = 0
    · have h0 := ih (s + 1) (by omega) M hM h
      rw [show kiN D k (s + 1) = kiN D k s from cnt_f (fun q => by have := (dB_t.mp q).1; omega)] at h0
      first | rw [br_p (l0)] | rw [br_r (l0)] | rw [br_s (l0)]
      exact h0
    · first | rw [br_n (l0)] | rw [br_q (l0)] | rw [br_u (l0)]
      refine x_kindsOf hD h (by omega) d _ (fun M1 f1 X1 => ?_)
      have ep := fun Q => x_plainest (d + 7) s D M1 Q
      have h0 := ih (s + 1) (by omega) M1 (zF_trans hM f1) X1
      simp +decide only [qX10_kinds, ep, ni_add1, Classical.not_not, am_w1_i, am_w1_r, am_w1_x, am_w1_l, am_w1_w, va_rf_s, am_push_n, am_push_s, am_cs_0, am_cs_i, am_cs_l, am_cs_r, m_uI_K, m_uI_N, m_uI_R, m_uI_L, m_uI_I, m_uL_K, m_uL_N, m_uL_R, m_uL_I, m_uL_L, m_uR_K, m_uR_N, m_uR_I, m_uR_L, m_uR_R, true_and, and_true, true_implies, false_implies, not_true_eq_false, not_false_eq_true, if_true, if_false, false_and, and_false]
      by_cases c : theI (taQ D s 0) = k
      · rw [show kiN D k (s + 1) = kiN D k s + 1 from cnt_t (dB_t.mpr ⟨by omega, c⟩)] at h0
        first | rw [br_p (c)] | rw [br_r (c)] | rw [br_s (c)]
        exact h0
      · rw [show kiN D k (s + 1) = kiN D k s from cnt_f (fun q => c (dB_t.mp q).2)] at h0
        first | rw [br_n (c)] | rw [br_q (c)] | rw [br_u (c)]
        exact h0
theorem x_kinds (k : Int32) : XqO 128 [.int k] (aKin k) := by
  intro d M z D Q hD h hQ
  have hL := h.1.1
  have e5 : (5 : Int32).toInt = 5 := rfl
  have em1 : (-1 : Int32).toInt = -1 := rfl
  unfold aKin at hQ
  rw [eX10_kinds]
  simp +decide only [qX10_kinds, Classical.not_not, am_w1_i, am_w1_r, am_w1_x, am_w1_l, am_w1_w, va_rf_s, am_push_n, am_push_s, am_cs_0, am_cs_i, am_cs_l, am_cs_r, m_uI_K, m_uI_N, m_uI_R, m_uI_L, m_uI_I, m_uL_K, m_uL_N, m_uL_R, m_uL_I, m_uL_L, m_uR_K, m_uR_N, m_uR_I, m_uR_L, m_uR_R, true_and, and_true, true_implies, false_implies, not_true_eq_false, not_false_eq_true, if_true, if_false, false_and, and_false]
  by_cases k0 : k < -1
  · have h0 := hQ M (XR_2 h) h
    rw [if_neg (fun q => by rw [lt32, em1] at k0; omega)] at h0
    first | rw [br_p (k0)] | rw [br_r (k0)] | rw [br_s (k0)]
    exact h0
  · first | rw [br_n (k0)] | rw [br_q (k0)] | rw [br_u (k0)]
    rw [lt32, em1] at k0
    by_cases k5 : k < 5
    · first | rw [br_p (k5)] | rw [br_r (k5)] | rw [br_s (k5)]
      rw [lt32, e5] at k5
      rw [if_pos ⟨by omega, by omega⟩] at hQ
      exact l_x_kinds (d + 12) z k D M Q hD hQ (dN D) 0 (by omega) M (XR_2 h) h
    · have h0 := hQ M (XR_2 h) h
      rw [if_neg (fun q => k5 (by rw [lt32, e5]; omega))] at h0
      first | rw [br_n (k5)] | rw [br_q (k5)] | rw [br_u (k5)]
      exact h0
theorem l_m_kinds (d b : Nat) (k : Int32) (D : Dat) (M0 : am_M) (Q : Option Value → am_M → Prop) (hD : dOK D) (hL0 : Lay M0) (h0' : MdM M0 b D) (hQ : ∀ M', gF sMq nT M0 M' → Q (some (.int (nI (kiN D k (dN D))))) M') :
    ∀ (m s : Nat), s + m = dN D → ∀ (M : am_M), gF sMq nT M0 M → am_P am_P0 (d + 11) (am_look tX11_kinds) 15 [.ref 277, .int k, .int (nI (kiN D k s)), .int (nI s)] [] M Q := by
  have n8 := dN_8 hD
  intro m
  induction m with
  | zero =>
    intro s hs M hM
    have hL := gF_LayN hM hL0
    have h := MdM_q h0' hM
    have hb2 := h.1.2
    have hle : nI (dN D) ≤ nI s := (ni_le (by omega) (by omega)).mpr (by omega)
    have h0 := hQ M hM
    rw [hX11_kinds_15]
    simp +decide (disch := omega) only [qX11_kinds, lm hL, h.1.1, h.2.2.2.1.1, ni_in_t, ni_tn, am_w1_i, am_w1_r, am_w1_x, am_w1_l, am_w1_w, va_rf_s, am_push_n, am_push_s, am_cs_0, am_cs_i, am_cs_l, am_cs_r, m_uI_K, m_uI_N, m_uI_R, m_uI_L, m_uI_I, m_uL_K, m_uL_N, m_uL_R, m_uL_I, m_uL_L, m_uR_K, m_uR_N, m_uR_I, m_uR_L, m_uR_R, true_and, and_true, true_implies, false_implies, not_true_eq_false, not_false_eq_true, if_true, if_false, false_and, and_false]
    first | rw [br_p (hle)] | rw [br_r (hle)] | rw [br_s (hle)]
    rw [show s = dN D by omega]
    exact h0
  | succ m ih =>
    intro s hs M hM
    have hL := gF_LayN hM hL0
    have h := MdM_q h0' hM
    have hb2 := h.1.2
    have hlt : ¬ nI (dN D) ≤ nI s := by rw [ni_le (by omega) (by omega)]; omega
    have h48 := dY_len hD s
    have hsay := fun Q => m_sayN hD hL h (s := s) (by omega) (d + 9) Q
    rw [hX11_kinds_15]
    simp +decide (disch := omega) only [qX11_kinds, lm hL, h.1.1, h.2.2.2.1.1, hsay, ni_in_t, ni_tn, ni_add1, am_w1_i, am_w1_r, am_w1_x, am_w1_l, am_w1_w, va_rf_s, am_push_n, am_push_s, am_cs_0, am_cs_i, am_cs_l, am_cs_r, m_uI_K, m_uI_N, m_uI_R, m_uI_L, m_uI_I, m_uL_K, m_uL_N, m_uL_R, m_uL_I, m_uL_L, m_uR_K, m_uR_N, m_uR_I, m_uR_L, m_uR_R, true_and, and_true, true_implies, false_implies, not_true_eq_false, not_false_eq_true, if_true, if_false, false_and, and_false]
    first | rw [br_n (hlt)] | rw [br_q (hlt)] | rw [br_u (hlt)]
    rw [ni_pos (by omega)]
    by_cases l0 : (dY D s).length = 0
    · have h0 := ih (s + 1) (by omega) M hM
      rw [show kiN D k (s + 1) = kiN D k s from cnt_f (fun q => by have := (dB_t.mp q).1; omega)] at h0
      first | rw [br_p (l0)] | rw [br_r (l0)] | rw [br_s (l0)]
      rw [show (0 : Int32) = nI 0 from rfl, ni_add]
      exact h0
    · first | rw [br_n (l0)] | rw [br_q (l0)] | rw [br_u (l0)]
      rw [show (0 : Int32) = nI 0 from rfl]
      refine m_taleOf hD hL h (by omega) (by omega) d _ (fun M1 g1 => ?_)
      have h0 := ih (s + 1) (by omega) M1 (gF_trans hM g1)
      simp +decide only [qX11_kinds, ni_add1, Classical.not_not, am_w1_i, am_w1_r, am_w1_x, am_w1_l, am_w1_w, va_rf_s, am_push_n, am_push_s, am_cs_0, am_cs_i, am_cs_l, am_cs_r, m_uI_K, m_uI_N, m_uI_R, m_uI_L, m_uI_I, m_uL_K, m_uL_N, m_uL_R, m_uL_I, m_uL_L, m_uR_K, m_uR_N, m_uR_I, m_uR_L, m_uR_R, true_and, and_true, true_implies, false_implies, not_true_eq_false, not_false_eq_true, if_true, if_false, false_and, and_false]
      by_cases c : theI (taQ D s 0) = k
      · rw [show kiN D k (s + 1) = kiN D k s + 1 from cnt_t (dB_t.mpr ⟨by omega, c⟩)] at h0
        first | rw [br_p (c)] | rw [br_r (c)] | rw [br_s (c)]
        exact h0
      · rw [show kiN D k (s + 1) = kiN D k s from cnt_f (fun q => c (dB_t.mp q).2)] at h0
        first | rw [br_n (c)] | rw [br_q (c)] | rw [br_u (c)]
        rw [show (0 : Int32) = nI 0 from rfl, ni_add]
        exact h0
theorem m_kinds (k : Int32) : MqO 274 [.int k] (aKin k) := by
  intro d M b D Q hD hL h hQ
  have e4 : (4 : Int32).toInt = 4 := rfl
  have em1 : (-1 : Int32).toInt = -1 := rfl
  unfold aKin at hQ
  rw [eX11_kinds]
  simp +decide only [qX11_kinds, c_m_is, bI_0, Classical.not_not, am_w1_i, am_w1_r, am_w1_x, am_w1_l, am_w1_w, va_rf_s, am_push_n, am_push_s, am_cs_0, am_cs_i, am_cs_l, am_cs_r, m_uI_K, m_uI_N, m_uI_R, m_uI_L, m_uI_I, m_uL_K, m_uL_N, m_uL_R, m_uL_I, m_uL_L, m_uR_K, m_uR_N, m_uR_I, m_uR_L, m_uR_R, true_and, and_true, true_implies, false_implies, not_true_eq_false, not_false_eq_true, if_true, if_false, false_and, and_false]
  by_cases k5 : -1 ≤ k ∧ k ≤ 4
  · first | rw [br_p (k5)] | rw [br_r (k5)] | rw [br_s (k5)]
    rw [le32, le32, em1, e4] at k5
    rw [if_pos ⟨by omega, by omega⟩] at hQ
    exact l_m_kinds (d + 9) b k D M Q hD hL h hQ (dN D) 0 (by omega) M (gF_refl _ _ _)
  · have h0 := hQ M (gF_refl _ _ _)
    rw [if_neg (fun q => k5 (by rw [le32, le32, em1, e4]; omega))] at h0
    first | rw [br_n (k5)] | rw [br_q (k5)] | rw [br_u (k5)]
    exact h0
theorem op_kinds (k : Int32) : OpI 128 274 [.int k] isI := op_q (fun D => ⟨_, rfl⟩) (x_kinds k) (m_kinds k)
/-! lies -/
noncomputable def liN (D : Dat) (s : Nat) : Nat := (dY D s).length - kcY (dWt D s) (dV D s) (dSn D s) (dBs D s) (dY D s)
noncomputable def aLie (D : Dat) : Value := .int (nI (sumF (liN D) (dN D)))
theorem l_x_lies (d z : Nat) (D : Dat) (M0 : am_M) (Q : Option Value → am_M → Prop) (hD : dOK D) (hQ : ∀ M', zF (sXq z) M0 M' → XR M' z D → Q (some (.int (nI (sumF (liN D) (dN D))))) M') :
    ∀ (m s : Nat), s + m = dN D → ∀ (M : am_M), zF (sXq z) M0 M → XR M z D → am_P am_P0 (d + 6) (am_look tX10_lies) 4 [.ref 0, .int (nI (sumF (liN D) s)), .int (nI s)] [] M Q := by
  have n8 := dN_8 hD
  intro m
  induction m with
  | zero =>
    intro s hs M hM h
    have hz := h.1.2.2.1
    have hL := h.1.1
    have hr := h.1.2.2.2.1
    have hle : nI (dN D) ≤ nI s := (ni_le (by omega) (by omega)).mpr (by omega)
    have h0 := hQ M hM h
    rw [hX10_lies_4]
    simp +decide only [qX10_lies, lx hL, lz hL hz, hr, (x_n h).1, am_w1_i, am_w1_r, am_w1_x, am_w1_l, am_w1_w, va_rf_s, am_push_n, am_push_s, am_cs_0, am_cs_i, am_cs_l, am_cs_r, m_uI_K, m_uI_N, m_uI_R, m_uI_L, m_uI_I, m_uL_K, m_uL_N, m_uL_R, m_uL_I, m_uL_L, m_uR_K, m_uR_N, m_uR_I, m_uR_L, m_uR_R, true_and, and_true, true_implies, false_implies, not_true_eq_false, not_false_eq_true, if_true, if_false, false_and, and_false]
    first | rw [br_p (hle)] | rw [br_r (hle)] | rw [br_s (hle)]
    rw [show s = dN D by omega]
    exact h0
  | succ m ih =>
    intro s hs M hM h
    have hz := h.1.2.2.1
    have hL := h.1.1
    have hr := h.1.2.2.2.1
    have hlt : ¬ nI (dN D) ≤ nI s := by rw [ni_le (by omega) (by omega)]; omega
    have hsh := lsh hL hz (s := s) (by omega)
    have hw_ := lw_ hL (isSh_z (z := z) (s := s) hz (by omega))
    have hc := (x_ship h (s := s) (by omega)).2.1.1
    rw [hX10_lies_4]
    simp +decide (disch := omega) only [qX10_lies, lx hL, lz hL hz, hr, (x_n h).1, hsh, hw_, hc, ni_in_t, ni_tn, am_w1_i, am_w1_r, am_w1_x, am_w1_l, am_w1_w, va_rf_s, am_push_n, am_push_s, am_cs_0, am_cs_i, am_cs_l, am_cs_r, m_uI_K, m_uI_N, m_uI_R, m_uI_L, m_uI_I, m_uL_K, m_uL_N, m_uL_R, m_uL_I, m_uL_L, m_uR_K, m_uR_N, m_uR_I, m_uR_L, m_uR_R, true_and, and_true, true_implies, false_implies, not_true_eq_false, not_false_eq_true, if_true, if_false, false_and, and_false]
    first | rw [br_n (hlt)] | rw [br_q (hlt)] | rw [br_u (hlt)]
    refine x_settled hD h d (by omega) _ (fun M1 f1 X1 _ S1 => ?_)
    have h0 := ih (s + 1) (by omega) M1 (zF_trans hM f1) X1
    have ht := lt_ X1.1.1 (isTr_of (show s < 8 by omega))
    simp +decide only [qX10_lies, ht, S1.2.2.1, ni_sub kc_le, ni_add, ni_add1, am_w1_i, am_w1_r, am_w1_x, am_w1_l, am_w1_w, va_rf_s, am_push_n, am_push_s, am_cs_0, am_cs_i, am_cs_l, am_cs_r, m_uI_K, m_uI_N, m_uI_R, m_uI_L, m_uI_I, m_uL_K, m_uL_N, m_uL_R, m_uL_I, m_uL_L, m_uR_K, m_uR_N, m_uR_I, m_uR_L, m_uR_R, true_and, and_true, true_implies, false_implies, not_true_eq_false, not_false_eq_true, if_true, if_false, false_and, and_false]
    exact h0
theorem x_lies : XqO 129 [] aLie := by
  intro d M z D Q hD h hQ
  have h0 := l_x_lies (d + 14) z D M Q hD hQ (dN D) 0 (by omega) M (XR_2 h) h
  rw [eX10_lies]
  simp +decide only [qX10_lies, am_w1_i, am_w1_r, am_w1_x, am_w1_l, am_w1_w, va_rf_s, am_push_n, am_push_s, am_cs_0, am_cs_i, am_cs_l, am_cs_r, m_uI_K, m_uI_N, m_uI_R, m_uI_L, m_uI_I, m_uL_K, m_uL_N, m_uL_R, m_uL_I, m_uL_L, m_uR_K, m_uR_N, m_uR_I, m_uR_L, m_uR_R, true_and, and_true, true_implies, false_implies, not_true_eq_false, not_false_eq_true, if_true, if_false, false_and, and_false]
  exact h0
theorem m_liesOf {M : am_M} {b s : Nat} {D : Dat} (hD : dOK D) (hL : Lay M) (h : MdM M b D) (hs : s < dN D) (d : Nat) (Q : Option Value → am_M → Prop) (hQ : ∀ M', gF sMq nT M M' → Q (some (.int (nI (liN D s)))) M') : am_E am_P0 (d + 7) 275 [.ref 277, .int (nI s)] M Q := by
  rw [eX11_liesOf]
  simp +decide only [qX11_liesOf, lm hL, am_w1_i, am_w1_r, am_w1_x, am_w1_l, am_w1_w, va_rf_s, am_push_n, am_push_s, am_cs_0, am_cs_i, am_cs_l, am_cs_r, m_uI_K, m_uI_N, m_uI_R, m_uI_L, m_uI_I, m_uL_K, m_uL_N, m_uL_R, m_uL_I, m_uL_L, m_uR_K, m_uR_N, m_uR_I, m_uR_L, m_uR_R, true_and, and_true, true_implies, false_implies, not_true_eq_false, not_false_eq_true, if_true, if_false, false_and, and_false]
  refine m_keeps hD hL h hs d _ (fun M1 g1 k1 => ?_)
  have h0 := hQ M1 g1
  have L1 := gF_LayN g1 hL
  simp +decide only [qX11_liesOf, lm L1, (KpM_kc k1).1, (KpM_kc k1).2, ni_sub kc_le, am_w1_i, am_w1_r, am_w1_x, am_w1_l, am_w1_w, va_rf_s, am_push_n, am_push_s, am_cs_0, am_cs_i, am_cs_l, am_cs_r, m_uI_K, m_uI_N, m_uI_R, m_uI_L, m_uI_I, m_uL_K, m_uL_N, m_uL_R, m_uL_I, m_uL_L, m_uR_K, m_uR_N, m_uR_I, m_uR_L, m_uR_R, true_and, and_true, true_implies, false_implies, not_true_eq_false, not_false_eq_true, if_true, if_false, false_and, and_false]
  exact h0
theorem l_m_lies (d b : Nat) (D : Dat) (M0 : am_M) (Q : Option Value → am_M → Prop) (hD : dOK D) (hL0 : Lay M0) (h0' : MdM M0 b D) (hQ : ∀ M', gF sMq nT M0 M' → Q (some (.int (nI (sumF (liN D) (dN D))))) M') :
    ∀ (m s : Nat), s + m = dN D → ∀ (M : am_M), gF sMq nT M0 M → am_P am_P0 (d + 8) (am_look tX11_lies) 4 [.ref 277, .int (nI (sumF (liN D) s)), .int (nI s)] [] M Q := by
  have n8 := dN_8 hD
  intro m
  induction m with
  | zero =>
    intro s hs M hM
    have hL := gF_LayN hM hL0
    have h := MdM_q h0' hM
    have hb2 := h.1.2
    have hle : nI (dN D) ≤ nI s := (ni_le (by omega) (by omega)).mpr (by omega)
    have h0 := hQ M hM
    rw [hX11_lies_4]
    simp +decide (disch := omega) only [qX11_lies, lm hL, h.1.1, h.2.2.2.1.1, ni_in_t, ni_tn, am_w1_i, am_w1_r, am_w1_x, am_w1_l, am_w1_w, va_rf_s, am_push_n, am_push_s, am_cs_0, am_cs_i, am_cs_l, am_cs_r, m_uI_K, m_uI_N, m_uI_R, m_uI_L, m_uI_I, m_uL_K, m_uL_N, m_uL_R, m_uL_I, m_uL_L, m_uR_K, m_uR_N, m_uR_I, m_uR_L, m_uR_R, true_and, and_true, true_implies, false_implies, not_true_eq_false, not_false_eq_true, if_true, if_false, false_and, and_false]
    first | rw [br_p (hle)] | rw [br_r (hle)] | rw [br_s (hle)]
    rw [show s = dN D by omega]
    exact h0
  | succ m ih =>
    intro s hs M hM
    have hL := gF_LayN hM hL0
    have h := MdM_q h0' hM
    have hb2 := h.1.2
    have hlt : ¬ nI (dN D) ≤ nI s := by rw [ni_le (by omega) (by omega)]; omega
    rw [hX11_lies_4]
    simp +decide (disch := omega) only [qX11_lies, lm hL, h.1.1, h.2.2.2.1.1, ni_in_t, ni_tn, am_w1_i, am_w1_r, am_w1_x, am_w1_l, am_w1_w, va_rf_s, am_push_n, am_push_s, am_cs_0, am_cs_i, am_cs_l, am_cs_r, m_uI_K, m_uI_N, m_uI_R, m_uI_L, m_uI_I, m_uL_K, m_uL_N, m_uL_R, m_uL_I, m_uL_L, m_uR_K, m_uR_N, m_uR_I, m_uR_L, m_uR_R, true_and, and_true, true_implies, false_implies, not_true_eq_false, not_false_eq_true, if_true, if_false, false_and, and_false]
    first | rw [br_n (hlt)] | rw [br_q (hlt)] | rw [br_u (hlt)]
    refine m_liesOf hD hL h (by omega) d _ (fun M1 g1 => ?_)
    have h0 := ih (s + 1) (by omega) M1 (gF_trans hM g1)
    simp +decide only [qX11_lies, ni_add, ni_add1, am_w1_i, am_w1_r, am_w1_x, am_w1_l, am_w1_w, va_rf_s, am_push_n, am_push_s, am_cs_0, am_cs_i, am_cs_l, am_cs_r, m_uI_K, m_uI_N, m_uI_R, m_uI_L, m_uI_I, m_uL_K, m_uL_N, m_uL_R, m_uL_I, m_uL_L, m_uR_K, m_uR_N, m_uR_I, m_uR_L, m_uR_R, true_and, and_true, true_implies, false_implies, not_true_eq_false, not_false_eq_true, if_true, if_false, false_and, and_false]
    exact h0
theorem m_lies : MqO 276 [] aLie := by
  intro d M b D Q hD hL h hQ
  have h0 := l_m_lies (d + 12) b D M Q hD hL h hQ (dN D) 0 (by omega) M (gF_refl _ _ _)
  rw [eX11_lies]
  simp +decide only [qX11_lies, am_w1_i, am_w1_r, am_w1_x, am_w1_l, am_w1_w, va_rf_s, am_push_n, am_push_s, am_cs_0, am_cs_i, am_cs_l, am_cs_r, m_uI_K, m_uI_N, m_uI_R, m_uI_L, m_uI_I, m_uL_K, m_uL_N, m_uL_R, m_uL_I, m_uL_L, m_uR_K, m_uR_N, m_uR_I, m_uR_L, m_uR_R, true_and, and_true, true_implies, false_implies, not_true_eq_false, not_false_eq_true, if_true, if_false, false_and, and_false]
  exact h0
theorem op_lies : OpI 129 276 [] isI := op_q (fun D => ⟨_, rfl⟩) x_lies m_lies
