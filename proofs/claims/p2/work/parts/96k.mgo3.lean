/-! the model's formulas: goesOn -/
section
variable {T : Nat → Nat} {n : Nat}
theorem m_goesOn (d z a c : Nat) (t : Tok) (k ph : Nat) (bg : Bool) (pr : Nat) (os : List Nat) (F : List Frm) (vs : List Den) (M : am_M) (Q : Option Value → am_M → Prop) (hL : Lay M) (hR : RdM M T n t) (hP : PzM M z a c ((k, ph, bg, pr, os) :: F) vs) (hty : tyS ((k, ph, bg, pr, os) :: F) vs true) (hF : F.length ≤ 8) (hb : sumO F + os.length ≤ 495) (hc : c + sumO ((k, ph, bg, pr, os) :: F) + nPr ((k, ph, bg, pr, os) :: F) ≤ tS t) (hfl : mI M 277 51 = 1)
    (hQ : ∀ M' x, gF (sFm z a) nT M M' → RsM T n M' z a (mGo T n t k ph bg pr os F vs) → gX M' (mGo T n t k ph bg pr os F vs) x → Q (some (.int x)) M') : am_E am_P0 (d + 3) 191 [.ref 277] M Q := by
  obtain ⟨hten, hk, hbf, hkF, hp2⟩ := ty_ten hty
  have hP0 := hP
  obtain ⟨p1, p2, ⟨f1, f2, f3, f4, f5, f6, f7⟩, p4, p5, p6⟩ := hP
  have hts := fun Q => m_isTest (d + 2) k M Q hk
  dsimp only at f1 f2 f3
  have p4' : mI M 277 47 = nI (F.length + 1) := p4
  obtain ⟨w1, w2, w3, w4, w5, w6, w7, w8, w9, w10⟩ := m_words (d + 2) t M hL hR
  obtain ⟨s43, s45, s42, s47, s37, s60, s62, s61, s44, s93, s41⟩ := m_sgs (d + 2) t M hL hR
  have hle2 : (2 : Int32) ≤ nI ph ↔ 2 ≤ ph := by rw [show (2 : Int32) = nI 2 from rfl, ni_le (by omega) (by omega)]
  have ez : nI ph = 0 ↔ ph = 0 := ni_eq (a := ph) (b := 0) (by omega) (by omega)
  have hk2 : (2 : Int32) ≤ nI k ↔ 2 ≤ k := by rw [show (2 : Int32) = nI 2 from rfl, ni_le (by omega) (by omega)]
  have ek : ∀ x, x ≤ 5 → (nI k = nI x ↔ k = x) := fun x hx => ni_eq (by omega) (by omega)
  have ek3 := ek 3 (by omega)
  have ek5 := ek 5 (by omega)
  rw [show nI 3 = (3 : Int32) from rfl] at ek3
  rw [show nI 5 = (5 : Int32) from rfl] at ek5
  rw [eX11_goesOn]
  -- the fault that is blamed here
  have hfm := FtM_0 (k := 1) hR (by omega)
  have hpos := FtM_pos hfm.1
  have hbl := fun Q => m_blame (T := T) (n := n) (d + 2) 1 t M Q hL hR
  rw [show nI 1 = (1 : Int32) from rfl] at hbl hfm hpos
  obtain ⟨Mf, hMf⟩ : ∃ Mf, Mf = uI (uI M 277 8 1) 277 9 (nI (tS t)) := ⟨_, rfl⟩
  rw [← hMf] at hbl hfm hpos
  have Lf : Lay Mf := gF_LayN hfm.2 hL
  have hft : mGo T n t k ph bg pr os F vs = .inl (1, tS t) → Q (some (.int 0)) Mf := fun e => by
    rw [e] at hQ
    exact hQ Mf 0 (sRm_F hfm.2) hfm.1 (fun s' b q => by cases q)
  have hte : 1 ≤ os.length + 1 := by omega
  -- arithmetic signs
  by_cases c1 : ph < 2 ∧ ¬ addOp t = 0
  · have em : mGo T n t k ph bg pr os F vs = mAdv T n t (fun t1 => (t1, (k, ph, bg, pr, addOp t :: (jns 5 os vs).1) :: F, (jns 5 os vs).2, false)) := by unfold mGo; rw [if_pos c1]
    rw [em] at hQ
    have hj := (ty_j5 (l := 5) (by omega) c1.1 hty).1
    have n2 : ¬ (2 : Int32) ≤ nI ph := by rw [hle2]; omega
    by_cases a1 : isS t 43 = true
    · have ea : addOp t = 10 := by unfold addOp; rw [if_pos a1]
      rw [ea] at hQ
      have hA := m_goA d z a c 5 10 t k ph bg pr os F vs M Q hL hR (isS_n0 a1) hP0 hF hb hc hten (by omega) (by omega) hj (fun M' L' R' h => by
        obtain ⟨v43, v45, -⟩ := m_sgs (d + 2) t M' L' R'
        simp +decide only [Lg, qX11_goesOn_0, qX11_goesOn_1, qX11_goesOn_2, qX11_goesOn_3, qX11_goesOn_4, qX11_goesOn_5, qX11_goesOn_6, qX11_goesOn_7, lm L', v43, a1, b01, show nI 10 = (10 : Int32) from rfl, am_w1_i, am_w1_r, am_w1_x, am_w1_l, am_w1_w, va_rf_s, am_push_n, am_push_s, am_cs_0, am_cs_i, am_cs_l, am_cs_r, m_uI_K, m_uI_N, m_uI_R, m_uI_L, m_uI_I, m_uL_K, m_uL_N, m_uL_R, m_uL_I, m_uL_L, m_uR_K, m_uR_N, m_uR_I, m_uR_L, m_uR_R, true_and, and_true, true_implies, false_implies, not_true_eq_false, not_false_eq_true, if_true, if_false, false_and, and_false] at h ⊢
        exact h) hQ
      simp +decide (disch := omega) only [Lg, qX11_goesOn_0, qX11_goesOn_1, qX11_goesOn_2, qX11_goesOn_3, qX11_goesOn_4, qX11_goesOn_5, qX11_goesOn_6, qX11_goesOn_7, lm hL, p4', ni_sub1, ni_in_t, ni_tn, f1, f2, hts, s43, a1, b01, show nI 5 = (5 : Int32) from rfl, am_w1_i, am_w1_r, am_w1_x, am_w1_l, am_w1_w, va_rf_s, am_push_n, am_push_s, am_cs_0, am_cs_i, am_cs_l, am_cs_r, m_uI_K, m_uI_N, m_uI_R, m_uI_L, m_uI_I, m_uL_K, m_uL_N, m_uL_R, m_uL_I, m_uL_L, m_uR_K, m_uR_N, m_uR_I, m_uR_L, m_uR_R, true_and, and_true, true_implies, false_implies, not_true_eq_false, not_false_eq_true, if_true, if_false, false_and, and_false] at hA ⊢
      rw [br_n n2]
      exact hA
    · have a1' : isS t 43 = false := by simpa using a1
      have a2 : isS t 45 = true := by
        rcases add_s c1.2 with ⟨q1, q2⟩
        rcases q2 with q2 | q2
        · exact absurd (by unfold isS; rw [q1, q2]; rfl) a1
        · unfold isS; rw [q1, q2]; rfl
      have ea : addOp t = 11 := by unfold addOp; rw [if_neg a1, if_pos a2]
      rw [ea] at hQ
      have hA := m_goA d z a c 5 11 t k ph bg pr os F vs M Q hL hR (isS_n0 a2) hP0 hF hb hc hten (by omega) (by omega) hj (fun M' L' R' h => by
        obtain ⟨v43, v45, -⟩ := m_sgs (d + 2) t M' L' R'
        simp +decide only [Lg, qX11_goesOn_0, qX11_goesOn_1, qX11_goesOn_2, qX11_goesOn_3, qX11_goesOn_4, qX11_goesOn_5, qX11_goesOn_6, qX11_goesOn_7, lm L', v43, a1', v45, a2, b01, show nI 11 = (11 : Int32) from rfl, am_w1_i, am_w1_r, am_w1_x, am_w1_l, am_w1_w, va_rf_s, am_push_n, am_push_s, am_cs_0, am_cs_i, am_cs_l, am_cs_r, m_uI_K, m_uI_N, m_uI_R, m_uI_L, m_uI_I, m_uL_K, m_uL_N, m_uL_R, m_uL_I, m_uL_L, m_uR_K, m_uR_N, m_uR_I, m_uR_L, m_uR_R, true_and, and_true, true_implies, false_implies, not_true_eq_false, not_false_eq_true, if_true, if_false, false_and, and_false] at h ⊢
        exact h) hQ
      simp +decide (disch := omega) only [Lg, qX11_goesOn_0, qX11_goesOn_1, qX11_goesOn_2, qX11_goesOn_3, qX11_goesOn_4, qX11_goesOn_5, qX11_goesOn_6, qX11_goesOn_7, lm hL, p4', ni_sub1, ni_in_t, ni_tn, f1, f2, hts, s43, a1', s45, a2, b01, show nI 5 = (5 : Int32) from rfl, am_w1_i, am_w1_r, am_w1_x, am_w1_l, am_w1_w, va_rf_s, am_push_n, am_push_s, am_cs_0, am_cs_i, am_cs_l, am_cs_r, m_uI_K, m_uI_N, m_uI_R, m_uI_L, m_uI_I, m_uL_K, m_uL_N, m_uL_R, m_uL_I, m_uL_L, m_uR_K, m_uR_N, m_uR_I, m_uR_L, m_uR_R, true_and, and_true, true_implies, false_implies, not_true_eq_false, not_false_eq_true, if_true, if_false, false_and, and_false] at hA ⊢
      rw [br_n n2]
      exact hA
  by_cases c2 : ph < 2 ∧ ¬ mulOp t = 0
  · have em : mGo T n t k ph bg pr os F vs = mAdv T n t (fun t1 => (t1, (k, ph, bg, pr, mulOp t :: (jns 6 os vs).1) :: F, (jns 6 os vs).2, false)) := by unfold mGo; rw [if_neg c1, if_pos c2]
    rw [em] at hQ
    have hj := (ty_j5 (l := 6) (by omega) c2.1 hty).1
    have n2 : ¬ (2 : Int32) ≤ nI ph := by rw [hle2]; omega
    have hm3 := (mul_s c2.2).1
    have a1 : isS t 43 = false := isS_0 (fun _ q => by rcases (mul_s c2.2).2 with h | h | h <;> omega)
    have a2 : isS t 45 = false := isS_0 (fun _ q => by rcases (mul_s c2.2).2 with h | h | h <;> omega)
    have go : ∀ (op : Nat), mulOp t = op → op ≤ 22 → (∀ M', Lay M' → RdM M' T n t → am_P am_P0 (d + 3) (am_look tX11_goesOn) 161 (Lg F k am_x) [.int (nI op), .ref 277] M' Q → am_P am_P0 (d + 3) (am_look tX11_goesOn) 102 (Lg F k am_x) [] M' Q) → am_P am_P0 (d + 3) (am_look tX11_goesOn) 99 (Lg F k am_x) [.int (nI 6), .ref 277] M Q := fun op eo ho hs => by
      rw [eo] at hQ
      exact m_goA d z a c 6 op t k ph bg pr os F vs M Q hL hR (by omega) hP0 hF hb hc hten (by omega) ho hj hs hQ
    by_cases b1 : isS t 42 = true
    · have hA := go 12 (by unfold mulOp; rw [if_pos b1]) (by omega) (fun M' L' R' h => by
        obtain ⟨v43, v45, v42, -⟩ := m_sgs (d + 2) t M' L' R'
        simp +decide only [Lg, qX11_goesOn_0, qX11_goesOn_1, qX11_goesOn_2, qX11_goesOn_3, qX11_goesOn_4, qX11_goesOn_5, qX11_goesOn_6, qX11_goesOn_7, lm L', v43, a1, v45, a2, v42, b1, b01, show nI 12 = (12 : Int32) from rfl, am_w1_i, am_w1_r, am_w1_x, am_w1_l, am_w1_w, va_rf_s, am_push_n, am_push_s, am_cs_0, am_cs_i, am_cs_l, am_cs_r, m_uI_K, m_uI_N, m_uI_R, m_uI_L, m_uI_I, m_uL_K, m_uL_N, m_uL_R, m_uL_I, m_uL_L, m_uR_K, m_uR_N, m_uR_I, m_uR_L, m_uR_R, true_and, and_true, true_implies, false_implies, not_true_eq_false, not_false_eq_true, if_true, if_false, false_and, and_false] at h ⊢
        exact h)
      simp +decide (disch := omega) only [Lg, qX11_goesOn_0, qX11_goesOn_1, qX11_goesOn_2, qX11_goesOn_3, qX11_goesOn_4, qX11_goesOn_5, qX11_goesOn_6, qX11_goesOn_7, lm hL, p4', ni_sub1, ni_in_t, ni_tn, f1, f2, hts, s43, a1, s45, a2, s42, b1, b01, show nI 6 = (6 : Int32) from rfl, am_w1_i, am_w1_r, am_w1_x, am_w1_l, am_w1_w, va_rf_s, am_push_n, am_push_s, am_cs_0, am_cs_i, am_cs_l, am_cs_r, m_uI_K, m_uI_N, m_uI_R, m_uI_L, m_uI_I, m_uL_K, m_uL_N, m_uL_R, m_uL_I, m_uL_L, m_uR_K, m_uR_N, m_uR_I, m_uR_L, m_uR_R, true_and, and_true, true_implies, false_implies, not_true_eq_false, not_false_eq_true, if_true, if_false, false_and, and_false] at hA ⊢
      rw [br_n n2]
      exact hA
    have b1' : isS t 42 = false := by simpa using b1
    by_cases b2 : isS t 47 = true
    · have hA := go 13 (by unfold mulOp; rw [if_neg b1, if_pos b2]) (by omega) (fun M' L' R' h => by
        obtain ⟨v43, v45, v42, v47, -⟩ := m_sgs (d + 2) t M' L' R'
        simp +decide only [Lg, qX11_goesOn_0, qX11_goesOn_1, qX11_goesOn_2, qX11_goesOn_3, qX11_goesOn_4, qX11_goesOn_5, qX11_goesOn_6, qX11_goesOn_7, lm L', v43, a1, v45, a2, v42, b1', v47, b2, b01, show nI 13 = (13 : Int32) from rfl, am_w1_i, am_w1_r, am_w1_x, am_w1_l, am_w1_w, va_rf_s, am_push_n, am_push_s, am_cs_0, am_cs_i, am_cs_l, am_cs_r, m_uI_K, m_uI_N, m_uI_R, m_uI_L, m_uI_I, m_uL_K, m_uL_N, m_uL_R, m_uL_I, m_uL_L, m_uR_K, m_uR_N, m_uR_I, m_uR_L, m_uR_R, true_and, and_true, true_implies, false_implies, not_true_eq_false, not_false_eq_true, if_true, if_false, false_and, and_false] at h ⊢
        exact h)
      simp +decide (disch := omega) only [Lg, qX11_goesOn_0, qX11_goesOn_1, qX11_goesOn_2, qX11_goesOn_3, qX11_goesOn_4, qX11_goesOn_5, qX11_goesOn_6, qX11_goesOn_7, lm hL, p4', ni_sub1, ni_in_t, ni_tn, f1, f2, hts, s43, a1, s45, a2, s42, b1', s47, b2, b01, show nI 6 = (6 : Int32) from rfl, am_w1_i, am_w1_r, am_w1_x, am_w1_l, am_w1_w, va_rf_s, am_push_n, am_push_s, am_cs_0, am_cs_i, am_cs_l, am_cs_r, m_uI_K, m_uI_N, m_uI_R, m_uI_L, m_uI_I, m_uL_K, m_uL_N, m_uL_R, m_uL_I, m_uL_L, m_uR_K, m_uR_N, m_uR_I, m_uR_L, m_uR_R, true_and, and_true, true_implies, false_implies, not_true_eq_false, not_false_eq_true, if_true, if_false, false_and, and_false] at hA ⊢
      rw [br_n n2]
      exact hA
    have b2' : isS t 47 = false := by simpa using b2
    have b3 : isS t 37 = true := by
      have c2' := c2.2
      unfold mulOp at c2'
      rw [if_neg b1, if_neg b2] at c2'
      cases h : isS t 37 with
      | true => rfl
      | false => rw [h] at c2'; exact absurd rfl c2'
    have hA := go 14 (by unfold mulOp; rw [if_neg b1, if_neg b2, if_pos b3]) (by omega) (fun M' L' R' h => by
      obtain ⟨v43, v45, v42, v47, -⟩ := m_sgs (d + 2) t M' L' R'
      simp +decide only [Lg, qX11_goesOn_0, qX11_goesOn_1, qX11_goesOn_2, qX11_goesOn_3, qX11_goesOn_4, qX11_goesOn_5, qX11_goesOn_6, qX11_goesOn_7, lm L', v43, a1, v45, a2, v42, b1', v47, b2', b01, show nI 14 = (14 : Int32) from rfl, am_w1_i, am_w1_r, am_w1_x, am_w1_l, am_w1_w, va_rf_s, am_push_n, am_push_s, am_cs_0, am_cs_i, am_cs_l, am_cs_r, m_uI_K, m_uI_N, m_uI_R, m_uI_L, m_uI_I, m_uL_K, m_uL_N, m_uL_R, m_uL_I, m_uL_L, m_uR_K, m_uR_N, m_uR_I, m_uR_L, m_uR_R, true_and, and_true, true_implies, false_implies, not_true_eq_false, not_false_eq_true, if_true, if_false, false_and, and_false] at h ⊢
      exact h)
    simp +decide (disch := omega) only [Lg, qX11_goesOn_0, qX11_goesOn_1, qX11_goesOn_2, qX11_goesOn_3, qX11_goesOn_4, qX11_goesOn_5, qX11_goesOn_6, qX11_goesOn_7, lm hL, p4', ni_sub1, ni_in_t, ni_tn, f1, f2, hts, s43, a1, s45, a2, s42, b1', s47, b2', s37, b3, b01, show nI 6 = (6 : Int32) from rfl, am_w1_i, am_w1_r, am_w1_x, am_w1_l, am_w1_w, va_rf_s, am_push_n, am_push_s, am_cs_0, am_cs_i, am_cs_l, am_cs_r, m_uI_K, m_uI_N, m_uI_R, m_uI_L, m_uI_I, m_uL_K, m_uL_N, m_uL_R, m_uL_I, m_uL_L, m_uR_K, m_uR_N, m_uR_I, m_uR_L, m_uR_R, true_and, and_true, true_implies, false_implies, not_true_eq_false, not_false_eq_true, if_true, if_false, false_and, and_false] at hA ⊢
    rw [br_n n2]
    exact hA
  -- behind the arithmetic
  suffices at175 : am_P am_P0 (d + 3) (am_look tX11_goesOn) 175 (Lg F k am_x) [] M Q by
    by_cases cp : 2 ≤ ph
    · simp +decide (disch := omega) only [Lg, qX11_goesOn_0, qX11_goesOn_1, qX11_goesOn_2, qX11_goesOn_3, qX11_goesOn_4, qX11_goesOn_5, qX11_goesOn_6, qX11_goesOn_7, lm hL, p4', ni_sub1, ni_in_t, ni_tn, f1, f2, hts, am_w1_i, am_w1_r, am_w1_x, am_w1_l, am_w1_w, va_rf_s, am_push_n, am_push_s, am_cs_0, am_cs_i, am_cs_l, am_cs_r, m_uI_K, m_uI_N, m_uI_R, m_uI_L, m_uI_I, m_uL_K, m_uL_N, m_uL_R, m_uL_I, m_uL_L, m_uR_K, m_uR_N, m_uR_I, m_uR_L, m_uR_R, true_and, and_true, true_implies, false_implies, not_true_eq_false, not_false_eq_true, if_true, if_false, false_and, and_false] at at175 ⊢
      rw [br_p (hle2.mpr cp)]
      exact at175
    · have n2 : ¬ (2 : Int32) ≤ nI ph := by rw [hle2]; omega
      have ha : addOp t = 0 := by by_cases q : addOp t = 0; exact q; exact absurd ⟨by omega, q⟩ c1
      have hm : mulOp t = 0 := by by_cases q : mulOp t = 0; exact q; exact absurd ⟨by omega, q⟩ c2
      have a1 : isS t 43 = false := by
        cases h : isS t 43 with
        | false => rfl
        | true => unfold addOp at ha; rw [if_pos h] at ha; cases ha
      have a2 : isS t 45 = false := by
        cases h : isS t 45 with
        | false => rfl
        | true => unfold addOp at ha; rw [a1, if_neg (by decide), if_pos h] at ha; cases ha
      have b1 : isS t 42 = false := by
        cases h : isS t 42 with
        | false => rfl
        | true => unfold mulOp at hm; rw [if_pos h] at hm; cases hm
      have b2 : isS t 47 = false := by
        cases h : isS t 47 with
        | false => rfl
        | true => unfold mulOp at hm; rw [b1, if_neg (by decide), if_pos h] at hm; cases hm
      have b3 : isS t 37 = false := by
        cases h : isS t 37 with
        | false => rfl
        | true => unfold mulOp at hm; rw [b1, b2, if_neg (by decide), if_neg (by decide), if_pos h] at hm; cases hm
      simp +decide (disch := omega) only [Lg, qX11_goesOn_0, qX11_goesOn_1, qX11_goesOn_2, qX11_goesOn_3, qX11_goesOn_4, qX11_goesOn_5, qX11_goesOn_6, qX11_goesOn_7, lm hL, p4', ni_sub1, ni_in_t, ni_tn, f1, f2, hts, s43, a1, s45, a2, s42, b1, s47, b2, s37, b3, b01, am_w1_i, am_w1_r, am_w1_x, am_w1_l, am_w1_w, va_rf_s, am_push_n, am_push_s, am_cs_0, am_cs_i, am_cs_l, am_cs_r, m_uI_K, m_uI_N, m_uI_R, m_uI_L, m_uI_I, m_uL_K, m_uL_N, m_uL_R, m_uL_I, m_uL_L, m_uR_K, m_uR_N, m_uR_I, m_uR_L, m_uR_R, true_and, and_true, true_implies, false_implies, not_true_eq_false, not_false_eq_true, if_true, if_false, false_and, and_false] at at175 ⊢
      rw [br_n n2]
      exact at175
  -- a comparing sign
  by_cases c3 : isTs k = true ∧ ph = 0 ∧ ¬ cmpOp t = 0
  · have em : mGo T n t k ph bg pr os F vs = mAdv T n t (fun t1 => (t1, (k, 1, bg, pr, cmpOp t :: (jns 5 os vs).1) :: F, (jns 5 os vs).2, false)) := by unfold mGo; rw [if_neg c1, if_neg c2, if_pos c3]
    rw [em] at hQ
    obtain ⟨ct, cp, cc⟩ := c3
    have hj := (ty_j5 (l := 5) (by omega) (by omega) hty).1
    have ht3 := (cmp_s cc).1
    have f2' : mI M 307 F.length = 0 := by rw [f2, cp]; rfl
    have go : ∀ (op : Nat), cmpOp t = op → op ≤ 22 → (∀ M', Lay M' → RdM M' T n t → am_P am_P0 (d + 3) (am_look tX11_goesOn) 251 (Lg F k am_x) [.int (nI op), .ref 277] M' Q → am_P am_P0 (d + 3) (am_look tX11_goesOn) 220 (Lg F k am_x) [] M' Q) → am_P am_P0 (d + 3) (am_look tX11_goesOn) 217 (Lg F k am_x) [.int (nI 5), .ref 277] M Q := fun op eo ho hs => by
      rw [eo] at hQ
      exact m_goC d z a c op t k ph bg pr os F vs M Q hL hR (by omega) hP0 hF hb hc hten ho hj hs hQ
    by_cases b1 : isS t 60 = true
    · have hA := go 17 (by unfold cmpOp; rw [if_pos b1]) (by omega) (fun M' L' R' h => by
        obtain ⟨-, -, -, -, -, v60, -⟩ := m_sgs (d + 2) t M' L' R'
        simp +decide only [Lg, qX11_goesOn_0, qX11_goesOn_1, qX11_goesOn_2, qX11_goesOn_3, qX11_goesOn_4, qX11_goesOn_5, qX11_goesOn_6, qX11_goesOn_7, lm L', v60, b1, b01, show nI 17 = (17 : Int32) from rfl, am_w1_i, am_w1_r, am_w1_x, am_w1_l, am_w1_w, va_rf_s, am_push_n, am_push_s, am_cs_0, am_cs_i, am_cs_l, am_cs_r, m_uI_K, m_uI_N, m_uI_R, m_uI_L, m_uI_I, m_uL_K, m_uL_N, m_uL_R, m_uL_I, m_uL_L, m_uR_K, m_uR_N, m_uR_I, m_uR_L, m_uR_R, true_and, and_true, true_implies, false_implies, not_true_eq_false, not_false_eq_true, if_true, if_false, false_and, and_false] at h ⊢
        exact h)
      simp +decide (disch := omega) only [Lg, qX11_goesOn_0, qX11_goesOn_1, qX11_goesOn_2, qX11_goesOn_3, qX11_goesOn_4, qX11_goesOn_5, qX11_goesOn_6, qX11_goesOn_7, lm hL, ct, f2', ni_in_t, ni_tn, s60, b1, b01, show nI 5 = (5 : Int32) from rfl, am_w1_i, am_w1_r, am_w1_x, am_w1_l, am_w1_w, va_rf_s, am_push_n, am_push_s, am_cs_0, am_cs_i, am_cs_l, am_cs_r, m_uI_K, m_uI_N, m_uI_R, m_uI_L, m_uI_I, m_uL_K, m_uL_N, m_uL_R, m_uL_I, m_uL_L, m_uR_K, m_uR_N, m_uR_I, m_uR_L, m_uR_R, true_and, and_true, true_implies, false_implies, not_true_eq_false, not_false_eq_true, if_true, if_false, false_and, and_false] at hA ⊢
      exact hA
    have b1' : isS t 60 = false := by simpa using b1
    by_cases b2 : isS t 62 = true
    · have hA := go 18 (by unfold cmpOp; rw [if_neg b1, if_pos b2]) (by omega) (fun M' L' R' h => by
        obtain ⟨-, -, -, -, -, v60, v62, -⟩ := m_sgs (d + 2) t M' L' R'
        simp +decide only [Lg, qX11_goesOn_0, qX11_goesOn_1, qX11_goesOn_2, qX11_goesOn_3, qX11_goesOn_4, qX11_goesOn_5, qX11_goesOn_6, qX11_goesOn_7, lm L', v60, b1', v62, b2, b01, show nI 18 = (18 : Int32) from rfl, am_w1_i, am_w1_r, am_w1_x, am_w1_l, am_w1_w, va_rf_s, am_push_n, am_push_s, am_cs_0, am_cs_i, am_cs_l, am_cs_r, m_uI_K, m_uI_N, m_uI_R, m_uI_L, m_uI_I, m_uL_K, m_uL_N, m_uL_R, m_uL_I, m_uL_L, m_uR_K, m_uR_N, m_uR_I, m_uR_L, m_uR_R, true_and, and_true, true_implies, false_implies, not_true_eq_false, not_false_eq_true, if_true, if_false, false_and, and_false] at h ⊢
        exact h)
      simp +decide (disch := omega) only [Lg, qX11_goesOn_0, qX11_goesOn_1, qX11_goesOn_2, qX11_goesOn_3, qX11_goesOn_4, qX11_goesOn_5, qX11_goesOn_6, qX11_goesOn_7, lm hL, ct, f2', ni_in_t, ni_tn, s60, b1', s62, b2, b01, show nI 5 = (5 : Int32) from rfl, am_w1_i, am_w1_r, am_w1_x, am_w1_l, am_w1_w, va_rf_s, am_push_n, am_push_s, am_cs_0, am_cs_i, am_cs_l, am_cs_r, m_uI_K, m_uI_N, m_uI_R, m_uI_L, m_uI_I, m_uL_K, m_uL_N, m_uL_R, m_uL_I, m_uL_L, m_uR_K, m_uR_N, m_uR_I, m_uR_L, m_uR_R, true_and, and_true, true_implies, false_implies, not_true_eq_false, not_false_eq_true, if_true, if_false, false_and, and_false] at hA ⊢
      exact hA
    have b2' : isS t 62 = false := by simpa using b2
    have b3 : isS t 61 = true := by
      have c2' := cc
      unfold cmpOp at c2'
      rw [if_neg b1, if_neg b2] at c2'
      cases h : isS t 61 with
      | true => rfl
      | false => rw [h] at c2'; exact absurd rfl c2'
    have hA := go 19 (by unfold cmpOp; rw [if_neg b1, if_neg b2, if_pos b3]) (by omega) (fun M' L' R' h => by
      obtain ⟨-, -, -, -, -, v60, v62, -⟩ := m_sgs (d + 2) t M' L' R'
      simp +decide only [Lg, qX11_goesOn_0, qX11_goesOn_1, qX11_goesOn_2, qX11_goesOn_3, qX11_goesOn_4, qX11_goesOn_5, qX11_goesOn_6, qX11_goesOn_7, lm L', v60, b1', v62, b2', b01, show nI 19 = (19 : Int32) from rfl, am_w1_i, am_w1_r, am_w1_x, am_w1_l, am_w1_w, va_rf_s, am_push_n, am_push_s, am_cs_0, am_cs_i, am_cs_l, am_cs_r, m_uI_K, m_uI_N, m_uI_R, m_uI_L, m_uI_I, m_uL_K, m_uL_N, m_uL_R, m_uL_I, m_uL_L, m_uR_K, m_uR_N, m_uR_I, m_uR_L, m_uR_R, true_and, and_true, true_implies, false_implies, not_true_eq_false, not_false_eq_true, if_true, if_false, false_and, and_false] at h ⊢
      exact h)
    simp +decide (disch := omega) only [Lg, qX11_goesOn_0, qX11_goesOn_1, qX11_goesOn_2, qX11_goesOn_3, qX11_goesOn_4, qX11_goesOn_5, qX11_goesOn_6, qX11_goesOn_7, lm hL, ct, f2', ni_in_t, ni_tn, s60, b1', s62, b2', s61, b3, b01, show nI 5 = (5 : Int32) from rfl, am_w1_i, am_w1_r, am_w1_x, am_w1_l, am_w1_w, va_rf_s, am_push_n, am_push_s, am_cs_0, am_cs_i, am_cs_l, am_cs_r, m_uI_K, m_uI_N, m_uI_R, m_uI_L, m_uI_I, m_uL_K, m_uL_N, m_uL_R, m_uL_I, m_uL_L, m_uR_K, m_uR_N, m_uR_I, m_uR_L, m_uR_R, true_and, and_true, true_implies, false_implies, not_true_eq_false, not_false_eq_true, if_true, if_false, false_and, and_false] at hA ⊢
    exact hA
  suffices at272 : am_P am_P0 (d + 3) (am_look tX11_goesOn) 272 (Lg F k am_x) [] M Q by
    by_cases ct : isTs k = true
    · by_cases cp : ph = 0
      · have hcm : cmpOp t = 0 := by by_cases q : cmpOp t = 0; exact q; exact absurd ⟨ct, cp, q⟩ c3
        have f2' : mI M 307 F.length = 0 := by rw [f2, cp]; rfl
        have a1 : isS t 60 = false := by
          cases h : isS t 60 with
          | false => rfl
          | true => unfold cmpOp at hcm; rw [if_pos h] at hcm; cases hcm
        have a2 : isS t 62 = false := by
          cases h : isS t 62 with
          | false => rfl
          | true => unfold cmpOp at hcm; rw [a1, if_neg (by decide), if_pos h] at hcm; cases hcm
        have a3 : isS t 61 = false := by
          cases h : isS t 61 with
          | false => rfl
          | true => unfold cmpOp at hcm; rw [a1, a2, if_neg (by decide), if_neg (by decide), if_pos h] at hcm; cases hcm
        simp +decide (disch := omega) only [Lg, qX11_goesOn_0, qX11_goesOn_1, qX11_goesOn_2, qX11_goesOn_3, qX11_goesOn_4, qX11_goesOn_5, qX11_goesOn_6, qX11_goesOn_7, lm hL, ct, f2', ni_in_t, ni_tn, s60, a1, s62, a2, s61, a3, b01, am_w1_i, am_w1_r, am_w1_x, am_w1_l, am_w1_w, va_rf_s, am_push_n, am_push_s, am_cs_0, am_cs_i, am_cs_l, am_cs_r, m_uI_K, m_uI_N, m_uI_R, m_uI_L, m_uI_I, m_uL_K, m_uL_N, m_uL_R, m_uL_I, m_uL_L, m_uR_K, m_uR_N, m_uR_I, m_uR_L, m_uR_R, true_and, and_true, true_implies, false_implies, not_true_eq_false, not_false_eq_true, if_true, if_false, false_and, and_false] at at272 ⊢
        exact at272
      · have nz : ¬ nI ph = 0 := fun q => cp (ez.mp q)
        simp +decide (disch := omega) only [Lg, qX11_goesOn_0, qX11_goesOn_1, qX11_goesOn_2, qX11_goesOn_3, qX11_goesOn_4, qX11_goesOn_5, qX11_goesOn_6, qX11_goesOn_7, lm hL, ct, f2, ni_in_t, ni_tn, b01, am_w1_i, am_w1_r, am_w1_x, am_w1_l, am_w1_w, va_rf_s, am_push_n, am_push_s, am_cs_0, am_cs_i, am_cs_l, am_cs_r, m_uI_K, m_uI_N, m_uI_R, m_uI_L, m_uI_I, m_uL_K, m_uL_N, m_uL_R, m_uL_I, m_uL_L, m_uR_K, m_uR_N, m_uR_I, m_uR_L, m_uR_R, true_and, and_true, true_implies, false_implies, not_true_eq_false, not_false_eq_true, if_true, if_false, false_and, and_false] at at272 ⊢
        rw [br_q nz]
        exact at272
    · have ct' : isTs k = false := by simpa using ct
      simp +decide (disch := omega) only [Lg, qX11_goesOn_0, qX11_goesOn_1, qX11_goesOn_2, qX11_goesOn_3, qX11_goesOn_4, qX11_goesOn_5, qX11_goesOn_6, qX11_goesOn_7, lm hL, ct', b01, am_w1_i, am_w1_r, am_w1_x, am_w1_l, am_w1_w, va_rf_s, am_push_n, am_push_s, am_cs_0, am_cs_i, am_cs_l, am_cs_r, m_uI_K, m_uI_N, m_uI_R, m_uI_L, m_uI_I, m_uL_K, m_uL_N, m_uL_R, m_uL_I, m_uL_L, m_uR_K, m_uR_N, m_uR_I, m_uR_L, m_uR_R, true_and, and_true, true_implies, false_implies, not_true_eq_false, not_false_eq_true, if_true, if_false, false_and, and_false] at at272 ⊢
      exact at272
  -- and, or
  by_cases c4 : isTs k = true ∧ (isW t wAnd || isW t wOr) = true
  · have hn0 : ¬ t.1 = 0 := by
      have := c4.2
      rw [Bool.or_eq_true] at this
      rcases this with q | q <;> exact isW_n0 q
    by_cases cp : ph = 0
    · have em : mGo T n t k ph bg pr os F vs = .inl (1, tS t) := by unfold mGo; rw [if_neg c1, if_neg c2, if_neg c3, if_pos c4, if_pos cp]
      have hq := hft em
      have f2' : mI M 307 F.length = 0 := by rw [f2, cp]; rfl
      by_cases ca : isW t wAnd = true
      · simp +decide (disch := omega) only [Lg, qX11_goesOn_0, qX11_goesOn_1, qX11_goesOn_2, qX11_goesOn_3, qX11_goesOn_4, qX11_goesOn_5, qX11_goesOn_6, qX11_goesOn_7, lm hL, c4.1, w9, ca, f2', ni_in_t, ni_tn, hR.2.2.2.2.1, hbl, lm Lf, b01, am_w1_i, am_w1_r, am_w1_x, am_w1_l, am_w1_w, va_rf_s, am_push_n, am_push_s, am_cs_0, am_cs_i, am_cs_l, am_cs_r, m_uI_K, m_uI_N, m_uI_R, m_uI_L, m_uI_I, m_uL_K, m_uL_N, m_uL_R, m_uL_I, m_uL_L, m_uR_K, m_uR_N, m_uR_I, m_uR_L, m_uR_R, true_and, and_true, true_implies, false_implies, not_true_eq_false, not_false_eq_true, if_true, if_false, false_and, and_false]
        rw [br_n hpos.2.2]
        exact hq
      · have ca' : isW t wAnd = false := by simpa using ca
        have co : isW t wOr = true := by have := c4.2; rw [ca', Bool.false_or] at this; exact this
        simp +decide (disch := omega) only [Lg, qX11_goesOn_0, qX11_goesOn_1, qX11_goesOn_2, qX11_goesOn_3, qX11_goesOn_4, qX11_goesOn_5, qX11_goesOn_6, qX11_goesOn_7, lm hL, c4.1, w9, ca', w10, co, f2', ni_in_t, ni_tn, hR.2.2.2.2.1, hbl, lm Lf, b01, am_w1_i, am_w1_r, am_w1_x, am_w1_l, am_w1_w, va_rf_s, am_push_n, am_push_s, am_cs_0, am_cs_i, am_cs_l, am_cs_r, m_uI_K, m_uI_N, m_uI_R, m_uI_L, m_uI_I, m_uL_K, m_uL_N, m_uL_R, m_uL_I, m_uL_L, m_uR_K, m_uR_N, m_uR_I, m_uR_L, m_uR_R, true_and, and_true, true_implies, false_implies, not_true_eq_false, not_false_eq_true, if_true, if_false, false_and, and_false]
        rw [br_n hpos.2.2]
        exact hq
    · have nz : ¬ nI ph = 0 := fun q => cp (ez.mp q)
      have em : mGo T n t k ph bg pr os F vs = mAdv T n t (fun t1 => (t1, (k, 0, true, pr, (if isW t wAnd = true then 20 else 21) :: (jns (if isW t wAnd = true then 2 else 1) os vs).1) :: F, (jns (if isW t wAnd = true then 2 else 1) os vs).2, false)) := by unfold mGo; rw [if_neg c1, if_neg c2, if_neg c3, if_pos c4, if_neg cp]
      rw [em] at hQ
      by_cases ca : isW t wAnd = true
      · rw [if_pos ca, if_pos ca] at hQ
        have hj := (ty_jT (l := 2) (by omega) c4.1 cp hty).1
        have hA := m_goB d z a c 2 20 1 t k ph bg pr os F vs M Q hL hR hn0 hP0 hF hb hc hten (by omega) (by omega) hj (fun M' L' R' h => by
          simp +decide only [Lg, qX11_goesOn_0, qX11_goesOn_1, qX11_goesOn_2, qX11_goesOn_3, qX11_goesOn_4, qX11_goesOn_5, qX11_goesOn_6, qX11_goesOn_7, lm L', show nI 20 = (20 : Int32) from rfl, am_w1_i, am_w1_r, am_w1_x, am_w1_l, am_w1_w, va_rf_s, am_push_n, am_push_s, am_cs_0, am_cs_i, am_cs_l, am_cs_r, m_uI_K, m_uI_N, m_uI_R, m_uI_L, m_uI_I, m_uL_K, m_uL_N, m_uL_R, m_uL_I, m_uL_L, m_uR_K, m_uR_N, m_uR_I, m_uR_L, m_uR_R, true_and, and_true, true_implies, false_implies, not_true_eq_false, not_false_eq_true, if_true, if_false, false_and, and_false] at h ⊢
          exact h) hQ
        simp +decide (disch := omega) only [Lg, qX11_goesOn_0, qX11_goesOn_1, qX11_goesOn_2, qX11_goesOn_3, qX11_goesOn_4, qX11_goesOn_5, qX11_goesOn_6, qX11_goesOn_7, lm hL, c4.1, w9, ca, f2, ni_in_t, ni_tn, hR.2.1, b01, show nI 2 = (2 : Int32) from rfl, am_w1_i, am_w1_r, am_w1_x, am_w1_l, am_w1_w, va_rf_s, am_push_n, am_push_s, am_cs_0, am_cs_i, am_cs_l, am_cs_r, m_uI_K, m_uI_N, m_uI_R, m_uI_L, m_uI_I, m_uL_K, m_uL_N, m_uL_R, m_uL_I, m_uL_L, m_uR_K, m_uR_N, m_uR_I, m_uR_L, m_uR_R, true_and, and_true, true_implies, false_implies, not_true_eq_false, not_false_eq_true, if_true, if_false, false_and, and_false] at hA ⊢
        rw [br_q nz]
        exact hA
      · rw [if_neg ca, if_neg ca] at hQ
        have ca' : isW t wAnd = false := by simpa using ca
        have co : isW t wOr = true := by have := c4.2; rw [ca', Bool.false_or] at this; exact this
        have hj := (ty_jT (l := 1) (by omega) c4.1 cp hty).1
        have hA := m_goB d z a c 1 21 0 t k ph bg pr os F vs M Q hL hR hn0 hP0 hF hb hc hten (by omega) (by omega) hj (fun M' L' R' h => by
          simp +decide only [Lg, qX11_goesOn_0, qX11_goesOn_1, qX11_goesOn_2, qX11_goesOn_3, qX11_goesOn_4, qX11_goesOn_5, qX11_goesOn_6, qX11_goesOn_7, lm L', show nI 21 = (21 : Int32) from rfl, am_w1_i, am_w1_r, am_w1_x, am_w1_l, am_w1_w, va_rf_s, am_push_n, am_push_s, am_cs_0, am_cs_i, am_cs_l, am_cs_r, m_uI_K, m_uI_N, m_uI_R, m_uI_L, m_uI_I, m_uL_K, m_uL_N, m_uL_R, m_uL_I, m_uL_L, m_uR_K, m_uR_N, m_uR_I, m_uR_L, m_uR_R, true_and, and_true, true_implies, false_implies, not_true_eq_false, not_false_eq_true, if_true, if_false, false_and, and_false] at h ⊢
          exact h) hQ
        simp +decide (disch := omega) only [Lg, qX11_goesOn_0, qX11_goesOn_1, qX11_goesOn_2, qX11_goesOn_3, qX11_goesOn_4, qX11_goesOn_5, qX11_goesOn_6, qX11_goesOn_7, lm hL, c4.1, w9, ca', w10, co, f2, ni_in_t, ni_tn, hR.2.1, b01, show nI 1 = (1 : Int32) from rfl, am_w1_i, am_w1_r, am_w1_x, am_w1_l, am_w1_w, va_rf_s, am_push_n, am_push_s, am_cs_0, am_cs_i, am_cs_l, am_cs_r, m_uI_K, m_uI_N, m_uI_R, m_uI_L, m_uI_I, m_uL_K, m_uL_N, m_uL_R, m_uL_I, m_uL_L, m_uR_K, m_uR_N, m_uR_I, m_uR_L, m_uR_R, true_and, and_true, true_implies, false_implies, not_true_eq_false, not_false_eq_true, if_true, if_false, false_and, and_false] at hA ⊢
        rw [br_q nz]
        exact hA
  suffices at387 : am_P am_P0 (d + 3) (am_look tX11_goesOn) 387 (Lg F k am_x) [] M Q by
    by_cases ct : isTs k = true
    · have hab : isW t wAnd = false ∧ isW t wOr = false := by
        have q : ¬ (isW t wAnd || isW t wOr) = true := fun q => c4 ⟨ct, q⟩
        rw [Bool.not_eq_true, Bool.or_eq_false_iff] at q
        exact q
      simp +decide (disch := omega) only [Lg, qX11_goesOn_0, qX11_goesOn_1, qX11_goesOn_2, qX11_goesOn_3, qX11_goesOn_4, qX11_goesOn_5, qX11_goesOn_6, qX11_goesOn_7, lm hL, ct, w9, hab, w10, b01, am_w1_i, am_w1_r, am_w1_x, am_w1_l, am_w1_w, va_rf_s, am_push_n, am_push_s, am_cs_0, am_cs_i, am_cs_l, am_cs_r, m_uI_K, m_uI_N, m_uI_R, m_uI_L, m_uI_I, m_uL_K, m_uL_N, m_uL_R, m_uL_I, m_uL_L, m_uR_K, m_uR_N, m_uR_I, m_uR_L, m_uR_R, true_and, and_true, true_implies, false_implies, not_true_eq_false, not_false_eq_true, if_true, if_false, false_and, and_false] at at387 ⊢
      exact at387
    · have ct' : isTs k = false := by simpa using ct
      simp +decide (disch := omega) only [Lg, qX11_goesOn_0, qX11_goesOn_1, qX11_goesOn_2, qX11_goesOn_3, qX11_goesOn_4, qX11_goesOn_5, qX11_goesOn_6, qX11_goesOn_7, lm hL, ct', b01, am_w1_i, am_w1_r, am_w1_x, am_w1_l, am_w1_w, va_rf_s, am_push_n, am_push_s, am_cs_0, am_cs_i, am_cs_l, am_cs_r, m_uI_K, m_uI_N, m_uI_R, m_uI_L, m_uI_I, m_uL_K, m_uL_N, m_uL_R, m_uL_I, m_uL_L, m_uR_K, m_uR_N, m_uR_I, m_uR_L, m_uR_R, true_and, and_true, true_implies, false_implies, not_true_eq_false, not_false_eq_true, if_true, if_false, false_and, and_false] at at387 ⊢
      exact at387
  by_cases c5 : isTs k = true ∧ ph = 0
  · have em : mGo T n t k ph bg pr os F vs = .inl (1, tS t) := by unfold mGo; rw [if_neg c1, if_neg c2, if_neg c3, if_neg c4, if_pos c5]
    have hq := hft em
    have f2' : mI M 307 F.length = 0 := by rw [f2, c5.2]; rfl
    have k15 : k = 1 ∨ k = 5 := by
      have := c5.1
      unfold isTs at this
      simpa using this
    have hblf := fun x p Q => c_m_blame (d + 2) x p Mf Q Lf
    have hsg := fun Q => c_m_isSign (d + 2) 93 Mf Q Lf
    rcases k15 with rfl | rfl
    · simp +decide (disch := omega) only [Lg, qX11_goesOn_0, qX11_goesOn_1, qX11_goesOn_2, qX11_goesOn_3, qX11_goesOn_4, qX11_goesOn_5, qX11_goesOn_6, qX11_goesOn_7, lm hL, c5.1, f2', ni_in_t, ni_tn, hR.2.2.2.2.1, hbl, lm Lf, b01, show nI 1 = (1 : Int32) from rfl, am_w1_i, am_w1_r, am_w1_x, am_w1_l, am_w1_w, va_rf_s, am_push_n, am_push_s, am_cs_0, am_cs_i, am_cs_l, am_cs_r, m_uI_K, m_uI_N, m_uI_R, m_uI_L, m_uI_I, m_uL_K, m_uL_N, m_uL_R, m_uL_I, m_uL_L, m_uR_K, m_uR_N, m_uR_I, m_uR_L, m_uR_R, true_and, and_true, true_implies, false_implies, not_true_eq_false, not_false_eq_true, if_true, if_false, false_and, and_false]
      rw [br_p hpos.2.1]
      exact hq
    · simp +decide (disch := omega) only [Lg, qX11_goesOn_0, qX11_goesOn_1, qX11_goesOn_2, qX11_goesOn_3, qX11_goesOn_4, qX11_goesOn_5, qX11_goesOn_6, qX11_goesOn_7, lm hL, c5.1, f2', ni_in_t, ni_tn, hR.2.2.2.2.1, hbl, hblf, hsg, hpos.1, lm Lf, b01, show nI 5 = (5 : Int32) from rfl, am_w1_i, am_w1_r, am_w1_x, am_w1_l, am_w1_w, va_rf_s, am_push_n, am_push_s, am_cs_0, am_cs_i, am_cs_l, am_cs_r, m_uI_K, m_uI_N, m_uI_R, m_uI_L, m_uI_I, m_uL_K, m_uL_N, m_uL_R, m_uL_I, m_uL_L, m_uR_K, m_uR_N, m_uR_I, m_uR_L, m_uR_R, true_and, and_true, true_implies, false_implies, not_true_eq_false, not_false_eq_true, if_true, if_false, false_and, and_false]
      rw [br_n hpos.2.2]
      exact ⟨fun _ => hq, fun _ => hq⟩
  suffices at409 : am_P am_P0 (d + 3) (am_look tX11_goesOn) 409 (Lg F k am_x) [] M Q by
    by_cases ct : isTs k = true
    · have nz : ¬ nI ph = 0 := fun q => c5 ⟨ct, ez.mp q⟩
      simp +decide (disch := omega) only [Lg, qX11_goesOn_0, qX11_goesOn_1, qX11_goesOn_2, qX11_goesOn_3, qX11_goesOn_4, qX11_goesOn_5, qX11_goesOn_6, qX11_goesOn_7, lm hL, ct, f2, ni_in_t, ni_tn, b01, am_w1_i, am_w1_r, am_w1_x, am_w1_l, am_w1_w, va_rf_s, am_push_n, am_push_s, am_cs_0, am_cs_i, am_cs_l, am_cs_r, m_uI_K, m_uI_N, m_uI_R, m_uI_L, m_uI_I, m_uL_K, m_uL_N, m_uL_R, m_uL_I, m_uL_L, m_uR_K, m_uR_N, m_uR_I, m_uR_L, m_uR_R, true_and, and_true, true_implies, false_implies, not_true_eq_false, not_false_eq_true, if_true, if_false, false_and, and_false] at at409 ⊢
      rw [br_q nz]
      exact at409
    · have ct' : isTs k = false := by simpa using ct
      simp +decide (disch := omega) only [Lg, qX11_goesOn_0, qX11_goesOn_1, qX11_goesOn_2, qX11_goesOn_3, qX11_goesOn_4, qX11_goesOn_5, qX11_goesOn_6, qX11_goesOn_7, lm hL, ct', b01, am_w1_i, am_w1_r, am_w1_x, am_w1_l, am_w1_w, va_rf_s, am_push_n, am_push_s, am_cs_0, am_cs_i, am_cs_l, am_cs_r, m_uI_K, m_uI_N, m_uI_R, m_uI_L, m_uI_I, m_uL_K, m_uL_N, m_uL_R, m_uL_I, m_uL_L, m_uR_K, m_uR_N, m_uR_I, m_uR_L, m_uR_R, true_and, and_true, true_implies, false_implies, not_true_eq_false, not_false_eq_true, if_true, if_false, false_and, and_false] at at409 ⊢
      exact at409
  have hj1 : jok 1 os vs := by
    by_cases ct : isTs k = true
    · exact (ty_jT (l := 1) (by omega) ct (fun q => c5 ⟨ct, q⟩) hty).1
    · exact (ty_j0 (by simpa using ct) hty).1
  have he1 : (jns 1 os vs).1 = [] := by
    by_cases ct : isTs k = true
    · obtain ⟨-, -, v', vs', r, -, -, -, -, e5, -⟩ := ty_jT (l := 1) (by omega) ct (fun q => c5 ⟨ct, q⟩) hty
      exact e5 (by omega)
    · exact (ty_j0 (by simpa using ct) hty).2.2.2.1
  have eO : sumO ((k, ph, bg, pr, os) :: F) = sumO F + os.length := rfl
  have hcn : c + os.length ≤ 1800 := by have := hR.1.2.1; have := hR.2.2.2.2.2.2.2.2.1; have := hR.2.2.2.2.2.2.2.2.2.1; omega
  by_cases c6 : k < 2
  · have em : mGo T n t k ph bg pr os F vs = .inr ((t, (k, ph, bg, pr, (jns 1 os vs).1) :: F, (jns 1 os vs).2, true), false) := by unfold mGo; rw [if_neg c1, if_neg c2, if_neg c3, if_neg c4, if_neg c5, if_pos c6]
    rw [em] at hQ
    have nk : ¬ (2 : Int32) ≤ nI k := by rw [hk2]; omega
    simp +decide (disch := omega) only [Lg, qX11_goesOn_0, qX11_goesOn_1, qX11_goesOn_2, qX11_goesOn_3, qX11_goesOn_4, qX11_goesOn_5, qX11_goesOn_6, qX11_goesOn_7, lm hL, hR.2.1, am_w1_i, am_w1_r, am_w1_x, am_w1_l, am_w1_w, va_rf_s, am_push_n, am_push_s, am_cs_0, am_cs_i, am_cs_l, am_cs_r, m_uI_K, m_uI_N, m_uI_R, m_uI_L, m_uI_I, m_uL_K, m_uL_N, m_uL_R, m_uL_I, m_uL_L, m_uR_K, m_uR_N, m_uR_I, m_uR_L, m_uR_R, true_and, and_true, true_implies, false_implies, not_true_eq_false, not_false_eq_true, if_true, if_false, false_and, and_false]
    rw [br_n nk]
    refine m_joins (d + 1) z a c 1 k ph bg pr os F vs M _ hL hP0 (by omega) hF hten (by omega) hcn hj1 (fun M1 c1 g1 e1 P1 => ?_)
    have hq := hQ M1 0 (sJm_F g1) ⟨c1, sJm_R hR g1, P1, by
      have eS : sumO ((k, ph, bg, pr, (jns 1 os vs).1) :: F) = sumO F + (jns 1 os vs).1.length := rfl
      have eN : nPr ((k, ph, bg, pr, (jns 1 os vs).1) :: F) = nPr ((k, ph, bg, pr, os) :: F) := rfl
      dsimp only
      rw [eS, eN]
      omega⟩ (fun s' b q => by
        cases q
        exact ⟨rfl, by rw [g1.1 _ _ (fun w => by unfold sJm at w; omega)]; exact hfl⟩)
    simp +decide only [qX11_goesOn_0, qX11_goesOn_1, qX11_goesOn_2, qX11_goesOn_3, qX11_goesOn_4, qX11_goesOn_5, qX11_goesOn_6, qX11_goesOn_7, am_w1_i, am_w1_r, am_w1_x, am_w1_l, am_w1_w, va_rf_s, am_push_n, am_push_s, am_cs_0, am_cs_i, am_cs_l, am_cs_r, m_uI_K, m_uI_N, m_uI_R, m_uI_L, m_uI_I, m_uL_K, m_uL_N, m_uL_R, m_uL_I, m_uL_L, m_uR_K, m_uR_N, m_uR_I, m_uR_L, m_uR_R, true_and, and_true, true_implies, false_implies, not_true_eq_false, not_false_eq_true, if_true, if_false, false_and, and_false]
    exact hq
  have hk2' : (2 : Int32) ≤ nI k := hk2.mpr (by omega)
  by_cases c7 : k = 3
  · have em : mGo T n t k ph bg pr os F vs = (if isS t 44 = true then mAdv T n t (fun t1 => (t1, (4, ph, bg, pr, (jns 1 os vs).1) :: F, (jns 1 os vs).2, false)) else .inl (1, tS t)) := by unfold mGo; rw [if_neg c1, if_neg c2, if_neg c3, if_neg c4, if_neg c5, if_neg c6, if_pos c7]
    subst c7
    by_cases cs : isS t 44 = true
    · rw [if_pos cs] at em
      rw [em] at hQ
      simp +decide (disch := omega) only [Lg, qX11_goesOn_0, qX11_goesOn_1, qX11_goesOn_2, qX11_goesOn_3, qX11_goesOn_4, qX11_goesOn_5, qX11_goesOn_6, qX11_goesOn_7, lm hL, hR.2.1, s44, cs, b01, show nI 3 = (3 : Int32) from rfl, am_w1_i, am_w1_r, am_w1_x, am_w1_l, am_w1_w, va_rf_s, am_push_n, am_push_s, am_cs_0, am_cs_i, am_cs_l, am_cs_r, m_uI_K, m_uI_N, m_uI_R, m_uI_L, m_uI_I, m_uL_K, m_uL_N, m_uL_R, m_uL_I, m_uL_L, m_uR_K, m_uR_N, m_uR_I, m_uR_L, m_uR_R, true_and, and_true, true_implies, false_implies, not_true_eq_false, not_false_eq_true, if_true, if_false, false_and, and_false]
      refine m_joins (d + 1) z a c 1 3 ph bg pr os F vs M _ hL hP0 (by omega) hF hten (by omega) hcn hj1 (fun M1 c1 g1 e1 P1 => ?_)
      have L1 := gF_LayN g1 hL
      have R1 := sJm_R hR g1
      have gp : gF (fun b j => 306 ≤ b ∧ b ≤ 308 ∧ j = F.length) nT M1 (uI M1 306 F.length 4) := gF_i _ ⟨by omega, by omega, rfl⟩
      have Gp : gF (sFm z a) nT M1 (uI M1 306 F.length 4) := gF_i _ (Or.inr (Or.inr ⟨by omega, by omega⟩))
      have P2 := PzM_top (k' := 4) (ph' := ph) (bg' := bg) P1 gp (by rw [m_uI_I, if_pos ⟨rfl, rfl⟩]; rfl) (by rw [m_uI_I, if_neg (by omega)]; exact P1.2.2.1.2.1) (by rw [m_uI_I, if_neg (by omega)]; exact P1.2.2.1.2.2.1) (fun q => by omega)
      have L2 : Lay (uI M1 306 F.length 4) := L1
      have R2 : RdM (uI M1 306 F.length 4) T n t := RdM_g R1 gp (fun b j q w => by omega)
      simp +decide (disch := omega) only [Lg, qX11_goesOn_0, qX11_goesOn_1, qX11_goesOn_2, qX11_goesOn_3, qX11_goesOn_4, qX11_goesOn_5, qX11_goesOn_6, qX11_goesOn_7, lm L1, ni_in_t, ni_tn, am_w1_i, am_w1_r, am_w1_x, am_w1_l, am_w1_w, va_rf_s, am_push_n, am_push_s, am_cs_0, am_cs_i, am_cs_l, am_cs_r, m_uI_K, m_uI_N, m_uI_R, m_uI_L, m_uI_I, m_uL_K, m_uL_N, m_uL_R, m_uL_I, m_uL_L, m_uR_K, m_uR_N, m_uR_I, m_uR_L, m_uR_R, true_and, and_true, true_implies, false_implies, not_true_eq_false, not_false_eq_true, if_true, if_false, false_and, and_false]
      have eS : sumO ((4, ph, bg, pr, (jns 1 os vs).1) :: F) = sumO F + (jns 1 os vs).1.length := rfl
      have eN : nPr ((4, ph, bg, pr, (jns 1 os vs).1) :: F) = nPr ((3, ph, bg, pr, os) :: F) := rfl
      refine m_advS (d + 1) z a c1 t _ _ false _ _ L2 R2 (isS_n0 cs) P2 (by rw [eS, eN]; omega) (fun M3 g3 _ h3 => ?_)
      have L3 := gF_LayN g3 L2
      have hq := hQ (uI M3 277 51 0) 1 (gF_trans (sJm_F g1) (gF_trans Gp (gF_trans (sRm_F g3) (gF_i _ (Or.inl ⟨rfl, by omega⟩))))) (RsM_51 0 h3) (gX_adv (o := false) (fun _ => rfl) (by rw [m_uI_I, if_pos ⟨rfl, rfl⟩]; rfl))
      simp +decide only [qX11_goesOn_0, qX11_goesOn_1, qX11_goesOn_2, qX11_goesOn_3, qX11_goesOn_4, qX11_goesOn_5, qX11_goesOn_6, qX11_goesOn_7, lm L3, am_w1_i, am_w1_r, am_w1_x, am_w1_l, am_w1_w, va_rf_s, am_push_n, am_push_s, am_cs_0, am_cs_i, am_cs_l, am_cs_r, m_uI_K, m_uI_N, m_uI_R, m_uI_L, m_uI_I, m_uL_K, m_uL_N, m_uL_R, m_uL_I, m_uL_L, m_uR_K, m_uR_N, m_uR_I, m_uR_L, m_uR_R, true_and, and_true, true_implies, false_implies, not_true_eq_false, not_false_eq_true, if_true, if_false, false_and, and_false]
      exact hq
    · rw [if_neg cs] at em
      have cs' : isS t 44 = false := by simpa using cs
      have hq := hft em
      simp +decide (disch := omega) only [Lg, qX11_goesOn_0, qX11_goesOn_1, qX11_goesOn_2, qX11_goesOn_3, qX11_goesOn_4, qX11_goesOn_5, qX11_goesOn_6, qX11_goesOn_7, lm hL, s44, cs', b01, hR.2.2.2.2.1, hbl, lm Lf, show nI 3 = (3 : Int32) from rfl, am_w1_i, am_w1_r, am_w1_x, am_w1_l, am_w1_w, va_rf_s, am_push_n, am_push_s, am_cs_0, am_cs_i, am_cs_l, am_cs_r, m_uI_K, m_uI_N, m_uI_R, m_uI_L, m_uI_I, m_uL_K, m_uL_N, m_uL_R, m_uL_I, m_uL_L, m_uR_K, m_uR_N, m_uR_I, m_uR_L, m_uR_R, true_and, and_true, true_implies, false_implies, not_true_eq_false, not_false_eq_true, if_true, if_false, false_and, and_false]
      rw [br_n hpos.2.2]
      exact hq
  have k245 : k = 2 ∨ k = 4 ∨ k = 5 := by omega
  cases F with
  | nil => exact absurd (hkF.mpr rfl) c6
  | cons f' F' =>
    have em : mGo T n t k ph bg pr os (f' :: F') vs = (if isS t (if k = 5 then 93 else 41) = true then mAdv T n t (fun t1 => (t1, (f'.1, (if k = 5 then 2 else f'.2.1), f'.2.2.1, f'.2.2.2.1, f'.2.2.2.2) :: F', (if k = 4 then appD pr (jns 1 os vs).2 else (jns 1 os vs).2), true)) else .inl (1, tS t)) := by
      unfold mGo
      rw [if_neg c1, if_neg c2, if_neg c3, if_neg c4, if_neg c5, if_neg c6, if_neg c7]
    have h4 : k = 4 → (pr = 15 ∨ pr = 16) ∧ opOK 1850 (pr, 0) (jns 1 os vs).2 := fun q => by
      subst q
      obtain ⟨-, -, -, -, v', r, e1, e2, -, b2, -, b5⟩ := ty_j0 (k := 4) rfl hty
      rw [if_pos rfl] at b5
      obtain ⟨u, r', rfl, hu, -⟩ := b5
      rw [e1]
      exact ⟨b2 (Or.inr rfl), op_hi (by have := b2 (Or.inr rfl); omega) hu e2⟩
    have hFl : F'.length ≤ 7 := by simpa using hF
    by_cases cs : isS t (if k = 5 then 93 else 41) = true
    · rw [if_pos cs] at em
      rw [em] at hQ
      have hE := m_goE d z a c t k ph bg pr os f' F' vs M Q hL hR (isS_n0 cs) hP0 hFl hb hc hten hj1 k245 he1 h4 hfl hQ
      rcases k245 with rfl | rfl | rfl
      · rw [if_neg (by omega)] at cs
        simp +decide (disch := omega) only [Lg, qX11_goesOn_0, qX11_goesOn_1, qX11_goesOn_2, qX11_goesOn_3, qX11_goesOn_4, qX11_goesOn_5, qX11_goesOn_6, qX11_goesOn_7, lm hL, hR.2.1, s41, cs, b01, show nI 2 = (2 : Int32) from rfl, am_w1_i, am_w1_r, am_w1_x, am_w1_l, am_w1_w, va_rf_s, am_push_n, am_push_s, am_cs_0, am_cs_i, am_cs_l, am_cs_r, m_uI_K, m_uI_N, m_uI_R, m_uI_L, m_uI_I, m_uL_K, m_uL_N, m_uL_R, m_uL_I, m_uL_L, m_uR_K, m_uR_N, m_uR_I, m_uR_L, m_uR_R, true_and, and_true, true_implies, false_implies, not_true_eq_false, not_false_eq_true, if_true, if_false, false_and, and_false] at hE ⊢
        exact hE
      · rw [if_neg (by omega)] at cs
        simp +decide (disch := omega) only [Lg, qX11_goesOn_0, qX11_goesOn_1, qX11_goesOn_2, qX11_goesOn_3, qX11_goesOn_4, qX11_goesOn_5, qX11_goesOn_6, qX11_goesOn_7, lm hL, hR.2.1, s41, cs, b01, show nI 4 = (4 : Int32) from rfl, am_w1_i, am_w1_r, am_w1_x, am_w1_l, am_w1_w, va_rf_s, am_push_n, am_push_s, am_cs_0, am_cs_i, am_cs_l, am_cs_r, m_uI_K, m_uI_N, m_uI_R, m_uI_L, m_uI_I, m_uL_K, m_uL_N, m_uL_R, m_uL_I, m_uL_L, m_uR_K, m_uR_N, m_uR_I, m_uR_L, m_uR_R, true_and, and_true, true_implies, false_implies, not_true_eq_false, not_false_eq_true, if_true, if_false, false_and, and_false] at hE ⊢
        exact hE
      · rw [if_pos rfl] at cs
        simp +decide (disch := omega) only [Lg, qX11_goesOn_0, qX11_goesOn_1, qX11_goesOn_2, qX11_goesOn_3, qX11_goesOn_4, qX11_goesOn_5, qX11_goesOn_6, qX11_goesOn_7, lm hL, hR.2.1, s93, cs, b01, show nI 5 = (5 : Int32) from rfl, am_w1_i, am_w1_r, am_w1_x, am_w1_l, am_w1_w, va_rf_s, am_push_n, am_push_s, am_cs_0, am_cs_i, am_cs_l, am_cs_r, m_uI_K, m_uI_N, m_uI_R, m_uI_L, m_uI_I, m_uL_K, m_uL_N, m_uL_R, m_uL_I, m_uL_L, m_uR_K, m_uR_N, m_uR_I, m_uR_L, m_uR_R, true_and, and_true, true_implies, false_implies, not_true_eq_false, not_false_eq_true, if_true, if_false, false_and, and_false] at hE ⊢
        exact hE
    · rw [if_neg cs] at em
      have hq := hft em
      have cs' : isS t (if k = 5 then 93 else 41) = false := by simpa using cs
      rcases k245 with rfl | rfl | rfl
      · rw [if_neg (by omega)] at cs'
        simp +decide (disch := omega) only [Lg, qX11_goesOn_0, qX11_goesOn_1, qX11_goesOn_2, qX11_goesOn_3, qX11_goesOn_4, qX11_goesOn_5, qX11_goesOn_6, qX11_goesOn_7, lm hL, s41, cs', b01, hR.2.2.2.2.1, hbl, lm Lf, show nI 2 = (2 : Int32) from rfl, am_w1_i, am_w1_r, am_w1_x, am_w1_l, am_w1_w, va_rf_s, am_push_n, am_push_s, am_cs_0, am_cs_i, am_cs_l, am_cs_r, m_uI_K, m_uI_N, m_uI_R, m_uI_L, m_uI_I, m_uL_K, m_uL_N, m_uL_R, m_uL_I, m_uL_L, m_uR_K, m_uR_N, m_uR_I, m_uR_L, m_uR_R, true_and, and_true, true_implies, false_implies, not_true_eq_false, not_false_eq_true, if_true, if_false, false_and, and_false]
        rw [br_n hpos.2.2]
        exact hq
      · rw [if_neg (by omega)] at cs'
        simp +decide (disch := omega) only [Lg, qX11_goesOn_0, qX11_goesOn_1, qX11_goesOn_2, qX11_goesOn_3, qX11_goesOn_4, qX11_goesOn_5, qX11_goesOn_6, qX11_goesOn_7, lm hL, s41, cs', b01, hR.2.2.2.2.1, hbl, lm Lf, show nI 4 = (4 : Int32) from rfl, am_w1_i, am_w1_r, am_w1_x, am_w1_l, am_w1_w, va_rf_s, am_push_n, am_push_s, am_cs_0, am_cs_i, am_cs_l, am_cs_r, m_uI_K, m_uI_N, m_uI_R, m_uI_L, m_uI_I, m_uL_K, m_uL_N, m_uL_R, m_uL_I, m_uL_L, m_uR_K, m_uR_N, m_uR_I, m_uR_L, m_uR_R, true_and, and_true, true_implies, false_implies, not_true_eq_false, not_false_eq_true, if_true, if_false, false_and, and_false]
        rw [br_n hpos.2.2]
        exact hq
      · rw [if_pos rfl] at cs'
        simp +decide (disch := omega) only [Lg, qX11_goesOn_0, qX11_goesOn_1, qX11_goesOn_2, qX11_goesOn_3, qX11_goesOn_4, qX11_goesOn_5, qX11_goesOn_6, qX11_goesOn_7, lm hL, s93, cs', b01, hR.2.2.2.2.1, hbl, lm Lf, show nI 5 = (5 : Int32) from rfl, am_w1_i, am_w1_r, am_w1_x, am_w1_l, am_w1_w, va_rf_s, am_push_n, am_push_s, am_cs_0, am_cs_i, am_cs_l, am_cs_r, m_uI_K, m_uI_N, m_uI_R, m_uI_L, m_uI_I, m_uL_K, m_uL_N, m_uL_R, m_uL_I, m_uL_L, m_uR_K, m_uR_N, m_uR_I, m_uR_L, m_uR_R, true_and, and_true, true_implies, false_implies, not_true_eq_false, not_false_eq_true, if_true, if_false, false_and, and_false]
        rw [br_n hpos.2.2]
        exact hq
end
