/-! the model's statements: sayings -/
section
variable {T : Nat → Nat} {n z : Nat}
def sY0 (z J a j : Nat) : Prop := ((a = 292 ∨ a = 293) ∧ j = J) ∨ (a = 291 ∧ j = z)
theorem k_sayT (d c s h : Nat) (D : Dat) (r : Rt) (xh : Int32) (M : am_M) (Q : Option Value → am_M → Prop) (hL : Lay M) (hS : StM M T n r) (hP : PdM M z D c) (hD : DOK D) (hC : 1 ≤ dC D) (hRr : 1 ≤ dR D) (hs : s < 8) (hh : ∀ t', r = .inr t' → xh = nI h ∧ h < 48) (h96 : dTot D < 96)
    (hf : ∀ e M', (aftR T n 11 0 1 (plcR T n (dC D) (dR D) r).1).1 = .inl e → gF sRm nT M M' → FtM M' T n e.1 e.2 → Q none M')
    (hQ : ∀ t' M', (aftR T n 11 0 1 (plcR T n (dC D) (dR D) r).1).1 = .inr t' → gF (fun a j => sRm a j ∨ sY0 z (384 * z + 48 * s + h) a j) nT M M' → RdM M' T n t' → mI M' 291 z = nI (dTot D + 1) → mI M' 292 (384 * z + 48 * s + h) = nI (cel (dC D) (plcR T n (dC D) (dR D) r).2) → mI M' 293 (384 * z + 48 * s + h) = b01 ((aftR T n 11 0 1 (plcR T n (dC D) (dR D) r).1).2 == 1) → Q none M') : am_P am_P0 (d + 4) (am_look tX11_says) 103 [.ref 277, .int (nI s), am_x, am_x, am_x, am_x] [.int xh] M Q := by
  have hz := hP.2.2.2.2.2.2.2.2.2.2
  have hCR := hD.1
  have i0 := hP.2.2.2.2.2.2.2.2.2.1
  simp +decide (disch := omega) only [qX11_says_0, qX11_says_1, qX11_says_2, lm hL, i0, am_w1_i, am_w1_r, am_w1_x, am_w1_l, am_w1_w, va_rf_s, am_push_n, am_push_s, am_cs_0, am_cs_i, am_cs_l, am_cs_r, m_uI_K, m_uI_N, m_uI_R, m_uI_L, m_uI_I, m_uL_K, m_uL_N, m_uL_R, m_uL_I, m_uL_L, m_uR_K, m_uR_N, m_uR_I, m_uR_L, m_uR_R, true_and, and_true, true_implies, false_implies, not_true_eq_false, not_false_eq_true, if_true, if_false, false_and, and_false]
  refine m_here d z (dC D) (dR D) _ M _ hL hz i0 hP.1.1 hP.1.2 (by omega) (by omega) hS (fun M1 x1 g1 s1 e1 => ?_)
  have L1 := gF_LayN g1 hL
  simp +decide (disch := omega) only [qX11_says_0, qX11_says_1, qX11_says_2, lm L1, am_w1_i, am_w1_r, am_w1_x, am_w1_l, am_w1_w, va_rf_s, am_push_n, am_push_s, am_cs_0, am_cs_i, am_cs_l, am_cs_r, m_uI_K, m_uI_N, m_uI_R, m_uI_L, m_uI_I, m_uL_K, m_uL_N, m_uL_R, m_uL_I, m_uL_L, m_uR_K, m_uR_N, m_uR_I, m_uR_L, m_uR_R, true_and, and_true, true_implies, false_implies, not_true_eq_false, not_false_eq_true, if_true, if_false, false_and, and_false]
  refine m_word2 (d + 1) 11 465490437486 _ M1 _ L1 (by omega) (by decide) s1 (fun M2 g2 s2 => ?_)
  have L2 := gF_LayN g2 L1
  simp +decide (disch := omega) only [qX11_says_0, qX11_says_1, qX11_says_2, lm L2, am_w1_i, am_w1_r, am_w1_x, am_w1_l, am_w1_w, va_rf_s, am_push_n, am_push_s, am_cs_0, am_cs_i, am_cs_l, am_cs_r, m_uI_K, m_uI_N, m_uI_R, m_uI_L, m_uI_I, m_uL_K, m_uL_N, m_uL_R, m_uL_I, m_uL_L, m_uR_K, m_uR_N, m_uR_I, m_uR_L, m_uR_R, true_and, and_true, true_implies, false_implies, not_true_eq_false, not_false_eq_true, if_true, if_false, false_and, and_false]
  rw [show (0 : Int32) = nI 0 from rfl, show (1 : Int32) = nI 1 from rfl]
  refine m_num (d + 1) 0 1 _ M2 _ L2 (by omega) (by omega) s2 (fun M3 x3 g3 s3 e3 => ?_)
  have L3 := gF_LayN g3 L2
  have G3 := gF_trans g1 (gF_trans g2 g3)
  have P3 := PdM_R hP hD G3
  have i3 := P3.2.2.2.2.2.2.2.2.2.1
  have n3 := P3.2.2.2.1.1
  have s3' : StM M3 T n (aftR T n 11 0 1 (plcR T n (dC D) (dR D) r).1).1 := s3
  have e3' : ∀ t', (aftR T n 11 0 1 (plcR T n (dC D) (dR D) r).1).1 = .inr t' → x3 = nI (aftR T n 11 0 1 (plcR T n (dC D) (dR D) r).1).2 := e3
  cases hr : (aftR T n 11 0 1 (plcR T n (dC D) (dR D) r).1).1 with
  | inl e =>
    rw [hr] at s3'
    have h9 := hf e M3 hr G3 s3'
    simp +decide (disch := omega) only [qX11_says_0, qX11_says_1, qX11_says_2, lm L3, am_w1_i, am_w1_r, am_w1_x, am_w1_l, am_w1_w, va_rf_s, am_push_n, am_push_s, am_cs_0, am_cs_i, am_cs_l, am_cs_r, m_uI_K, m_uI_N, m_uI_R, m_uI_L, m_uI_I, m_uL_K, m_uL_N, m_uL_R, m_uL_I, m_uL_L, m_uR_K, m_uR_N, m_uR_I, m_uR_L, m_uR_R, true_and, and_true, true_implies, false_implies, not_true_eq_false, not_false_eq_true, if_true, if_false, false_and, and_false]
    rw [br_n (FtM_pos s3').2.2]
    exact h9
  | inr t' =>
    rw [hr] at s3'
    have s3'' : RdM M3 T n t' := s3'
    have hx3 := e3' t' hr
    have hv := numR_v hr
    obtain ⟨u1, hu1⟩ := aft_i hr
    have hx1 := e1 u1 hu1
    obtain ⟨u0, hu0⟩ := plR_i hu1
    obtain ⟨hxh, hh48⟩ := hh u0 hu0
    obtain ⟨J, hJ⟩ : ∃ J, J = 384 * z + 48 * s + h := ⟨_, rfl⟩
    have eJ : (384 : Int32) * nI z + 48 * nI s + xh = nI J := by
      rw [hxh, show (384 : Int32) = nI 384 from rfl, show (48 : Int32) = nI 48 from rfl, ni_mul, ni_mul, ni_add, ni_add, hJ]
    obtain ⟨lv, hlv⟩ : ∃ lv, lv = (aftR T n 11 0 1 (plcR T n (dC D) (dR D) r).1).2 := ⟨_, rfl⟩
    have hlv1 : lv ≤ 1 := by rw [hlv]; exact hv.2
    rw [← hlv] at hx3 hQ
    rw [← hJ] at hQ
    have fin : ∀ b : Bool, (lv == 1) = b → Q none (uI (uI (uI M3 292 J x1) 293 J (b01 b)) 291 z (nI (dTot D + 1))) := fun b hb => by
      have g4 : gF (sY0 z J) nT M3 (uI (uI (uI M3 292 J x1) 293 J (b01 b)) 291 z (nI (dTot D + 1))) := gF_trans (gF_i _ (Or.inl ⟨Or.inl rfl, rfl⟩)) (gF_trans (gF_i _ (Or.inl ⟨Or.inr rfl, rfl⟩)) (gF_i _ (Or.inr ⟨rfl, rfl⟩)))
      refine hQ t' _ hr (gF_trans (gF_up G3 (fun a j q => Or.inl q) (fun _ _ q => q)) (gF_up g4 (fun a j q => Or.inr q) (fun _ _ q => q))) (RdM_g s3'' g4 (fun a j q w => by unfold sY0 at w; omega)) ?_ ?_ ?_
      · rw [m_uI_I, if_pos ⟨rfl, rfl⟩]
      · rw [m_uI_I, if_neg (by omega), m_uI_I, if_neg (by omega), m_uI_I, if_pos ⟨rfl, rfl⟩, hx1]
      · rw [m_uI_I, if_neg (by omega), m_uI_I, if_pos ⟨rfl, rfl⟩, hb]
    by_cases cl : lv = 1
    · have h9 := fin true (by rw [cl]; rfl)
      have hx31 : x3 = 1 := by rw [hx3, cl]; rfl
      simp +decide (disch := omega) only [qX11_says_0, qX11_says_1, qX11_says_2, lm L3, i3, n3, eJ, s3''.2.1, hx31, b01, ni_in_t, ni_tn, ni_add1, show nI 1 = (1 : Int32) from rfl, am_w1_i, am_w1_r, am_w1_x, am_w1_l, am_w1_w, va_rf_s, am_push_n, am_push_s, am_cs_0, am_cs_i, am_cs_l, am_cs_r, m_uI_K, m_uI_N, m_uI_R, m_uI_L, m_uI_I, m_uL_K, m_uL_N, m_uL_R, m_uL_I, m_uL_L, m_uR_K, m_uR_N, m_uR_I, m_uR_L, m_uR_R, true_and, and_true, true_implies, false_implies, not_true_eq_false, not_false_eq_true, if_true, if_false, false_and, and_false] at h9 ⊢
      exact h9
    · have cl0 : lv = 0 := by omega
      have h9 := fin false (by rw [cl0]; rfl)
      have hx30 : x3 = 0 := by rw [hx3, cl0]; rfl
      simp +decide (disch := omega) only [qX11_says_0, qX11_says_1, qX11_says_2, lm L3, i3, n3, eJ, s3''.2.1, hx30, b01, ni_in_t, ni_tn, ni_add1, show nI 1 = (1 : Int32) from rfl, am_w1_i, am_w1_r, am_w1_x, am_w1_l, am_w1_w, va_rf_s, am_push_n, am_push_s, am_cs_0, am_cs_i, am_cs_l, am_cs_r, m_uI_K, m_uI_N, m_uI_R, m_uI_L, m_uI_I, m_uL_K, m_uL_N, m_uL_R, m_uL_I, m_uL_L, m_uR_K, m_uR_N, m_uR_I, m_uR_L, m_uR_R, true_and, and_true, true_implies, false_implies, not_true_eq_false, not_false_eq_true, if_true, if_false, false_and, and_false] at h9 ⊢
      exact h9
theorem k_say (d c : Nat) (D : Dat) (t : Tok) (M : am_M) (Q : Option Value → am_M → Prop) (hG : GdM T n z M D c t) (hC : 1 ≤ dC D) (hRr : 1 ≤ dR D) (h0 : ¬ t.1 = 0) (hQ : ∀ M', EdM T n z t M M' (spSay T n D t) → Q none M') : am_E am_P0 (d + 4) 201 [.ref 277] M Q := by
  obtain ⟨hL, hR, hP, hD, hc⟩ := id hG
  have hEn := (GdM_t hG).1
  have hz := hP.2.2.2.2.2.2.2.2.2.2
  have h96 := hD.2.2.2.2.2.1
  have h8 := hD.2.2.1.1
  obtain ⟨N, hN⟩ : ∃ N, N = dTot D := ⟨_, rfl⟩
  rw [← hN] at h96
  have hnm : nI N = 96 ↔ N = 96 := by rw [show (96 : Int32) = nI 96 from rfl, ni_eq (by omega) (by omega)]
  have main : am_E am_P0 (d + 3) 193 [.ref 277, .int (b01 (decide (96 ≤ N)))] M (fun r M2 => am_P am_P0 (d + 4) (am_look tX11_says) 23 [.ref 277, am_x, am_x, am_x, am_x, am_x] (am_push r []) M2 Q) := by
    refine m_counts (d + 1) (decide (96 ≤ N)) t M _ hL hR (fun M1 x1 g1 s1 f1 o1 => ?_)
    by_cases cf : 96 ≤ N
    · rw [if_pos (decide_eq_true cf)] at s1 f1
      have h9 := hQ M1 (by unfold spSay; rw [if_pos (by omega)]; exact ⟨sRm_S g1, s1⟩)
      simp +decide only [qX11_says_0, qX11_says_1, qX11_says_2, f1 _ rfl, am_w1_i, am_w1_r, am_w1_x, am_w1_l, am_w1_w, va_rf_s, am_push_n, am_push_s, am_cs_0, am_cs_i, am_cs_l, am_cs_r, m_uI_K, m_uI_N, m_uI_R, m_uI_L, m_uI_I, m_uL_K, m_uL_N, m_uL_R, m_uL_I, m_uL_L, m_uR_K, m_uR_N, m_uR_I, m_uR_L, m_uR_R, true_and, and_true, true_implies, false_implies, not_true_eq_false, not_false_eq_true, if_true, if_false, false_and, and_false]
      exact h9
    · rw [if_neg (by rw [decide_eq_false cf]; decide)] at s1 f1 o1
      unfold spSay at hQ
      rw [if_neg (by omega)] at hQ
      cases hr1 : advR T n t with
      | inl e =>
        rw [hr1] at s1 hQ
        have h9 := hQ M1 ⟨sRm_S g1, s1⟩
        simp +decide only [qX11_says_0, qX11_says_1, qX11_says_2, f1 e hr1, am_w1_i, am_w1_r, am_w1_x, am_w1_l, am_w1_w, va_rf_s, am_push_n, am_push_s, am_cs_0, am_cs_i, am_cs_l, am_cs_r, m_uI_K, m_uI_N, m_uI_R, m_uI_L, m_uI_I, m_uL_K, m_uL_N, m_uL_R, m_uL_I, m_uL_L, m_uR_K, m_uR_N, m_uR_I, m_uR_L, m_uR_R, true_and, and_true, true_implies, false_implies, not_true_eq_false, not_false_eq_true, if_true, if_false, false_and, and_false]
        exact h9
      | inr t1 =>
        have L1 := gF_LayN g1 hL
        have P1 := PdM_R hP hD g1
        have haf1 : AfR T n t (shpR T n D (advR T n t)).1 := AfR_h D (AfR_1 hEn)
        simp +decide (disch := omega) only [qX11_says_0, qX11_says_1, qX11_says_2, o1 t1 hr1, lm L1, am_w1_i, am_w1_r, am_w1_x, am_w1_l, am_w1_w, va_rf_s, am_push_n, am_push_s, am_cs_0, am_cs_i, am_cs_l, am_cs_r, m_uI_K, m_uI_N, m_uI_R, m_uI_L, m_uI_I, m_uL_K, m_uL_N, m_uL_R, m_uL_I, m_uL_L, m_uR_K, m_uR_N, m_uR_I, m_uR_L, m_uR_R, true_and, and_true, true_implies, false_implies, not_true_eq_false, not_false_eq_true, if_true, if_false, false_and, and_false]
        refine m_asked (d + 1) z D _ M1 _ L1 hz P1.2.2.2.2.2.2.2.2.2.1 P1.2.2.1 hD s1 (fun M2 s hs8 g2 s2 e2 => ?_)
        have L2 := gF_LayN g2 L1
        have G2 := gF_trans g1 g2
        have P2 := PdM_R hP hD G2
        -- behind the number of the hour, after a fault
        have bad : ∀ (e : Nat × Nat) (M3 : am_M), gF sRm nT M M3 → FtM M3 T n e.1 e.2 → (∀ M', EdM T n z t M M' (.inl e) → Q none M') → ∀ (x : Int32), am_P am_P0 (d + 4) (am_look tX11_says) 103 [.ref 277, .int (nI s), am_x, am_x, am_x, am_x] [.int x] M3 Q := by
          intro e M3 G3 h3 hQ3 x
          refine k_sayT d c s 0 D (.inl e) x M3 Q (gF_LayN G3 hL) h3 (PdM_R hP hD G3) hD hC hRr hs8 (fun t' q => by cases q) (by omega) (fun e' M' he' g' h' => ?_) (fun t' M' ht' => by cases ht')
          cases he'
          exact hQ3 M' ⟨sRm_S (gF_trans G3 g'), h'⟩
        cases hr2 : (shpR T n D (advR T n t)).1 with
        | inl e =>
          rw [hr2] at s2 hQ
          have s2' : FtM M2 T n e.1 e.2 := s2
          have hp := FtM_pos s2'
          have h9 := bad e M2 G2 s2' hQ 0
          have hnf := fun lo hi Q => m_numF (T := T) (n := n) (d + 3) e lo hi M2 Q L2 s2
          simp +decide (disch := omega) only [qX11_says_0, qX11_says_1, qX11_says_2, lm L2, hnf, am_w1_i, am_w1_r, am_w1_x, am_w1_l, am_w1_w, va_rf_s, am_push_n, am_push_s, am_cs_0, am_cs_i, am_cs_l, am_cs_r, m_uI_K, m_uI_N, m_uI_R, m_uI_L, m_uI_I, m_uL_K, m_uL_N, m_uL_R, m_uL_I, m_uL_L, m_uR_K, m_uR_N, m_uR_I, m_uR_L, m_uR_R, true_and, and_true, true_implies, false_implies, not_true_eq_false, not_false_eq_true, if_true, if_false, false_and, and_false] at h9 ⊢
          rw [br_p hp.2.1]
          exact h9
        | inr u =>
          have s2' := s2
          rw [hr2] at s2'
          have s2u : RdM M2 T n u := s2'
          have hse := e2 u hr2
          have hsl : s < (dSh D).length := by rw [hse]; exact shp_i hr2
          rw [hr2, ← hse] at hQ
          have h3 := RdM_3 s2u 2 (by omega)
          rw [show nI 2 = (2 : Int32) from rfl] at h3
          have en : isNR 0 47 (.inr u) = if ¬ u.1 = 2 then (.inl (1, tS u), false) else if u.2.1 < 0 ∨ 47 < u.2.1 then (.inl (4, tS u), false) else (.inr u, true) := rfl
          have em : numR T n 0 47 (.inr u) = if ¬ u.1 = 2 then (.inl (1, tS u), 0) else if u.2.1 < 0 ∨ 47 < u.2.1 then (.inl (4, tS u), 0) else (advR T n u, u.2.1) := rfl
          have hQ : ∀ M', EdM T n z t M M' (bR (isNR 0 47 (.inr u)).1 (fun t2 => if dB (∃ y, y ∈ dY D s ∧ y.1 = t2.2.1) = true then .inl (3, tS t2) else (bR (aftR T n 11 0 1 (plcR T n (dC D) (dR D) (advR T n t2)).1).1 (fun t' => .inr (t', addY D s (inY (dY D s) (t2.2.1, (plcR T n (dC D) (dR D) (advR T n t2)).2, (aftR T n 11 0 1 (plcR T n (dC D) (dR D) (advR T n t2)).1).2 == 1))))))) → Q none M' := hQ
          by_cases cn : u.1 = 2 ∧ u.2.1 ≤ 47
          · rw [if_neg (by omega), if_neg (by omega)] at en em
            rw [en] at hQ
            have hQ : ∀ M', EdM T n z t M M' (if dB (∃ y, y ∈ dY D s ∧ y.1 = u.2.1) = true then .inl (3, tS u) else (bR (aftR T n 11 0 1 (plcR T n (dC D) (dR D) (advR T n u)).1).1 (fun t' => .inr (t', addY D s (inY (dY D s) (u.2.1, (plcR T n (dC D) (dR D) (advR T n u)).2, (aftR T n 11 0 1 (plcR T n (dC D) (dR D) (advR T n u)).1).2 == 1)))))) → Q none M' := hQ
            obtain ⟨h, hh⟩ : ∃ h, h = u.2.1 := ⟨_, rfl⟩
            have h6 := s2u.2.2.2.2.2.2.1 (Or.inl cn.1)
            rw [← hh] at h6 hQ cn
            have his := fun Q => c_m_is (d + 3) (nI h) 0 47 M2 Q
            have hb1 : bI ((0 : Int32) ≤ nI h ∧ nI h ≤ 47) = 1 := bI_t (by rw [show (0 : Int32) = nI 0 from rfl, show (47 : Int32) = nI 47 from rfl, ni_le (by omega) (by omega), ni_le (by omega) (by omega)]; omega)
            have i2 := P2.2.2.2.2.2.2.2.2.2.1
            have eJ : (384 : Int32) * nI z + 48 * nI s + nI h = nI (384 * z + 48 * s + h) := by
              rw [show (384 : Int32) = nI 384 from rfl, show (48 : Int32) = nI 48 from rfl, ni_mul, ni_mul, ni_add, ni_add]
            have hSy := P2.2.2.2.1.2 s hs8
            have hsaid : mI M2 292 (384 * z + 48 * s + h) = -1 ↔ ¬ ∃ y, y ∈ dY D s ∧ y.1 = h := by
              rcases hSy.2.2 h (by omega) with ⟨y, q1, q2, q3, -⟩ | ⟨q1, q2⟩
              · constructor
                · intro w
                  rw [q3] at w
                  have hv := (hSy.2.1 y q1).2
                  have hcl : cel (dC D) y.2.1 < 2147483648 := by
                    unfold cel; unfold vld at hv
                    have := hD.1
                    have h1 : dC D * (y.2.1 / 16) ≤ 16 * 16 := Nat.mul_le_mul (by omega) (by omega)
                    omega
                  exact absurd w (nI_m1 hcl)
                · intro w; exact absurd ⟨y, q1, q2⟩ w
              · exact ⟨fun _ ⟨y, w1, w2⟩ => q1 y w1 w2, fun _ => q2⟩
            simp +decide (disch := omega) only [qX11_says_0, qX11_says_1, qX11_says_2, lm L2, s2u.2.1, h3.mpr cn.1, h6, his, hb1, i2, eJ, ni_in_t, ni_tn, am_w1_i, am_w1_r, am_w1_x, am_w1_l, am_w1_w, va_rf_s, am_push_n, am_push_s, am_cs_0, am_cs_i, am_cs_l, am_cs_r, m_uI_K, m_uI_N, m_uI_R, m_uI_L, m_uI_I, m_uL_K, m_uL_N, m_uL_R, m_uL_I, m_uL_L, m_uR_K, m_uR_N, m_uR_I, m_uR_L, m_uR_R, true_and, and_true, true_implies, false_implies, not_true_eq_false, not_false_eq_true, if_true, if_false, false_and, and_false]
            by_cases cs : ∃ y, y ∈ dY D s ∧ y.1 = h
            · rw [if_pos (dB_t.mpr cs)] at hQ
              rw [br_n (fun w => (hsaid.mp w) cs)]
              have hfm := FtM_0 (k := 3) s2u (by omega)
              have hbl := fun Q => m_blame (T := T) (n := n) (d + 3) 3 u M2 Q L2 s2u
              rw [show nI 3 = (3 : Int32) from rfl] at hbl hfm
              have Lf : Lay (uI (uI M2 277 8 3) 277 9 (nI (tS u))) := L2
              have hnf := fun lo hi Q => m_numF (T := T) (n := n) (d + 3) (3, tS u) lo hi (uI (uI M2 277 8 3) 277 9 (nI (tS u))) Q Lf hfm.1
              have h9 := bad (3, tS u) _ (gF_trans G2 hfm.2) hfm.1 hQ 0
              simp +decide (disch := omega) only [qX11_says_0, qX11_says_1, qX11_says_2, lm L2, lm Lf, s2u.2.2.2.2.1, hbl, hnf, am_w1_i, am_w1_r, am_w1_x, am_w1_l, am_w1_w, va_rf_s, am_push_n, am_push_s, am_cs_0, am_cs_i, am_cs_l, am_cs_r, m_uI_K, m_uI_N, m_uI_R, m_uI_L, m_uI_I, m_uL_K, m_uL_N, m_uL_R, m_uL_I, m_uL_L, m_uR_K, m_uR_N, m_uR_I, m_uR_L, m_uR_R, true_and, and_true, true_implies, false_implies, not_true_eq_false, not_false_eq_true, if_true, if_false, false_and, and_false] at h9 ⊢
              exact h9
            · rw [if_neg (fun q => cs (dB_t.mp q))] at hQ
              rw [br_p (hsaid.mpr cs)]
              rw [show (0 : Int32) = nI 0 from rfl, show (47 : Int32) = nI 47 from rfl]
              refine m_num (d + 1) 0 47 (.inr u) M2 _ L2 (by omega) (by omega) s2u (fun M3 x3 g3 s3 e3 => ?_)
              rw [em] at s3 e3
              have G3 := gF_trans G2 g3
              have P3 := PdM_R hP hD G3
              have L3 := gF_LayN G3 hL
              have h9 := k_sayT d c s h D (advR T n u) x3 M3 Q L3 s3 P3 hD hC hRr hs8 (fun t' q => ⟨by rw [e3 t' q, hh], by omega⟩) (by omega) (fun e M' he g' h' => ?_) (fun t' M' ht' g' hR' n' v1 v2 => ?_)
              · simp +decide (disch := omega) only [qX11_says_0, qX11_says_1, qX11_says_2, lm L3, am_w1_i, am_w1_r, am_w1_x, am_w1_l, am_w1_w, va_rf_s, am_push_n, am_push_s, am_cs_0, am_cs_i, am_cs_l, am_cs_r, m_uI_K, m_uI_N, m_uI_R, m_uI_L, m_uI_I, m_uL_K, m_uL_N, m_uL_R, m_uL_I, m_uL_L, m_uR_K, m_uR_N, m_uR_I, m_uR_L, m_uR_R, true_and, and_true, true_implies, false_implies, not_true_eq_false, not_false_eq_true, if_true, if_false, false_and, and_false] at h9 ⊢
                exact h9
              · rw [he] at hQ
                exact hQ M' ⟨sRm_S (gF_trans G3 g'), h'⟩
              · rw [hr2] at haf1
                have haf : AfR T n t (.inr t') := by rw [← ht']; exact AfR_f _ _ _ (AfR_p _ _ (AfR_a haf1))
                have hlt := AfR_lt (GdM_t hG) h0 haf
                have hv := numR_v ht'
                obtain ⟨u3, hu3⟩ := aft_i ht'
                have hpv := plR_v hD hC hRr hu3
                obtain ⟨pl, hple⟩ : ∃ pl, pl = (plcR T n (dC D) (dR D) (advR T n u)).2 := ⟨_, rfl⟩
                obtain ⟨lb, hlbe⟩ : ∃ lb : Bool, lb = ((aftR T n 11 0 1 (plcR T n (dC D) (dR D) (advR T n u)).1).2 == 1) := ⟨_, rfl⟩
                rw [ht', ← hple, ← hlbe] at hQ
                rw [← hple] at hpv v1
                rw [← hlbe] at v2
                have hno : ∀ y, y ∈ dY D s → ¬ y.1 = h := fun y hy q => cs ⟨y, hy, q⟩
                have hsr := hD.2.2.2.2.1 s
                have hall := hD.2.2.2.1 s
                have hin := inY_srt (y0 := (h, pl, lb)) hsr hno
                have hin2 : ∀ y, y ∈ inY (dY D s) (h, pl, lb) → y.1 < 48 ∧ vld (dC D) (dR D) y.2.1 := fun y hy => by
                  rcases inY_mem.mp hy with rfl | q
                  · exact ⟨by show h < 48; omega, hpv.1⟩
                  · exact hall y q
                have hyl : s < (dYs D).length := by have := hD.2.2.1.2.1; omega
                have hYs := dY_set (D := D) (s := s) (Y := inY (dY D s) (h, pl, lb)) hyl
                have htot1 : dTot (addY D s (inY (dY D s) (h, pl, lb))) = dTot D + 1 := by
                  have := sumF_one (f := fun i => (dY D i).length) (g := fun i => (dY (addY D s (inY (dY D s) (h, pl, lb))) i).length) (s := s) (by rw [hYs, if_pos rfl, inY_len]) (fun i hi => by rw [hYs, if_neg hi]) (dSh D).length
                  rw [if_pos hsl] at this
                  exact this
                have G : gF (sSm z) nT M3 M' := gF_up g' (fun a j q => by
                  rcases q with q | q
                  · exact sS_0 (by unfold sRm at q; omega)
                  · unfold sY0 at q
                    by_cases q1 : a = 291
                    · exact sS_1 (by omega)
                    · exact sS_5 (by omega)) (fun _ _ q => q)
                refine hQ M' ⟨gF_trans (sRm_S G3) G, ⟨c, gF_LayN g' L3, hR', ?_, DOK_y hD hsl hin hin2 (by omega), by show c ≤ tS t'; omega⟩, hlt⟩
                obtain ⟨⟨a1, a2⟩, b1, b2, b3, b4, b5, ⟨r1, r2, r3⟩, f⟩ := P3
                have l1 := hD.2.2.2.2.2.2.2.2.1.1
                have l2 := hD.2.2.2.2.2.2.2.2.2.1.1
                have l3 := hD.2.2.2.2.2.2.2.2.2.2.1
                refine ⟨⟨by rw [g'.1 _ _ (by unfold sRm sY0; omega)]; exact a1, by rw [g'.1 _ _ (by unfold sRm sY0; omega)]; exact a2⟩, by rw [g'.1 _ _ (by unfold sRm sY0; omega)]; exact b1, ShpM_g b2 g' (by unfold sRm sY0; omega) (fun a j q1 q2 q3 w => by unfold sRm sY0 at w; omega), ⟨by rw [n', htot1], fun s' hs' => ?_⟩, BkM_gF b4 g' (by unfold sRm sY0; omega) (fun a j q1 q2 q3 w => by unfold sRm sY0 at w; omega), SgM_g b5 g' (by unfold sRm sY0; omega) (fun a j q1 q2 q3 w => by unfold sRm sY0 at w; omega), ⟨RlM_g r1 l1 g' (by unfold sRm sY0; omega) (fun a j q1 q2 q3 w => by unfold sRm sY0 at w; omega) (fun a j q1 q2 q3 w => by unfold sRm sY0 at w; omega), RlM_g r2 l2 g' (by unfold sRm sY0; omega) (fun a j q1 q2 q3 w => by unfold sRm sY0 at w; omega) (fun a j q1 q2 q3 w => by unfold sRm sY0 at w; omega), RlM_g r3 (Nat.le_trans l3 (by decide)) g' (by unfold sRm sY0; omega) (fun a j q1 q2 q3 w => by unfold sRm sY0 at w; omega) (fun a j q1 q2 q3 w => by unfold sRm sY0 at w; omega)⟩, FmM_g f g' (fun j q w => by unfold sRm sY0 at w; omega)⟩
                show SyM M' z (dC D) (dR D) s' (dY (addY D s (inY (dY D s) (h, pl, lb))) s')
                rw [hYs]
                by_cases es : s' = s
                · subst es
                  rw [if_pos rfl]
                  refine ⟨hin, hin2, fun t2 ht2 => ?_⟩
                  by_cases et : t2 = h
                  · subst et
                    exact Or.inl ⟨(t2, pl, lb), inY_mem.mpr (Or.inl rfl), rfl, v1, v2⟩
                  · have k1 : mI M' 292 (384 * z + 48 * s' + t2) = mI M3 292 (384 * z + 48 * s' + t2) := g'.1 _ _ (by unfold sRm sY0; omega)
                    have k2 : mI M' 293 (384 * z + 48 * s' + t2) = mI M3 293 (384 * z + 48 * s' + t2) := g'.1 _ _ (by unfold sRm sY0; omega)
                    rw [k1, k2]
                    rcases (b3.2 s' hs').2.2 t2 ht2 with ⟨y, q1, q2⟩ | ⟨q1, q2⟩
                    · exact Or.inl ⟨y, inY_mem.mpr (Or.inr q1), q2⟩
                    · refine Or.inr ⟨fun y hy => ?_, q2⟩
                      rcases inY_mem.mp hy with rfl | q
                      · exact fun w => et w.symm
                      · exact q1 y q
                · rw [if_neg es]
                  exact SyM_gF (b3.2 s' hs') g' (fun a t2 q ht2 w => by unfold sRm sY0 at w; omega)
          · have en2 : ∃ k, 1 ≤ k ∧ k ≤ 5 ∧ isNR 0 47 (.inr u) = (.inl (k, tS u), false) ∧ numR T n 0 47 (.inr u) = (.inl (k, tS u), 0) := by
              by_cases c2 : u.1 = 2
              · exact ⟨4, by omega, by omega, by rw [en, if_neg (by omega), if_pos (by omega)], by rw [em, if_neg (by omega), if_pos (by omega)]⟩
              · exact ⟨1, by omega, by omega, by rw [en, if_pos c2], by rw [em, if_pos c2]⟩
            obtain ⟨k, hk1, hk5, hk, hk'⟩ := en2
            rw [hk] at hQ
            -- nothing is blamed before the number is read
            have num : am_E am_P0 (d + 3) 182 [.ref 277, .int 0, .int 47] M2 (fun r M3 => am_P am_P0 (d + 4) (am_look tX11_says) 103 [.ref 277, .int (nI s), am_x, am_x, am_x, am_x] (am_push r []) M3 Q) := by
              rw [show (0 : Int32) = nI 0 from rfl, show (47 : Int32) = nI 47 from rfl]
              refine m_num (d + 1) 0 47 (.inr u) M2 _ L2 (by omega) (by omega) s2u (fun M3 x3 g3 s3 e3 => ?_)
              rw [hk'] at s3
              exact bad (k, tS u) M3 (gF_trans G2 g3) s3 hQ x3
            by_cases c2 : u.1 = 2
            · have h6 := s2u.2.2.2.2.2.2.1 (Or.inl c2)
              have hv := s2u.2.2.2.2.2.2.2.2.2.2.2.2.2.2.1 c2
              have his := fun Q => c_m_is (d + 3) (nI u.2.1) 0 47 M2 Q
              have hb1 : bI ((0 : Int32) ≤ nI u.2.1 ∧ nI u.2.1 ≤ 47) = 0 := bI_f (by rw [show (0 : Int32) = nI 0 from rfl, show (47 : Int32) = nI 47 from rfl, ni_le (by omega) (by omega), ni_le (by omega) (by omega)]; omega)
              simp +decide (disch := omega) only [qX11_says_0, qX11_says_1, qX11_says_2, lm L2, s2u.2.1, h3.mpr c2, h6, his, hb1, am_w1_i, am_w1_r, am_w1_x, am_w1_l, am_w1_w, va_rf_s, am_push_n, am_push_s, am_cs_0, am_cs_i, am_cs_l, am_cs_r, m_uI_K, m_uI_N, m_uI_R, m_uI_L, m_uI_I, m_uL_K, m_uL_N, m_uL_R, m_uL_I, m_uL_L, m_uR_K, m_uR_N, m_uR_I, m_uR_L, m_uR_R, true_and, and_true, true_implies, false_implies, not_true_eq_false, not_false_eq_true, if_true, if_false, false_and, and_false] at num ⊢
              exact num
            · simp +decide (disch := omega) only [qX11_says_0, qX11_says_1, qX11_says_2, lm L2, s2u.2.1, am_w1_i, am_w1_r, am_w1_x, am_w1_l, am_w1_w, va_rf_s, am_push_n, am_push_s, am_cs_0, am_cs_i, am_cs_l, am_cs_r, m_uI_K, m_uI_N, m_uI_R, m_uI_L, m_uI_I, m_uL_K, m_uL_N, m_uL_R, m_uL_I, m_uL_L, m_uR_K, m_uR_N, m_uR_I, m_uR_L, m_uR_R, true_and, and_true, true_implies, false_implies, not_true_eq_false, not_false_eq_true, if_true, if_false, false_and, and_false] at num ⊢
              rw [br_q (fun w => c2 (h3.mp w))]
              exact num
  rw [eX11_says]
  have i0 := hP.2.2.2.2.2.2.2.2.2.1
  have n0 := hP.2.2.2.1.1
  rw [← hN] at n0
  simp +decide (disch := omega) only [qX11_says_0, qX11_says_1, qX11_says_2, lm hL, i0, n0, hnm, ni_in_t, ni_tn, am_w1_i, am_w1_r, am_w1_x, am_w1_l, am_w1_w, va_rf_s, am_push_n, am_push_s, am_cs_0, am_cs_i, am_cs_l, am_cs_r, m_uI_K, m_uI_N, m_uI_R, m_uI_L, m_uI_I, m_uL_K, m_uL_N, m_uL_R, m_uL_I, m_uL_L, m_uR_K, m_uR_N, m_uR_I, m_uR_L, m_uR_R, true_and, and_true, true_implies, false_implies, not_true_eq_false, not_false_eq_true, if_true, if_false, false_and, and_false]
  by_cases cf : 96 ≤ N
  · rw [decide_eq_true cf] at main
    rw [br_r (by omega)]
    exact main
  · rw [decide_eq_false cf] at main
    rw [br_q (by omega)]
    exact main
end
