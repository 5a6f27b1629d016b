/-! the model: honest hours, gaps, kinds; the class: kindsOf -/
theorem l_m_honest (d b s t : Nat) (D : Dat) (M0 : am_M) (Q : Option Value → am_M → Prop) (hD : dOK D) (hL0 : Lay M0) (h0' : MdM M0 b D) (hs : s < dN D) (ht : t < 48) (hY0 : LyM M0 (dC D) (dR D) (dWt D s) (dV D s) (dSn D s) (dBs D s) (dY D s))
    (hQ : ∀ M', gF sWk nT M0 M' → Q (some (.int (tI (hnY (dWt D s) (dV D s) (dSn D s) (dBs D s) (dY D s) (dQt D) t)))) M') :
    ∀ (m c : Nat), c + m = dC D * dR D → ∀ (M : am_M), gF sWk nT M0 M → (∀ q, vld (dC D) (dR D) q → cel (dC D) q < c → dMy D s t q → ¬ dQt D q t) → am_P am_P0 (d + 5) (am_look tX11_isHonest) 2 [.ref 277, .int (nI s), .int (nI t), .int (nI c)] [] M Q := by
  have n8 := dN_8 hD
  have hCR : dC D * dR D ≤ 16 * 16 := Nat.mul_le_mul hD.1.1.1 hD.1.1.2
  have hC1 := dOK_1 hD hs
  intro m
  induction m with
  | zero =>
    intro c hc M hM hb
    have hL := gF_LayN hM hL0
    have h := MdM_g h0' hM (fun a j q z => by unfold sWk at z; unfold tlM at q; omega)
    have ec := fun Q => c_m_cells (d + 4) M Q hL b (dC D) (dR D) h.1.1 h.1.2 h.2.1.1 h.2.1.2
    have hle : nI (dC D * dR D) ≤ nI c := (ni_le (by omega) (by omega)).mpr (by omega)
    have h0 := hQ M hM
    rw [tI_f (fun q => by
      obtain ⟨p, p1, p2⟩ := q
      have hv := dMy_v hD hs p1
      exact hb p hv (by have := (cel_lt hD.1.1.1 hD.1.1.2 hv).1; omega) p1 p2)] at h0
    rw [hX11_isHonest_2]
    simp +decide only [qX11_isHonest, lm hL, ec, am_w1_i, am_w1_r, am_w1_x, am_w1_l, am_w1_w, va_rf_s, am_push_n, am_push_s, am_cs_0, am_cs_i, am_cs_l, am_cs_r, m_uI_K, m_uI_N, m_uI_R, m_uI_L, m_uI_I, m_uL_K, m_uL_N, m_uL_R, m_uL_I, m_uL_L, m_uR_K, m_uR_N, m_uR_I, m_uR_L, m_uR_R, true_and, and_true, true_implies, false_implies, not_true_eq_false, not_false_eq_true, if_true, if_false, false_and, and_false]
    first | rw [br_p (hle)] | rw [br_r (hle)] | rw [br_s (hle)]
    exact h0
  | succ m ih =>
    intro c hc M hM hb
    have hL := gF_LayN hM hL0
    have h := MdM_g h0' hM (fun a j q z => by unfold sWk at z; unfold tlM at q; omega)
    have hY := LyM_g hY0 hM (fun a j q z => by unfold sWk at z; unfold sY sK sP sFG sF sG at q; omega)
    have ec := fun Q => c_m_cells (d + 4) M Q hL b (dC D) (dR D) h.1.1 h.1.2 h.2.1.1 h.2.1.2
    have hlt : ¬ nI (dC D * dR D) ≤ nI c := by rw [ni_le (by omega) (by omega)]; omega
    have hcl : c < dC D * dR D := by omega
    have hp := plc_v hD.1.1.1 hC1.1 hcl
    have em := fun Q => m_mayBe hD hL h hs (d + 3) Q hY hp.1 ht
    rw [hp.2] at em
    have hstep : ∀ (P : Prop), (dMy D s t (plc (dC D) c) → ¬ dQt D (plc (dC D) c) t) → ∀ q, vld (dC D) (dR D) q → cel (dC D) q < c + 1 → dMy D s t q → ¬ dQt D q t := fun _ hn q hv hq => by
      by_cases e : cel (dC D) q = c
      · have : q = plc (dC D) c := cel_inj hv hp.1 (by rw [e, hp.2])
        rw [this]; exact hn
      · exact hb q hv (by omega)
    rw [hX11_isHonest_2]
    simp +decide only [qX11_isHonest, lm hL, ec, em, tI_0, ni_add1, am_w1_i, am_w1_r, am_w1_x, am_w1_l, am_w1_w, va_rf_s, am_push_n, am_push_s, am_cs_0, am_cs_i, am_cs_l, am_cs_r, m_uI_K, m_uI_N, m_uI_R, m_uI_L, m_uI_I, m_uL_K, m_uL_N, m_uL_R, m_uL_I, m_uL_L, m_uR_K, m_uR_N, m_uR_I, m_uR_L, m_uR_R, true_and, and_true, true_implies, false_implies, not_true_eq_false, not_false_eq_true, if_true, if_false, false_and, and_false]
    first | rw [br_n (hlt)] | rw [br_q (hlt)] | rw [br_u (hlt)]
    by_cases cm : dMy D s t (plc (dC D) c)
    · first | rw [br_p (cm)] | rw [br_r (cm)] | rw [br_s (cm)]
      have hq := m_isQuiet d b (dC D) (dR D) (plc (dC D) c) t (dRd D) (dRc D) (dRq D) M (fun r M2 => am_P am_P0 (d + 5) (am_look tX11_isHonest) 26 [.ref 277, .int (nI s), .int (nI t), .int (nI c)] (am_push r []) M2 Q) hL (m_MB hD h hC1.1 hC1.2) h.2.2.2.2.2.2.2.2 h.2.2.2.2.2.2.2.1.2.2 hp.1 (by omega) (fun M1 g1 => by
        rw [show qtF (dC D) (dR D) (dRd D) (dRq D) (plc (dC D) c) t = dQt D (plc (dC D) c) t from rfl]
        by_cases cq : dQt D (plc (dC D) c) t
        · have h0 := hQ M1 (gF_trans hM g1)
          rw [tI_t ⟨_, cm, cq⟩] at h0
          rw [tI_t cq]
          simp +decide only [qX11_isHonest, am_w1_i, am_w1_r, am_w1_x, am_w1_l, am_w1_w, va_rf_s, am_push_n, am_push_s, am_cs_0, am_cs_i, am_cs_l, am_cs_r, m_uI_K, m_uI_N, m_uI_R, m_uI_L, m_uI_I, m_uL_K, m_uL_N, m_uL_R, m_uL_I, m_uL_L, m_uR_K, m_uR_N, m_uR_I, m_uR_L, m_uR_R, true_and, and_true, true_implies, false_implies, not_true_eq_false, not_false_eq_true, if_true, if_false, false_and, and_false]
          exact h0
        · have h0 := ih (c + 1) (by omega) M1 (gF_trans hM g1) (hstep True (fun _ => cq))
          rw [tI_f cq]
          simp +decide only [qX11_isHonest, ni_add1, am_w1_i, am_w1_r, am_w1_x, am_w1_l, am_w1_w, va_rf_s, am_push_n, am_push_s, am_cs_0, am_cs_i, am_cs_l, am_cs_r, m_uI_K, m_uI_N, m_uI_R, m_uI_L, m_uI_I, m_uL_K, m_uL_N, m_uL_R, m_uL_I, m_uL_L, m_uR_K, m_uR_N, m_uR_I, m_uR_L, m_uR_R, true_and, and_true, true_implies, false_implies, not_true_eq_false, not_false_eq_true, if_true, if_false, false_and, and_false]
          exact h0)
      rw [hp.2] at hq
      exact hq
    · first | rw [br_n (cm)] | rw [br_q (cm)] | rw [br_u (cm)]
      exact ih (c + 1) (by omega) M hM (hstep True (fun q => absurd q cm))
theorem m_isHonest {M : am_M} {b s t : Nat} {D : Dat} (hD : dOK D) (hL : Lay M) (h : MdM M b D) (hs : s < dN D) (ht : t < 48) (hY : LyM M (dC D) (dR D) (dWt D s) (dV D s) (dSn D s) (dBs D s) (dY D s)) (d : Nat) (Q : Option Value → am_M → Prop)
    (hQ : ∀ M', gF sWk nT M M' → Q (some (.int (tI (hnY (dWt D s) (dV D s) (dSn D s) (dBs D s) (dY D s) (dQt D) t)))) M') : am_E am_P0 (d + 5) 252 [.ref 277, .int (nI s), .int (nI t)] M Q := by
  have h0 := l_m_honest d b s t D M Q hD hL h hs ht hY hQ (dC D * dR D) 0 (by omega) M (gF_refl _ _ _) (fun q hv hq => by omega)
  rw [eX11_isHonest]
  simp +decide only [qX11_isHonest, am_w1_i, am_w1_r, am_w1_x, am_w1_l, am_w1_w, va_rf_s, am_push_n, am_push_s, am_cs_0, am_cs_i, am_cs_l, am_cs_r, m_uI_K, m_uI_N, m_uI_R, m_uI_L, m_uI_I, m_uL_K, m_uL_N, m_uL_R, m_uL_I, m_uL_L, m_uR_K, m_uR_N, m_uR_I, m_uR_L, m_uR_R, true_and, and_true, true_implies, false_implies, not_true_eq_false, not_false_eq_true, if_true, if_false, false_and, and_false]
  exact h0
def sGa (a j : Nat) : Prop := sWk a j ∨ (a = 277 ∧ j = 73)
section
variable (d b s : Nat) (D : Dat) (M0 : am_M) (Q : Option Value → am_M → Prop)
noncomputable abbrev gpD (D : Dat) (s t : Nat) : Nat := gpN (dWt D s) (dV D s) (dSn D s) (dBs D s) (dY D s) (dQt D) t
theorem l_m_gaps (hD : dOK D) (hL0 : Lay M0) (h0' : MdM M0 b D) (hs : s < dN D) (hY0 : LyM M0 (dC D) (dR D) (dWt D s) (dV D s) (dSn D s) (dBs D s) (dY D s)) (y0 yl : Sy) (k : Nat) (hk : k + 1 = (dY D s).length) (hy0 : (dY D s)[0]? = some y0) (hyl : (dY D s)[k]? = some yl)
    (hQ : ∀ M', gF sGa nT M0 M' → mI M' 277 73 = nI (unN (dY D s) 48) → Q (some (.int (nI (gpD D s 48)))) M') :
    ∀ (m t : Nat), t + m = yl.1 → y0.1 ≤ t → ∀ (M : am_M), gF sGa nT M0 M → mI M 277 73 = nI (unN (dY D s) t) → am_P am_P0 (d + 6) (am_look tX11_gapsOf) 31 [.ref 277, .int (nI s), .int (nI (gpD D s t)), .int (nI t)] [] M Q := by
  have n8 := dN_8 hD
  have hsr := hD.1.2.2.2.2.1 s
  have h48 := dY_len hD s
  have hyl48 := (hD.1.2.2.2.1 s yl (List.mem_of_getElem? hyl)).1
  intro m
  induction m with
  | zero =>
    intro t ht h1 M hM h73
    have hL := gF_LayN hM hL0
    have hY := LyM_g hY0 hM (fun a j q z => by unfold sGa sWk at z; unfold sY sK sP sFG sF sG at q; omega)
    obtain ⟨hn, hh⟩ := hY.1.1.1
    have hhl := hh k yl hyl
    have et : t = yl.1 := by omega
    have hle : nI yl.1 ≤ nI t := (ni_le (by omega) (by omega)).mpr (by omega)
    have hnp : ¬ nI (dY D s).length ≤ 0 := by rw [ni_pos (by omega)]; omega
    have eL : nI (dY D s).length - 1 = nI k := by rw [show (1 : Int32) = nI 1 from rfl, ni_sub (by omega)]; congr 1; omega
    have e1 : unN (dY D s) 48 = unN (dY D s) t := cnt_stay (by omega) (fun t' a1 a2 q => us_no2 hsr hk hyl (by omega) (dB_t.mp q))
    have e2 : gpD D s 48 = gpD D s t := cnt_stay (by omega) (fun t' a1 a2 q => us_no2 hsr hk hyl (by omega) (dB_t.mp q).1)
    have h0 := hQ M hM (by rw [e1]; exact h73)
    rw [e2] at h0
    rw [hX11_gapsOf_31]
    simp +decide (disch := omega) only [qX11_gapsOf_0, qX11_gapsOf_1, lm hL, hn, eL, hhl, ni_in_t, ni_tn, am_w1_i, am_w1_r, am_w1_x, am_w1_l, am_w1_w, va_rf_s, am_push_n, am_push_s, am_cs_0, am_cs_i, am_cs_l, am_cs_r, m_uI_K, m_uI_N, m_uI_R, m_uI_L, m_uI_I, m_uL_K, m_uL_N, m_uL_R, m_uL_I, m_uL_L, m_uR_K, m_uR_N, m_uR_I, m_uR_L, m_uR_R, true_and, and_true, true_implies, false_implies, not_true_eq_false, not_false_eq_true, if_true, if_false, false_and, and_false]
    first | rw [br_n (hnp)] | rw [br_q (hnp)] | rw [br_u (hnp)]
    first | rw [br_p (hle)] | rw [br_r (hle)] | rw [br_s (hle)]
    exact h0
  | succ m ih =>
    intro t ht h1 M hM h73
    have hL := gF_LayN hM hL0
    have h := MdM_g h0' hM (fun a j q z => by unfold sGa sWk at z; unfold tlM at q; omega)
    have hY := LyM_g hY0 hM (fun a j q z => by unfold sGa sWk at z; unfold sY sK sP sFG sF sG at q; omega)
    obtain ⟨hn, hh⟩ := hY.1.1.1
    have hhl := hh k yl hyl
    have hlt : ¬ nI yl.1 ≤ nI t := by rw [ni_le (by omega) (by omega)]; omega
    have hnp : ¬ nI (dY D s).length ≤ 0 := by rw [ni_pos (by omega)]; omega
    have eL : nI (dY D s).length - 1 = nI k := by rw [show (1 : Int32) = nI 1 from rfl, ni_sub (by omega)]; congr 1; omega
    have esd := fun Q => c_m_said (d + 5) s t M Q hL b h.1.1 h.1.2 (by omega) (by omega)
    rw [hX11_gapsOf_31]
    simp +decide (disch := omega) only [qX11_gapsOf_0, qX11_gapsOf_1, lm hL, hn, eL, hhl, esd, ni_in_t, ni_tn, am_w1_i, am_w1_r, am_w1_x, am_w1_l, am_w1_w, va_rf_s, am_push_n, am_push_s, am_cs_0, am_cs_i, am_cs_l, am_cs_r, m_uI_K, m_uI_N, m_uI_R, m_uI_L, m_uI_I, m_uL_K, m_uL_N, m_uL_R, m_uL_I, m_uL_L, m_uR_K, m_uR_N, m_uR_I, m_uR_L, m_uR_R, true_and, and_true, true_implies, false_implies, not_true_eq_false, not_false_eq_true, if_true, if_false, false_and, and_false]
    first | rw [br_n (hnp)] | rw [br_q (hnp)] | rw [br_u (hnp)]
    first | rw [br_n (hlt)] | rw [br_q (hlt)] | rw [br_u (hlt)]
    rcases (h.2.2.2.2.1.2 s (by omega)).2.2 t (by omega) with ⟨y, y1, y2, y3, y4⟩ | ⟨y1, y2⟩
    · have hv := (hD.1.2.2.2.1 s y y1).2
      have hne : ¬ mI M 292 (384 * b + 48 * s + t) = -1 := by rw [y3]; exact nI_m1 (by have := (cel_lt hD.1.1.1 hD.1.1.2 hv).2.1; omega)
      have hnu : ¬ usY (dY D s) t := fun q => q.2.2 y y1 y2
      have e1 : unN (dY D s) (t + 1) = unN (dY D s) t := cnt_f (fun q => hnu (dB_t.mp q))
      have e2 : gpD D s (t + 1) = gpD D s t := cnt_f (fun q => hnu (dB_t.mp q).1)
      have h0 := ih (t + 1) (by omega) (by omega) M hM (by rw [e1]; exact h73)
      rw [e2] at h0
      first | rw [br_n (hne)] | rw [br_q (hne)] | rw [br_u (hne)]
      simp +decide only [qX11_gapsOf_0, qX11_gapsOf_1, ni_add1, am_w1_i, am_w1_r, am_w1_x, am_w1_l, am_w1_w, va_rf_s, am_push_n, am_push_s, am_cs_0, am_cs_i, am_cs_l, am_cs_r, m_uI_K, m_uI_N, m_uI_R, m_uI_L, m_uI_I, m_uL_K, m_uL_N, m_uL_R, m_uL_I, m_uL_L, m_uR_K, m_uR_N, m_uR_I, m_uR_L, m_uR_R, true_and, and_true, true_implies, false_implies, not_true_eq_false, not_false_eq_true, if_true, if_false, false_and, and_false]
      exact h0
    · first | rw [br_p (y2)] | rw [br_r (y2)] | rw [br_s (y2)]
      have hu : usY (dY D s) t := by
        refine ⟨⟨y0, List.mem_of_getElem? hy0, ?_⟩, ⟨yl, List.mem_of_getElem? hyl, by omega⟩, y1⟩
        have := y1 y0 (List.mem_of_getElem? hy0)
        omega
      have e1 : unN (dY D s) (t + 1) = unN (dY D s) t + 1 := cnt_t (dB_t.mpr hu)
      obtain ⟨A, hA⟩ : ∃ A, A = uI M 277 73 (nI (unN (dY D s) t + 1)) := ⟨_, rfl⟩
      have w1 : gF sGa nT M A := by rw [hA]; exact gF_i _ (Or.inr ⟨rfl, rfl⟩)
      have LA := gF_LayN w1 hL
      have hAd := MdM_g h w1 (fun a j q z => by unfold sGa sWk at z; unfold tlM at q; omega)
      have hAY := LyM_g hY w1 (fun a j q z => by unfold sGa sWk at z; unfold sY sK sP sFG sF sG at q; omega)
      simp +decide only [qX11_gapsOf_0, qX11_gapsOf_1, lm hL, h73, ni_add1, ← hA, am_w1_i, am_w1_r, am_w1_x, am_w1_l, am_w1_w, va_rf_s, am_push_n, am_push_s, am_cs_0, am_cs_i, am_cs_l, am_cs_r, m_uI_K, m_uI_N, m_uI_R, m_uI_L, m_uI_I, m_uL_K, m_uL_N, m_uL_R, m_uL_I, m_uL_L, m_uR_K, m_uR_N, m_uR_I, m_uR_L, m_uR_R, true_and, and_true, true_implies, false_implies, not_true_eq_false, not_false_eq_true, if_true, if_false, false_and, and_false]
      refine m_isHonest hD LA hAd hs (by omega) hAY d _ (fun M1 g1 => ?_)
      have G1 : gF sGa nT M0 M1 := gF_trans (gF_trans hM w1) (gF_up g1 (fun a j q => Or.inl q) (fun _ _ q => q))
      have f73 : mI M1 277 73 = nI (unN (dY D s) (t + 1)) := by rw [g1.1 _ _ (by unfold sWk; omega), hA, m_uI_I, if_pos ⟨rfl, rfl⟩, e1]
      have h0 := ih (t + 1) (by omega) (by omega) M1 G1 f73
      by_cases c : hnY (dWt D s) (dV D s) (dSn D s) (dBs D s) (dY D s) (dQt D) t
      · have e2 : gpD D s (t + 1) = gpD D s t := cnt_f (fun q => (dB_t.mp q).2 c)
        rw [e2] at h0
        rw [tI_t c]
        simp +decide only [qX11_gapsOf_0, qX11_gapsOf_1, ni_add1, show (0 : Int32) = nI 0 from rfl, ni_add, Nat.add_zero, am_w1_i, am_w1_r, am_w1_x, am_w1_l, am_w1_w, va_rf_s, am_push_n, am_push_s, am_cs_0, am_cs_i, am_cs_l, am_cs_r, m_uI_K, m_uI_N, m_uI_R, m_uI_L, m_uI_I, m_uL_K, m_uL_N, m_uL_R, m_uL_I, m_uL_L, m_uR_K, m_uR_N, m_uR_I, m_uR_L, m_uR_R, true_and, and_true, true_implies, false_implies, not_true_eq_false, not_false_eq_true, if_true, if_false, false_and, and_false]
        exact h0
      · have e2 : gpD D s (t + 1) = gpD D s t + 1 := cnt_t (dB_t.mpr ⟨hu, c⟩)
        rw [e2] at h0
        rw [tI_f c]
        simp +decide only [qX11_gapsOf_0, qX11_gapsOf_1, ni_add1, am_w1_i, am_w1_r, am_w1_x, am_w1_l, am_w1_w, va_rf_s, am_push_n, am_push_s, am_cs_0, am_cs_i, am_cs_l, am_cs_r, m_uI_K, m_uI_N, m_uI_R, m_uI_L, m_uI_I, m_uL_K, m_uL_N, m_uL_R, m_uL_I, m_uL_L, m_uR_K, m_uR_N, m_uR_I, m_uR_L, m_uR_R, true_and, and_true, true_implies, false_implies, not_true_eq_false, not_false_eq_true, if_true, if_false, false_and, and_false]
        exact h0
end
theorem m_gapsOf {M : am_M} {b s : Nat} {D : Dat} (hD : dOK D) (hL : Lay M) (h : MdM M b D) (hs : s < dN D) (d : Nat) (Q : Option Value → am_M → Prop)
    (hQ : ∀ M', gF sMq nT M M' → KpM (dWt D s) (dV D s) (dSn D s) (dBs D s) (dY D s) M' → mI M' 277 73 = nI (unN (dY D s) 48) → Q (some (.int (nI (gpD D s 48)))) M') : am_E am_P0 (d + 8) 258 [.ref 277, .int (nI s)] M Q := by
  have n8 := dN_8 hD
  have hsr := hD.1.2.2.2.2.1 s
  have h48 := dY_len hD s
  rw [eX11_gapsOf]
  simp +decide only [qX11_gapsOf_0, qX11_gapsOf_1, lm hL, am_w1_i, am_w1_r, am_w1_x, am_w1_l, am_w1_w, va_rf_s, am_push_n, am_push_s, am_cs_0, am_cs_i, am_cs_l, am_cs_r, m_uI_K, m_uI_N, m_uI_R, m_uI_L, m_uI_I, m_uL_K, m_uL_N, m_uL_R, m_uL_I, m_uL_L, m_uR_K, m_uR_N, m_uR_I, m_uR_L, m_uR_R, true_and, and_true, true_implies, false_implies, not_true_eq_false, not_false_eq_true, if_true, if_false, false_and, and_false]
  refine m_laysS hD hL h hs d _ (fun M1 g1 y1 => ?_)
  have L1 := gF_LayN g1 hL
  have h1 := MdM_q h g1
  obtain ⟨A, hA⟩ : ∃ A, A = uI M1 277 73 0 := ⟨_, rfl⟩
  have w1 : gF sGa nT M1 A := by rw [hA]; exact gF_i _ (Or.inr ⟨rfl, rfl⟩)
  have LA := gF_LayN w1 L1
  have hAd := MdM_g h1 w1 (fun a j q z => by unfold sGa sWk at z; unfold tlM at q; omega)
  have hAY := LyM_g y1 w1 (fun a j q z => by unfold sGa sWk at z; unfold sY sK sP sFG sF sG at q; omega)
  have f73 : mI A 277 73 = 0 := by rw [hA, m_uI_I, if_pos ⟨rfl, rfl⟩]
  have u1 : ∀ {M'}, gF sGa nT A M' → gF sMq nT M M' := fun q => gF_trans g1 (gF_up (gF_trans w1 q) (fun a j z => by unfold sGa sWk at z; unfold sMq; omega) (fun _ _ q => q))
  obtain ⟨hn, hh⟩ := hAY.1.1.1
  have hn1 := y1.1.1.1.1
  simp +decide only [qX11_gapsOf_0, qX11_gapsOf_1, lm L1, hn1, ← hA, Classical.not_not, am_w1_i, am_w1_r, am_w1_x, am_w1_l, am_w1_w, va_rf_s, am_push_n, am_push_s, am_cs_0, am_cs_i, am_cs_l, am_cs_r, m_uI_K, m_uI_N, m_uI_R, m_uI_L, m_uI_I, m_uL_K, m_uL_N, m_uL_R, m_uL_I, m_uL_L, m_uR_K, m_uR_N, m_uR_I, m_uR_L, m_uR_R, true_and, and_true, true_implies, false_implies, not_true_eq_false, not_false_eq_true, if_true, if_false, false_and, and_false]
  by_cases c : (dY D s).length = 0
  · have e0 : dY D s = [] := List.length_eq_zero_iff.mp c
    have hu : ∀ t, ¬ usY (dY D s) t := fun t q => by obtain ⟨⟨y, y1, -⟩, -⟩ := q; rw [e0] at y1; cases y1
    have e1 : unN (dY D s) 48 = 0 := cnt_stay (a := 0) (by omega) (fun t _ _ q => hu t (dB_t.mp q))
    have e2 : gpD D s 48 = 0 := cnt_stay (a := 0) (by omega) (fun t _ _ q => hu t (dB_t.mp q).1)
    have h0 := hQ A (u1 (gF_refl _ _ _)) hAY.1 (by rw [f73, e1]; rfl)
    rw [e2] at h0
    have hz : nI (dY D s).length = 0 := by rw [c]; rfl
    first | rw [br_p (hz)] | rw [br_r (hz)] | rw [br_s (hz)]
    rw [hX11_gapsOf_31]
    simp +decide only [qX11_gapsOf_0, qX11_gapsOf_1, lm LA, hn, hz, am_w1_i, am_w1_r, am_w1_x, am_w1_l, am_w1_w, va_rf_s, am_push_n, am_push_s, am_cs_0, am_cs_i, am_cs_l, am_cs_r, m_uI_K, m_uI_N, m_uI_R, m_uI_L, m_uI_I, m_uL_K, m_uL_N, m_uL_R, m_uL_I, m_uL_L, m_uR_K, m_uR_N, m_uR_I, m_uR_L, m_uR_R, true_and, and_true, true_implies, false_implies, not_true_eq_false, not_false_eq_true, if_true, if_false, false_and, and_false]
    exact h0
  · have hz : ¬ nI (dY D s).length = 0 := by rw [show (0 : Int32) = nI 0 from rfl, ni_eq (by omega) (by omega)]; exact c
    first | rw [br_n (hz)] | rw [br_q (hz)] | rw [br_u (hz)]
    obtain ⟨y0, hy0⟩ : ∃ y, (dY D s)[0]? = some y := ⟨(dY D s)[0]'(by omega), List.getElem?_eq_getElem (by omega)⟩
    obtain ⟨yl, hyl⟩ : ∃ y, (dY D s)[(dY D s).length - 1]? = some y := ⟨(dY D s)[(dY D s).length - 1]'(by omega), List.getElem?_eq_getElem (by omega)⟩
    have hh0 := hh 0 y0 hy0
    have y048 := (hD.1.2.2.2.1 s y0 (List.mem_of_getElem? hy0)).1
    have hle : y0.1 ≤ yl.1 := by
      by_cases e : (dY D s).length - 1 = 0
      · rw [e, hy0] at hyl; cases hyl; exact Nat.le_refl _
      · have := srtY_lt hsr hy0 hyl (by omega); omega
    have e1 : unN (dY D s) y0.1 = 0 := cnt_stay (a := 0) (by omega) (fun t _ a2 q => us_no1 hsr hy0 (by omega) (dB_t.mp q))
    have e2 : gpD D s y0.1 = 0 := cnt_stay (a := 0) (by omega) (fun t _ a2 q => us_no1 hsr hy0 (by omega) (dB_t.mp q).1)
    have h9 := l_m_gaps (d + 2) b s D A Q hD LA hAd hs hAY y0 yl ((dY D s).length - 1) (by omega) hy0 hyl (fun M' g' f' => hQ M' (u1 g') (LyM_g hAY g' (fun a j q z => by unfold sGa sWk at z; unfold sY sK sP sFG sF sG at q; omega)).1 f') (yl.1 - y0.1) y0.1 (by omega) (by omega) A (gF_refl _ _ _) (by rw [f73, e1]; rfl)
    rw [e2] at h9
    rw [show (0 : Int32) = nI 0 from rfl]
    simp +decide (disch := omega) only [qX11_gapsOf_0, qX11_gapsOf_1, lm LA, hh0, ni_in_t, ni_tn, am_w1_i, am_w1_r, am_w1_x, am_w1_l, am_w1_w, va_rf_s, am_push_n, am_push_s, am_cs_0, am_cs_i, am_cs_l, am_cs_r, m_uI_K, m_uI_N, m_uI_R, m_uI_L, m_uI_I, m_uL_K, m_uL_N, m_uL_R, m_uL_I, m_uL_L, m_uR_K, m_uR_N, m_uR_I, m_uR_L, m_uR_R, true_and, and_true, true_implies, false_implies, not_true_eq_false, not_false_eq_true, if_true, if_false, false_and, and_false]
    exact h9
def kdP (D : Dat) (s k : Nat) : Prop := if k = 0 then k0Y (dWt D s) (dV D s) (dSn D s) (dBs D s) (dY D s) (dQt D) else if k = 1 then k1Y (dWt D s) (dV D s) (dSn D s) (dBs D s) (dY D s) (dQt D) else if k = 2 then ¬ whI D s = 0 else if k = 3 then k3Y (dWt D s) (dV D s) (dSn D s) (dBs D s) (dY D s) else k4Y (dWt D s) (dV D s) (dSn D s) (dBs D s) (dY D s)
theorem whI_0 {D : Dat} {s : Nat} (h : (dY D s).length = 0) : whI D s = 0 := by
  have : ∀ n, btI (whP D s) n = 0 := fun n => by
    induction n with
    | zero => rfl
    | succ n ih => rw [btI_f (fun q => by have := q.2.1; omega), ih]
  exact this _
theorem kdP_0 {D : Dat} {s k : Nat} (h : (dY D s).length = 0) (hk : k < 5) : ¬ kdP D s k := by
  unfold kdP
  rcases (by omega : k = 0 ∨ k = 1 ∨ k = 2 ∨ k = 3 ∨ k = 4) with e | e | e | e | e <;> subst e
  · intro q; have := q.1; omega
  · intro q; have := q.1; omega
  · intro q; exact q (whI_0 h)
  · intro q; have := q.1; omega
  · intro q; have := q.1; omega
theorem m_isKind {M : am_M} {b s k : Nat} {D : Dat} (hD : dOK D) (hL : Lay M) (h : MdM M b D) (hs : s < dN D) (hk : k < 5) (d : Nat) (Q : Option Value → am_M → Prop)
    (hQ : ∀ M', gF sMq nT M M' → Q (some (.int (tI (kdP D s k)))) M') : am_E am_P0 (d + 9) 265 [.ref 277, .int (nI s), .int (nI k)] M Q := by
  have n8 := dN_8 hD
  have h48 := dY_len hD s
  have hsay := fun Q => m_sayN hD hL h (s := s) (by omega) (d + 7) Q
  rw [eX11_isKind]
  simp +decide only [qX11_isKind_0, qX11_isKind_1, lm hL, hsay, Classical.not_not, am_w1_i, am_w1_r, am_w1_x, am_w1_l, am_w1_w, va_rf_s, am_push_n, am_push_s, am_cs_0, am_cs_i, am_cs_l, am_cs_r, m_uI_K, m_uI_N, m_uI_R, m_uI_L, m_uI_I, m_uL_K, m_uL_N, m_uL_R, m_uL_I, m_uL_L, m_uR_K, m_uR_N, m_uR_I, m_uR_L, m_uR_R, true_and, and_true, true_implies, false_implies, not_true_eq_false, not_false_eq_true, if_true, if_false, false_and, and_false]
  by_cases c0 : (dY D s).length = 0
  · have h0 := hQ M (gF_refl _ _ _)
    rw [tI_f (kdP_0 c0 hk)] at h0
    have hz : nI (dY D s).length = 0 := by rw [c0]; rfl
    first | rw [br_p (hz)] | rw [br_r (hz)] | rw [br_s (hz)]
    exact h0
  · have hz : ¬ nI (dY D s).length = 0 := by rw [show (0 : Int32) = nI 0 from rfl, ni_eq (by omega) (by omega)]; exact c0
    first | rw [br_n (hz)] | rw [br_q (hz)] | rw [br_u (hz)]
    have hle := kc_le (wt := dWt D s) (v := dV D s) (snd := dSn D s) (B := dBs D s) (Y := dY D s)
    have hgl : gpD D s 48 ≤ 48 := cnt_le _ _
    rcases (by omega : k = 0 ∨ k = 1 ∨ k = 2 ∨ k = 3 ∨ k = 4) with e | e | e | e | e <;> subst e
    · simp +decide only [show nI 0 = (0 : Int32) from rfl, qX11_isKind_0, qX11_isKind_1, lm hL, am_w1_i, am_w1_r, am_w1_x, am_w1_l, am_w1_w, va_rf_s, am_push_n, am_push_s, am_cs_0, am_cs_i, am_cs_l, am_cs_r, m_uI_K, m_uI_N, m_uI_R, m_uI_L, m_uI_I, m_uL_K, m_uL_N, m_uL_R, m_uL_I, m_uL_L, m_uR_K, m_uR_N, m_uR_I, m_uR_L, m_uR_R, true_and, and_true, true_implies, false_implies, not_true_eq_false, not_false_eq_true, if_true, if_false, false_and, and_false]
      refine m_gapsOf hD hL h hs d _ (fun M1 g1 k1 _ => ?_)
      have h0 := hQ M1 g1
      have L1 := gF_LayN g1 hL
      have eg : nI (gpD D s 48) = 0 ↔ gpD D s 48 = 0 := by rw [show (0 : Int32) = nI 0 from rfl, ni_eq (by omega) (by omega)]
      have ek : nI (kcY (dWt D s) (dV D s) (dSn D s) (dBs D s) (dY D s)) = nI (dY D s).length ↔ kcY (dWt D s) (dV D s) (dSn D s) (dBs D s) (dY D s) = (dY D s).length := by rw [ni_eq (by omega) (by omega)]
      simp +decide only [qX11_isKind_0, qX11_isKind_1, lm L1, (KpM_kc k1).1, (KpM_kc k1).2, eg, ek, Classical.not_not, am_w1_i, am_w1_r, am_w1_x, am_w1_l, am_w1_w, va_rf_s, am_push_n, am_push_s, am_cs_0, am_cs_i, am_cs_l, am_cs_r, m_uI_K, m_uI_N, m_uI_R, m_uI_L, m_uI_I, m_uL_K, m_uL_N, m_uL_R, m_uL_I, m_uL_L, m_uR_K, m_uR_N, m_uR_I, m_uR_L, m_uR_R, true_and, and_true, true_implies, false_implies, not_true_eq_false, not_false_eq_true, if_true, if_false, false_and, and_false]
      have hkd : kdP D s 0 ↔ kcY (dWt D s) (dV D s) (dSn D s) (dBs D s) (dY D s) = (dY D s).length ∧ gpD D s 48 = 0 := by
        show k0Y _ _ _ _ _ _ ↔ _
        exact ⟨fun q => q.2, fun q => ⟨by omega, q⟩⟩
      rw [tI_i hkd] at h0
      by_cases c1 : kcY (dWt D s) (dV D s) (dSn D s) (dBs D s) (dY D s) = (dY D s).length
      · first | rw [br_p (c1)] | rw [br_r (c1)] | rw [br_s (c1)]
        by_cases c2 : gpD D s 48 = 0
        · rw [tI_t ⟨c1, c2⟩] at h0
          first | rw [br_p (c2)] | rw [br_r (c2)] | rw [br_s (c2)]
          exact h0
        · rw [tI_f (fun q => c2 q.2)] at h0
          first | rw [br_n (c2)] | rw [br_q (c2)] | rw [br_u (c2)]
          exact h0
      · rw [tI_f (fun q => c1 q.1)] at h0
        first | rw [br_n (c1)] | rw [br_q (c1)] | rw [br_u (c1)]
        exact h0
    · simp +decide only [show nI 1 = (1 : Int32) from rfl, qX11_isKind_0, qX11_isKind_1, lm hL, am_w1_i, am_w1_r, am_w1_x, am_w1_l, am_w1_w, va_rf_s, am_push_n, am_push_s, am_cs_0, am_cs_i, am_cs_l, am_cs_r, m_uI_K, m_uI_N, m_uI_R, m_uI_L, m_uI_I, m_uL_K, m_uL_N, m_uL_R, m_uL_I, m_uL_L, m_uR_K, m_uR_N, m_uR_I, m_uR_L, m_uR_R, true_and, and_true, true_implies, false_implies, not_true_eq_false, not_false_eq_true, if_true, if_false, false_and, and_false]
      refine m_gapsOf hD hL h hs d _ (fun M1 g1 k1 _ => ?_)
      have h0 := hQ M1 g1
      have L1 := gF_LayN g1 hL
      have eg : nI (gpD D s 48) = 0 ↔ gpD D s 48 = 0 := by rw [show (0 : Int32) = nI 0 from rfl, ni_eq (by omega) (by omega)]
      have ek : nI (kcY (dWt D s) (dV D s) (dSn D s) (dBs D s) (dY D s)) = nI (dY D s).length ↔ kcY (dWt D s) (dV D s) (dSn D s) (dBs D s) (dY D s) = (dY D s).length := by rw [ni_eq (by omega) (by omega)]
      simp +decide only [qX11_isKind_0, qX11_isKind_1, lm L1, (KpM_kc k1).1, (KpM_kc k1).2, eg, ek, Classical.not_not, am_w1_i, am_w1_r, am_w1_x, am_w1_l, am_w1_w, va_rf_s, am_push_n, am_push_s, am_cs_0, am_cs_i, am_cs_l, am_cs_r, m_uI_K, m_uI_N, m_uI_R, m_uI_L, m_uI_I, m_uL_K, m_uL_N, m_uL_R, m_uL_I, m_uL_L, m_uR_K, m_uR_N, m_uR_I, m_uR_L, m_uR_R, true_and, and_true, true_implies, false_implies, not_true_eq_false, not_false_eq_true, if_true, if_false, false_and, and_false]
      have hkd : kdP D s 1 ↔ kcY (dWt D s) (dV D s) (dSn D s) (dBs D s) (dY D s) = (dY D s).length ∧ ¬ gpD D s 48 = 0 := by
        show k1Y _ _ _ _ _ _ ↔ _
        exact ⟨fun q => q.2, fun q => ⟨by omega, q⟩⟩
      rw [tI_i hkd] at h0
      by_cases c1 : kcY (dWt D s) (dV D s) (dSn D s) (dBs D s) (dY D s) = (dY D s).length
      · first | rw [br_p (c1)] | rw [br_r (c1)] | rw [br_s (c1)]
        by_cases c2 : gpD D s 48 = 0
        · rw [tI_f (fun q => q.2 c2)] at h0
          first | rw [br_p (c2)] | rw [br_r (c2)] | rw [br_s (c2)]
          exact h0
        · rw [tI_t ⟨c1, c2⟩] at h0
          first | rw [br_n (c2)] | rw [br_q (c2)] | rw [br_u (c2)]
          exact h0
      · rw [tI_f (fun q => c1 q.1)] at h0
        first | rw [br_n (c1)] | rw [br_q (c1)] | rw [br_u (c1)]
        exact h0
    · simp +decide only [show nI 2 = (2 : Int32) from rfl, qX11_isKind_0, qX11_isKind_1, lm hL, am_w1_i, am_w1_r, am_w1_x, am_w1_l, am_w1_w, va_rf_s, am_push_n, am_push_s, am_cs_0, am_cs_i, am_cs_l, am_cs_r, m_uI_K, m_uI_N, m_uI_R, m_uI_L, m_uI_I, m_uL_K, m_uL_N, m_uL_R, m_uL_I, m_uL_L, m_uR_K, m_uR_N, m_uR_I, m_uR_L, m_uR_R, true_and, and_true, true_implies, false_implies, not_true_eq_false, not_false_eq_true, if_true, if_false, false_and, and_false]
      refine m_whoOf hD hL h hs (d + 2) _ (fun M1 g1 => ?_)
      have h0 := hQ M1 g1
      simp +decide only [qX11_isKind_0, qX11_isKind_1, am_w1_i, am_w1_r, am_w1_x, am_w1_l, am_w1_w, va_rf_s, am_push_n, am_push_s, am_cs_0, am_cs_i, am_cs_l, am_cs_r, m_uI_K, m_uI_N, m_uI_R, m_uI_L, m_uI_I, m_uL_K, m_uL_N, m_uL_R, m_uL_I, m_uL_L, m_uR_K, m_uR_N, m_uR_I, m_uR_L, m_uR_R, true_and, and_true, true_implies, false_implies, not_true_eq_false, not_false_eq_true, if_true, if_false, false_and, and_false]
      have hkd : kdP D s 2 ↔ ¬ whI D s = 0 := Iff.rfl
      rw [tI_i hkd] at h0
      by_cases c1 : whI D s = 0
      · rw [tI_f (fun q => q c1)] at h0
        first | rw [br_p (c1)] | rw [br_r (c1)] | rw [br_s (c1)]
        exact h0
      · rw [tI_t c1] at h0
        first | rw [br_n (c1)] | rw [br_q (c1)] | rw [br_u (c1)]
        exact h0
    · simp +decide only [show nI 3 = (3 : Int32) from rfl, qX11_isKind_0, qX11_isKind_1, lm hL, am_w1_i, am_w1_r, am_w1_x, am_w1_l, am_w1_w, va_rf_s, am_push_n, am_push_s, am_cs_0, am_cs_i, am_cs_l, am_cs_r, m_uI_K, m_uI_N, m_uI_R, m_uI_L, m_uI_I, m_uL_K, m_uL_N, m_uL_R, m_uL_I, m_uL_L, m_uR_K, m_uR_N, m_uR_I, m_uR_L, m_uR_R, true_and, and_true, true_implies, false_implies, not_true_eq_false, not_false_eq_true, if_true, if_false, false_and, and_false]
      refine m_isPair hD hL h hs (d + 2) _ (fun M1 g1 => ?_)
      have h0 := hQ M1 g1
      have hkd : kdP D s 3 ↔ prP (dWt D s) (dV D s) (dSn D s) (dBs D s) (dY D s) := k3_pr hD (by omega)
      rw [tI_i hkd] at h0
      simp +decide only [qX11_isKind_0, qX11_isKind_1, tI_01, am_w1_i, am_w1_r, am_w1_x, am_w1_l, am_w1_w, va_rf_s, am_push_n, am_push_s, am_cs_0, am_cs_i, am_cs_l, am_cs_r, m_uI_K, m_uI_N, m_uI_R, m_uI_L, m_uI_I, m_uL_K, m_uL_N, m_uL_R, m_uL_I, m_uL_L, m_uR_K, m_uR_N, m_uR_I, m_uR_L, m_uR_R, true_and, and_true, true_implies, false_implies, not_true_eq_false, not_false_eq_true, if_true, if_false, false_and, and_false]
      exact h0
    · simp +decide only [show nI 4 = (4 : Int32) from rfl, qX11_isKind_0, qX11_isKind_1, lm hL, am_w1_i, am_w1_r, am_w1_x, am_w1_l, am_w1_w, va_rf_s, am_push_n, am_push_s, am_cs_0, am_cs_i, am_cs_l, am_cs_r, m_uI_K, m_uI_N, m_uI_R, m_uI_L, m_uI_I, m_uL_K, m_uL_N, m_uL_R, m_uL_I, m_uL_L, m_uR_K, m_uR_N, m_uR_I, m_uR_L, m_uR_R, true_and, and_true, true_implies, false_implies, not_true_eq_false, not_false_eq_true, if_true, if_false, false_and, and_false]
      refine m_gapsOf hD hL h hs d _ (fun M1 g1 k1 _ => ?_)
      have h0 := hQ M1 g1
      have L1 := gF_LayN g1 hL
      simp +decide only [qX11_isKind_0, qX11_isKind_1, lm L1, (KpM_kc k1).1, (KpM_kc k1).2, ni_pos (show kcY (dWt D s) (dV D s) (dSn D s) (dBs D s) (dY D s) < 2147483648 by omega), ni_le (show (dY D s).length < 2147483648 by omega) (show kcY (dWt D s) (dV D s) (dSn D s) (dBs D s) (dY D s) < 2147483648 by omega), am_w1_i, am_w1_r, am_w1_x, am_w1_l, am_w1_w, va_rf_s, am_push_n, am_push_s, am_cs_0, am_cs_i, am_cs_l, am_cs_r, m_uI_K, m_uI_N, m_uI_R, m_uI_L, m_uI_I, m_uL_K, m_uL_N, m_uL_R, m_uL_I, m_uL_L, m_uR_K, m_uR_N, m_uR_I, m_uR_L, m_uR_R, true_and, and_true, true_implies, false_implies, not_true_eq_false, not_false_eq_true, if_true, if_false, false_and, and_false]
      have hkd : kdP D s 4 ↔ ¬ kcY (dWt D s) (dV D s) (dSn D s) (dBs D s) (dY D s) = 0 ∧ ¬ (dY D s).length ≤ kcY (dWt D s) (dV D s) (dSn D s) (dBs D s) (dY D s) := by
        show k4Y _ _ _ _ _ ↔ _
        exact ⟨fun q => ⟨by have := q.2.2; omega, by have := q.2.1; omega⟩, fun q => ⟨by omega, by omega, by omega⟩⟩
      rw [tI_i hkd] at h0
      by_cases c1 : kcY (dWt D s) (dV D s) (dSn D s) (dBs D s) (dY D s) = 0
      · rw [tI_f (fun q => q.1 c1)] at h0
        first | rw [br_p (c1)] | rw [br_r (c1)] | rw [br_s (c1)]
        exact h0
      · first | rw [br_n (c1)] | rw [br_q (c1)] | rw [br_u (c1)]
        by_cases c2 : (dY D s).length ≤ kcY (dWt D s) (dV D s) (dSn D s) (dBs D s) (dY D s)
        · rw [tI_f (fun q => q.2 c2)] at h0
          first | rw [br_p (c2)] | rw [br_r (c2)] | rw [br_s (c2)]
          exact h0
        · rw [tI_t ⟨c1, c2⟩] at h0
          first | rw [br_n (c2)] | rw [br_q (c2)] | rw [br_u (c2)]
          exact h0
