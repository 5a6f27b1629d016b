/-! add, drop: the calls -/
theorem bef_in {Y : List Sy} {y0 : Sy} (hs : srtY Y) : (bef (inY Y y0) y0.1).length = (bef Y y0.1).length := by
  refine bef_cut (by rw [inY_len]; have := bef_le Y y0.1; omega) (fun k y hk hy => ?_) (fun k y hk hy => ?_)
  · rw [inY_at, if_pos hk] at hy
    exact (bef_lt hs hy).mp hk
  · rw [inY_at, if_neg (by omega)] at hy
    by_cases c : k = (bef Y y0.1).length
    · rw [if_pos c] at hy; cases hy; exact Nat.le_refl _
    · rw [if_neg c] at hy
      have : ¬ y.1 < y0.1 := fun q => by have := (bef_lt hs hy).mpr q; omega
      omega
abbrev okAd (D : Dat) (v t x y : Int32) : Prop := (0 ≤ v.toInt ∧ v.toInt < dN D) ∧ isHr t ∧ isCl D x y ∧ (∀ u, u ∈ dY D v.toInt.toNat → ¬ u.1 = t.toInt.toNat) ∧ dTot D < 96
theorem x_add {M : am_M} {z : Nat} {D : Dat} (hD : dOK D) (h : XR M z D) (d : Nat) (v t x y : Int32) (w : Bool) (Q : Option Value → am_M → Prop)
    (hY : okAd D v t x y → ∀ M', gF (sCh z) nT M M' → XR M' z (addY D v.toInt.toNat (inY (dY D v.toInt.toNat) (t.toInt.toNat, plI x y, w))) → Q (some (.int (nI (bef (dY D v.toInt.toNat) t.toInt.toNat).length))) M') (hN : ¬ okAd D v t x y → Q (some (.int (-1))) (rfX M 2)) : am_E am_P0 (d + 2) 141 [.ref 0, .int v, .int t, .int x, .int y, .int (b01 w)] M Q := by
  have hz := h.1.2.2.1
  have hL := h.1.1
  have hr := h.1.2.2.2.1
  have n8 := dN_8 hD
  have eP := fun x y Q => x_place hD h (d + 1) x y Q
  have eS := fun v Q => x_isShip hD h (d + 1) v Q
  have hin : (2 : Int32).toInt.toNat = 2 := rfl
  have t96 : dTot D ≤ 96 := hD.1.2.2.2.2.2.1
  rw [eX10_add]
  simp +decide only [qX10_add_0, qX10_add_1, lx hL, lz hL hz, hr, eP, eS, c_x_isHour, hin, bI_0, Classical.not_not, am_w1_i, am_w1_r, am_w1_x, am_w1_l, am_w1_w, va_rf_s, am_push_n, am_push_s, am_cs_0, am_cs_i, am_cs_l, am_cs_r, m_uI_K, m_uI_N, m_uI_R, m_uI_L, m_uI_I, m_uL_K, m_uL_N, m_uL_R, m_uL_I, m_uL_L, m_uR_K, m_uR_N, m_uR_I, m_uR_L, m_uR_R, true_and, and_true, true_implies, false_implies, not_true_eq_false, not_false_eq_true, if_true, if_false, false_and, and_false]
  by_cases hv : 0 ≤ v.toInt ∧ v.toInt < dN D
  · first | rw [br_p (hv)] | rw [br_r (hv)] | rw [br_s (hv)]
    by_cases ht : 0 ≤ t.toInt ∧ t.toInt < 48
    · first | rw [br_p (ht)] | rw [br_r (ht)] | rw [br_s (ht)]
      by_cases hc : isCl D x y
      · obtain ⟨c1, c2, -⟩ := cl_of hD hc
        rw [if_pos hc]
        have hne : ¬ nI (plI x y) = -1 := nI_m1 (by omega)
        first | rw [br_n (hne)] | rw [br_q (hne)] | rw [br_u (hne)]
        obtain ⟨s, s1, s2, s3⟩ := sh_of (by omega) hv
        have et : t = nI t.toInt.toNat := i32_of (by omega) (by omega)
        obtain ⟨T, hT⟩ : ∃ T, T = t.toInt.toNat := ⟨_, rfl⟩
        have hT48 : T < 48 := by omega
        rw [s3, ← hT] at hY
        rw [← hT] at et
        rw [s2, et]
        have hg := isSh_z (z := z) (s := s) hz (by omega)
        have hsh := lsh hL hz (s := s) (by omega)
        obtain ⟨-, hSy, -⟩ := x_ship h s1
        have h48 := dY_len hD s
        obtain ⟨c, hP⟩ := h.2.1
        have eH := fun Q => c_x_hasSaid (d + 1) (nI T) M Q hL (z + 25 + 7 * s) (dY D s).length hg hSy.1 h48
        have eT := fun Q => c_x_tot (d + 1) z c D M Q hL hz hP hD.1
        have hsr := hD.1.2.2.2.2.1 s
        have hall := hD.1.2.2.2.1 s
        simp +decide (disch := omega) only [qX10_add_0, qX10_add_1, lx hL, lz hL hz, lw_ hL hg, hr, hsh, eH, eT, hin, ni_in_t, ni_tn, am_w1_i, am_w1_r, am_w1_x, am_w1_l, am_w1_w, va_rf_s, am_push_n, am_push_s, am_cs_0, am_cs_i, am_cs_l, am_cs_r, m_uI_K, m_uI_N, m_uI_R, m_uI_L, m_uI_I, m_uL_K, m_uL_N, m_uL_R, m_uL_I, m_uL_L, m_uR_K, m_uR_N, m_uR_I, m_uR_L, m_uR_R, true_and, and_true, true_implies, false_implies, not_true_eq_false, not_false_eq_true, if_true, if_false, false_and, and_false]
        by_cases hs : ∃ u, u ∈ dY D s ∧ u.1 = T
        · rw [if_pos ((hasF_Y hSy (by omega)).mpr hs)]
          simp +decide only [am_w1_i, am_w1_r, am_w1_x, am_w1_l, am_w1_w, va_rf_s, am_push_n, am_push_s, am_cs_0, am_cs_i, am_cs_l, am_cs_r, m_uI_K, m_uI_N, m_uI_R, m_uI_L, m_uI_I, m_uL_K, m_uL_N, m_uL_R, m_uL_I, m_uL_L, m_uR_K, m_uR_N, m_uR_I, m_uR_L, m_uR_R, true_and, and_true, true_implies, false_implies, not_true_eq_false, not_false_eq_true, if_true, if_false, false_and, and_false]
          refine hN (fun q => ?_)
          obtain ⟨u, u1, u2⟩ := hs
          have := q.2.2.2.1 u (by rw [s3]; exact u1)
          omega
        · rw [if_neg (fun q => hs ((hasF_Y hSy (by omega)).mp q))]
          simp +decide only [am_w1_i, am_w1_r, am_w1_x, am_w1_l, am_w1_w, va_rf_s, am_push_n, am_push_s, am_cs_0, am_cs_i, am_cs_l, am_cs_r, m_uI_K, m_uI_N, m_uI_R, m_uI_L, m_uI_I, m_uL_K, m_uL_N, m_uL_R, m_uL_I, m_uL_L, m_uR_K, m_uR_N, m_uR_I, m_uR_L, m_uR_R, true_and, and_true, true_implies, false_implies, not_true_eq_false, not_false_eq_true, if_true, if_false, false_and, and_false]
          have hno : ∀ u, u ∈ dY D s → ¬ u.1 = T := fun u hu q => hs ⟨u, hu, q⟩
          by_cases hn : nI (dTot D) < 96
          · first | rw [br_p (hn)] | rw [br_r (hn)] | rw [br_s (hn)]
            rw [show (96 : Int32) = nI 96 from rfl, ni_lt (by omega) (by omega)] at hn
            have hall' : ∀ u, u ∈ inY (dY D s) (T, plI x y, w) → u.1 < 48 := fun u hu => by
              rcases inY_mem.mp hu with rfl | q
              · exact hT48
              · exact (hall u q).1
            have hl48 := len_48 (inY_srt (y0 := (T, plI x y, w)) hsr hno) hall'
            rw [inY_len] at hl48
            refine c_x_insert (d + 1) (z + 25 + 7 * s) (dY D s) (T, plI x y, w) M _ hL hg hSy (by omega) hT48 c2 hsr hno (fun M1 g1 y1 => ?_)
            have L1 := gF_LayN g1 hL
            have r1 : mR M1 0 2 = some z := by rw [g1.2.2.1 _ _ (fun w => w)]; exact hr
            have n1 : mI M1 z 3 = nI (dN D) := by rw [g1.1 _ _ (by unfold sIn; omega)]; exact (x_n h).1
            simp +decide (disch := omega) only [qX10_add_0, qX10_add_1, lx L1, am_w1_i, am_w1_r, am_w1_x, am_w1_l, am_w1_w, va_rf_s, am_push_n, am_push_s, am_cs_0, am_cs_i, am_cs_l, am_cs_r, m_uI_K, m_uI_N, m_uI_R, m_uI_L, m_uI_I, m_uL_K, m_uL_N, m_uL_R, m_uL_I, m_uL_L, m_uR_K, m_uR_N, m_uR_I, m_uR_L, m_uR_R, true_and, and_true, true_implies, false_implies, not_true_eq_false, not_false_eq_true, if_true, if_false, false_and, and_false]
            refine c_x_forget d s (dN D) z M1 _ L1 hz (by omega) r1 n1 n8 (fun M2 g2 k4 k5 k6 k13 => ?_)
            obtain ⟨gc, X2⟩ := XR_y hD h s1 g1 y1 g2 k4 k5 k6 k13
            have h0 := hY ⟨hv, ht, hc, fun u hu => by rw [s3] at hu; rw [← hT]; exact hno u hu, hn⟩ M2 gc X2
            simp +decide (disch := omega) only [qX10_add_0, qX10_add_1, am_w1_i, am_w1_r, am_w1_x, am_w1_l, am_w1_w, va_rf_s, am_push_n, am_push_s, am_cs_0, am_cs_i, am_cs_l, am_cs_r, m_uI_K, m_uI_N, m_uI_R, m_uI_L, m_uI_I, m_uL_K, m_uL_N, m_uL_R, m_uL_I, m_uL_L, m_uR_K, m_uR_N, m_uR_I, m_uR_L, m_uR_R, true_and, and_true, true_implies, false_implies, not_true_eq_false, not_false_eq_true, if_true, if_false, false_and, and_false]
            exact h0
          · first | rw [br_n (hn)] | rw [br_q (hn)] | rw [br_u (hn)]
            rw [show (96 : Int32) = nI 96 from rfl, ni_lt (by omega) (by omega)] at hn
            exact hN (fun q => hn q.2.2.2.2)
      · rw [if_neg hc]
        simp +decide only [am_w1_i, am_w1_r, am_w1_x, am_w1_l, am_w1_w, va_rf_s, am_push_n, am_push_s, am_cs_0, am_cs_i, am_cs_l, am_cs_r, m_uI_K, m_uI_N, m_uI_R, m_uI_L, m_uI_I, m_uL_K, m_uL_N, m_uL_R, m_uL_I, m_uL_L, m_uR_K, m_uR_N, m_uR_I, m_uR_L, m_uR_R, true_and, and_true, true_implies, false_implies, not_true_eq_false, not_false_eq_true, if_true, if_false, false_and, and_false]
        exact hN (fun q => hc q.2.2.1)
    · first | rw [br_n (ht)] | rw [br_q (ht)] | rw [br_u (ht)]
      exact hN (fun q => ht q.2.1)
  · first | rw [br_n (hv)] | rw [br_q (hv)] | rw [br_u (hv)]
    exact hN (fun q => hv q.1)
theorem b01_c (w : Bool) : b01 w = 0 ∨ b01 w = 1 := by cases w <;> decide
theorem said_no {M : am_M} {b s T : Nat} {D : Dat} (hD : dOK D) (h : MdM M b D) (hs : s < 8) (hT : T < 48) : mI M 292 (384 * b + 48 * s + T) = -1 ↔ ∀ u, u ∈ dY D s → ¬ u.1 = T := by
  rcases (h.2.2.2.2.1.2 s hs).2.2 T hT with ⟨y, q1, q2, q3, -⟩ | ⟨q1, q2⟩
  · have hv := (hD.1.2.2.2.1 s y q1).2
    have := (cel_lt hD.1.1.1 hD.1.1.2 hv).2.1
    exact ⟨fun w => absurd (q3.symm.trans w) (nI_m1 (by omega)), fun w => absurd q2 (w y q1)⟩
  · exact ⟨fun _ => q1, fun _ => q2⟩
theorem tot_in {D : Dat} {s : Nat} {y0 : Sy} (hD : dOK D) (hs : s < dN D) : dTot (addY D s (inY (dY D s) y0)) = dTot D + 1 := by
  have hyl : s < (dYs D).length := by rw [hD.1.2.2.1.2.1]; first | exact hs | exact s1
  have hYs := dY_set (D := D) (s := s) (Y := inY (dY D s) y0) hyl
  have := sumF_one (f := fun i => (dY D i).length) (g := fun i => (dY (addY D s (inY (dY D s) y0)) i).length) (s := s) (by rw [hYs, if_pos rfl, inY_len]) (fun i hi => by rw [hYs, if_neg hi]) (dSh D).length
  rw [if_pos hs] at this
  exact this
theorem m_addC {M : am_M} {b : Nat} {D : Dat} (hD : dOK D) (hL : Lay M) (h : MdM M b D) (d : Nat) (v t x y : Int32) (w : Bool) (Q : Option Value → am_M → Prop)
    (hY : okAd D v t x y → ∀ M', gF (fun a j => (a = 291 ∧ j = b) ∨ a = 292 ∨ a = 293) nT M M' → MdM M' b (addY D v.toInt.toNat (inY (dY D v.toInt.toNat) (t.toInt.toNat, plI x y, w))) → Q (some (.int (nI (bef (dY D v.toInt.toNat) t.toInt.toNat).length))) M') (hN : ¬ okAd D v t x y → Q (some (.int (-1))) (rfM M 2)) : am_E am_P0 (d + 2) 294 [.ref 277, .int v, .int t, .int x, .int y, .int (b01 w)] M Q := by
  have hb := h.1.1
  have hb2 := h.1.2
  have n8 := dN_8 hD
  have t96 : dTot D ≤ 96 := hD.1.2.2.2.2.2.1
  have s1' : mI M 291 b = nI (dTot D) := h.2.2.2.2.1.1
  have eS := fun v Q => m_isShip hD hL h d v Q
  have eC := fun x y Q => m_isCell hD hL h d x y Q
  have eH := fun x Q => c_m_isHour d x M Q
  have eR : ∀ Q, am_E am_P0 (d + 1) 208 [.ref 277, .int 2] M Q ↔ Q (some (.int (-1))) (rfM M 2) := fun Q => c_m_refuses (d + 1) 2 (by omega) M Q hL
  rw [eX11_add_]
  simp +decide (disch := omega) only [qX11_add__0, qX11_add__1, lm hL, eS, eC, eH, eR, hb, s1', bI_0, ni_in_t, ni_tn, Classical.not_not, am_w1_i, am_w1_r, am_w1_x, am_w1_l, am_w1_w, va_rf_s, am_push_n, am_push_s, am_cs_0, am_cs_i, am_cs_l, am_cs_r, m_uI_K, m_uI_N, m_uI_R, m_uI_L, m_uI_I, m_uL_K, m_uL_N, m_uL_R, m_uL_I, m_uL_L, m_uR_K, m_uR_N, m_uR_I, m_uR_L, m_uR_R, true_and, and_true, true_implies, false_implies, not_true_eq_false, not_false_eq_true, if_true, if_false, false_and, and_false]
  by_cases hv : 0 ≤ v.toInt ∧ v.toInt < dN D
  · first | rw [br_p (hv)] | rw [br_r (hv)] | rw [br_s (hv)]
    by_cases ht : 0 ≤ t.toInt ∧ t.toInt < 48
    · first | rw [br_p (ht)] | rw [br_r (ht)] | rw [br_s (ht)]
      by_cases hc : (0 ≤ x.toInt ∧ x.toInt < dC D) ∧ (0 ≤ y.toInt ∧ y.toInt < dR D)
      · obtain ⟨c1, c2, -⟩ := cl_of hD hc
        first | rw [br_p (hc)] | rw [br_r (hc)] | rw [br_s (hc)]
        obtain ⟨s, s1, s2, s3⟩ := sh_of (by omega) hv
        have et : t = nI t.toInt.toNat := i32_of (by omega) (by omega)
        obtain ⟨T, hT⟩ : ∃ T, T = t.toInt.toNat := ⟨_, rfl⟩
        have hT48 : T < 48 := by omega
        rw [s3, ← hT] at hY
        rw [← hT] at et
        rw [s2, et]
        have eD := fun Q => c_m_said (d + 1) s T M Q hL b hb hb2 (by omega) hT48
        have hsd := said_no hD h (s := s) (T := T) (by omega) hT48
        have hsr := hD.1.2.2.2.2.1 s
        have hall := hD.1.2.2.2.1 s
        simp +decide (disch := omega) only [qX11_add__0, qX11_add__1, lm hL, eD, eR, hb, s1', ni_in_t, ni_tn, Classical.not_not, am_w1_i, am_w1_r, am_w1_x, am_w1_l, am_w1_w, va_rf_s, am_push_n, am_push_s, am_cs_0, am_cs_i, am_cs_l, am_cs_r, m_uI_K, m_uI_N, m_uI_R, m_uI_L, m_uI_I, m_uL_K, m_uL_N, m_uL_R, m_uL_I, m_uL_L, m_uR_K, m_uR_N, m_uR_I, m_uR_L, m_uR_R, true_and, and_true, true_implies, false_implies, not_true_eq_false, not_false_eq_true, if_true, if_false, false_and, and_false]
        by_cases hs : mI M 292 (384 * b + 48 * s + T) = -1
        · first | rw [br_p (hs)] | rw [br_r (hs)] | rw [br_s (hs)]
          have hno := hsd.mp hs
          by_cases hn : nI (dTot D) = 96
          · first | rw [br_p (hn)] | rw [br_r (hn)] | rw [br_s (hn)]
            rw [show (96 : Int32) = nI 96 from rfl, ni_eq (by omega) (by omega)] at hn
            exact hN (fun q => by have := q.2.2.2.2; omega)
          · first | rw [br_n (hn)] | rw [br_q (hn)] | rw [br_u (hn)]
            rw [show (96 : Int32) = nI 96 from rfl, ni_eq (by omega) (by omega)] at hn
            have eA := fun Q => m_atI hD hL h hc (d + 1) Q
            have eW := fun Q => c_m_says (d + 1) s T (nI (cel (dC D) (plI x y))) (b01 w) M Q hL b (dTot D) hb hb2 (by omega) hT48 s1' (b01_c w)
            obtain ⟨A, hA⟩ : ∃ A, A = uI (uI (uI M 292 (384 * b + 48 * s + T) (nI (cel (dC D) (plI x y)))) 293 (384 * b + 48 * s + T) (b01 w)) 291 b (nI (dTot D + 1)) := ⟨_, rfl⟩
            have gA : gF (fun a j => (a = 291 ∧ j = b) ∨ ((a = 292 ∨ a = 293) ∧ j = 384 * b + 48 * s + T)) nT M A := by rw [hA]; exact gF_trans (gF_i _ (by omega)) (gF_trans (gF_i _ (by omega)) (gF_i _ (by omega)))
            have LA := gF_LayN gA hL
            have hin2 : ∀ u, u ∈ inY (dY D s) (T, plI x y, w) → u.1 < 48 ∧ vld (dC D) (dR D) u.2.1 := fun u hu => by
              rcases inY_mem.mp hu with rfl | q
              · exact ⟨hT48, c1⟩
              · exact hall u q
            have hSy : SyM A b (dC D) (dR D) s (inY (dY D s) (T, plI x y, w)) := by
              refine ⟨inY_srt hsr hno, hin2, fun τ hτ => ?_⟩
              by_cases e : τ = T
              · subst e
                refine Or.inl ⟨_, inY_mem.mpr (Or.inl rfl), rfl, ?_, ?_⟩
                · rw [hA, m_uI_I, if_neg (by omega), m_uI_I, if_neg (by omega), m_uI_I, if_pos ⟨rfl, rfl⟩]
                · rw [hA, m_uI_I, if_neg (by omega), m_uI_I, if_pos ⟨rfl, rfl⟩]
              · rcases (h.2.2.2.2.1.2 s (by omega)).2.2 τ hτ with ⟨u, q1, q2, q3, q4⟩ | ⟨q1, q2⟩
                · exact Or.inl ⟨u, inY_mem.mpr (Or.inr q1), q2, by rw [gA.1 _ _ (by omega)]; exact q3, by rw [gA.1 _ _ (by omega)]; exact q4⟩
                · refine Or.inr ⟨fun u hu => ?_, by rw [gA.1 _ _ (by omega)]; exact q2⟩
                  rcases inY_mem.mp hu with rfl | q
                  · exact fun q => e q.symm
                  · exact q1 u q
            have hMA : MdM A b (addY D s (inY (dY D s) (T, plI x y, w))) := MdM_y hD s1 h gA (fun a j q => by omega) (by rw [tot_in hD s1, hA, m_uI_I, if_pos ⟨rfl, rfl⟩]) hSy
            have eN := fun Q => c_m_numberOf d s T A Q LA b hMA.1.1 hb2 (by omega) (by omega)
            have enn : nSaid (mSaid A b s) T = (bef (dY D s) T).length := by rw [nSaid_Y hSy hD.1.1.1 hD.1.1.2 T (by omega)]; exact bef_in (y0 := (T, plI x y, w)) hsr
            rw [enn] at eN
            have h0 := hY ⟨hv, ht, hc, fun u hu => by rw [s3] at hu; rw [← hT]; exact hno u hu, by omega⟩ A (gF_up gA (fun a j q => by omega) (fun _ _ q => q)) hMA
            simp +decide (disch := omega) only [qX11_add__0, qX11_add__1, lm hL, eA, eW, am_w1_i, am_w1_r, am_w1_x, am_w1_l, am_w1_w, va_rf_s, am_push_n, am_push_s, am_cs_0, am_cs_i, am_cs_l, am_cs_r, m_uI_K, m_uI_N, m_uI_R, m_uI_L, m_uI_I, m_uL_K, m_uL_N, m_uL_R, m_uL_I, m_uL_L, m_uR_K, m_uR_N, m_uR_I, m_uR_L, m_uR_R, true_and, and_true, true_implies, false_implies, not_true_eq_false, not_false_eq_true, if_true, if_false, false_and, and_false, ← hA, lm LA, eN]
            exact h0
        · first | rw [br_n (hs)] | rw [br_q (hs)] | rw [br_u (hs)]
          refine hN (fun q => hs (hsd.mpr (fun u hu => ?_)))
          have := q.2.2.2.1 u (by rw [s3]; exact hu)
          rw [← hT] at this
          exact this
      · first | rw [br_n (hc)] | rw [br_q (hc)] | rw [br_u (hc)]
        exact hN (fun q => hc q.2.2.1)
    · first | rw [br_n (ht)] | rw [br_q (ht)] | rw [br_u (ht)]
      exact hN (fun q => ht q.2.1)
  · first | rw [br_n (hv)] | rw [br_q (hv)] | rw [br_u (hv)]
    exact hN (fun q => hv q.1)
