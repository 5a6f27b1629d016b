/-! the model's statements: books, ships -/
def sX (lo hi J a j : Nat) : Prop := sRm a j ∨ (lo ≤ a ∧ a ≤ hi ∧ j = J)
theorem sX_u {lo hi J : Nat} {A B : am_M} (h : gF sRm nT A B) : gF (sX lo hi J) nT A B := gF_up h (fun a j q => Or.inl q) (fun _ _ q => q)
theorem sX_i {lo hi J a : Nat} {A : am_M} (x : Int32) (h : lo ≤ a ∧ a ≤ hi) : gF (sX lo hi J) nT A (uI A a J x) := gF_i _ (Or.inr ⟨h.1, h.2, rfl⟩)
theorem StM_u {M : am_M} {T : Nat → Nat} {n a j : Nat} {x : Int32} {r : Rt} (h : StM M T n r) (ha : 279 ≤ a) : StM (uI M a j x) T n r := StM_g h (gF_i (S := fun b i => b = a ∧ i = j) (T := nT) x ⟨rfl, rfl⟩) (fun b i q w => by omega)
theorem dTot_app {D : Dat} {sp : Shp} (hD : DOK D) : dTot (D.1, (dSh D ++ [sp], dYs D ++ [[]], dBk D, dSg D), D.2.2) = dTot D := by
  have h : sumF (fun s => (dY (D.1, (dSh D ++ [sp], dYs D ++ [[]], dBk D, dSg D), D.2.2) s).length) (dSh D ++ [sp]).length = sumF (fun s => (dY D s).length) (dSh D ++ [sp]).length := sumF_ext _ (fun i _ => by rw [dY_app hD])
  show sumF (fun s => (dY (D.1, (dSh D ++ [sp], dYs D ++ [[]], dBk D, dSg D), D.2.2) s).length) (dSh D ++ [sp]).length = _
  rw [h, List.length_append]
  show sumF (fun s => (dY D s).length) (dSh D).length + (dY D (dSh D).length).length = _
  have hz0 : dY D (dSh D).length = [] := by
    unfold dY
    rw [List.getD_eq_getElem?_getD, List.getElem?_eq_none (by have := hD.2.2.1.2.1; omega)]; rfl
  rw [hz0]
  rfl
section
variable {T : Nat → Nat} {n z : Nat}
theorem k_book (d c : Nat) (D : Dat) (t : Tok) (M : am_M) (Q : Option Value → am_M → Prop) (hG : GdM T n z M D c t) (hC : 1 ≤ dC D) (hRr : 1 ≤ dR D) (h0 : ¬ t.1 = 0) (hQ : ∀ M', EdM T n z t M M' (spBook T n D t) → Q none M') : am_E am_P0 (d + 4) 202 [.ref 277] M Q := by
  obtain ⟨hL, hR, hP, hD, hc⟩ := id hG
  have hEn := (GdM_t hG).1
  have hz := hP.2.2.2.2.2.2.2.2.2.2
  have hmx : (dBk D).length ≤ 12 := hD.2.2.2.2.2.2.1.1.1
  have hCR := hD.1
  obtain ⟨N, hN⟩ : ∃ N, N = (dBk D).length := ⟨_, rfl⟩
  rw [← hN] at hmx
  have hnm : nI N = 12 ↔ N = 12 := by rw [show (12 : Int32) = nI 12 from rfl, ni_eq (by omega) (by omega)]
  have idx : (12 : Int32) * nI z + nI N = nI (12 * z + N) := by rw [show (12 : Int32) = nI 12 from rfl, ni_mul, ni_add]
  have sc : ∀ (M' : am_M), gF (sX 295 298 (12 * z + N)) nT M M' → PdM M' z D c ∧ Lay M' ∧ mI M' 277 41 = nI z ∧ mI M' 294 z = nI N ∧ gF (sSm z) nT M M' ∨ 12 ≤ N := fun M' g => by
    by_cases cN : 12 ≤ N
    · exact Or.inr cN
    · have P := PdM_w hP hD g (fun a q w => by unfold sX sRm at w; omega) (fun j q1 q2 w => by unfold sX sRm at w; omega) (fun a k j q1 q2 q3 w => by unfold sX sRm at w; omega) (fun a j q1 q2 q3 w => by unfold sX sRm at w; omega) (fun a j q w => by unfold sX sRm at w; omega) (fun a j q1 q2 q3 w => by unfold sX sRm at w; omega) (fun a j q1 q2 q3 w => by unfold sX sRm at w; omega) (fun a j q1 q2 q3 w => by unfold sX sRm at w; omega) (fun j q w => by unfold sX sRm at w; omega)
      refine Or.inl ⟨P, gF_LayN g hL, P.2.2.2.2.2.2.2.2.2.1, by rw [hN]; exact P.2.2.2.2.1.1, gF_up g (fun a j q => ?_) (fun _ _ q => q)⟩
      rcases q with q | q
      · exact sS_0 (by unfold sRm at q; omega)
      · exact sS_6 (by omega)
  have main : am_E am_P0 (d + 3) 193 [.ref 277, .int (b01 (decide (12 ≤ N)))] M (fun r M2 => am_P am_P0 (d + 4) (am_look tX11_book) 23 [.ref 277, am_x] (am_push r []) M2 Q) := by
    refine m_counts (d + 1) (decide (12 ≤ N)) t M _ hL hR (fun M1 x1 g1 s1 f1 o1 => ?_)
    by_cases cf : 12 ≤ N
    · rw [if_pos (decide_eq_true cf)] at s1 f1
      have h9 := hQ M1 (by unfold spBook; rw [if_pos (by omega)]; exact ⟨sRm_S g1, s1⟩)
      simp +decide only [qX11_book_0, qX11_book_1, f1 _ rfl, am_w1_i, am_w1_r, am_w1_x, am_w1_l, am_w1_w, va_rf_s, am_push_n, am_push_s, am_cs_0, am_cs_i, am_cs_l, am_cs_r, m_uI_K, m_uI_N, m_uI_R, m_uI_L, m_uI_I, m_uL_K, m_uL_N, m_uL_R, m_uL_I, m_uL_L, m_uR_K, m_uR_N, m_uR_I, m_uR_L, m_uR_R, true_and, and_true, true_implies, false_implies, not_true_eq_false, not_false_eq_true, if_true, if_false, false_and, and_false]
      exact h9
    · rw [if_neg (by rw [decide_eq_false cf]; decide)] at s1 f1 o1
      unfold spBook at hQ
      rw [if_neg (by omega)] at hQ
      cases hr1 : advR T n t with
      | inl e =>
        rw [hr1] at s1 hQ
        have h9 := hQ M1 ⟨sRm_S g1, s1⟩
        simp +decide only [qX11_book_0, qX11_book_1, f1 e hr1, am_w1_i, am_w1_r, am_w1_x, am_w1_l, am_w1_w, va_rf_s, am_push_n, am_push_s, am_cs_0, am_cs_i, am_cs_l, am_cs_r, m_uI_K, m_uI_N, m_uI_R, m_uI_L, m_uI_I, m_uL_K, m_uL_N, m_uL_R, m_uL_I, m_uL_L, m_uR_K, m_uR_N, m_uR_I, m_uR_L, m_uR_R, true_and, and_true, true_implies, false_implies, not_true_eq_false, not_false_eq_true, if_true, if_false, false_and, and_false]
        exact h9
      | inr t1 =>
        have G1 := sX_u (lo := 295) (hi := 298) (J := 12 * z + N) g1
        obtain ⟨P1, L1, i1, n1, S1⟩ := (sc M1 G1).resolve_right (by omega)
        simp +decide (disch := omega) only [qX11_book_0, qX11_book_1, o1 t1 hr1, lm L1, i1, n1, idx, ni_in_t, ni_tn, am_w1_i, am_w1_r, am_w1_x, am_w1_l, am_w1_w, va_rf_s, am_push_n, am_push_s, am_cs_0, am_cs_i, am_cs_l, am_cs_r, m_uI_K, m_uI_N, m_uI_R, m_uI_L, m_uI_I, m_uL_K, m_uL_N, m_uL_R, m_uL_I, m_uL_L, m_uR_K, m_uR_N, m_uR_I, m_uR_L, m_uR_R, true_and, and_true, true_implies, false_implies, not_true_eq_false, not_false_eq_true, if_true, if_false, false_and, and_false]
        have Hs := P1.2.2.1
        refine m_asked (d + 1) z D _ M1 _ L1 hz i1 Hs hD s1 (fun M2 q2 hq2 g2 s2 e2 => ?_)
        obtain ⟨x2, hx2⟩ : ∃ x : Int32, x = nI q2 := ⟨_, rfl⟩
        rw [← hx2]
        have L2 := gF_LayN g2 L1
        have G2 : gF (sX 295 298 (12 * z + N)) nT M (uI M2 295 (12 * z + N) x2) := gF_trans G1 (gF_trans (sX_u g2) (sX_i _ ⟨by omega, by omega⟩))
        have s2' := StM_u (a := 295) (j := 12 * z + N) (x := x2) s2 (by omega)
        simp +decide (disch := omega) only [qX11_book_0, qX11_book_1, lm L2, ni_in_t, ni_tn, am_w1_i, am_w1_r, am_w1_x, am_w1_l, am_w1_w, va_rf_s, am_push_n, am_push_s, am_cs_0, am_cs_i, am_cs_l, am_cs_r, m_uI_K, m_uI_N, m_uI_R, m_uI_L, m_uI_I, m_uL_K, m_uL_N, m_uL_R, m_uL_I, m_uL_L, m_uR_K, m_uR_N, m_uR_I, m_uR_L, m_uR_R, true_and, and_true, true_implies, false_implies, not_true_eq_false, not_false_eq_true, if_true, if_false, false_and, and_false]
        obtain ⟨A2, hA2⟩ : ∃ A, A = uI M2 295 (12 * z + N) x2 := ⟨_, rfl⟩
        have v2_2 : mI A2 295 (12 * z + N) = x2 := by rw [hA2, m_uI_I, if_pos ⟨rfl, rfl⟩]
        rw [← hA2] at G2 s2' ⊢
        obtain ⟨P2, LA2, i2, n2, S2⟩ := (sc A2 G2).resolve_right (by omega)
        refine m_here d z (dC D) (dR D) _ A2 _ LA2 hz i2 P2.1.1 P2.1.2 (by omega) (by omega) s2' (fun M3 x3 g3 s3 e3 => ?_)
        have L3 := gF_LayN g3 LA2
        have G3 : gF (sX 295 298 (12 * z + N)) nT M (uI M3 296 (12 * z + N) x3) := gF_trans G2 (gF_trans (sX_u g3) (sX_i _ ⟨by omega, by omega⟩))
        have s3' := StM_u (a := 296) (j := 12 * z + N) (x := x3) s3 (by omega)
        simp +decide (disch := omega) only [qX11_book_0, qX11_book_1, lm L3, ni_in_t, ni_tn, am_w1_i, am_w1_r, am_w1_x, am_w1_l, am_w1_w, va_rf_s, am_push_n, am_push_s, am_cs_0, am_cs_i, am_cs_l, am_cs_r, m_uI_K, m_uI_N, m_uI_R, m_uI_L, m_uI_I, m_uL_K, m_uL_N, m_uL_R, m_uL_I, m_uL_L, m_uR_K, m_uR_N, m_uR_I, m_uR_L, m_uR_R, true_and, and_true, true_implies, false_implies, not_true_eq_false, not_false_eq_true, if_true, if_false, false_and, and_false]
        obtain ⟨A3, hA3⟩ : ∃ A, A = uI M3 296 (12 * z + N) x3 := ⟨_, rfl⟩
        have v3_3 : mI A3 296 (12 * z + N) = x3 := by rw [hA3, m_uI_I, if_pos ⟨rfl, rfl⟩]
        have v2_3 : mI A3 295 (12 * z + N) = x2 := by rw [hA3, m_uI_I, if_neg (by omega), g3.1 _ _ (fun w => by unfold sRm at w; omega)]; exact v2_2
        rw [← hA3] at G3 s3' ⊢
        obtain ⟨P3, LA3, i3, n3, S3⟩ := (sc A3 G3).resolve_right (by omega)
        refine m_word2 (d + 1) 13 1718775661 _ A3 _ LA3 (by omega) (by decide) s3' (fun M4 g4 s4 => ?_)
        have L4 := gF_LayN g4 LA3
        simp +decide (disch := omega) only [qX11_book_0, qX11_book_1, lm L4, ni_in_t, ni_tn, am_w1_i, am_w1_r, am_w1_x, am_w1_l, am_w1_w, va_rf_s, am_push_n, am_push_s, am_cs_0, am_cs_i, am_cs_l, am_cs_r, m_uI_K, m_uI_N, m_uI_R, m_uI_L, m_uI_I, m_uL_K, m_uL_N, m_uL_R, m_uL_I, m_uL_L, m_uR_K, m_uR_N, m_uR_I, m_uR_L, m_uR_R, true_and, and_true, true_implies, false_implies, not_true_eq_false, not_false_eq_true, if_true, if_false, false_and, and_false]
        rw [show (0 : Int32) = nI 0 from rfl, show (47 : Int32) = nI 47 from rfl]
        refine m_num (d + 1) 0 47 _ M4 _ L4 (by omega) (by omega) s4 (fun M5 x5 g5 s5 e5 => ?_)
        have L5 := gF_LayN g5 L4
        have G5 : gF (sX 295 298 (12 * z + N)) nT M (uI M5 297 (12 * z + N) x5) := gF_trans G3 (gF_trans (sX_u g4) (gF_trans (sX_u g5) (sX_i _ ⟨by omega, by omega⟩)))
        have s5' := StM_u (a := 297) (j := 12 * z + N) (x := x5) s5 (by omega)
        simp +decide (disch := omega) only [qX11_book_0, qX11_book_1, lm L5, ni_in_t, ni_tn, am_w1_i, am_w1_r, am_w1_x, am_w1_l, am_w1_w, va_rf_s, am_push_n, am_push_s, am_cs_0, am_cs_i, am_cs_l, am_cs_r, m_uI_K, m_uI_N, m_uI_R, m_uI_L, m_uI_I, m_uL_K, m_uL_N, m_uL_R, m_uL_I, m_uL_L, m_uR_K, m_uR_N, m_uR_I, m_uR_L, m_uR_R, true_and, and_true, true_implies, false_implies, not_true_eq_false, not_false_eq_true, if_true, if_false, false_and, and_false]
        obtain ⟨A5, hA5⟩ : ∃ A, A = uI M5 297 (12 * z + N) x5 := ⟨_, rfl⟩
        have v5_5 : mI A5 297 (12 * z + N) = x5 := by rw [hA5, m_uI_I, if_pos ⟨rfl, rfl⟩]
        have v2_5 : mI A5 295 (12 * z + N) = x2 := by rw [hA5, m_uI_I, if_neg (by omega), g5.1 _ _ (fun w => by unfold sRm at w; omega), g4.1 _ _ (fun w => by unfold sRm at w; omega)]; exact v2_3
        have v3_5 : mI A5 296 (12 * z + N) = x3 := by rw [hA5, m_uI_I, if_neg (by omega), g5.1 _ _ (fun w => by unfold sRm at w; omega), g4.1 _ _ (fun w => by unfold sRm at w; omega)]; exact v3_3
        rw [← hA5] at G5 s5' ⊢
        obtain ⟨P5, LA5, i5, n5, S5⟩ := (sc A5 G5).resolve_right (by omega)
        refine m_word2 (d + 1) 14 29807 _ A5 _ LA5 (by omega) (by decide) s5' (fun M6 g6 s6 => ?_)
        have L6 := gF_LayN g6 LA5
        have v5_6 : mI M6 297 (12 * z + N) = x5 := by rw [g6.1 _ _ (fun w => by unfold sRm at w; omega)]; exact v5_5
        simp +decide (disch := omega) only [qX11_book_0, qX11_book_1, lm L6, v5_6, ni_in_t, ni_tn, am_w1_i, am_w1_r, am_w1_x, am_w1_l, am_w1_w, va_rf_s, am_push_n, am_push_s, am_cs_0, am_cs_i, am_cs_l, am_cs_r, m_uI_K, m_uI_N, m_uI_R, m_uI_L, m_uI_I, m_uL_K, m_uL_N, m_uL_R, m_uL_I, m_uL_L, m_uR_K, m_uR_N, m_uR_I, m_uR_L, m_uR_R, true_and, and_true, true_implies, false_implies, not_true_eq_false, not_false_eq_true, if_true, if_false, false_and, and_false]
        have e5' : ∀ t', (aftR T n 13 0 47 (plcR T n (dC D) (dR D) (shpR T n D (advR T n t)).1).1).1 = .inr t' → x5 = nI (aftR T n 13 0 47 (plcR T n (dC D) (dR D) (shpR T n D (advR T n t)).1).1).2 := e5
        have s6' : StM M6 T n (wordR T n 14 (aftR T n 13 0 47 (plcR T n (dC D) (dR D) (shpR T n D (advR T n t)).1).1).1) := s6
        have hfr := aftR_le (T := T) (n := n) (w := 13) (lo := 0) (hi := 47) (by omega) (plcR T n (dC D) (dR D) (shpR T n D (advR T n t)).1).1
        have num7 : ∀ (K : Option Value → am_M → Prop), (∀ M7 x7, gF sRm nT M6 M7 → StM M7 T n (aftR T n 14 (aftR T n 13 0 47 (plcR T n (dC D) (dR D) (shpR T n D (advR T n t)).1).1).2 47 (aftR T n 13 0 47 (plcR T n (dC D) (dR D) (shpR T n D (advR T n t)).1).1).1).1 → (∀ t', (aftR T n 14 (aftR T n 13 0 47 (plcR T n (dC D) (dR D) (shpR T n D (advR T n t)).1).1).2 47 (aftR T n 13 0 47 (plcR T n (dC D) (dR D) (shpR T n D (advR T n t)).1).1).1).1 = .inr t' → x7 = nI (aftR T n 14 (aftR T n 13 0 47 (plcR T n (dC D) (dR D) (shpR T n D (advR T n t)).1).1).2 47 (aftR T n 13 0 47 (plcR T n (dC D) (dR D) (shpR T n D (advR T n t)).1).1).1).2) → K (some (.int x7)) M7) → am_E am_P0 (d + 3) 182 [.ref 277, .int x5, .int 47] M6 K := fun K hK => by
          cases hr6 : wordR T n 14 (aftR T n 13 0 47 (plcR T n (dC D) (dR D) (shpR T n D (advR T n t)).1).1).1 with
          | inl e =>
            have s6'' := s6'
            rw [hr6] at s6''
            have ea : (aftR T n 14 (aftR T n 13 0 47 (plcR T n (dC D) (dR D) (shpR T n D (advR T n t)).1).1).2 47 (aftR T n 13 0 47 (plcR T n (dC D) (dR D) (shpR T n D (advR T n t)).1).1).1).1 = .inl e := by show (numR T n _ 47 (wordR T n 14 (aftR T n 13 0 47 (plcR T n (dC D) (dR D) (shpR T n D (advR T n t)).1).1).1)).1 = _; rw [hr6]; rfl
            rw [m_numF (d + 3) e x5 47 M6 K L6 s6'']
            exact hK M6 0 (gF_refl _ _ _) (by rw [ea]; exact s6'') (fun t' q => by rw [ea] at q; cases q)
          | inr t6 =>
            obtain ⟨u, hu⟩ := wordR_i hr6
            have hx5 := e5' u hu
            rw [hx5, show (47 : Int32) = nI 47 from rfl]
            exact m_num (d + 1) (aftR T n 13 0 47 (plcR T n (dC D) (dR D) (shpR T n D (advR T n t)).1).1).2 47 _ M6 K L6 (by omega) (by omega) s6' (fun M7 x7 g7 s7 e7 => hK M7 x7 g7 s7 e7)
        refine num7 _ (fun M7 x7 g7 s7 e7 => ?_)
        have L7 := gF_LayN g7 L6
        have G7 : gF (sX 295 298 (12 * z + N)) nT M (uI M7 298 (12 * z + N) x7) := gF_trans G5 (gF_trans (sX_u g6) (gF_trans (sX_u g7) (sX_i _ ⟨by omega, by omega⟩)))
        have s7' := StM_u (a := 298) (j := 12 * z + N) (x := x7) s7 (by omega)
        simp +decide (disch := omega) only [qX11_book_0, qX11_book_1, lm L7, ni_in_t, ni_tn, am_w1_i, am_w1_r, am_w1_x, am_w1_l, am_w1_w, va_rf_s, am_push_n, am_push_s, am_cs_0, am_cs_i, am_cs_l, am_cs_r, m_uI_K, m_uI_N, m_uI_R, m_uI_L, m_uI_I, m_uL_K, m_uL_N, m_uL_R, m_uL_I, m_uL_L, m_uR_K, m_uR_N, m_uR_I, m_uR_L, m_uR_R, true_and, and_true, true_implies, false_implies, not_true_eq_false, not_false_eq_true, if_true, if_false, false_and, and_false]
        obtain ⟨A7, hA7⟩ : ∃ A, A = uI M7 298 (12 * z + N) x7 := ⟨_, rfl⟩
        have v7_7 : mI A7 298 (12 * z + N) = x7 := by rw [hA7, m_uI_I, if_pos ⟨rfl, rfl⟩]
        have v2_7 : mI A7 295 (12 * z + N) = x2 := by rw [hA7, m_uI_I, if_neg (by omega), g7.1 _ _ (fun w => by unfold sRm at w; omega), g6.1 _ _ (fun w => by unfold sRm at w; omega)]; exact v2_5
        have v3_7 : mI A7 296 (12 * z + N) = x3 := by rw [hA7, m_uI_I, if_neg (by omega), g7.1 _ _ (fun w => by unfold sRm at w; omega), g6.1 _ _ (fun w => by unfold sRm at w; omega)]; exact v3_5
        have v5_7 : mI A7 297 (12 * z + N) = x5 := by rw [hA7, m_uI_I, if_neg (by omega), g7.1 _ _ (fun w => by unfold sRm at w; omega), g6.1 _ _ (fun w => by unfold sRm at w; omega)]; exact v5_5
        rw [← hA7] at G7 s7' ⊢
        obtain ⟨P7, LA7, i7, n7, S7⟩ := (sc A7 G7).resolve_right (by omega)
        have e8 : mI M7 277 8 = mI A7 277 8 := by rw [hA7, m_uI_I, if_neg (by omega)]
        have i7' : mI M7 277 41 = mI A7 277 41 := by rw [hA7, m_uI_I, if_neg (by omega)]
        have n7' : mI M7 294 z = mI A7 294 z := by rw [hA7, m_uI_I, if_neg (by omega)]
        rw [e8, i7']
        have hf := StM_0 s7'
        cases hr : (aftR T n 14 (aftR T n 13 0 47 (plcR T n (dC D) (dR D) (shpR T n D (advR T n t)).1).1).2 47 (aftR T n 13 0 47 (plcR T n (dC D) (dR D) (shpR T n D (advR T n t)).1).1).1).1 with
        | inl e =>
          rw [hr] at s7' hQ
          have h9 := hQ A7 ⟨S7, s7'⟩
          rw [br_p (hf.1 e hr)]
          exact h9
        | inr t' =>
          have hv := numR_v hr
          have hx7 := e7 t' hr
          obtain ⟨u2, hu2⟩ := aft_i hr
          have hv2 := numR_v hu2
          have hx5 := e5' u2 hu2
          obtain ⟨u1, hu1⟩ := aft_i hu2
          have hpv := plR_v hD hC hRr hu1
          have hx3 := e3 u1 hu1
          obtain ⟨u0, hu0⟩ := plR_i hu1
          have hsl := shp_i hu0
          have hxs := e2 u0 hu0
          have haf : AfR T n t (.inr t') := by rw [← hr]; exact AfR_f _ _ _ (AfR_f _ _ _ (AfR_p _ _ (AfR_h D (AfR_1 hEn))))
          have hlt := AfR_lt (GdM_t hG) h0 haf
          rw [br_n (fun w => w (hf.2 t' hr))]
          simp +decide (disch := omega) only [i7, n7', n7, ni_in_t, ni_tn, ni_add1, am_w1_i, am_w1_r, am_w1_x, am_w1_l, am_w1_w, va_rf_s, am_push_n, am_push_s, am_cs_0, am_cs_i, am_cs_l, am_cs_r, m_uI_K, m_uI_N, m_uI_R, m_uI_L, m_uI_I, m_uL_K, m_uL_N, m_uL_R, m_uL_I, m_uL_L, m_uR_K, m_uR_N, m_uR_I, m_uR_L, m_uR_R, true_and, and_true, true_implies, false_implies, not_true_eq_false, not_false_eq_true, if_true, if_false, false_and, and_false]
          have w8 : gF (fun a j => a = 294 ∧ j = z) nT A7 (uI A7 294 z (nI (N + 1))) := gF_i _ ⟨rfl, rfl⟩
          rw [hr] at s7' hQ
          have s8 := StM_g s7' w8 (fun a j q w => by omega)
          refine hQ _ ⟨gF_trans S7 (gF_up w8 (fun a j q => sS_1 (by omega)) (fun _ _ q => q)), ⟨c, LA7, s8, ?_, DOK_b hD (by omega) hsl ⟨hpv.1, hv.1, by show (aftR T n 14 (aftR T n 13 0 47 (plcR T n (dC D) (dR D) (shpR T n D (advR T n t)).1).1).2 47 (aftR T n 13 0 47 (plcR T n (dC D) (dR D) (shpR T n D (advR T n t)).1).1).1).2 < 48; have := hv.2; unfold aftR at this ⊢; omega⟩, by show c ≤ tS t'; omega⟩, hlt⟩
          obtain ⟨⟨a1, a2⟩, b1, b2, b3, b4, b5, ⟨r1, r2, r3⟩, f⟩ := P7
          have l1 := hD.2.2.2.2.2.2.2.2.1.1
          have l2 := hD.2.2.2.2.2.2.2.2.2.1.1
          have l3 := hD.2.2.2.2.2.2.2.2.2.2.1
          refine ⟨⟨by rw [w8.1 _ _ (by omega)]; exact a1, by rw [w8.1 _ _ (by omega)]; exact a2⟩, by rw [w8.1 _ _ (by omega)]; exact b1, ShpM_g b2 w8 (by omega) (fun a j q1 q2 q3 w => by omega), SysM_g b3 w8 (by omega) (fun a j q w => by omega), ⟨?_, fun i g hi => ?_⟩, SgM_g b5 w8 (by omega) (fun a j q1 q2 q3 w => by omega), ⟨RlM_g r1 l1 w8 (by omega) (fun a j q1 q2 q3 w => by omega) (fun a j q1 q2 q3 w => by omega), RlM_g r2 l2 w8 (by omega) (fun a j q1 q2 q3 w => by omega) (fun a j q1 q2 q3 w => by omega), RlM_g r3 (Nat.le_trans l3 (by decide)) w8 (by omega) (fun a j q1 q2 q3 w => by omega) (fun a j q1 q2 q3 w => by omega)⟩, FmM_g f w8 (fun j q w => by omega)⟩
          · rw [m_uI_I, if_pos ⟨rfl, rfl⟩]
            show _ = nI (dBk D ++ [_]).length
            rw [List.length_append, hN]; rfl
          · rw [w8.1 _ _ (by omega), w8.1 _ _ (by omega), w8.1 _ _ (by omega), w8.1 _ _ (by omega)]
            rcases getA (L := dBk D) hi with ⟨q1, q2⟩ | ⟨q1, q2⟩
            · exact b4.2 i g q2
            · rw [q1, ← hN, q2, v2_7, v3_7, v5_7, v7_7]
              exact ⟨by rw [hx2, hxs], hx3, hx5, hx7⟩
  rw [eX11_book]
  have i0 := hP.2.2.2.2.2.2.2.2.2.1
  have n0 := hP.2.2.2.2.1.1
  rw [← hN] at n0
  simp +decide (disch := omega) only [qX11_book_0, qX11_book_1, lm hL, i0, n0, hnm, ni_in_t, ni_tn, am_w1_i, am_w1_r, am_w1_x, am_w1_l, am_w1_w, va_rf_s, am_push_n, am_push_s, am_cs_0, am_cs_i, am_cs_l, am_cs_r, m_uI_K, m_uI_N, m_uI_R, m_uI_L, m_uI_I, m_uL_K, m_uL_N, m_uL_R, m_uL_I, m_uL_L, m_uR_K, m_uR_N, m_uR_I, m_uR_L, m_uR_R, true_and, and_true, true_implies, false_implies, not_true_eq_false, not_false_eq_true, if_true, if_false, false_and, and_false]
  by_cases cf : 12 ≤ N
  · rw [decide_eq_true cf] at main
    rw [br_r (by omega)]
    exact main
  · rw [decide_eq_false cf] at main
    rw [br_q (by omega)]
    exact main
theorem k_ship (d c : Nat) (D : Dat) (t : Tok) (M : am_M) (Q : Option Value → am_M → Prop) (hG : GdM T n z M D c t) (hC : 1 ≤ dC D) (hRr : 1 ≤ dR D) (h0 : ¬ t.1 = 0) (hQ : ∀ M', EdM T n z t M M' (spShip T n D t) → Q none M') : am_E am_P0 (d + 4) 199 [.ref 277] M Q := by
  obtain ⟨hL, hR, hP, hD, hc⟩ := id hG
  have hEn := (GdM_t hG).1
  have hz := hP.2.2.2.2.2.2.2.2.2.2
  have hmx : (dSh D).length ≤ 8 := hD.2.2.1.1
  have hCR := hD.1
  obtain ⟨N, hN⟩ : ∃ N, N = (dSh D).length := ⟨_, rfl⟩
  rw [← hN] at hmx
  have hnm : nI N = 8 ↔ N = 8 := by rw [show (8 : Int32) = nI 8 from rfl, ni_eq (by omega) (by omega)]
  have idx : (8 : Int32) * nI z + nI N = nI (8 * z + N) := by rw [show (8 : Int32) = nI 8 from rfl, ni_mul, ni_add]
  have sc : ∀ (M' : am_M), gF (sX 286 290 (8 * z + N)) nT M M' → PdM M' z D c ∧ Lay M' ∧ mI M' 277 41 = nI z ∧ mI M' 285 z = nI N ∧ gF (sSm z) nT M M' ∨ 8 ≤ N := fun M' g => by
    by_cases cN : 8 ≤ N
    · exact Or.inr cN
    · have P := PdM_w hP hD g (fun a q w => by unfold sX sRm at w; omega) (fun j q1 q2 w => by unfold sX sRm at w; omega) (fun a k j q1 q2 q3 w => by unfold sX sRm at w; omega) (fun a j q1 q2 q3 w => by unfold sX sRm at w; omega) (fun a j q w => by unfold sX sRm at w; omega) (fun a j q1 q2 q3 w => by unfold sX sRm at w; omega) (fun a j q1 q2 q3 w => by unfold sX sRm at w; omega) (fun a j q1 q2 q3 w => by unfold sX sRm at w; omega) (fun j q w => by unfold sX sRm at w; omega)
      refine Or.inl ⟨P, gF_LayN g hL, P.2.2.2.2.2.2.2.2.2.1, by rw [hN]; exact P.2.2.1.1, gF_up g (fun a j q => ?_) (fun _ _ q => q)⟩
      rcases q with q | q
      · exact sS_0 (by unfold sRm at q; omega)
      · exact sS_4 (by omega)
  have main : am_E am_P0 (d + 3) 193 [.ref 277, .int (b01 (decide (8 ≤ N)))] M (fun r M2 => am_P am_P0 (d + 4) (am_look tX11_ship) 23 [.ref 277, am_x] (am_push r []) M2 Q) := by
    refine m_counts (d + 1) (decide (8 ≤ N)) t M _ hL hR (fun M1 x1 g1 s1 f1 o1 => ?_)
    by_cases cf : 8 ≤ N
    · rw [if_pos (decide_eq_true cf)] at s1 f1
      have h9 := hQ M1 (by unfold spShip; rw [if_pos (by omega)]; exact ⟨sRm_S g1, s1⟩)
      simp +decide only [qX11_ship_0, qX11_ship_1, qX11_ship_2, f1 _ rfl, am_w1_i, am_w1_r, am_w1_x, am_w1_l, am_w1_w, va_rf_s, am_push_n, am_push_s, am_cs_0, am_cs_i, am_cs_l, am_cs_r, m_uI_K, m_uI_N, m_uI_R, m_uI_L, m_uI_I, m_uL_K, m_uL_N, m_uL_R, m_uL_I, m_uL_L, m_uR_K, m_uR_N, m_uR_I, m_uR_L, m_uR_R, true_and, and_true, true_implies, false_implies, not_true_eq_false, not_false_eq_true, if_true, if_false, false_and, and_false]
      exact h9
    · rw [if_neg (by rw [decide_eq_false cf]; decide)] at s1 f1 o1
      unfold spShip at hQ
      rw [if_neg (by omega)] at hQ
      cases hr1 : advR T n t with
      | inl e =>
        rw [hr1] at s1 hQ
        have h9 := hQ M1 ⟨sRm_S g1, s1⟩
        simp +decide only [qX11_ship_0, qX11_ship_1, qX11_ship_2, f1 e hr1, am_w1_i, am_w1_r, am_w1_x, am_w1_l, am_w1_w, va_rf_s, am_push_n, am_push_s, am_cs_0, am_cs_i, am_cs_l, am_cs_r, m_uI_K, m_uI_N, m_uI_R, m_uI_L, m_uI_I, m_uL_K, m_uL_N, m_uL_R, m_uL_I, m_uL_L, m_uR_K, m_uR_N, m_uR_I, m_uR_L, m_uR_R, true_and, and_true, true_implies, false_implies, not_true_eq_false, not_false_eq_true, if_true, if_false, false_and, and_false]
        exact h9
      | inr t1 =>
        have G1 := sX_u (lo := 286) (hi := 290) (J := 8 * z + N) g1
        obtain ⟨P1, L1, i1, n1, S1⟩ := (sc M1 G1).resolve_right (by omega)
        simp +decide (disch := omega) only [qX11_ship_0, qX11_ship_1, qX11_ship_2, o1 t1 hr1, lm L1, i1, n1, idx, ni_in_t, ni_tn, am_w1_i, am_w1_r, am_w1_x, am_w1_l, am_w1_w, va_rf_s, am_push_n, am_push_s, am_cs_0, am_cs_i, am_cs_l, am_cs_r, m_uI_K, m_uI_N, m_uI_R, m_uI_L, m_uI_I, m_uL_K, m_uL_N, m_uL_R, m_uL_I, m_uL_L, m_uR_K, m_uR_N, m_uR_I, m_uR_L, m_uR_R, true_and, and_true, true_implies, false_implies, not_true_eq_false, not_false_eq_true, if_true, if_false, false_and, and_false]
        have Hs := P1.2.2.1
        refine m_fresh (d + 1) z D _ M1 _ L1 hz i1 Hs hD s1 (fun M2 x2 g2 s2 e2 => ?_)
        have L2 := gF_LayN g2 L1
        have G2 : gF (sX 286 290 (8 * z + N)) nT M (uL M2 286 (8 * z + N) x2) := gF_trans G1 (gF_trans (sX_u g2) (gF_l _ (Or.inr ⟨by omega, by omega, rfl⟩)))
        have s2' : StM (uL M2 286 (8 * z + N) x2) T n _ := StM_g s2 (gF_l (S := fun b i => b = 286) (T := nT) x2 rfl) (fun b i q w => by omega)
        simp +decide (disch := omega) only [qX11_ship_0, qX11_ship_1, qX11_ship_2, lm L2, ni_in_t, ni_tn, am_w1_i, am_w1_r, am_w1_x, am_w1_l, am_w1_w, va_rf_s, am_push_n, am_push_s, am_cs_0, am_cs_i, am_cs_l, am_cs_r, m_uI_K, m_uI_N, m_uI_R, m_uI_L, m_uI_I, m_uL_K, m_uL_N, m_uL_R, m_uL_I, m_uL_L, m_uR_K, m_uR_N, m_uR_I, m_uR_L, m_uR_R, true_and, and_true, true_implies, false_implies, not_true_eq_false, not_false_eq_true, if_true, if_false, false_and, and_false]
        obtain ⟨A2, hA2⟩ : ∃ A, A = uL M2 286 (8 * z + N) x2 := ⟨_, rfl⟩
        have v2_2 : mL A2 286 (8 * z + N) = x2 := by rw [hA2, m_uL_L, if_pos ⟨rfl, rfl⟩]
        rw [← hA2] at G2 s2' ⊢
        obtain ⟨P2, LA2, i2, n2, S2⟩ := (sc A2 G2).resolve_right (by omega)
        refine m_word2 (d + 1) 5 1819242347 _ A2 _ LA2 (by omega) (by decide) s2' (fun M3 g3 s3 => ?_)
        have L3 := gF_LayN g3 LA2
        simp +decide (disch := omega) only [qX11_ship_0, qX11_ship_1, qX11_ship_2, lm L3, ni_in_t, ni_tn, am_w1_i, am_w1_r, am_w1_x, am_w1_l, am_w1_w, va_rf_s, am_push_n, am_push_s, am_cs_0, am_cs_i, am_cs_l, am_cs_r, m_uI_K, m_uI_N, m_uI_R, m_uI_L, m_uI_I, m_uL_K, m_uL_N, m_uL_R, m_uL_I, m_uL_L, m_uR_K, m_uR_N, m_uR_I, m_uR_L, m_uR_R, true_and, and_true, true_implies, false_implies, not_true_eq_false, not_false_eq_true, if_true, if_false, false_and, and_false]
        rw [show (0 : Int32) = nI 0 from rfl, show (3 : Int32) = nI 3 from rfl]
        refine m_num (d + 1) 0 3 _ M3 _ L3 (by omega) (by omega) s3 (fun M4 x4 g4 s4 e4 => ?_)
        have L4 := gF_LayN g4 L3
        have G4 : gF (sX 286 290 (8 * z + N)) nT M (uI M4 287 (8 * z + N) x4) := gF_trans G2 (gF_trans (sX_u g3) (gF_trans (sX_u g4) (sX_i _ ⟨by omega, by omega⟩)))
        have s4' := StM_u (a := 287) (j := 8 * z + N) (x := x4) s4 (by omega)
        simp +decide (disch := omega) only [qX11_ship_0, qX11_ship_1, qX11_ship_2, lm L4, ni_in_t, ni_tn, am_w1_i, am_w1_r, am_w1_x, am_w1_l, am_w1_w, va_rf_s, am_push_n, am_push_s, am_cs_0, am_cs_i, am_cs_l, am_cs_r, m_uI_K, m_uI_N, m_uI_R, m_uI_L, m_uI_I, m_uL_K, m_uL_N, m_uL_R, m_uL_I, m_uL_L, m_uR_K, m_uR_N, m_uR_I, m_uR_L, m_uR_R, true_and, and_true, true_implies, false_implies, not_true_eq_false, not_false_eq_true, if_true, if_false, false_and, and_false]
        obtain ⟨A4, hA4⟩ : ∃ A, A = uI M4 287 (8 * z + N) x4 := ⟨_, rfl⟩
        have v4_4 : mI A4 287 (8 * z + N) = x4 := by rw [hA4, m_uI_I, if_pos ⟨rfl, rfl⟩]
        have v2_4 : mL A4 286 (8 * z + N) = x2 := by rw [hA4, m_uI_L, g4.2.1 _ _ (fun w => by unfold sRm at w; omega), g3.2.1 _ _ (fun w => by unfold sRm at w; omega)]; exact v2_2
        rw [← hA4] at G4 s4' ⊢
        obtain ⟨P4, LA4, i4, n4, S4⟩ := (sc A4 G4).resolve_right (by omega)
        refine m_word2 (d + 1) 6 495806932324 _ A4 _ LA4 (by omega) (by decide) s4' (fun M5 g5 s5 => ?_)
        have L5 := gF_LayN g5 LA4
        simp +decide (disch := omega) only [qX11_ship_0, qX11_ship_1, qX11_ship_2, lm L5, ni_in_t, ni_tn, am_w1_i, am_w1_r, am_w1_x, am_w1_l, am_w1_w, va_rf_s, am_push_n, am_push_s, am_cs_0, am_cs_i, am_cs_l, am_cs_r, m_uI_K, m_uI_N, m_uI_R, m_uI_L, m_uI_I, m_uL_K, m_uL_N, m_uL_R, m_uL_I, m_uL_L, m_uR_K, m_uR_N, m_uR_I, m_uR_L, m_uR_R, true_and, and_true, true_implies, false_implies, not_true_eq_false, not_false_eq_true, if_true, if_false, false_and, and_false]
        rw [show (1 : Int32) = nI 1 from rfl, show (4 : Int32) = nI 4 from rfl]
        refine m_num (d + 1) 1 4 _ M5 _ L5 (by omega) (by omega) s5 (fun M6 x6 g6 s6 e6 => ?_)
        have L6 := gF_LayN g6 L5
        have G6 : gF (sX 286 290 (8 * z + N)) nT M (uI M6 288 (8 * z + N) x6) := gF_trans G4 (gF_trans (sX_u g5) (gF_trans (sX_u g6) (sX_i _ ⟨by omega, by omega⟩)))
        have s6' := StM_u (a := 288) (j := 8 * z + N) (x := x6) s6 (by omega)
        simp +decide (disch := omega) only [qX11_ship_0, qX11_ship_1, qX11_ship_2, lm L6, ni_in_t, ni_tn, am_w1_i, am_w1_r, am_w1_x, am_w1_l, am_w1_w, va_rf_s, am_push_n, am_push_s, am_cs_0, am_cs_i, am_cs_l, am_cs_r, m_uI_K, m_uI_N, m_uI_R, m_uI_L, m_uI_I, m_uL_K, m_uL_N, m_uL_R, m_uL_I, m_uL_L, m_uR_K, m_uR_N, m_uR_I, m_uR_L, m_uR_R, true_and, and_true, true_implies, false_implies, not_true_eq_false, not_false_eq_true, if_true, if_false, false_and, and_false]
        obtain ⟨A6, hA6⟩ : ∃ A, A = uI M6 288 (8 * z + N) x6 := ⟨_, rfl⟩
        have v6_6 : mI A6 288 (8 * z + N) = x6 := by rw [hA6, m_uI_I, if_pos ⟨rfl, rfl⟩]
        have v2_6 : mL A6 286 (8 * z + N) = x2 := by rw [hA6, m_uI_L, g6.2.1 _ _ (fun w => by unfold sRm at w; omega), g5.2.1 _ _ (fun w => by unfold sRm at w; omega)]; exact v2_4
        have v4_6 : mI A6 287 (8 * z + N) = x4 := by rw [hA6, m_uI_I, if_neg (by omega), g6.1 _ _ (fun w => by unfold sRm at w; omega), g5.1 _ _ (fun w => by unfold sRm at w; omega)]; exact v4_4
        rw [← hA6] at G6 s6' ⊢
        obtain ⟨P6, LA6, i6, n6, S6⟩ := (sc A6 G6).resolve_right (by omega)
        refine m_word2 (d + 1) 7 431415715444 _ A6 _ LA6 (by omega) (by decide) s6' (fun M7 g7 s7 => ?_)
        have L7 := gF_LayN g7 LA6
        simp +decide (disch := omega) only [qX11_ship_0, qX11_ship_1, qX11_ship_2, lm L7, ni_in_t, ni_tn, am_w1_i, am_w1_r, am_w1_x, am_w1_l, am_w1_w, va_rf_s, am_push_n, am_push_s, am_cs_0, am_cs_i, am_cs_l, am_cs_r, m_uI_K, m_uI_N, m_uI_R, m_uI_L, m_uI_I, m_uL_K, m_uL_N, m_uL_R, m_uL_I, m_uL_L, m_uR_K, m_uR_N, m_uR_I, m_uR_L, m_uR_R, true_and, and_true, true_implies, false_implies, not_true_eq_false, not_false_eq_true, if_true, if_false, false_and, and_false]
        rw [show (1 : Int32) = nI 1 from rfl, show (40 : Int32) = nI 40 from rfl]
        refine m_num (d + 1) 1 40 _ M7 _ L7 (by omega) (by omega) s7 (fun M8 x8 g8 s8 e8 => ?_)
        have L8 := gF_LayN g8 L7
        have G8 : gF (sX 286 290 (8 * z + N)) nT M (uI M8 289 (8 * z + N) x8) := gF_trans G6 (gF_trans (sX_u g7) (gF_trans (sX_u g8) (sX_i _ ⟨by omega, by omega⟩)))
        have s8' := StM_u (a := 289) (j := 8 * z + N) (x := x8) s8 (by omega)
        simp +decide (disch := omega) only [qX11_ship_0, qX11_ship_1, qX11_ship_2, lm L8, ni_in_t, ni_tn, am_w1_i, am_w1_r, am_w1_x, am_w1_l, am_w1_w, va_rf_s, am_push_n, am_push_s, am_cs_0, am_cs_i, am_cs_l, am_cs_r, m_uI_K, m_uI_N, m_uI_R, m_uI_L, m_uI_I, m_uL_K, m_uL_N, m_uL_R, m_uL_I, m_uL_L, m_uR_K, m_uR_N, m_uR_I, m_uR_L, m_uR_R, true_and, and_true, true_implies, false_implies, not_true_eq_false, not_false_eq_true, if_true, if_false, false_and, and_false]
        obtain ⟨A8, hA8⟩ : ∃ A, A = uI M8 289 (8 * z + N) x8 := ⟨_, rfl⟩
        have v8_8 : mI A8 289 (8 * z + N) = x8 := by rw [hA8, m_uI_I, if_pos ⟨rfl, rfl⟩]
        have v2_8 : mL A8 286 (8 * z + N) = x2 := by rw [hA8, m_uI_L, g8.2.1 _ _ (fun w => by unfold sRm at w; omega), g7.2.1 _ _ (fun w => by unfold sRm at w; omega)]; exact v2_6
        have v4_8 : mI A8 287 (8 * z + N) = x4 := by rw [hA8, m_uI_I, if_neg (by omega), g8.1 _ _ (fun w => by unfold sRm at w; omega), g7.1 _ _ (fun w => by unfold sRm at w; omega)]; exact v4_6
        have v6_8 : mI A8 288 (8 * z + N) = x6 := by rw [hA8, m_uI_I, if_neg (by omega), g8.1 _ _ (fun w => by unfold sRm at w; omega), g7.1 _ _ (fun w => by unfold sRm at w; omega)]; exact v6_6
        rw [← hA8] at G8 s8' ⊢
        obtain ⟨P8, LA8, i8, n8, S8⟩ := (sc A8 G8).resolve_right (by omega)
        refine m_word2 (d + 1) 8 1819238756 _ A8 _ LA8 (by omega) (by decide) s8' (fun M9 g9 s9 => ?_)
        have L9 := gF_LayN g9 LA8
        simp +decide (disch := omega) only [qX11_ship_0, qX11_ship_1, qX11_ship_2, lm L9, ni_in_t, ni_tn, am_w1_i, am_w1_r, am_w1_x, am_w1_l, am_w1_w, va_rf_s, am_push_n, am_push_s, am_cs_0, am_cs_i, am_cs_l, am_cs_r, m_uI_K, m_uI_N, m_uI_R, m_uI_L, m_uI_I, m_uL_K, m_uL_N, m_uL_R, m_uL_I, m_uL_L, m_uR_K, m_uR_N, m_uR_I, m_uR_L, m_uR_R, true_and, and_true, true_implies, false_implies, not_true_eq_false, not_false_eq_true, if_true, if_false, false_and, and_false]
        rw [show (0 : Int32) = nI 0 from rfl, show (40 : Int32) = nI 40 from rfl]
        refine m_num (d + 1) 0 40 _ M9 _ L9 (by omega) (by omega) s9 (fun M10 x10 g10 s10 e10 => ?_)
        have L10 := gF_LayN g10 L9
        have G10 : gF (sX 286 290 (8 * z + N)) nT M (uI M10 290 (8 * z + N) x10) := gF_trans G8 (gF_trans (sX_u g9) (gF_trans (sX_u g10) (sX_i _ ⟨by omega, by omega⟩)))
        have s10' := StM_u (a := 290) (j := 8 * z + N) (x := x10) s10 (by omega)
        simp +decide (disch := omega) only [qX11_ship_0, qX11_ship_1, qX11_ship_2, lm L10, ni_in_t, ni_tn, am_w1_i, am_w1_r, am_w1_x, am_w1_l, am_w1_w, va_rf_s, am_push_n, am_push_s, am_cs_0, am_cs_i, am_cs_l, am_cs_r, m_uI_K, m_uI_N, m_uI_R, m_uI_L, m_uI_I, m_uL_K, m_uL_N, m_uL_R, m_uL_I, m_uL_L, m_uR_K, m_uR_N, m_uR_I, m_uR_L, m_uR_R, true_and, and_true, true_implies, false_implies, not_true_eq_false, not_false_eq_true, if_true, if_false, false_and, and_false]
        obtain ⟨A10, hA10⟩ : ∃ A, A = uI M10 290 (8 * z + N) x10 := ⟨_, rfl⟩
        have v10_10 : mI A10 290 (8 * z + N) = x10 := by rw [hA10, m_uI_I, if_pos ⟨rfl, rfl⟩]
        have v2_10 : mL A10 286 (8 * z + N) = x2 := by rw [hA10, m_uI_L, g10.2.1 _ _ (fun w => by unfold sRm at w; omega), g9.2.1 _ _ (fun w => by unfold sRm at w; omega)]; exact v2_8
        have v4_10 : mI A10 287 (8 * z + N) = x4 := by rw [hA10, m_uI_I, if_neg (by omega), g10.1 _ _ (fun w => by unfold sRm at w; omega), g9.1 _ _ (fun w => by unfold sRm at w; omega)]; exact v4_8
        have v6_10 : mI A10 288 (8 * z + N) = x6 := by rw [hA10, m_uI_I, if_neg (by omega), g10.1 _ _ (fun w => by unfold sRm at w; omega), g9.1 _ _ (fun w => by unfold sRm at w; omega)]; exact v6_8
        have v8_10 : mI A10 289 (8 * z + N) = x8 := by rw [hA10, m_uI_I, if_neg (by omega), g10.1 _ _ (fun w => by unfold sRm at w; omega), g9.1 _ _ (fun w => by unfold sRm at w; omega)]; exact v8_8
        rw [← hA10] at G10 s10' ⊢
        obtain ⟨P10, LA10, i10, n10, S10⟩ := (sc A10 G10).resolve_right (by omega)
        have e8' : mI M10 277 8 = mI A10 277 8 := by rw [hA10, m_uI_I, if_neg (by omega)]
        have i10' : mI M10 277 41 = mI A10 277 41 := by rw [hA10, m_uI_I, if_neg (by omega)]
        have n10' : mI M10 285 z = mI A10 285 z := by rw [hA10, m_uI_I, if_neg (by omega)]
        rw [e8', i10']
        have hf := StM_0 s10'
        have s11 : StM A10 T n (aftR T n 8 0 40 (aftR T n 7 1 40 (aftR T n 6 1 4 (aftR T n 5 0 3 (frR T n D (advR T n t))).1).1).1).1 := s10'
        have hf : (∀ e, (aftR T n 8 0 40 (aftR T n 7 1 40 (aftR T n 6 1 4 (aftR T n 5 0 3 (frR T n D (advR T n t))).1).1).1).1 = .inl e → ¬ mI A10 277 8 = 0) ∧ (∀ u, (aftR T n 8 0 40 (aftR T n 7 1 40 (aftR T n 6 1 4 (aftR T n 5 0 3 (frR T n D (advR T n t))).1).1).1).1 = .inr u → mI A10 277 8 = 0) := hf
        have hQf : ∀ e, (aftR T n 8 0 40 (aftR T n 7 1 40 (aftR T n 6 1 4 (aftR T n 5 0 3 (frR T n D (advR T n t))).1).1).1).1 = .inl e → ∀ M', EdM T n z t M M' (.inl e) → Q none M' := fun e he M' hE => by
          refine hQ M' ?_
          cases hnm2 : (nameR (advR T n t)).1 with
          | inl e' =>
            have hfr : (frR T n D (advR T n t)) = .inl e' := by unfold frR; rw [hnm2]; rfl
            rw [hfr] at he
            cases he
            exact hE
          | inr t1 =>
            have hfr : (frR T n D (advR T n t)) = if (shF D t1.2.2.1).isSome = true then .inl (2, tS t1) else advR T n t1 := by unfold frR; rw [hnm2]; rfl
            rw [hfr] at he
            unfold bR
            dsimp only
            by_cases ch : (shF D t1.2.2.1).isSome = true
            · rw [if_pos ch] at he ⊢
              cases he
              exact hE
            · rw [if_neg ch] at he ⊢
              rw [he]
              exact hE
        cases hr : (aftR T n 8 0 40 (aftR T n 7 1 40 (aftR T n 6 1 4 (aftR T n 5 0 3 (frR T n D (advR T n t))).1).1).1).1 with
        | inl e =>
          rw [hr] at s11
          have h9 := hQf e hr A10 ⟨S10, s11⟩
          rw [br_p (hf.1 e hr)]
          exact h9
        | inr t' =>
          have hv8 := numR_v hr
          have hx10 := e10 t' hr
          obtain ⟨u3, hu3⟩ := aft_i hr
          have hv7 := numR_v hu3
          have hx8 := e8 u3 hu3
          obtain ⟨u2, hu2⟩ := aft_i hu3
          have hv6 := numR_v hu2
          have hx6 := e6 u2 hu2
          obtain ⟨u1, hu1⟩ := aft_i hu2
          have hv5 := numR_v hu1
          have hx4 := e4 u1 hu1
          obtain ⟨u0, hu0⟩ := aft_i hu1
          have haf0 : AfR T n t (nameR (advR T n t)).1 := AfR_m (AfR_1 hEn)
          cases hnm2 : (nameR (advR T n t)).1 with
          | inl e' =>
            have hfr : (frR T n D (advR T n t)) = .inl e' := by unfold frR; rw [hnm2]; rfl
            rw [hfr] at hu0; cases hu0
          | inr t1 =>
            have hfr : (frR T n D (advR T n t)) = if (shF D t1.2.2.1).isSome = true then .inl (2, tS t1) else advR T n t1 := by unfold frR; rw [hnm2]; rfl
            by_cases ch : (shF D t1.2.2.1).isSome = true
            · rw [if_pos ch] at hfr; rw [hfr] at hu0; cases hu0
            · rw [if_neg ch] at hfr
              have hxn := e2 t1 u0 hnm2 hu0
              rw [hnm2] at hQ haf0
              have hQ : ∀ M', EdM T n z t M M' (if (shF D t1.2.2.1).isSome = true then .inl (2, tS t1) else
                bR (aftR T n 8 0 40 (aftR T n 7 1 40 (aftR T n 6 1 4 (aftR T n 5 0 3 (advR T n t1)).1).1).1).1 (fun t' => .inr (t', (D.1, (dSh D ++ [(t1.2.2.1, (aftR T n 5 0 3 (advR T n t1)).2, (aftR T n 6 1 4 (aftR T n 5 0 3 (advR T n t1)).1).2, (aftR T n 7 1 40 (aftR T n 6 1 4 (aftR T n 5 0 3 (advR T n t1)).1).1).2, (aftR T n 8 0 40 (aftR T n 7 1 40 (aftR T n 6 1 4 (aftR T n 5 0 3 (advR T n t1)).1).1).1).2)], dYs D ++ [[]], dBk D, dSg D), D.2.2)))) → Q none M' := hQ
              rw [if_neg ch, ← hfr, hr] at hQ
              have hw : isWd t1.2.2.1 ∧ t1.2.2.1.length ≤ 6 ∧ 1 ≤ t1.2.2.1.length := by
                cases ha : advR T n t with
                | inl e' => rw [ha] at hr1; cases hr1
                | inr t1' =>
                  rw [ha] at hnm2 s1
                  have s1' : RdM M1 T n t1' := s1
                  have en : nameR (.inr t1') = if isNm t1' = true then (.inr t1', true) else (.inl (1, tS t1'), false) := rfl
                  rw [en] at hnm2
                  by_cases cn : isNm t1' = true
                  · rw [if_pos cn] at hnm2
                    cases hnm2
                    have ht1 : t1.1 = 1 := by have := cn; unfold isNm at this; rw [Bool.and_eq_true, beq_iff_eq] at this; exact this.1
                    exact s1'.2.2.2.2.2.2.2.2.2.2.2.2.2.1 ht1
                  · rw [if_neg cn] at hnm2; cases hnm2
              have haf : AfR T n t (.inr t') := by rw [← hr, hfr]; exact AfR_f _ _ _ (AfR_f _ _ _ (AfR_f _ _ _ (AfR_f _ _ _ (AfR_a haf0))))
              have hlt := AfR_lt (GdM_t hG) h0 haf
              have hok : shOK (t1.2.2.1, (aftR T n 5 0 3 (frR T n D (advR T n t))).2, (aftR T n 6 1 4 (aftR T n 5 0 3 (frR T n D (advR T n t))).1).2, (aftR T n 7 1 40 (aftR T n 6 1 4 (aftR T n 5 0 3 (frR T n D (advR T n t))).1).1).2, (aftR T n 8 0 40 (aftR T n 7 1 40 (aftR T n 6 1 4 (aftR T n 5 0 3 (frR T n D (advR T n t))).1).1).1).2) := ⟨hw.1, hw.2.2, hw.2.1, hv5.2, hv6.1, hv6.2, hv7.1, hv7.2, hv8.2⟩
              rw [br_n (fun w => w (hf.2 t' hr))]
              simp +decide (disch := omega) only [i10, n10', n10, ni_in_t, ni_tn, ni_add1, am_w1_i, am_w1_r, am_w1_x, am_w1_l, am_w1_w, va_rf_s, am_push_n, am_push_s, am_cs_0, am_cs_i, am_cs_l, am_cs_r, m_uI_K, m_uI_N, m_uI_R, m_uI_L, m_uI_I, m_uL_K, m_uL_N, m_uL_R, m_uL_I, m_uL_L, m_uR_K, m_uR_N, m_uR_I, m_uR_L, m_uR_R, true_and, and_true, true_implies, false_implies, not_true_eq_false, not_false_eq_true, if_true, if_false, false_and, and_false]
              have w12 : gF (fun a j => a = 285 ∧ j = z) nT A10 (uI A10 285 z (nI (N + 1))) := gF_i _ ⟨rfl, rfl⟩
              rw [hr] at s11
              have s12 := StM_g s11 w12 (fun a j q w => by omega)
              have hY := fun s => dY_app (sp := (t1.2.2.1, (aftR T n 5 0 3 (frR T n D (advR T n t))).2, (aftR T n 6 1 4 (aftR T n 5 0 3 (frR T n D (advR T n t))).1).2, (aftR T n 7 1 40 (aftR T n 6 1 4 (aftR T n 5 0 3 (frR T n D (advR T n t))).1).1).2, (aftR T n 8 0 40 (aftR T n 7 1 40 (aftR T n 6 1 4 (aftR T n 5 0 3 (frR T n D (advR T n t))).1).1).1).2)) hD s
              refine hQ _ ⟨gF_trans S10 (gF_up w12 (fun a j q => sS_1 (by omega)) (fun _ _ q => q)), ⟨c, LA10, s12, ?_, DOK_sh hD (by omega) hok, by show c ≤ tS t'; omega⟩, hlt⟩
              obtain ⟨⟨a1, a2⟩, b1, b2, b3, b4, b5, ⟨r1, r2, r3⟩, f⟩ := P10
              have l1 := hD.2.2.2.2.2.2.2.2.1.1
              have l2 := hD.2.2.2.2.2.2.2.2.2.1.1
              have l3 := hD.2.2.2.2.2.2.2.2.2.2.1
              refine ⟨⟨by rw [w12.1 _ _ (by omega)]; exact a1, by rw [w12.1 _ _ (by omega)]; exact a2⟩, by rw [w12.1 _ _ (by omega)]; exact b1, ⟨?_, fun i g hi => ?_⟩, ⟨?_, fun s hs => ?_⟩, BkM_gF b4 w12 (by omega) (fun a j q1 q2 q3 w => by omega), SgM_g b5 w12 (by omega) (fun a j q1 q2 q3 w => by omega), ⟨RlM_g r1 l1 w12 (by omega) (fun a j q1 q2 q3 w => by omega) (fun a j q1 q2 q3 w => by omega), RlM_g r2 l2 w12 (by omega) (fun a j q1 q2 q3 w => by omega) (fun a j q1 q2 q3 w => by omega), RlM_g r3 (Nat.le_trans l3 (by decide)) w12 (by omega) (fun a j q1 q2 q3 w => by omega) (fun a j q1 q2 q3 w => by omega)⟩, FmM_g f w12 (fun j q w => by omega)⟩
              · rw [m_uI_I, if_pos ⟨rfl, rfl⟩]
                show _ = nI (dSh D ++ [_]).length
                rw [List.length_append, hN]; rfl
              · rw [w12.1 _ _ (by omega), w12.1 _ _ (by omega), w12.1 _ _ (by omega), w12.1 _ _ (by omega), w12.2.1 _ _ (by omega)]
                rcases getA (L := dSh D) hi with ⟨q1, q2⟩ | ⟨q1, q2⟩
                · exact b2.2 i g q2
                · rw [q1, ← hN, q2, v2_10, v4_10, v6_10, v8_10, v10_10]
                  exact ⟨hxn, hx4, hx6, hx8, hx10⟩
              · rw [w12.1 _ _ (by omega), b3.1]
                congr 1
                exact (dTot_app hD).symm
              · show SyM _ z (dC D) (dR D) s _
                rw [hY]
                exact SyM_gF (b3.2 s hs) w12 (fun a t q _ w => by omega)
  rw [eX11_ship]
  have i0 := hP.2.2.2.2.2.2.2.2.2.1
  have n0 := hP.2.2.1.1
  rw [← hN] at n0
  simp +decide (disch := omega) only [qX11_ship_0, qX11_ship_1, qX11_ship_2, lm hL, i0, n0, hnm, ni_in_t, ni_tn, am_w1_i, am_w1_r, am_w1_x, am_w1_l, am_w1_w, va_rf_s, am_push_n, am_push_s, am_cs_0, am_cs_i, am_cs_l, am_cs_r, m_uI_K, m_uI_N, m_uI_R, m_uI_L, m_uI_I, m_uL_K, m_uL_N, m_uL_R, m_uL_I, m_uL_L, m_uR_K, m_uR_N, m_uR_I, m_uR_L, m_uR_R, true_and, and_true, true_implies, false_implies, not_true_eq_false, not_false_eq_true, if_true, if_false, false_and, and_false]
  by_cases cf : 8 ≤ N
  · rw [decide_eq_true cf] at main
    rw [br_r (by omega)]
    exact main
  · rw [decide_eq_false cf] at main
    rw [br_q (by omega)]
    exact main
end
