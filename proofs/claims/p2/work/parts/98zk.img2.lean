/-! image: the class's loops -/
theorem sIx_t {a j : Nat} (q : sIx a j) : (a = 0 ∧ j < 13) ∨ a = 1 ∨ a = 169 ∨ a = 170 := by unfold sIx at q; omega
theorem l_x_img41 (d z s : Nat) (D : Dat) (L0 : List Nat) (M0 : am_M) (Q : Option Value → am_M → Prop) (hD : dOK D) (hs : s < dN D) (hl0 : L0.length + 4 * (dY D s).length ≤ 386)
    (hQ : ∀ M' v3, gF sIx nT M0 M' → XR M' z D → ImX M' (L0 ++ syL (dC D) s (dY D s)) → am_P am_P0 (d + 1) (am_look tX10_image) 18 [.ref 0, .int (nI (s + 1)), .ref (z + 25 + 7 * s), v3] [] M' Q) :
    ∀ (m i : Nat), i + m = (dY D s).length → ∀ (M : am_M), gF sIx nT M0 M → XR M z D → ImX M (L0 ++ syL (dC D) s ((dY D s).take i)) → am_P am_P0 (d + 1) (am_look tX10_image) 41 [.ref 0, .int (nI s), .ref (z + 25 + 7 * s), .int (nI i)] [] M Q := by
  have n8 := dN_8 hD
  have h48 := dY_len hD s
  intro m
  induction m with
  | zero =>
    intro i hi M g hX hI
    have hz := hX.1.2.2.1
    have hL := hX.1.1
    have hg := isSh_z (z := z) (s := s) hz (by omega)
    have hle : nI (dY D s).length ≤ nI i := (ni_le (by omega) (by omega)).mpr (by omega)
    rw [List.take_of_length_le (by omega)] at hI
    have h0 := hQ M (.int (nI i)) g hX hI
    rw [hX10_image_41]
    simp +decide (disch := omega) only [qX10_image_0, qX10_image_1, qX10_image_2, lx hL, lw_ hL hg, (x_ship hX hs).2.1.1, ni_in_t, ni_tn, ni_add1, am_w1_i, am_w1_r, am_w1_x, am_w1_l, am_w1_w, va_rf_s, am_push_n, am_push_s, am_cs_0, am_cs_i, am_cs_l, am_cs_r, m_uI_K, m_uI_N, m_uI_R, m_uI_L, m_uI_I, m_uL_K, m_uL_N, m_uL_R, m_uL_I, m_uL_L, m_uR_K, m_uR_N, m_uR_I, m_uR_L, m_uR_R, true_and, and_true, true_implies, false_implies, not_true_eq_false, not_false_eq_true, if_true, if_false, false_and, and_false]
    rw [br_p hle]
    exact h0
  | succ m ih =>
    intro i hi M g hX hI
    have hz := hX.1.2.2.1
    have hL := hX.1.1
    have hg := isSh_z (z := z) (s := s) hz (by omega)
    have hlt : ¬ nI (dY D s).length ≤ nI i := by rw [ni_le (by omega) (by omega)]; omega
    obtain ⟨y, hy⟩ : ∃ y, (dY D s)[i]? = some y := ⟨(dY D s)[i]'(by omega), List.getElem?_eq_getElem (by omega)⟩
    have hlen : (L0 ++ syL (dC D) s ((dY D s).take i)).length + 4 ≤ 386 := by rw [List.length_append, syL_len, List.length_take]; omega
    obtain ⟨L, eL⟩ : ∃ L, L = L0 ++ syL (dC D) s ((dY D s).take i) := ⟨_, rfl⟩
    have eN : L0 ++ syL (dC D) s ((dY D s).take (i + 1)) = (((L ++ [s]) ++ [y.1]) ++ [cel (dC D) y.2.1]) ++ [n01 y.2.2] := by rw [tk_s hy, syL_app, eL]; simp [syL]
    rw [← eL] at hI hlen
    rw [hX10_image_41]
    simp +decide (disch := omega) only [qX10_image_0, qX10_image_1, qX10_image_2, lx hL, lw_ hL hg, (x_ship hX hs).2.1.1, ni_in_t, ni_tn, am_w1_i, am_w1_r, am_w1_x, am_w1_l, am_w1_w, va_rf_s, am_push_n, am_push_s, am_cs_0, am_cs_i, am_cs_l, am_cs_r, m_uI_K, m_uI_N, m_uI_R, m_uI_L, m_uI_I, m_uL_K, m_uL_N, m_uL_R, m_uL_I, m_uL_L, m_uR_K, m_uR_N, m_uR_I, m_uR_L, m_uR_R, true_and, and_true, true_implies, false_implies, not_true_eq_false, not_false_eq_true, if_true, if_false, false_and, and_false]
    rw [br_n hlt]
    refine x_wr d s L M _ hL hI (by omega) (fun M1 g1 i1 => ?_)
    have X1 := XR_t hD hX g1 (fun a j q => sIx_t q)
    have L1 := X1.1.1
    obtain ⟨⟨y48, y256⟩, a1, -⟩ := (x_ship X1 hs).2.1.2.2 i y hy
    simp +decide (disch := omega) only [qX10_image_0, qX10_image_1, qX10_image_2, lx L1, lw_ L1 hg, a1, ni_in_t, ni_tn, am_w1_i, am_w1_r, am_w1_x, am_w1_l, am_w1_w, va_rf_s, am_push_n, am_push_s, am_cs_0, am_cs_i, am_cs_l, am_cs_r, m_uI_K, m_uI_N, m_uI_R, m_uI_L, m_uI_I, m_uL_K, m_uL_N, m_uL_R, m_uL_I, m_uL_L, m_uR_K, m_uR_N, m_uR_I, m_uR_L, m_uR_R, true_and, and_true, true_implies, false_implies, not_true_eq_false, not_false_eq_true, if_true, if_false, false_and, and_false]
    refine x_wr d y.1 _ M1 _ L1 i1 (by rw [List.length_append]; show L.length + 1 < 507; omega) (fun M2 g2 i2 => ?_)
    have X2 := XR_t hD X1 g2 (fun a j q => sIx_t q)
    have L2 := X2.1.1
    have r2 := X2.1.2.2.2.1
    obtain ⟨-, -, a2, -⟩ := (x_ship X2 hs).2.1.2.2 i y hy
    have eP := fun Q => x_numberOf X2 d y.2.1 Q y256
    simp +decide (disch := omega) only [qX10_image_0, qX10_image_1, qX10_image_2, lx L2, lz L2 hz, lw_ L2 hg, r2, a2, eP, ni_in_t, ni_tn, am_w1_i, am_w1_r, am_w1_x, am_w1_l, am_w1_w, va_rf_s, am_push_n, am_push_s, am_cs_0, am_cs_i, am_cs_l, am_cs_r, m_uI_K, m_uI_N, m_uI_R, m_uI_L, m_uI_I, m_uL_K, m_uL_N, m_uL_R, m_uL_I, m_uL_L, m_uR_K, m_uR_N, m_uR_I, m_uR_L, m_uR_R, true_and, and_true, true_implies, false_implies, not_true_eq_false, not_false_eq_true, if_true, if_false, false_and, and_false]
    refine x_wr d (cel (dC D) y.2.1) _ M2 _ L2 i2 (by rw [List.length_append, List.length_append]; show L.length + 1 + 1 < 507; omega) (fun M3 g3 i3 => ?_)
    have X3 := XR_t hD X2 g3 (fun a j q => sIx_t q)
    have L3 := X3.1.1
    obtain ⟨-, -, -, a3⟩ := (x_ship X3 hs).2.1.2.2 i y hy
    have eb := fun Q => c_x_bit d (b01 y.2.2) M3 Q (b01_c _)
    have b01c := b01_c y.2.2
    simp +decide (disch := omega) only [qX10_image_0, qX10_image_1, qX10_image_2, lx L3, lw_ L3 hg, a3, eb, b01c, ni_in_t, ni_tn, am_w1_i, am_w1_r, am_w1_x, am_w1_l, am_w1_w, va_rf_s, am_push_n, am_push_s, am_cs_0, am_cs_i, am_cs_l, am_cs_r, m_uI_K, m_uI_N, m_uI_R, m_uI_L, m_uI_I, m_uL_K, m_uL_N, m_uL_R, m_uL_I, m_uL_L, m_uR_K, m_uR_N, m_uR_I, m_uR_L, m_uR_R, true_and, and_true, true_implies, false_implies, not_true_eq_false, not_false_eq_true, if_true, if_false, false_and, and_false]
    rw [← n01_b]
    refine x_wr d (n01 y.2.2) _ M3 _ L3 i3 (by rw [List.length_append, List.length_append, List.length_append]; show L.length + 1 + 1 + 1 < 507; omega) (fun M4 g4 i4 => ?_)
    have X4 := XR_t hD X3 g4 (fun a j q => sIx_t q)
    have h0 := ih (i + 1) (by omega) M4 (gF_trans g (gF_trans g1 (gF_trans g2 (gF_trans g3 g4)))) X4 (by rw [eN]; exact i4)
    simp +decide (disch := omega) only [qX10_image_0, qX10_image_1, qX10_image_2, ni_add1, am_w1_i, am_w1_r, am_w1_x, am_w1_l, am_w1_w, va_rf_s, am_push_n, am_push_s, am_cs_0, am_cs_i, am_cs_l, am_cs_r, m_uI_K, m_uI_N, m_uI_R, m_uI_L, m_uI_I, m_uL_K, m_uL_N, m_uL_R, m_uL_I, m_uL_L, m_uR_K, m_uR_N, m_uR_I, m_uR_L, m_uR_R, true_and, and_true, true_implies, false_implies, not_true_eq_false, not_false_eq_true, if_true, if_false, false_and, and_false]
    exact h0
theorem l_x_img18 (d z : Nat) (D : Dat) (M0 : am_M) (Q : Option Value → am_M → Prop) (hD : dOK D)
    (hQ : ∀ M' x v2 v3, gF sIx nT M0 M' → XR M' z D → ImX M' ([dTot D] ++ imS D (dN D)) → am_P am_P0 (d + 1) (am_look tX10_image) 106 [.ref 0, .int x, v2, v3] [] M' Q) :
    ∀ (m s : Nat), s + m = dN D → ∀ (M : am_M) (v2 v3 : Value), gF sIx nT M0 M → XR M z D → ImX M ([dTot D] ++ imS D s) → am_P am_P0 (d + 1) (am_look tX10_image) 18 [.ref 0, .int (nI s), v2, v3] [] M Q := by
  have n8 := dN_8 hD
  intro m
  induction m with
  | zero =>
    intro s hs M v2 v3 g hX hI
    have hz := hX.1.2.2.1
    have hL := hX.1.1
    have hr := hX.1.2.2.2.1
    have e : s = dN D := by omega
    subst e
    have hle : nI (dN D) ≤ nI (dN D) := (ni_le (by omega) (by omega)).mpr (Nat.le_refl _)
    have h0 := hQ M (nI (dN D)) v2 v3 g hX hI
    rw [hX10_image_18]
    simp +decide (disch := omega) only [qX10_image_0, qX10_image_1, qX10_image_2, lx hL, lz hL hz, hr, (x_n hX).1, am_w1_i, am_w1_r, am_w1_x, am_w1_l, am_w1_w, va_rf_s, am_push_n, am_push_s, am_cs_0, am_cs_i, am_cs_l, am_cs_r, m_uI_K, m_uI_N, m_uI_R, m_uI_L, m_uI_I, m_uL_K, m_uL_N, m_uL_R, m_uL_I, m_uL_L, m_uR_K, m_uR_N, m_uR_I, m_uR_L, m_uR_R, true_and, and_true, true_implies, false_implies, not_true_eq_false, not_false_eq_true, if_true, if_false, false_and, and_false] at h0 ⊢
    rw [br_p hle]
    exact h0
  | succ m ih =>
    intro s hs M v2 v3 g hX hI
    have hz := hX.1.2.2.1
    have hL := hX.1.1
    have hr := hX.1.2.2.2.1
    have hsl : s < dN D := by omega
    have hlt : ¬ nI (dN D) ≤ nI s := by rw [ni_le (by omega) (by omega)]; omega
    have hsh := lsh hL hz (s := s) (by omega)
    have hg := isSh_z (z := z) (s := s) hz (by omega)
    have hb := dSp_t hD hsl
    have h0 := l_x_img41 d z s D ([dTot D] ++ imS D s) M0 Q hD hsl (by rw [List.length_append, imS_len]; show 1 + _ + _ ≤ 386; omega) (fun M' v3' g' X' i' => ih (s + 1) (by omega) M' _ v3' g' X' (by rw [List.append_assoc] at i'; exact i')) (dY D s).length 0 (by omega) M g hX (by rw [List.take_zero]; show ImX M (_ ++ []); rw [List.append_nil]; exact hI)
    rw [hX10_image_18]
    simp +decide (disch := omega) only [qX10_image_0, qX10_image_1, qX10_image_2, lx hL, lz hL hz, lw_ hL hg, hr, hsh, (x_n hX).1, ni_in_t, ni_tn, am_w1_i, am_w1_r, am_w1_x, am_w1_l, am_w1_w, va_rf_s, am_push_n, am_push_s, am_cs_0, am_cs_i, am_cs_l, am_cs_r, m_uI_K, m_uI_N, m_uI_R, m_uI_L, m_uI_I, m_uL_K, m_uL_N, m_uL_R, m_uL_I, m_uL_L, m_uR_K, m_uR_N, m_uR_I, m_uR_L, m_uR_R, true_and, and_true, true_implies, false_implies, not_true_eq_false, not_false_eq_true, if_true, if_false, false_and, and_false]
    rw [br_n hlt]
    exact h0
theorem l_x_img122 (d z : Nat) (D : Dat) (L0 : List Nat) (M0 : am_M) (v2 v3 : Value) (Q : Option Value → am_M → Prop) (hD : dOK D) (hl0 : L0.length ≤ 386)
    (hQ : ∀ M' x, gF sIx nT M0 M' → XR M' z D → ImX M' (L0 ++ sgL (dC D) (dSg D)) → am_P am_P0 (d + 1) (am_look tX10_image) 197 [.ref 0, .int x, v2, v3] [] M' Q) :
    ∀ (m i : Nat), i + m = (dSg D).length → ∀ (M : am_M), gF sIx nT M0 M → XR M z D → ImX M (L0 ++ sgL (dC D) ((dSg D).take i)) → am_P am_P0 (d + 1) (am_look tX10_image) 122 [.ref 0, .int (nI i), v2, v3] [] M Q := by
  have l40 := hD.1.2.2.2.2.2.2.2.1.1
  intro m
  induction m with
  | zero =>
    intro i hi M g hX hI
    have hz := hX.1.2.2.1
    have hL := hX.1.1
    have hr := hX.1.2.2.2.1
    have hle : nI (dSg D).length ≤ nI i := (ni_le (by omega) (by omega)).mpr (by omega)
    rw [List.take_of_length_le (by omega)] at hI
    have h0 := hQ M (nI i) g hX hI
    rw [hX10_image_122]
    simp +decide (disch := omega) only [qX10_image_0, qX10_image_1, qX10_image_2, lx hL, lz hL hz, hr, (x_sg hX).1, am_w1_i, am_w1_r, am_w1_x, am_w1_l, am_w1_w, va_rf_s, am_push_n, am_push_s, am_cs_0, am_cs_i, am_cs_l, am_cs_r, m_uI_K, m_uI_N, m_uI_R, m_uI_L, m_uI_I, m_uL_K, m_uL_N, m_uL_R, m_uL_I, m_uL_L, m_uR_K, m_uR_N, m_uR_I, m_uR_L, m_uR_R, true_and, and_true, true_implies, false_implies, not_true_eq_false, not_false_eq_true, if_true, if_false, false_and, and_false] at h0 ⊢
    rw [br_p hle]
    exact h0
  | succ m ih =>
    intro i hi M g hX hI
    have hz := hX.1.2.2.1
    have hL := hX.1.1
    have hr := hX.1.2.2.2.1
    have hlt : ¬ nI (dSg D).length ≤ nI i := by rw [ni_le (by omega) (by omega)]; omega
    obtain ⟨y, hy⟩ : ∃ y, (dSg D)[i]? = some y := ⟨(dSg D)[i]'(by omega), List.getElem?_eq_getElem (by omega)⟩
    have hyo := hD.1.2.2.2.2.2.2.2.1.2 y (List.mem_of_getElem? hy)
    have y256 := (cel_lt hD.1.1.1 hD.1.1.2 hyo.2.1).2.2
    have hlen : (L0 ++ sgL (dC D) ((dSg D).take i)).length + 3 ≤ 506 := by rw [List.length_append, sgL_len, List.length_take]; omega
    obtain ⟨L, eL⟩ : ∃ L, L = L0 ++ sgL (dC D) ((dSg D).take i) := ⟨_, rfl⟩
    have eN : L0 ++ sgL (dC D) ((dSg D).take (i + 1)) = ((L ++ [y.1]) ++ [cel (dC D) y.2.1]) ++ [y.2.2] := by rw [tk_s hy, sgL_app, eL]; simp [sgL]
    rw [← eL] at hI hlen
    rw [hX10_image_122]
    simp +decide (disch := omega) only [qX10_image_0, qX10_image_1, qX10_image_2, lx hL, lz hL hz, hr, (x_sg hX).1, ((x_sg hX).2 i y hy).1, ni_in_t, ni_tn, am_w1_i, am_w1_r, am_w1_x, am_w1_l, am_w1_w, va_rf_s, am_push_n, am_push_s, am_cs_0, am_cs_i, am_cs_l, am_cs_r, m_uI_K, m_uI_N, m_uI_R, m_uI_L, m_uI_I, m_uL_K, m_uL_N, m_uL_R, m_uL_I, m_uL_L, m_uR_K, m_uR_N, m_uR_I, m_uR_L, m_uR_R, true_and, and_true, true_implies, false_implies, not_true_eq_false, not_false_eq_true, if_true, if_false, false_and, and_false]
    rw [br_n hlt]
    refine x_wr d y.1 L M _ hL hI (by omega) (fun M1 g1 i1 => ?_)
    have X1 := XR_t hD hX g1 (fun a j q => sIx_t q)
    have L1 := X1.1.1
    have r1 := X1.1.2.2.2.1
    have eP := fun Q => x_numberOf X1 d y.2.1 Q y256
    simp +decide (disch := omega) only [qX10_image_0, qX10_image_1, qX10_image_2, lx L1, lz L1 hz, r1, ((x_sg X1).2 i y hy).2.1, eP, ni_in_t, ni_tn, am_w1_i, am_w1_r, am_w1_x, am_w1_l, am_w1_w, va_rf_s, am_push_n, am_push_s, am_cs_0, am_cs_i, am_cs_l, am_cs_r, m_uI_K, m_uI_N, m_uI_R, m_uI_L, m_uI_I, m_uL_K, m_uL_N, m_uL_R, m_uL_I, m_uL_L, m_uR_K, m_uR_N, m_uR_I, m_uR_L, m_uR_R, true_and, and_true, true_implies, false_implies, not_true_eq_false, not_false_eq_true, if_true, if_false, false_and, and_false]
    refine x_wr d (cel (dC D) y.2.1) _ M1 _ L1 i1 (by rw [List.length_append]; show L.length + 1 < 507; omega) (fun M2 g2 i2 => ?_)
    have X2 := XR_t hD X1 g2 (fun a j q => sIx_t q)
    have L2 := X2.1.1
    have r2 := X2.1.2.2.2.1
    simp +decide (disch := omega) only [qX10_image_0, qX10_image_1, qX10_image_2, lx L2, lz L2 hz, r2, ((x_sg X2).2 i y hy).2.2, ni_in_t, ni_tn, am_w1_i, am_w1_r, am_w1_x, am_w1_l, am_w1_w, va_rf_s, am_push_n, am_push_s, am_cs_0, am_cs_i, am_cs_l, am_cs_r, m_uI_K, m_uI_N, m_uI_R, m_uI_L, m_uI_I, m_uL_K, m_uL_N, m_uL_R, m_uL_I, m_uL_L, m_uR_K, m_uR_N, m_uR_I, m_uR_L, m_uR_R, true_and, and_true, true_implies, false_implies, not_true_eq_false, not_false_eq_true, if_true, if_false, false_and, and_false]
    refine x_wr d y.2.2 _ M2 _ L2 i2 (by rw [List.length_append, List.length_append]; show L.length + 1 + 1 < 507; omega) (fun M3 g3 i3 => ?_)
    have X3 := XR_t hD X2 g3 (fun a j q => sIx_t q)
    have h0 := ih (i + 1) (by omega) M3 (gF_trans g (gF_trans g1 (gF_trans g2 g3))) X3 (by rw [eN]; exact i3)
    simp +decide (disch := omega) only [qX10_image_0, qX10_image_1, qX10_image_2, ni_add1, am_w1_i, am_w1_r, am_w1_x, am_w1_l, am_w1_w, va_rf_s, am_push_n, am_push_s, am_cs_0, am_cs_i, am_cs_l, am_cs_r, m_uI_K, m_uI_N, m_uI_R, m_uI_L, m_uI_I, m_uL_K, m_uL_N, m_uL_R, m_uL_I, m_uL_L, m_uR_K, m_uR_N, m_uR_I, m_uR_L, m_uR_R, true_and, and_true, true_implies, false_implies, not_true_eq_false, not_false_eq_true, if_true, if_false, false_and, and_false]
    exact h0
