/-! image: the model; together -/
theorem l_m_img20 (d b : Nat) (D : Dat) (M0 : am_M) (Q : Option Value → am_M → Prop) (hL0 : Lay M0) (hD : dOK D)
    (hQ : ∀ M' x v2, gF sIo nT M0 M' → MdM M' b D → ImO M' ([dTot D] ++ imS D (dN D)) → am_P am_P0 (d + 1) (am_look tX11_image) 104 [.ref 277, .int x, v2] [] M' Q) :
    ∀ (m s : Nat), s + m = dN D → ∀ (M : am_M) (v2 : Value), gF sIo nT M0 M → MdM M b D → ImO M ([dTot D] ++ imS D s) → am_P am_P0 (d + 1) (am_look tX11_image) 20 [.ref 277, .int (nI s), v2] [] M Q := by
  have n8 := dN_8 hD
  intro m
  induction m with
  | zero =>
    intro s hs M v2 g hM hI
    have hL := gF_LayN g hL0
    have hb := hM.1.1
    have hb2 := hM.1.2
    have hn : mI M 285 b = nI (dN D) := hM.2.2.2.1.1
    have e : s = dN D := by omega
    subst e
    have hle : nI (dN D) ≤ nI (dN D) := (ni_le (by omega) (by omega)).mpr (Nat.le_refl _)
    have h0 := hQ M (nI (dN D)) v2 g hM hI
    rw [hX11_image_20]
    simp +decide (disch := omega) only [qX11_image_0, qX11_image_1, qX11_image_2, qX11_image_3, lm hL, hb, hn, ni_in_t, ni_tn, am_w1_i, am_w1_r, am_w1_x, am_w1_l, am_w1_w, va_rf_s, am_push_n, am_push_s, am_cs_0, am_cs_i, am_cs_l, am_cs_r, m_uI_K, m_uI_N, m_uI_R, m_uI_L, m_uI_I, m_uL_K, m_uL_N, m_uL_R, m_uL_I, m_uL_L, m_uR_K, m_uR_N, m_uR_I, m_uR_L, m_uR_R, true_and, and_true, true_implies, false_implies, not_true_eq_false, not_false_eq_true, if_true, if_false, false_and, and_false] at h0 ⊢
    rw [br_p hle]
    exact h0
  | succ m ih =>
    intro s hs M v2 g hM hI
    have hL := gF_LayN g hL0
    have hb := hM.1.1
    have hb2 := hM.1.2
    have hn : mI M 285 b = nI (dN D) := hM.2.2.2.1.1
    have hsl : s < dN D := by omega
    have hlt : ¬ nI (dN D) ≤ nI s := by rw [ni_le (by omega) (by omega)]; omega
    have hbd := dSp_t hD hsl
    have h0 := l_m_img35 d b s D ([dTot D] ++ imS D s) M0 Q hL0 hD hsl (by rw [List.length_append, imS_len]; show 1 + _ + _ ≤ 386; omega) (fun M' v' g' X' i' => ih (s + 1) (by omega) M' v' g' X' (by rw [List.append_assoc] at i'; exact i')) 48 0 (by omega) M g hM (by rw [bef_0]; show ImO M (_ ++ []); rw [List.append_nil]; exact hI)
    rw [hX11_image_20]
    simp +decide (disch := omega) only [qX11_image_0, qX11_image_1, qX11_image_2, qX11_image_3, lm hL, hb, hn, ni_in_t, ni_tn, am_w1_i, am_w1_r, am_w1_x, am_w1_l, am_w1_w, va_rf_s, am_push_n, am_push_s, am_cs_0, am_cs_i, am_cs_l, am_cs_r, m_uI_K, m_uI_N, m_uI_R, m_uI_L, m_uI_I, m_uL_K, m_uL_N, m_uL_R, m_uL_I, m_uL_L, m_uR_K, m_uR_N, m_uR_I, m_uR_L, m_uR_R, true_and, and_true, true_implies, false_implies, not_true_eq_false, not_false_eq_true, if_true, if_false, false_and, and_false]
    rw [br_n hlt]
    exact h0
theorem l_m_img125 (d b : Nat) (D : Dat) (L0 : List Nat) (M0 : am_M) (v2 : Value) (Q : Option Value → am_M → Prop) (hL0 : Lay M0) (hD : dOK D) (hl0 : L0.length ≤ 386)
    (hQ : ∀ M' x, gF sIo nT M0 M' → MdM M' b D → ImO M' (L0 ++ sgL (dC D) (dSg D)) → am_P am_P0 (d + 1) (am_look tX11_image) 182 [.ref 277, .int x, v2] [] M' Q) :
    ∀ (m i : Nat), i + m = (dSg D).length → ∀ (M : am_M), gF sIo nT M0 M → MdM M b D → ImO M (L0 ++ sgL (dC D) ((dSg D).take i)) → am_P am_P0 (d + 1) (am_look tX11_image) 125 [.ref 277, .int (nI (40 * b + i)), v2] [] M Q := by
  have l40 := hD.1.2.2.2.2.2.2.2.1.1
  intro m
  induction m with
  | zero =>
    intro i hi M g hM hI
    have hL := gF_LayN g hL0
    have hb := hM.1.1
    have hb2 := hM.1.2
    have hn : mI M 299 b = nI (dSg D).length := hM.2.2.2.2.2.2.1.1
    have e40 : (40 : Int32) * nI b + nI (dSg D).length = nI (40 * b + (dSg D).length) := by rw [show (40 : Int32) = nI 40 from rfl, ni_mul, ni_add]
    have hle : nI (40 * b + (dSg D).length) ≤ nI (40 * b + i) := (ni_le (by omega) (by omega)).mpr (by omega)
    rw [List.take_of_length_le (by omega)] at hI
    have h0 := hQ M (nI (40 * b + i)) g hM hI
    rw [hX11_image_125]
    simp +decide (disch := omega) only [qX11_image_0, qX11_image_1, qX11_image_2, qX11_image_3, lm hL, hb, hn, e40, ni_in_t, ni_tn, am_w1_i, am_w1_r, am_w1_x, am_w1_l, am_w1_w, va_rf_s, am_push_n, am_push_s, am_cs_0, am_cs_i, am_cs_l, am_cs_r, m_uI_K, m_uI_N, m_uI_R, m_uI_L, m_uI_I, m_uL_K, m_uL_N, m_uL_R, m_uL_I, m_uL_L, m_uR_K, m_uR_N, m_uR_I, m_uR_L, m_uR_R, true_and, and_true, true_implies, false_implies, not_true_eq_false, not_false_eq_true, if_true, if_false, false_and, and_false] at h0 ⊢
    rw [br_p hle]
    exact h0
  | succ m ih =>
    intro i hi M g hM hI
    have hL := gF_LayN g hL0
    have hb := hM.1.1
    have hb2 := hM.1.2
    have hn : mI M 299 b = nI (dSg D).length := hM.2.2.2.2.2.2.1.1
    have e40 : (40 : Int32) * nI b + nI (dSg D).length = nI (40 * b + (dSg D).length) := by rw [show (40 : Int32) = nI 40 from rfl, ni_mul, ni_add]
    have hlt : ¬ nI (40 * b + (dSg D).length) ≤ nI (40 * b + i) := by rw [ni_le (by omega) (by omega)]; omega
    obtain ⟨y, hy⟩ : ∃ y, (dSg D)[i]? = some y := ⟨(dSg D)[i]'(by omega), List.getElem?_eq_getElem (by omega)⟩
    have hyo := hD.1.2.2.2.2.2.2.2.1.2 y (List.mem_of_getElem? hy)
    have y256 := (cel_lt hD.1.1.1 hD.1.1.2 hyo.2.1).2.1
    have hlen : (L0 ++ sgL (dC D) ((dSg D).take i)).length + 3 ≤ 506 := by rw [List.length_append, sgL_len, List.length_take]; omega
    obtain ⟨L, eL⟩ : ∃ L, L = L0 ++ sgL (dC D) ((dSg D).take i) := ⟨_, rfl⟩
    have eN : L0 ++ sgL (dC D) ((dSg D).take (i + 1)) = ((L ++ [y.1]) ++ [cel (dC D) y.2.1]) ++ [y.2.2] := by rw [tk_s hy, sgL_app, eL]; simp [sgL]
    rw [← eL] at hI hlen
    rw [hX11_image_125]
    simp +decide (disch := omega) only [qX11_image_0, qX11_image_1, qX11_image_2, qX11_image_3, lm hL, hb, hn, e40, (hM.2.2.2.2.2.2.1.2 i y hy).1, ni_in_t, ni_tn, am_w1_i, am_w1_r, am_w1_x, am_w1_l, am_w1_w, va_rf_s, am_push_n, am_push_s, am_cs_0, am_cs_i, am_cs_l, am_cs_r, m_uI_K, m_uI_N, m_uI_R, m_uI_L, m_uI_I, m_uL_K, m_uL_N, m_uL_R, m_uL_I, m_uL_L, m_uR_K, m_uR_N, m_uR_I, m_uR_L, m_uR_R, true_and, and_true, true_implies, false_implies, not_true_eq_false, not_false_eq_true, if_true, if_false, false_and, and_false]
    rw [br_n hlt]
    refine m_wr d y.1 L M _ hL hI (by omega) (by omega) (fun M1 g1 i1 => ?_)
    have m1 := MdM_io hM g1
    have L1 := gF_LayN g1 hL
    simp +decide (disch := omega) only [qX11_image_0, qX11_image_1, qX11_image_2, qX11_image_3, lm L1, (m1.2.2.2.2.2.2.1.2 i y hy).2.1, ni_in_t, ni_tn, am_w1_i, am_w1_r, am_w1_x, am_w1_l, am_w1_w, va_rf_s, am_push_n, am_push_s, am_cs_0, am_cs_i, am_cs_l, am_cs_r, m_uI_K, m_uI_N, m_uI_R, m_uI_L, m_uI_I, m_uL_K, m_uL_N, m_uL_R, m_uL_I, m_uL_L, m_uR_K, m_uR_N, m_uR_I, m_uR_L, m_uR_R, true_and, and_true, true_implies, false_implies, not_true_eq_false, not_false_eq_true, if_true, if_false, false_and, and_false]
    refine m_wr d (cel (dC D) y.2.1) _ M1 _ L1 i1 (by rw [List.length_append]; show L.length + 1 < 507; omega) (by omega) (fun M2 g2 i2 => ?_)
    have m2 := MdM_io m1 g2
    have L2 := gF_LayN g2 L1
    simp +decide (disch := omega) only [qX11_image_0, qX11_image_1, qX11_image_2, qX11_image_3, lm L2, (m2.2.2.2.2.2.2.1.2 i y hy).2.2, ni_in_t, ni_tn, am_w1_i, am_w1_r, am_w1_x, am_w1_l, am_w1_w, va_rf_s, am_push_n, am_push_s, am_cs_0, am_cs_i, am_cs_l, am_cs_r, m_uI_K, m_uI_N, m_uI_R, m_uI_L, m_uI_I, m_uL_K, m_uL_N, m_uL_R, m_uL_I, m_uL_L, m_uR_K, m_uR_N, m_uR_I, m_uR_L, m_uR_R, true_and, and_true, true_implies, false_implies, not_true_eq_false, not_false_eq_true, if_true, if_false, false_and, and_false]
    refine m_wr d y.2.2 _ M2 _ L2 i2 (by rw [List.length_append, List.length_append]; show L.length + 1 + 1 < 507; omega) (by omega) (fun M3 g3 i3 => ?_)
    have h0 := ih (i + 1) (by omega) M3 (gF_trans g (gF_trans g1 (gF_trans g2 g3))) (MdM_io m2 g3) (by rw [eN]; exact i3)
    simp +decide (disch := omega) only [qX11_image_0, qX11_image_1, qX11_image_2, qX11_image_3, ni_add1, am_w1_i, am_w1_r, am_w1_x, am_w1_l, am_w1_w, va_rf_s, am_push_n, am_push_s, am_cs_0, am_cs_i, am_cs_l, am_cs_r, m_uI_K, m_uI_N, m_uI_R, m_uI_L, m_uI_I, m_uL_K, m_uL_N, m_uL_R, m_uL_I, m_uL_L, m_uR_K, m_uR_N, m_uR_I, m_uR_L, m_uR_R, true_and, and_true, true_implies, false_implies, not_true_eq_false, not_false_eq_true, if_true, if_false, false_and, and_false]
    exact h0
theorem l_m_img187 (d : Nat) (L : List Nat) (M : am_M) (Q : Option Value → am_M → Prop) (hL : Lay M) (hI : ImO M L) (h506 : L.length ≤ 506) (hv : ∀ v, v ∈ L → v < 256)
    (hQ : ∀ M', gF sIo nT M M' → ImO M' (L ++ [ckS L 29]) → Q (some (.int (nI (L ++ [ckS L 29]).length))) M') : ∀ (m i c : Nat), i + m = L.length → c < 241 → c = ckS (L.take i) 29 → am_P am_P0 (d + 1) (am_look tX11_image) 187 [.ref 277, .int (nI c), .int (nI i)] [] M Q := by
  intro m
  induction m with
  | zero =>
    intro i c hi hc he
    have hle : nI L.length ≤ nI i := (ni_le (by omega) (by omega)).mpr (by omega)
    rw [List.take_of_length_le (by omega)] at he
    rw [hX11_image_187]
    simp +decide (disch := omega) only [qX11_image_0, qX11_image_1, qX11_image_2, qX11_image_3, lm hL, hI.2.1, am_w1_i, am_w1_r, am_w1_x, am_w1_l, am_w1_w, va_rf_s, am_push_n, am_push_s, am_cs_0, am_cs_i, am_cs_l, am_cs_r, m_uI_K, m_uI_N, m_uI_R, m_uI_L, m_uI_I, m_uL_K, m_uL_N, m_uL_R, m_uL_I, m_uL_L, m_uR_K, m_uR_N, m_uR_I, m_uR_L, m_uR_R, true_and, and_true, true_implies, false_implies, not_true_eq_false, not_false_eq_true, if_true, if_false, false_and, and_false]
    rw [br_p hle]
    refine m_wr d c L M _ hL hI (by omega) (by omega) (fun M1 g1 i1 => ?_)
    rw [he] at i1
    have h0 := hQ M1 g1 i1
    simp +decide (disch := omega) only [qX11_image_0, qX11_image_1, qX11_image_2, qX11_image_3, lm (gF_LayN g1 hL), i1.2.1, am_w1_i, am_w1_r, am_w1_x, am_w1_l, am_w1_w, va_rf_s, am_push_n, am_push_s, am_cs_0, am_cs_i, am_cs_l, am_cs_r, m_uI_K, m_uI_N, m_uI_R, m_uI_L, m_uI_I, m_uL_K, m_uL_N, m_uL_R, m_uL_I, m_uL_L, m_uR_K, m_uR_N, m_uR_I, m_uR_L, m_uR_R, true_and, and_true, true_implies, false_implies, not_true_eq_false, not_false_eq_true, if_true, if_false, false_and, and_false]
    exact h0
  | succ m ih =>
    intro i c hi hc he
    have hlt : ¬ nI L.length ≤ nI i := by rw [ni_le (by omega) (by omega)]; omega
    obtain ⟨v, hv1⟩ : ∃ v, L[i]? = some v := ⟨L[i]'(by omega), List.getElem?_eq_getElem (by omega)⟩
    have v2 := hv v (List.mem_of_getElem? hv1)
    have v3 := hI.2.2 i v hv1
    have h0 := ih (i + 1) ((3 * c + v) % 241) (by omega) (Nat.mod_lt _ (by omega)) (by rw [tk_s hv1, ckS_app, ← he]; rfl)
    have eck := ck_step (v := v) hc v2
    rw [hX11_image_187]
    simp +decide (disch := omega) only [qX11_image_0, qX11_image_1, qX11_image_2, qX11_image_3, lm hL, hI.2.1, v3, eck, ni_in_t, ni_tn, ni_add1, am_w1_i, am_w1_r, am_w1_x, am_w1_l, am_w1_w, va_rf_s, am_push_n, am_push_s, am_cs_0, am_cs_i, am_cs_l, am_cs_r, m_uI_K, m_uI_N, m_uI_R, m_uI_L, m_uI_I, m_uL_K, m_uL_N, m_uL_R, m_uL_I, m_uL_L, m_uR_K, m_uR_N, m_uR_I, m_uR_L, m_uR_R, true_and, and_true, true_implies, false_implies, not_true_eq_false, not_false_eq_true, if_true, if_false, false_and, and_false]
    rw [br_n hlt]
    exact h0
theorem m_image {M : am_M} {b : Nat} {D : Dat} (hD : dOK D) (hL : Lay M) (h : MdM M b D) (d : Nat) (Q : Option Value → am_M → Prop) (hQ : ∀ M', gF sIo nT M M' → ImO M' (imD D) → Q (some (.int (nI (imD D).length))) M') : am_E am_P0 (d + 1) 299 [.ref 277] M Q := by
  have l385 := imB_len hD
  have l506 := imA_len hD
  have t96 : dTot D ≤ 96 := hD.1.2.2.2.2.2.1
  have l40 := hD.1.2.2.2.2.2.2.2.1.1
  have hb2 := h.1.2
  obtain ⟨A, hA⟩ : ∃ A, A = uI M 277 82 0 := ⟨_, rfl⟩
  have gA : gF sIo nT M A := by rw [hA]; exact gF_i _ (Or.inr ⟨rfl, rfl⟩)
  have mA := MdM_io h gA
  have LA := gF_LayN gA hL
  have iA : ImO A [] := ImO_0 (by rw [hA, m_uI_I, if_pos ⟨rfl, rfl⟩]; rfl)
  have n291 : mI A 291 b = nI (dTot D) := mA.2.2.2.2.1.1
  rw [eX11_image]
  simp +decide (disch := omega) only [qX11_image_0, qX11_image_1, qX11_image_2, qX11_image_3, lm hL, h.1.1, am_w1_i, am_w1_r, am_w1_x, am_w1_l, am_w1_w, va_rf_s, am_push_n, am_push_s, am_cs_0, am_cs_i, am_cs_l, am_cs_r, m_uI_K, m_uI_N, m_uI_R, m_uI_L, m_uI_I, m_uL_K, m_uL_N, m_uL_R, m_uL_I, m_uL_L, m_uR_K, m_uR_N, m_uR_I, m_uR_L, m_uR_R, true_and, and_true, true_implies, false_implies, not_true_eq_false, not_false_eq_true, if_true, if_false, false_and, and_false, ← hA, lm LA, mA.1.1, n291, ni_in_t, ni_tn]
  refine m_wr d (dTot D) [] A _ LA iA (by show 0 < 507; omega) (by omega) (fun M1 g1 i1 => ?_)
  have m1 := MdM_io mA g1
  simp +decide (disch := omega) only [qX11_image_0, qX11_image_1, qX11_image_2, qX11_image_3, am_w1_i, am_w1_r, am_w1_x, am_w1_l, am_w1_w, va_rf_s, am_push_n, am_push_s, am_cs_0, am_cs_i, am_cs_l, am_cs_r, m_uI_K, m_uI_N, m_uI_R, m_uI_L, m_uI_I, m_uL_K, m_uL_N, m_uL_R, m_uL_I, m_uL_L, m_uR_K, m_uR_N, m_uR_I, m_uR_L, m_uR_R, true_and, and_true, true_implies, false_implies, not_true_eq_false, not_false_eq_true, if_true, if_false, false_and, and_false]
  refine l_m_img20 d b D M Q hL hD (fun M2 x2 v2 G2 m2 i2 => ?_) (dN D) 0 (by omega) M1 am_x (gF_trans gA g1) m1 i1
  have L2 := gF_LayN G2 hL
  have n299 : mI M2 299 b = nI (dSg D).length := m2.2.2.2.2.2.2.1.1
  simp +decide (disch := omega) only [qX11_image_0, qX11_image_1, qX11_image_2, qX11_image_3, lm L2, m2.1.1, n299, ni_in_t, ni_tn, am_w1_i, am_w1_r, am_w1_x, am_w1_l, am_w1_w, va_rf_s, am_push_n, am_push_s, am_cs_0, am_cs_i, am_cs_l, am_cs_r, m_uI_K, m_uI_N, m_uI_R, m_uI_L, m_uI_I, m_uL_K, m_uL_N, m_uL_R, m_uL_I, m_uL_L, m_uR_K, m_uR_N, m_uR_I, m_uR_L, m_uR_R, true_and, and_true, true_implies, false_implies, not_true_eq_false, not_false_eq_true, if_true, if_false, false_and, and_false]
  refine m_wr d (dSg D).length _ M2 _ L2 i2 (by omega) (by omega) (fun M3 g3 i3 => ?_)
  have m3 := MdM_io m2 g3
  have L3 := gF_LayN g3 L2
  have e40 : (40 : Int32) * nI b = nI (40 * b + 0) := by rw [show (40 : Int32) = nI 40 from rfl, ni_mul]; rfl
  simp +decide (disch := omega) only [qX11_image_0, qX11_image_1, qX11_image_2, qX11_image_3, lm L3, m3.1.1, e40, am_w1_i, am_w1_r, am_w1_x, am_w1_l, am_w1_w, va_rf_s, am_push_n, am_push_s, am_cs_0, am_cs_i, am_cs_l, am_cs_r, m_uI_K, m_uI_N, m_uI_R, m_uI_L, m_uI_I, m_uL_K, m_uL_N, m_uL_R, m_uL_I, m_uL_L, m_uR_K, m_uR_N, m_uR_I, m_uR_L, m_uR_R, true_and, and_true, true_implies, false_implies, not_true_eq_false, not_false_eq_true, if_true, if_false, false_and, and_false]
  refine l_m_img125 d b D (([dTot D] ++ imS D (dN D)) ++ [(dSg D).length]) M v2 Q hL hD (by rw [List.length_append]; show _ + 1 ≤ 386; omega) (fun M4 x4 G4 m4 i4 => ?_) (dSg D).length 0 (by omega) M3 (gF_trans G2 g3) m3 (by rw [List.take_zero]; show ImO M3 (_ ++ []); rw [List.append_nil]; exact i3)
  have i4' : ImO M4 (imA D) := i4
  have L4 := gF_LayN G4 hL
  simp +decide (disch := omega) only [qX11_image_0, qX11_image_1, qX11_image_2, qX11_image_3, am_w1_i, am_w1_r, am_w1_x, am_w1_l, am_w1_w, va_rf_s, am_push_n, am_push_s, am_cs_0, am_cs_i, am_cs_l, am_cs_r, m_uI_K, m_uI_N, m_uI_R, m_uI_L, m_uI_I, m_uL_K, m_uL_N, m_uL_R, m_uL_I, m_uL_L, m_uR_K, m_uR_N, m_uR_I, m_uR_L, m_uR_R, true_and, and_true, true_implies, false_implies, not_true_eq_false, not_false_eq_true, if_true, if_false, false_and, and_false]
  exact l_m_img187 d (imA D) M4 Q L4 i4' l506 (imA_v hD) (fun M5 g5 i5 => hQ M5 (gF_trans G4 g5) i5) (imA D).length 0 29 (by omega) (by omega) rfl
theorem op_image : OpI 144 299 [] isI := by
  intro M hI d hd
  obtain ⟨z, b, D, hD, hX, hM, ⟨T, n, t1, t2, t3, t4⟩, hRf, hFt, hIm⟩ := id hI
  obtain ⟨d', rfl⟩ : ∃ d', d = d' + 1 := ⟨d - 1, by omega⟩
  refine x_image hD hX d' _ (fun M1 g1 i1 => ⟨_, rfl, ⟨_, rfl⟩, gF_LayN g1 hX.1.1, ?_⟩)
  have X1 := XR_t hD hX g1 (fun a j q => sIx_t q)
  have m1 := MdM_g hM g1 (fun a j q w => by unfold tlM at q; unfold sIx at w; omega)
  refine m_image hD X1.1.1 m1 d' _ (fun M2 g2 i2 => ⟨rfl, ?_⟩)
  have kp : ∀ a j, ¬ sIx a j → ¬ sIo a j → mI M2 a j = mI M a j := fun a j q1 q2 => by rw [g2.1 _ _ q2, g1.1 _ _ q1]
  refine Inv_t hD hX hM (gF_up g1 (fun a j q => by unfold sXt; have := sIx_t q; omega) (fun _ _ q => q)) (gF_up g2 (fun a j q => by unfold sIo at q; unfold sMt; omega) (fun _ _ q => q)) ⟨T, n, t1, ?_, ?_, fun j hj => ⟨(t4 j hj).1, ?_, ?_⟩⟩ (fun j hj => ?_) ⟨?_, ?_⟩ ⟨(imD D).length, i1.1, ?_, i2.2.1, fun j hj => ?_⟩
  · rw [kp _ _ (by unfold sIx; omega) (by unfold sIo; omega)]; exact t2
  · rw [kp _ _ (by unfold sIx; omega) (by unfold sIo; omega)]; exact t3
  · rw [kp _ _ (by unfold sIx; omega) (by unfold sIo; omega)]; exact (t4 j hj).2.1
  · rw [kp _ _ (by unfold sIx; omega) (by unfold sIo; omega)]; exact (t4 j hj).2.2
  · rw [kp _ _ (by unfold sIx; omega) (by unfold sIo; omega), kp _ _ (by unfold sIx; omega) (by unfold sIo; omega)]; exact hRf j hj
  · rw [kp _ _ (by unfold sIx; omega) (by unfold sIo; omega), kp _ _ (by unfold sIx; omega) (by unfold sIo; omega)]; exact hFt.1
  · trivial
  · rw [g2.1 _ _ (by unfold sIo; omega)]; exact i1.2.1
  · rw [g2.1 _ _ (by unfold sIo; omega), i1.2.2 j _ (List.getElem?_eq_getElem hj), i2.2.2 j _ (List.getElem?_eq_getElem hj)]
