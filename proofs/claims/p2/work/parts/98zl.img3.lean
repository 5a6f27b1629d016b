/-! image: the class; the model's loops -/
theorem syL_v {C R s : Nat} (hC : C ≤ 16) (hR : R ≤ 16) (hs : s < 8) : ∀ (Y : List Sy), (∀ y, y ∈ Y → y.1 < 48 ∧ vld C R y.2.1) → ∀ v, v ∈ syL C s Y → v < 256 := by
  intro Y
  induction Y with
  | nil => intro _ v hv; cases hv
  | cons y r ih =>
    intro h v hv
    have h1 := h y (List.mem_cons_self ..)
    have h2 := (cel_lt hC hR h1.2).2.1
    have h3 : n01 y.2.2 ≤ 1 := by unfold n01; split <;> omega
    have hv' : v ∈ [s, y.1, cel C y.2.1, n01 y.2.2] ++ syL C s r := hv
    rcases List.mem_append.mp hv' with q | q
    · simp only [List.mem_cons, List.not_mem_nil, or_false] at q
      omega
    · exact ih (fun y' hy' => h y' (List.mem_cons_of_mem _ hy')) v q
theorem sgL_v {C R : Nat} (hC : C ≤ 16) (hR : R ≤ 16) : ∀ (Y : List (Nat × Nat × Nat)), (∀ y, y ∈ Y → y.1 ≤ 3 ∧ vld C R y.2.1 ∧ y.2.2 < 48) → ∀ v, v ∈ sgL C Y → v < 256 := by
  intro Y
  induction Y with
  | nil => intro _ v hv; cases hv
  | cons y r ih =>
    intro h v hv
    have h1 := h y (List.mem_cons_self ..)
    have h2 := (cel_lt hC hR h1.2.1).2.1
    have hv' : v ∈ [y.1, cel C y.2.1, y.2.2] ++ sgL C r := hv
    rcases List.mem_append.mp hv' with q | q
    · simp only [List.mem_cons, List.not_mem_nil, or_false] at q
      omega
    · exact ih (fun y' hy' => h y' (List.mem_cons_of_mem _ hy')) v q
theorem imS_v {D : Dat} (hD : dOK D) : ∀ k, k ≤ dN D → ∀ v, v ∈ imS D k → v < 256 := by
  have n8 := dN_8 hD
  intro k
  induction k with
  | zero => intro _ v hv; cases hv
  | succ k ih =>
    intro hk v hv
    have hv' : v ∈ imS D k ++ syL (dC D) k (dY D k) := hv
    rcases List.mem_append.mp hv' with q | q
    · exact ih (by omega) v q
    · exact syL_v hD.1.1.1 hD.1.1.2 (by omega) _ (hD.1.2.2.2.1 k) v q
theorem imA_v {D : Dat} (hD : dOK D) : ∀ v, v ∈ imA D → v < 256 := by
  intro v hv
  have t96 : dTot D ≤ 96 := hD.1.2.2.2.2.2.1
  have sg := hD.1.2.2.2.2.2.2.2.1
  unfold imA at hv
  rcases List.mem_append.mp hv with q | q
  · rcases List.mem_append.mp q with q | q
    · rcases List.mem_append.mp q with q | q
      · rw [List.mem_singleton] at q; omega
      · exact imS_v hD _ (Nat.le_refl _) v q
    · rw [List.mem_singleton] at q; have := sg.1; omega
  · exact sgL_v hD.1.1.1 hD.1.1.2 _ sg.2 v q
theorem imB_len {D : Dat} (hD : dOK D) : ([dTot D] ++ imS D (dN D)).length ≤ 385 := by
  have t96 : dTot D ≤ 96 := hD.1.2.2.2.2.2.1
  unfold dTot at t96
  rw [List.length_append, imS_len]
  show 1 + _ ≤ 385
  have e : dN D = (dSh D).length := rfl
  rw [e]
  omega
theorem imA_len {D : Dat} (hD : dOK D) : (imA D).length ≤ 506 := by
  have h1 := imB_len hD
  have sg := hD.1.2.2.2.2.2.2.2.1.1
  unfold imA
  rw [List.length_append, List.length_append, sgL_len]
  show _ + 1 + _ ≤ 506
  omega
theorem ImX_0 {M : am_M} (h : mI M 0 10 = nI 0) : ImX M [] := ⟨by show 0 ≤ 507; omega, h, fun j v hv => by simp at hv⟩
theorem ImO_0 {M : am_M} (h : mI M 277 82 = nI 0) : ImO M [] := ⟨by show 0 ≤ 507; omega, h, fun j v hv => by simp at hv⟩
theorem x_image {M : am_M} {z : Nat} {D : Dat} (hD : dOK D) (h : XR M z D) (d : Nat) (Q : Option Value → am_M → Prop) (hQ : ∀ M', gF sIx nT M M' → ImX M' (imD D) → Q (some (.int (nI (imD D).length))) M') : am_E am_P0 (d + 1) 144 [.ref 0] M Q := by
  have hz := h.1.2.2.1
  have hL := h.1.1
  have hr := h.1.2.2.2.1
  have l385 := imB_len hD
  have l506 := imA_len hD
  have t96 : dTot D ≤ 96 := hD.1.2.2.2.2.2.1
  obtain ⟨A, hA⟩ : ∃ A, A = uI M 0 10 0 := ⟨_, rfl⟩
  have gA : gF sIx nT M A := by rw [hA]; exact gF_i _ (Or.inr ⟨rfl, rfl⟩)
  have XA := XR_t hD h gA (fun a j q => sIx_t q)
  have LA := XA.1.1
  have rA := XA.1.2.2.2.1
  obtain ⟨c, hP⟩ := XA.2.1
  have eT := fun Q => c_x_tot d z c D A Q LA hz hP hD.1
  have iA : ImX A [] := ImX_0 (by rw [hA, m_uI_I, if_pos ⟨rfl, rfl⟩]; rfl)
  rw [eX10_image]
  simp +decide (disch := omega) only [qX10_image_0, qX10_image_1, qX10_image_2, lx hL, lz hL hz, hr, am_w1_i, am_w1_r, am_w1_x, am_w1_l, am_w1_w, va_rf_s, am_push_n, am_push_s, am_cs_0, am_cs_i, am_cs_l, am_cs_r, m_uI_K, m_uI_N, m_uI_R, m_uI_L, m_uI_I, m_uL_K, m_uL_N, m_uL_R, m_uL_I, m_uL_L, m_uR_K, m_uR_N, m_uR_I, m_uR_L, m_uR_R, true_and, and_true, true_implies, false_implies, not_true_eq_false, not_false_eq_true, if_true, if_false, false_and, and_false, ← hA, lx LA, lz LA hz, rA, eT]
  refine x_wr d (dTot D) [] A _ LA iA (by show 0 < 507; omega) (fun M1 g1 i1 => ?_)
  have X1 := XR_t hD XA g1 (fun a j q => sIx_t q)
  have G1 := gF_trans gA g1
  simp +decide (disch := omega) only [qX10_image_0, qX10_image_1, qX10_image_2, am_w1_i, am_w1_r, am_w1_x, am_w1_l, am_w1_w, va_rf_s, am_push_n, am_push_s, am_cs_0, am_cs_i, am_cs_l, am_cs_r, m_uI_K, m_uI_N, m_uI_R, m_uI_L, m_uI_I, m_uL_K, m_uL_N, m_uL_R, m_uL_I, m_uL_L, m_uR_K, m_uR_N, m_uR_I, m_uR_L, m_uR_R, true_and, and_true, true_implies, false_implies, not_true_eq_false, not_false_eq_true, if_true, if_false, false_and, and_false]
  refine l_x_img18 d z D M Q hD (fun M2 x2 v2 v3 G2 X2 i2 => ?_) (dN D) 0 (by omega) M1 am_x am_x G1 X1 i1
  have L2 := X2.1.1
  have r2 := X2.1.2.2.2.1
  simp +decide (disch := omega) only [qX10_image_0, qX10_image_1, qX10_image_2, lx L2, lz L2 hz, r2, (x_sg X2).1, am_w1_i, am_w1_r, am_w1_x, am_w1_l, am_w1_w, va_rf_s, am_push_n, am_push_s, am_cs_0, am_cs_i, am_cs_l, am_cs_r, m_uI_K, m_uI_N, m_uI_R, m_uI_L, m_uI_I, m_uL_K, m_uL_N, m_uL_R, m_uL_I, m_uL_L, m_uR_K, m_uR_N, m_uR_I, m_uR_L, m_uR_R, true_and, and_true, true_implies, false_implies, not_true_eq_false, not_false_eq_true, if_true, if_false, false_and, and_false]
  refine x_wr d (dSg D).length _ M2 _ L2 i2 (by omega) (fun M3 g3 i3 => ?_)
  have X3 := XR_t hD X2 g3 (fun a j q => sIx_t q)
  simp +decide (disch := omega) only [qX10_image_0, qX10_image_1, qX10_image_2, am_w1_i, am_w1_r, am_w1_x, am_w1_l, am_w1_w, va_rf_s, am_push_n, am_push_s, am_cs_0, am_cs_i, am_cs_l, am_cs_r, m_uI_K, m_uI_N, m_uI_R, m_uI_L, m_uI_I, m_uL_K, m_uL_N, m_uL_R, m_uL_I, m_uL_L, m_uR_K, m_uR_N, m_uR_I, m_uR_L, m_uR_R, true_and, and_true, true_implies, false_implies, not_true_eq_false, not_false_eq_true, if_true, if_false, false_and, and_false]
  refine l_x_img122 d z D (([dTot D] ++ imS D (dN D)) ++ [(dSg D).length]) M v2 v3 Q hD (by rw [List.length_append]; show _ + 1 ≤ 386; omega) (fun M4 x4 G4 X4 i4 => ?_) (dSg D).length 0 (by omega) M3 (gF_trans G2 g3) X3 (by rw [List.take_zero]; show ImX M3 (_ ++ []); rw [List.append_nil]; exact i3)
  have i4' : ImX M4 (imA D) := i4
  have L4 := X4.1.1
  have eK := fun Q => c_x_check d 170 (imA D).length 507 (imA D) M4 Q (by simp only [lx L4]) (by simp only [lx L4]) (by omega) (by omega) rfl (fun j v hv => ⟨imA_v hD v (List.mem_of_getElem? hv), i4'.2.2 j v hv⟩)
  simp +decide (disch := omega) only [qX10_image_0, qX10_image_1, qX10_image_2, lx L4, i4'.2.1, eK, am_w1_i, am_w1_r, am_w1_x, am_w1_l, am_w1_w, va_rf_s, am_push_n, am_push_s, am_cs_0, am_cs_i, am_cs_l, am_cs_r, m_uI_K, m_uI_N, m_uI_R, m_uI_L, m_uI_I, m_uL_K, m_uL_N, m_uL_R, m_uL_I, m_uL_L, m_uR_K, m_uR_N, m_uR_I, m_uR_L, m_uR_R, true_and, and_true, true_implies, false_implies, not_true_eq_false, not_false_eq_true, if_true, if_false, false_and, and_false]
  refine x_wr d (ckS (imA D) 29) _ M4 _ L4 i4' (by omega) (fun M5 g5 i5 => ?_)
  have X5 := XR_t hD X4 g5 (fun a j q => sIx_t q)
  have i5' : ImX M5 (imD D) := i5
  have h0 := hQ M5 (gF_trans G4 g5) i5'
  simp +decide (disch := omega) only [qX10_image_0, qX10_image_1, qX10_image_2, lx X5.1.1, i5'.2.1, am_w1_i, am_w1_r, am_w1_x, am_w1_l, am_w1_w, va_rf_s, am_push_n, am_push_s, am_cs_0, am_cs_i, am_cs_l, am_cs_r, m_uI_K, m_uI_N, m_uI_R, m_uI_L, m_uI_I, m_uL_K, m_uL_N, m_uL_R, m_uL_I, m_uL_L, m_uR_K, m_uR_N, m_uR_I, m_uR_L, m_uR_R, true_and, and_true, true_implies, false_implies, not_true_eq_false, not_false_eq_true, if_true, if_false, false_and, and_false]
  exact h0
theorem MdM_io {M M' : am_M} {b : Nat} {D : Dat} (h : MdM M b D) (g : gF sIo nT M M') : MdM M' b D := MdM_g h g (fun a j q w => by unfold tlM at q; unfold sIo at w; omega)
theorem l_m_img35 (d b s : Nat) (D : Dat) (L0 : List Nat) (M0 : am_M) (Q : Option Value → am_M → Prop) (hL0 : Lay M0) (hD : dOK D) (hs : s < dN D) (hl0 : L0.length + 4 * (dY D s).length ≤ 386)
    (hQ : ∀ M' v2, gF sIo nT M0 M' → MdM M' b D → ImO M' (L0 ++ syL (dC D) s (dY D s)) → am_P am_P0 (d + 1) (am_look tX11_image) 20 [.ref 277, .int (nI (s + 1)), v2] [] M' Q) :
    ∀ (m t : Nat), t + m = 48 → ∀ (M : am_M), gF sIo nT M0 M → MdM M b D → ImO M (L0 ++ syL (dC D) s (bef (dY D s) t)) → am_P am_P0 (d + 1) (am_look tX11_image) 35 [.ref 277, .int (nI s), .int (nI t)] [] M Q := by
  have n8 := dN_8 hD
  have hsr := hD.1.2.2.2.2.1 s
  have hall := hD.1.2.2.2.1 s
  intro m
  induction m with
  | zero =>
    intro t ht M g hM hI
    have hL := gF_LayN g hL0
    have e : t = 48 := by omega
    subst e
    rw [bef_all (fun y hy => (hall y hy).1)] at hI
    have hle : (48 : Int32) ≤ nI 48 := by decide
    have h0 := hQ M (.int (nI 48)) g hM hI
    rw [hX11_image_35]
    simp +decide (disch := omega) only [qX11_image_0, qX11_image_1, qX11_image_2, qX11_image_3, lm hL, ni_add1, am_w1_i, am_w1_r, am_w1_x, am_w1_l, am_w1_w, va_rf_s, am_push_n, am_push_s, am_cs_0, am_cs_i, am_cs_l, am_cs_r, m_uI_K, m_uI_N, m_uI_R, m_uI_L, m_uI_I, m_uL_K, m_uL_N, m_uL_R, m_uL_I, m_uL_L, m_uR_K, m_uR_N, m_uR_I, m_uR_L, m_uR_R, true_and, and_true, true_implies, false_implies, not_true_eq_false, not_false_eq_true, if_true, if_false, false_and, and_false]
    first | exact h0 | (rw [br_p hle]; exact h0)
  | succ m ih =>
    intro t ht M g hM hI
    have hL := gF_LayN g hL0
    have hb := hM.1.1
    have hb2 := hM.1.2
    have hlt : ¬ (48 : Int32) ≤ nI t := by rw [show (48 : Int32) = nI 48 from rfl, ni_le (by omega) (by omega)]; omega
    have eD := fun Q => c_m_said d s t M Q hL b hb hb2 (by omega) (by omega)
    rw [hX11_image_35]
    simp +decide (disch := omega) only [qX11_image_0, qX11_image_1, qX11_image_2, qX11_image_3, lm hL, eD, Classical.not_not, am_w1_i, am_w1_r, am_w1_x, am_w1_l, am_w1_w, va_rf_s, am_push_n, am_push_s, am_cs_0, am_cs_i, am_cs_l, am_cs_r, m_uI_K, m_uI_N, m_uI_R, m_uI_L, m_uI_I, m_uL_K, m_uL_N, m_uL_R, m_uL_I, m_uL_L, m_uR_K, m_uR_N, m_uR_I, m_uR_L, m_uR_R, true_and, and_true, true_implies, false_implies, not_true_eq_false, not_false_eq_true, if_true, if_false, false_and, and_false]
    rw [br_n hlt]
    rcases (hM.2.2.2.2.1.2 s (by omega)).2.2 t (by omega) with ⟨y, q1, q2, q3, q4⟩ | ⟨q1, q2⟩
    · have hv := (hall y q1).2
      have hc := (cel_lt hD.1.1.1 hD.1.1.2 hv).2.1
      have hne : ¬ nI (cel (dC D) y.2.1) = -1 := nI_m1 (by omega)
      have ebf := bef_t hsr q1 q2
      have hbl := bef_le (dY D s) (t + 1)
      rw [ebf, List.length_append] at hbl
      have hbl' : (bef (dY D s) t).length + 1 ≤ (dY D s).length := hbl
      have hlen : (L0 ++ syL (dC D) s (bef (dY D s) t)).length + 4 ≤ 386 := by rw [List.length_append, syL_len]; omega
      obtain ⟨L, eL⟩ : ∃ L, L = L0 ++ syL (dC D) s (bef (dY D s) t) := ⟨_, rfl⟩
      have eN : L0 ++ syL (dC D) s (bef (dY D s) (t + 1)) = (((L ++ [s]) ++ [t]) ++ [cel (dC D) y.2.1]) ++ [n01 y.2.2] := by rw [ebf, syL_app, eL, ← q2]; simp [syL]
      rw [← eL] at hI hlen
      rw [q3]
      first | rw [br_n (hne)] | rw [br_q (hne)] | rw [br_u (hne)]
      refine m_wr d s L M _ hL hI (by omega) (by omega) (fun M1 g1 i1 => ?_)
      have m1 := MdM_io hM g1
      have L1 := gF_LayN g1 hL
      simp +decide (disch := omega) only [qX11_image_0, qX11_image_1, qX11_image_2, qX11_image_3, lm L1, am_w1_i, am_w1_r, am_w1_x, am_w1_l, am_w1_w, va_rf_s, am_push_n, am_push_s, am_cs_0, am_cs_i, am_cs_l, am_cs_r, m_uI_K, m_uI_N, m_uI_R, m_uI_L, m_uI_I, m_uL_K, m_uL_N, m_uL_R, m_uL_I, m_uL_L, m_uR_K, m_uR_N, m_uR_I, m_uR_L, m_uR_R, true_and, and_true, true_implies, false_implies, not_true_eq_false, not_false_eq_true, if_true, if_false, false_and, and_false]
      refine m_wr d t _ M1 _ L1 i1 (by rw [List.length_append]; show L.length + 1 < 507; omega) (by omega) (fun M2 g2 i2 => ?_)
      have m2 := MdM_io m1 g2
      have L2 := gF_LayN g2 L1
      have eD2 := fun Q => c_m_said d s t M2 Q L2 b m2.1.1 hb2 (by omega) (by omega)
      have v2 : mI M2 292 (384 * b + 48 * s + t) = nI (cel (dC D) y.2.1) := by rw [g2.1 _ _ (by unfold sIo; omega), g1.1 _ _ (by unfold sIo; omega)]; exact q3
      simp +decide (disch := omega) only [qX11_image_0, qX11_image_1, qX11_image_2, qX11_image_3, lm L2, eD2, v2, am_w1_i, am_w1_r, am_w1_x, am_w1_l, am_w1_w, va_rf_s, am_push_n, am_push_s, am_cs_0, am_cs_i, am_cs_l, am_cs_r, m_uI_K, m_uI_N, m_uI_R, m_uI_L, m_uI_I, m_uL_K, m_uL_N, m_uL_R, m_uL_I, m_uL_L, m_uR_K, m_uR_N, m_uR_I, m_uR_L, m_uR_R, true_and, and_true, true_implies, false_implies, not_true_eq_false, not_false_eq_true, if_true, if_false, false_and, and_false]
      refine m_wr d (cel (dC D) y.2.1) _ M2 _ L2 i2 (by rw [List.length_append, List.length_append]; show L.length + 1 + 1 < 507; omega) (by omega) (fun M3 g3 i3 => ?_)
      have m3 := MdM_io m2 g3
      have L3 := gF_LayN g3 L2
      have v3 : mI M3 293 (384 * b + 48 * s + t) = b01 y.2.2 := by rw [g3.1 _ _ (by unfold sIo; omega), g2.1 _ _ (by unfold sIo; omega), g1.1 _ _ (by unfold sIo; omega)]; exact q4
      have eD3 := fun Q => c_m_laden d s t M3 Q L3 b m3.1.1 hb2 (by omega) (by omega) (by rw [v3]; exact b01_c _)
      have fin : ∀ (w : Int32), w = nI (n01 y.2.2) → am_E am_P0 d 298 [.ref 277, .int w] M3 (fun r M4 => am_P am_P0 (d + 1) (am_look tX11_image) 35 [.ref 277, .int (nI s), .int (nI (t + 1))] (am_push r []) M4 Q) := fun w hw => by
        rw [hw]
        refine m_wr d (n01 y.2.2) _ M3 _ L3 i3 (by rw [List.length_append, List.length_append, List.length_append]; show L.length + 1 + 1 + 1 < 507; omega) (by unfold n01; split <;> omega) (fun M4 g4 i4 => ?_)
        have h0 := ih (t + 1) (by omega) M4 (gF_trans g (gF_trans g1 (gF_trans g2 (gF_trans g3 g4)))) (MdM_io m3 g4) (by rw [eN]; exact i4)
        exact h0
      simp +decide (disch := omega) only [qX11_image_0, qX11_image_1, qX11_image_2, qX11_image_3, lm L3, eD3, v3, am_w1_i, am_w1_r, am_w1_x, am_w1_l, am_w1_w, va_rf_s, am_push_n, am_push_s, am_cs_0, am_cs_i, am_cs_l, am_cs_r, m_uI_K, m_uI_N, m_uI_R, m_uI_L, m_uI_I, m_uL_K, m_uL_N, m_uL_R, m_uL_I, m_uL_L, m_uR_K, m_uR_N, m_uR_I, m_uR_L, m_uR_R, true_and, and_true, true_implies, false_implies, not_true_eq_false, not_false_eq_true, if_true, if_false, false_and, and_false]
      cases hb9 : y.2.2 with
      | false =>
        have := fin 0 (by rw [hb9]; rfl)
        simp +decide only [b01, ni_add1, am_w1_i, am_w1_r, am_w1_x, am_w1_l, am_w1_w, va_rf_s, am_push_n, am_push_s, am_cs_0, am_cs_i, am_cs_l, am_cs_r, m_uI_K, m_uI_N, m_uI_R, m_uI_L, m_uI_I, m_uL_K, m_uL_N, m_uL_R, m_uL_I, m_uL_L, m_uR_K, m_uR_N, m_uR_I, m_uR_L, m_uR_R, true_and, and_true, true_implies, false_implies, not_true_eq_false, not_false_eq_true, if_true, if_false, false_and, and_false]
        exact this
      | true =>
        have := fin 1 (by rw [hb9]; rfl)
        simp +decide only [b01, ni_add1, am_w1_i, am_w1_r, am_w1_x, am_w1_l, am_w1_w, va_rf_s, am_push_n, am_push_s, am_cs_0, am_cs_i, am_cs_l, am_cs_r, m_uI_K, m_uI_N, m_uI_R, m_uI_L, m_uI_I, m_uL_K, m_uL_N, m_uL_R, m_uL_I, m_uL_L, m_uR_K, m_uR_N, m_uR_I, m_uR_L, m_uR_R, true_and, and_true, true_implies, false_implies, not_true_eq_false, not_false_eq_true, if_true, if_false, false_and, and_false]
        exact this
    · rw [q2]
      have h0 := ih (t + 1) (by omega) M g hM (by rw [bef_f q1]; exact hI)
      simp +decide (disch := omega) only [qX11_image_0, qX11_image_1, qX11_image_2, qX11_image_3, ni_add1, am_w1_i, am_w1_r, am_w1_x, am_w1_l, am_w1_w, va_rf_s, am_push_n, am_push_s, am_cs_0, am_cs_i, am_cs_l, am_cs_r, m_uI_K, m_uI_N, m_uI_R, m_uI_L, m_uI_I, m_uL_K, m_uL_N, m_uL_R, m_uL_I, m_uL_L, m_uR_K, m_uR_N, m_uR_I, m_uR_L, m_uR_R, true_and, and_true, true_implies, false_implies, not_true_eq_false, not_false_eq_true, if_true, if_false, false_and, and_false]
      exact h0
