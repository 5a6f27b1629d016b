/-! add, drop: together -/
theorem TI_c {M M' : am_M} {z : Nat} (hz : z = 2 ∨ z = 83) (h : TI M) (g : gF (sCh z) nT M M') : TI M' := TI_k h (fun a j q => g.1 a j (fun w => by have := sCh_no hz w; unfold tIm at q; omega))
theorem MdM_c {M M' : am_M} {z b : Nat} {D : Dat} (hz : z = 2 ∨ z = 83) (h : MdM M b D) (g : gF (sCh z) nT M M') : MdM M' b D := MdM_g h g (fun a j q w => by have := sCh_no hz w; unfold tlM at q; omega)
theorem op_add (v t x y : Int32) (w : Bool) : OpI 141 294 [.int v, .int t, .int x, .int y, .int (b01 w)] isI := by
  intro M hI d hd
  obtain ⟨z, b, D, hD, hX, hM, hT⟩ := id hI
  have hz := hX.1.2.2.1
  obtain ⟨d', rfl⟩ : ∃ d', d = d' + 2 := ⟨d - 2, by omega⟩
  refine x_add hD hX d' v t x y w _ (fun hk M1 g1 X1 => ?_) (fun hk => ?_)
  · refine ⟨_, rfl, ⟨_, rfl⟩, X1.1.1, ?_⟩
    refine m_addC hD X1.1.1 (MdM_c hz hM g1) d' v t x y w _ (fun _ M2 g2 m2 => ⟨rfl, ?_⟩) (fun q => absurd hk q)
    obtain ⟨hv, ht, hc, hno, hn⟩ := hk
    obtain ⟨s, s1, s2, s3⟩ := sh_of (by have := dN_8 hD; omega) hv
    have hD' : dOK (addY D v.toInt.toNat (inY (dY D v.toInt.toNat) (t.toInt.toNat, plI x y, w))) := by
      rw [s3] at hno ⊢
      refine dOK_y hD s1 (inY_srt (hD.1.2.2.2.2.1 s) hno) (fun u hu => ?_) (by rw [tot_in hD s1]; omega)
      rcases inY_mem.mp hu with rfl | q
      · exact ⟨by have := ht.2; show t.toInt.toNat < 48; omega, (cl_of hD hc).1⟩
      · exact hD.1.2.2.2.1 s u q
    exact ⟨z, b, _, hD', XR_m hD' X1 g2 (fun a j q => by omega), m2, TI_k (TI_c hz hT g1) (fun a j q => g2.1 a j (fun w => by unfold tIm at q; omega))⟩
  · refine ⟨_, rfl, ⟨_, rfl⟩, hX.1.1, ?_⟩
    obtain ⟨X1, M1⟩ := rfX_X 2 hD hX hM
    exact m_addC hD X1.1.1 M1 d' v t x y w _ (fun q => absurd q hk) (fun _ => ⟨rfl, Inv_rf 2 hD hX hM hT⟩)
theorem x_drop {M : am_M} {z : Nat} {D : Dat} (hD : dOK D) (h : XR M z D) (d : Nat) (v i : Int32) (Q : Option Value → am_M → Prop)
    (hY : isSy D v i → ∀ M', gF (sCh z) nT M M' → XR M' z (addY D v.toInt.toNat ((dY D v.toInt.toNat).eraseIdx i.toInt.toNat)) → Q (some (.int (nI ((dY D v.toInt.toNat).eraseIdx i.toInt.toNat).length))) M') (hN : ¬ isSy D v i → Q (some (.int (-1))) (rfX M 2)) : am_E am_P0 (d + 2) 142 [.ref 0, .int v, .int i] M Q := by
  have hz := h.1.2.2.1
  have hL := h.1.1
  have hr := h.1.2.2.2.1
  have n8 := dN_8 hD
  have eS := fun v i Q => x_isSaying hD h d v i Q
  have hin : (2 : Int32).toInt.toNat = 2 := rfl
  rw [eX10_drop]
  simp +decide only [qX10_drop, lx hL, lz hL hz, hr, eS, hin, bI_0, Classical.not_not, am_w1_i, am_w1_r, am_w1_x, am_w1_l, am_w1_w, va_rf_s, am_push_n, am_push_s, am_cs_0, am_cs_i, am_cs_l, am_cs_r, m_uI_K, m_uI_N, m_uI_R, m_uI_L, m_uI_I, m_uL_K, m_uL_N, m_uL_R, m_uL_I, m_uL_L, m_uR_K, m_uR_N, m_uR_I, m_uR_L, m_uR_R, true_and, and_true, true_implies, false_implies, not_true_eq_false, not_false_eq_true, if_true, if_false, false_and, and_false]
  by_cases hk : isSy D v i
  · first | rw [br_p (hk)] | rw [br_r (hk)] | rw [br_s (hk)]
    obtain ⟨hv, hi⟩ := id hk
    obtain ⟨s, s1, s2, s3⟩ := sh_of (by omega) hv
    rw [s3] at hi hY
    obtain ⟨k, y, k1, k2, k3, k4, -⟩ := sy_of hD hi
    rw [k3] at hY
    rw [s2, k2]
    have hkl := (List.getElem?_eq_some_iff.mp k4).1
    have hg := isSh_z (z := z) (s := s) hz (by omega)
    have hsh := lsh hL hz (s := s) (by omega)
    obtain ⟨-, hSy, -⟩ := x_ship h s1
    simp +decide (disch := omega) only [qX10_drop, lx hL, lz hL hz, lw_ hL hg, hr, hsh, ni_in_t, ni_tn, am_w1_i, am_w1_r, am_w1_x, am_w1_l, am_w1_w, va_rf_s, am_push_n, am_push_s, am_cs_0, am_cs_i, am_cs_l, am_cs_r, m_uI_K, m_uI_N, m_uI_R, m_uI_L, m_uI_I, m_uL_K, m_uL_N, m_uL_R, m_uL_I, m_uL_L, m_uR_K, m_uR_N, m_uR_I, m_uR_L, m_uR_R, true_and, and_true, true_implies, false_implies, not_true_eq_false, not_false_eq_true, if_true, if_false, false_and, and_false]
    refine c_x_remove (d + 1) (z + 25 + 7 * s) k (dY D s) M _ hL hg hSy hkl (fun M1 g1 y1 => ?_)
    have L1 := gF_LayN g1 hL
    have r1 : mR M1 0 2 = some z := by rw [g1.2.2.1 _ _ (fun w => w)]; exact hr
    have n1 : mI M1 z 3 = nI (dN D) := by rw [g1.1 _ _ (by unfold sIn; omega)]; exact (x_n h).1
    simp +decide (disch := omega) only [qX10_drop, lx L1, am_w1_i, am_w1_r, am_w1_x, am_w1_l, am_w1_w, va_rf_s, am_push_n, am_push_s, am_cs_0, am_cs_i, am_cs_l, am_cs_r, m_uI_K, m_uI_N, m_uI_R, m_uI_L, m_uI_I, m_uL_K, m_uL_N, m_uL_R, m_uL_I, m_uL_L, m_uR_K, m_uR_N, m_uR_I, m_uR_L, m_uR_R, true_and, and_true, true_implies, false_implies, not_true_eq_false, not_false_eq_true, if_true, if_false, false_and, and_false]
    refine c_x_forget d s (dN D) z M1 _ L1 hz (by omega) r1 n1 n8 (fun M2 g2 k4 k5 k6 k13 => ?_)
    obtain ⟨gc, X2⟩ := XR_y hD h s1 g1 y1 g2 k4 k5 k6 k13
    have h0 := hY hk M2 gc X2
    have L2 := X2.1.1
    have r2 := X2.1.2.2.2.1
    have hw_ := lw_ L2 hg
    have hsh2 := lsh L2 hz (s := s) (by omega)
    have e5 : mI M2 (z + 25 + 7 * s) 5 = nI ((dY D s).eraseIdx k).length := by rw [g2.1 _ _ (by unfold sFg; omega)]; exact y1.1
    simp +decide (disch := omega) only [qX10_drop, lx L2, lz L2 hz, r2, hsh2, hw_, e5, ni_in_t, ni_tn, am_w1_i, am_w1_r, am_w1_x, am_w1_l, am_w1_w, va_rf_s, am_push_n, am_push_s, am_cs_0, am_cs_i, am_cs_l, am_cs_r, m_uI_K, m_uI_N, m_uI_R, m_uI_L, m_uI_I, m_uL_K, m_uL_N, m_uL_R, m_uL_I, m_uL_L, m_uR_K, m_uR_N, m_uR_I, m_uR_L, m_uR_R, true_and, and_true, true_implies, false_implies, not_true_eq_false, not_false_eq_true, if_true, if_false, false_and, and_false]
    exact h0
  · first | rw [br_n (hk)] | rw [br_q (hk)] | rw [br_u (hk)]
    exact hN hk
theorem er_mem {Y : List Sy} {k : Nat} {y u : Sy} (hs : srtY Y) (hk : Y[k]? = some y) : u ∈ Y.eraseIdx k ↔ u ∈ Y ∧ ¬ u.1 = y.1 := by
  rw [List.mem_eraseIdx_iff_getElem?]
  constructor
  · rintro ⟨i, h1, h2⟩
    refine ⟨List.mem_of_getElem? h2, fun q => ?_⟩
    rcases Nat.lt_or_gt_of_ne h1 with c | c
    · have := srtY_lt hs h2 hk c; omega
    · have := srtY_lt hs hk h2 c; omega
  · rintro ⟨h1, h2⟩
    obtain ⟨i, hi⟩ := List.mem_iff_getElem?.mp h1
    exact ⟨i, fun q => by subst q; cases hk.symm.trans hi; exact h2 rfl, hi⟩
theorem tot_er {D : Dat} {s k : Nat} (hD : dOK D) (hs : s < dN D) (hk : k < (dY D s).length) : dTot D = dTot (addY D s ((dY D s).eraseIdx k)) + 1 := by
  have hyl : s < (dYs D).length := by rw [hD.1.2.2.1.2.1]; first | exact hs | exact s1
  have hYs := dY_set (D := D) (s := s) (Y := (dY D s).eraseIdx k) hyl
  have := sumF_one (g := fun i => (dY D i).length) (f := fun i => (dY (addY D s ((dY D s).eraseIdx k)) i).length) (s := s) (by rw [hYs, if_pos rfl, List.length_eraseIdx_of_lt hk]; omega) (fun i hi => by rw [hYs, if_neg hi]) (dSh D).length
  rw [if_pos hs] at this
  exact this
theorem m_drop {M : am_M} {b : Nat} {D : Dat} (hD : dOK D) (hL : Lay M) (h : MdM M b D) (d : Nat) (v i : Int32) (Q : Option Value → am_M → Prop)
    (hY : isSy D v i → ∀ M', gF (fun a j => (a = 291 ∧ j = b) ∨ a = 292 ∨ a = 293) nT M M' → MdM M' b (addY D v.toInt.toNat ((dY D v.toInt.toNat).eraseIdx i.toInt.toNat)) → dOK (addY D v.toInt.toNat ((dY D v.toInt.toNat).eraseIdx i.toInt.toNat)) → Q (some (.int (nI ((dY D v.toInt.toNat).eraseIdx i.toInt.toNat).length))) M') (hN : ¬ isSy D v i → Q (some (.int (-1))) (rfM M 2)) : am_E am_P0 (d + 2) 295 [.ref 277, .int v, .int i] M Q := by
  have hb := h.1.1
  have hb2 := h.1.2
  have n8 := dN_8 hD
  have t96 : dTot D ≤ 96 := hD.1.2.2.2.2.2.1
  have s1' : mI M 291 b = nI (dTot D) := h.2.2.2.2.1.1
  have eS := fun v Q => m_isShip hD hL h d v Q
  have eR : ∀ Q, am_E am_P0 (d + 1) 208 [.ref 277, .int 2] M Q ↔ Q (some (.int (-1))) (rfM M 2) := fun Q => c_m_refuses (d + 1) 2 (by omega) M Q hL
  rw [eX11_drop]
  simp +decide (disch := omega) only [qX11_drop_0, qX11_drop_1, lm hL, eS, eR, bI_0, Classical.not_not, am_w1_i, am_w1_r, am_w1_x, am_w1_l, am_w1_w, va_rf_s, am_push_n, am_push_s, am_cs_0, am_cs_i, am_cs_l, am_cs_r, m_uI_K, m_uI_N, m_uI_R, m_uI_L, m_uI_I, m_uL_K, m_uL_N, m_uL_R, m_uL_I, m_uL_L, m_uR_K, m_uR_N, m_uR_I, m_uR_L, m_uR_R, true_and, and_true, true_implies, false_implies, not_true_eq_false, not_false_eq_true, if_true, if_false, false_and, and_false]
  by_cases hv : 0 ≤ v.toInt ∧ v.toInt < dN D
  · first | rw [br_p (hv)] | rw [br_r (hv)] | rw [br_s (hv)]
    obtain ⟨s, s1, s2, s3⟩ := sh_of (by omega) hv
    have eH := fun i Q => m_hourOf hD hL h (s := s) (by omega) d i Q
    rw [s2]
    simp +decide (disch := omega) only [qX11_drop_0, qX11_drop_1, lm hL, eH, am_w1_i, am_w1_r, am_w1_x, am_w1_l, am_w1_w, va_rf_s, am_push_n, am_push_s, am_cs_0, am_cs_i, am_cs_l, am_cs_r, m_uI_K, m_uI_N, m_uI_R, m_uI_L, m_uI_I, m_uL_K, m_uL_N, m_uL_R, m_uL_I, m_uL_L, m_uR_K, m_uR_N, m_uR_I, m_uR_L, m_uR_R, true_and, and_true, true_implies, false_implies, not_true_eq_false, not_false_eq_true, if_true, if_false, false_and, and_false]
    by_cases hi : 0 ≤ i.toInt ∧ i.toInt < (dY D s).length
    · obtain ⟨k, y, k1, k2, k3, k4, y48, yv, y256, ym⟩ := sy_of hD hi
      have hkl := (List.getElem?_eq_some_iff.mp k4).1
      rw [s3, k3] at hY
      rw [hrI_t k2 (by omega) k4]
      have hne : ¬ nI y.1 = -1 := nI_m1 (by omega)
      first | rw [br_n (hne)] | rw [br_q (hne)] | rw [br_u (hne)]
      have hsr := hD.1.2.2.2.2.1 s
      have hall := hD.1.2.2.2.1 s
      have tot := tot_er (k := k) hD s1 hkl
      obtain ⟨J, hJ⟩ : ∃ J, J = 384 * b + 48 * s + y.1 := ⟨_, rfl⟩
      have eJ : (384 : Int32) * nI b + 48 * nI s + nI y.1 = nI J := by
        rw [show (384 : Int32) = nI 384 from rfl, show (48 : Int32) = nI 48 from rfl, ni_mul, ni_mul, ni_add, ni_add, hJ]
      have em : nI (dTot D) - 1 = nI (dTot D - 1) := by rw [show (1 : Int32) = nI 1 from rfl, ni_sub (by omega)]
      obtain ⟨A, hA⟩ : ∃ A, A = uI (uI M 292 J (-1)) 291 b (nI (dTot D - 1)) := ⟨_, rfl⟩
      have gA : gF (fun a j => (a = 291 ∧ j = b) ∨ (a = 292 ∧ j = J)) nT M A := by rw [hA]; exact gF_trans (gF_i _ (by omega)) (gF_i _ (by omega))
      have LA := gF_LayN gA hL
      have hSy : SyM A b (dC D) (dR D) s ((dY D s).eraseIdx k) := by
        refine ⟨erY_srt hsr, fun u hu => hall u ((er_mem hsr k4).mp hu).1, fun τ hτ => ?_⟩
        by_cases e : τ = y.1
        · refine Or.inr ⟨fun u hu => by rw [e]; exact ((er_mem hsr k4).mp hu).2, ?_⟩
          rw [hA, m_uI_I, if_neg (by omega), m_uI_I, if_pos ⟨rfl, by rw [hJ, e]⟩]
        · rcases (h.2.2.2.2.1.2 s (by omega)).2.2 τ hτ with ⟨u, q1, q2, q3, q4⟩ | ⟨q1, q2⟩
          · exact Or.inl ⟨u, (er_mem hsr k4).mpr ⟨q1, by rw [q2]; exact e⟩, q2, by rw [gA.1 _ _ (by omega)]; exact q3, by rw [gA.1 _ _ (by omega)]; exact q4⟩
          · exact Or.inr ⟨fun u hu => q1 u ((er_mem hsr k4).mp hu).1, by rw [gA.1 _ _ (by omega)]; exact q2⟩
      have hMA : MdM A b (addY D s ((dY D s).eraseIdx k)) := MdM_y hD s1 h gA (fun a j q => by omega) (by rw [hA, m_uI_I, if_pos ⟨rfl, rfl⟩, tot]; rfl) hSy
      have hD' : dOK (addY D s ((dY D s).eraseIdx k)) := dOK_y hD s1 (erY_srt hsr) (fun u hu => hall u ((er_mem hsr k4).mp hu).1) (by omega)
      have eN := fun Q => m_sayN hD' LA hMA (s := s) (by omega) d Q
      have hyl : s < (dYs D).length := by rw [hD.1.2.2.1.2.1]; first | exact hs | exact s1
      rw [dY_set hyl, if_pos rfl] at eN
      have h0 := hY ⟨hv, by rw [s3]; exact hi⟩ A (gF_up gA (fun a j q => by omega) (fun _ _ q => q)) hMA hD'
      simp +decide (disch := omega) only [qX11_drop_0, qX11_drop_1, lm hL, hb, s1', eJ, em, ni_in_t, ni_tn, am_w1_i, am_w1_r, am_w1_x, am_w1_l, am_w1_w, va_rf_s, am_push_n, am_push_s, am_cs_0, am_cs_i, am_cs_l, am_cs_r, m_uI_K, m_uI_N, m_uI_R, m_uI_L, m_uI_I, m_uL_K, m_uL_N, m_uL_R, m_uL_I, m_uL_L, m_uR_K, m_uR_N, m_uR_I, m_uR_L, m_uR_R, true_and, and_true, true_implies, false_implies, not_true_eq_false, not_false_eq_true, if_true, if_false, false_and, and_false, ← hA, lm LA, eN]
      exact h0
    · rw [hrI_f hi]
      simp +decide only [qX11_drop_0, qX11_drop_1, eR, am_w1_i, am_w1_r, am_w1_x, am_w1_l, am_w1_w, va_rf_s, am_push_n, am_push_s, am_cs_0, am_cs_i, am_cs_l, am_cs_r, m_uI_K, m_uI_N, m_uI_R, m_uI_L, m_uI_I, m_uL_K, m_uL_N, m_uL_R, m_uL_I, m_uL_L, m_uR_K, m_uR_N, m_uR_I, m_uR_L, m_uR_R, true_and, and_true, true_implies, false_implies, not_true_eq_false, not_false_eq_true, if_true, if_false, false_and, and_false]
      exact hN (fun q => hi (by have := q.2; rw [s3] at this; exact this))
  · first | rw [br_n (hv)] | rw [br_q (hv)] | rw [br_u (hv)]
    exact hN (fun q => hv q.1)
theorem op_drop (v i : Int32) : OpI 142 295 [.int v, .int i] isI := by
  intro M hI d hd
  obtain ⟨z, b, D, hD, hX, hM, hT⟩ := id hI
  have hz := hX.1.2.2.1
  obtain ⟨d', rfl⟩ : ∃ d', d = d' + 2 := ⟨d - 2, by omega⟩
  refine x_drop hD hX d' v i _ (fun hk M1 g1 X1 => ?_) (fun hk => ?_)
  · refine ⟨_, rfl, ⟨_, rfl⟩, X1.1.1, ?_⟩
    refine m_drop hD X1.1.1 (MdM_c hz hM g1) d' v i _ (fun _ M2 g2 m2 hD' => ⟨rfl, ?_⟩) (fun q => absurd hk q)
    exact ⟨z, b, _, hD', XR_m hD' X1 g2 (fun a j q => by omega), m2, TI_k (TI_c hz hT g1) (fun a j q => g2.1 a j (fun w => by unfold tIm at q; omega))⟩
  · refine ⟨_, rfl, ⟨_, rfl⟩, hX.1.1, ?_⟩
    obtain ⟨X1, M1⟩ := rfX_X 2 hD hX hM
    exact m_drop hD X1.1.1 M1 d' v i _ (fun q => absurd q hk) (fun _ => ⟨rfl, Inv_rf 2 hD hX hM hT⟩)
