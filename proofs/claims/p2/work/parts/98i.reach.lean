/-! can, reach, may -/
noncomputable def aCan (v i j : Int32) (D : Dat) : Value := .int (if ¬ i = j ∧ isSy D v i ∧ isSy D v j then tI (∃ y y', (dY D v.toInt.toNat)[i.toInt.toNat]? = some y ∧ (dY D v.toInt.toNat)[j.toInt.toNat]? = some y' ∧ gowY (dWt D v.toInt.toNat) (dV D v.toInt.toNat) y y') else -1)
theorem gow_ex {w : Nat → Prop} {v : Nat} {Y : List Sy} {i j : Nat} {y y' : Sy} (hy : Y[i]? = some y) (hy' : Y[j]? = some y') : (∃ z z', Y[i]? = some z ∧ Y[j]? = some z' ∧ gowY w v z z') ↔ gowY w v y y' := by
  constructor
  · rintro ⟨z, z', q1, q2, q3⟩
    rw [hy] at q1
    rw [hy'] at q2
    cases q1
    cases q2
    exact q3
  · intro q
    exact ⟨y, y', hy, hy', q⟩
theorem x_can (v i j : Int32) : XqO 119 [.int v, .int i, .int j] (aCan v i j) := by
  intro d M z D Q hD h hQ
  have hz := h.1.2.2.1
  have hL := h.1.1
  have hI := h.1.2.1
  have n8 := dN_8 hD
  have eS := fun v i Q => x_isSaying hD h (d + 18) v i Q
  unfold aCan at hQ
  rw [eX10_can]
  simp +decide only [qX10_can, lx hL, eS, bI_0, Classical.not_not, am_w1_i, am_w1_r, am_w1_x, am_w1_l, am_w1_w, va_rf_s, am_push_n, am_push_s, am_cs_0, am_cs_i, am_cs_l, am_cs_r, m_uI_K, m_uI_N, m_uI_R, m_uI_L, m_uI_I, m_uL_K, m_uL_N, m_uL_R, m_uL_I, m_uL_L, m_uR_K, m_uR_N, m_uR_I, m_uR_L, m_uR_R, true_and, and_true, true_implies, false_implies, not_true_eq_false, not_false_eq_true, if_true, if_false, false_and, and_false]
  by_cases e : i = j
  · have h0 := hQ M (XR_2 h) h
    rw [if_neg (fun q => q.1 e)] at h0
    first | rw [br_p (e)] | rw [br_r (e)] | rw [br_s (e)]
    exact h0
  · first | rw [br_n (e)] | rw [br_q (e)] | rw [br_u (e)]
    by_cases hi : isSy D v i
    · first | rw [br_p (hi)] | rw [br_r (hi)] | rw [br_s (hi)]
      by_cases hj : isSy D v j
      · first | rw [br_p (hj)] | rw [br_r (hj)] | rw [br_s (hj)]
        rw [if_pos ⟨e, hi, hj⟩] at hQ
        obtain ⟨s, s1, s2, s3⟩ := sh_of (by omega) hi.1
        have hi2 := hi.2
        have hj2 := hj.2
        rw [s3] at hi2 hj2 hQ
        obtain ⟨k, y, k48, k1, k2, hy, y48, yv, y256, ym⟩ := sy_of hD hi2
        obtain ⟨k', y', k48', k1', k2', hy', y48', yv', y256', ym'⟩ := sy_of hD hj2
        rw [k2, k2', tI_i (gow_ex hy hy')] at hQ
        have htr := ltr hL (show s < 8 by omega)
        have hst := lt_ hL (isTr_of (show s < 8 by omega))
        rw [s2, k1, k1']
        simp +decide (disch := omega) only [qX10_can, lx hL, htr, hst, ni_in_t, ni_tn, am_w1_i, am_w1_r, am_w1_x, am_w1_l, am_w1_w, va_rf_s, am_push_n, am_push_s, am_cs_0, am_cs_i, am_cs_l, am_cs_r, m_uI_K, m_uI_N, m_uI_R, m_uI_L, m_uI_I, m_uL_K, m_uL_N, m_uL_R, m_uL_I, m_uL_L, m_uR_K, m_uR_N, m_uR_I, m_uR_L, m_uR_R, true_and, and_true, true_implies, false_implies, not_true_eq_false, not_false_eq_true, if_true, if_false, false_and, and_false]
        refine c_x_goTogether (d + 16) s (z + 25 + 7 * s) z (dV D s) k k' (dWt D s) (dDp D) (dDr D s) (dLd D s) (dBs D s) (dY D s) y y' M _ hL hI (by omega) (isSh_z hz (by omega)) (h.2.2.2.1 s s1).1 hy hy' (fun M1 g1 => ?_)
        have h0 := hQ M1 (zF_r g1) (XR_r hD h g1)
        have eb := fun Q => c_x_bit (d + 19) (tI (gowY (dWt D s) (dV D s) y y')) M1 Q (tI_01 _)
        simp +decide only [qX10_can, eb, am_w1_i, am_w1_r, am_w1_x, am_w1_l, am_w1_w, va_rf_s, am_push_n, am_push_s, am_cs_0, am_cs_i, am_cs_l, am_cs_r, m_uI_K, m_uI_N, m_uI_R, m_uI_L, m_uI_I, m_uL_K, m_uL_N, m_uL_R, m_uL_I, m_uL_L, m_uR_K, m_uR_N, m_uR_I, m_uR_L, m_uR_R, true_and, and_true, true_implies, false_implies, not_true_eq_false, not_false_eq_true, if_true, if_false, false_and, and_false]
        exact h0
      · have h0 := hQ M (XR_2 h) h
        rw [if_neg (fun q => hj q.2.2)] at h0
        first | rw [br_n (hj)] | rw [br_q (hj)] | rw [br_u (hj)]
        exact h0
    · have h0 := hQ M (XR_2 h) h
      rw [if_neg (fun q => hi q.2.1)] at h0
      first | rw [br_n (hi)] | rw [br_q (hi)] | rw [br_u (hi)]
      exact h0
theorem m_can (v i j : Int32) : MqO 255 [.int v, .int i, .int j] (aCan v i j) := by
  intro d M b D Q hD hL h hQ
  have n8 := dN_8 hD
  have eS := fun v Q => m_isShip hD hL h (d + 18) v Q
  unfold aCan at hQ
  rw [eX11_can]
  simp +decide only [qX11_can, lm hL, eS, bI_0, Classical.not_not, am_w1_i, am_w1_r, am_w1_x, am_w1_l, am_w1_w, va_rf_s, am_push_n, am_push_s, am_cs_0, am_cs_i, am_cs_l, am_cs_r, m_uI_K, m_uI_N, m_uI_R, m_uI_L, m_uI_I, m_uL_K, m_uL_N, m_uL_R, m_uL_I, m_uL_L, m_uR_K, m_uR_N, m_uR_I, m_uR_L, m_uR_R, true_and, and_true, true_implies, false_implies, not_true_eq_false, not_false_eq_true, if_true, if_false, false_and, and_false]
  by_cases hv : 0 ≤ v.toInt ∧ v.toInt < dN D
  · first | rw [br_p (hv)] | rw [br_r (hv)] | rw [br_s (hv)]
    by_cases e : i = j
    · have h0 := hQ M (gF_refl _ _ _)
      rw [if_neg (fun q => q.1 e)] at h0
      first | rw [br_p (e)] | rw [br_r (e)] | rw [br_s (e)]
      exact h0
    · first | rw [br_n (e)] | rw [br_q (e)] | rw [br_u (e)]
      obtain ⟨s, s1, s2, s3⟩ := sh_of (by omega) hv
      have eh := fun i Q => m_hourOf hD hL h (s := s) (by omega) (d + 18) i Q
      rw [s2]
      simp +decide only [qX11_can, lm hL, eh, Classical.not_not, am_w1_i, am_w1_r, am_w1_x, am_w1_l, am_w1_w, va_rf_s, am_push_n, am_push_s, am_cs_0, am_cs_i, am_cs_l, am_cs_r, m_uI_K, m_uI_N, m_uI_R, m_uI_L, m_uI_I, m_uL_K, m_uL_N, m_uL_R, m_uL_I, m_uL_L, m_uR_K, m_uR_N, m_uR_I, m_uR_L, m_uR_R, true_and, and_true, true_implies, false_implies, not_true_eq_false, not_false_eq_true, if_true, if_false, false_and, and_false]
      by_cases hi : 0 ≤ i.toInt ∧ i.toInt < (dY D s).length
      · obtain ⟨k, y, k48, k1, k2, hy, y48, yv, y256, ym⟩ := sy_of hD hi
        have hne : ¬ hrI (dY D s) i = -1 := by rw [hrI_t k1 (by omega) hy]; exact nI_m1 (by omega)
        first | rw [br_n (hne)] | rw [br_q (hne)] | rw [br_u (hne)]
        by_cases hj : 0 ≤ j.toInt ∧ j.toInt < (dY D s).length
        · obtain ⟨k', y', k48', k1', k2', hy', y48', yv', y256', ym'⟩ := sy_of hD hj
          have hne' : ¬ hrI (dY D s) j = -1 := by rw [hrI_t k1' (by omega) hy']; exact nI_m1 (by omega)
          first | rw [br_n (hne')] | rw [br_q (hne')] | rw [br_u (hne')]
          rw [if_pos ⟨e, ⟨hv, by rw [s3]; exact hi⟩, ⟨hv, by rw [s3]; exact hj⟩⟩, s3, k2, k2', tI_i (gow_ex hy hy')] at hQ
          refine m_pairs hD hL h s1 (d + 14) _ (fun M1 g1 q1 => ?_)
          have h0 := hQ M1 g1
          have L1 := gF_LayN g1 hL
          have hkl : k < (dY D s).length := (List.getElem?_eq_some_iff.mp hy).1
          have hg := q1.2.2 k k' y y' hkl hy hy'
          have e48 : (48 : Int32) * nI k + nI k' = nI (48 * k + k') := by rw [show (48 : Int32) = nI 48 from rfl, ni_mul, ni_add]
          rw [k1, k1']
          simp +decide (disch := omega) only [qX11_can, lm L1, e48, hg, tI_01, ni_in_t, ni_tn, am_w1_i, am_w1_r, am_w1_x, am_w1_l, am_w1_w, va_rf_s, am_push_n, am_push_s, am_cs_0, am_cs_i, am_cs_l, am_cs_r, m_uI_K, m_uI_N, m_uI_R, m_uI_L, m_uI_I, m_uL_K, m_uL_N, m_uL_R, m_uL_I, m_uL_L, m_uR_K, m_uR_N, m_uR_I, m_uR_L, m_uR_R, true_and, and_true, true_implies, false_implies, not_true_eq_false, not_false_eq_true, if_true, if_false, false_and, and_false]
          by_cases c : gowY (dWt D s) (dV D s) y y'
          · rw [tI_t c] at h0 ⊢; simp +decide only [qX11_can, am_w1_i, am_w1_r, am_w1_x, am_w1_l, am_w1_w, va_rf_s, am_push_n, am_push_s, am_cs_0, am_cs_i, am_cs_l, am_cs_r, m_uI_K, m_uI_N, m_uI_R, m_uI_L, m_uI_I, m_uL_K, m_uL_N, m_uL_R, m_uL_I, m_uL_L, m_uR_K, m_uR_N, m_uR_I, m_uR_L, m_uR_R, true_and, and_true, true_implies, false_implies, not_true_eq_false, not_false_eq_true, if_true, if_false, false_and, and_false]; exact h0
          · rw [tI_f c] at h0 ⊢; simp +decide only [qX11_can, am_w1_i, am_w1_r, am_w1_x, am_w1_l, am_w1_w, va_rf_s, am_push_n, am_push_s, am_cs_0, am_cs_i, am_cs_l, am_cs_r, m_uI_K, m_uI_N, m_uI_R, m_uI_L, m_uI_I, m_uL_K, m_uL_N, m_uL_R, m_uL_I, m_uL_L, m_uR_K, m_uR_N, m_uR_I, m_uR_L, m_uR_R, true_and, and_true, true_implies, false_implies, not_true_eq_false, not_false_eq_true, if_true, if_false, false_and, and_false]; exact h0
        · have h0 := hQ M (gF_refl _ _ _)
          rw [if_neg (fun q => hj (by have := q.2.2.2; rw [s3] at this; exact this))] at h0
          have e1 := hrI_f hj
          first | rw [br_p (e1)] | rw [br_r (e1)] | rw [br_s (e1)]
          exact h0
      · have h0 := hQ M (gF_refl _ _ _)
        rw [if_neg (fun q => hi (by have := q.2.1.2; rw [s3] at this; exact this))] at h0
        have e1 := hrI_f hi
        first | rw [br_p (e1)] | rw [br_r (e1)] | rw [br_s (e1)]
        exact h0
  · have h0 := hQ M (gF_refl _ _ _)
    rw [if_neg (fun q => hv q.2.1.1)] at h0
    first | rw [br_n (hv)] | rw [br_q (hv)] | rw [br_u (hv)]
    exact h0
theorem op_can (v i j : Int32) : OpI 119 255 [.int v, .int i, .int j] isI := op_q (fun D => ⟨_, rfl⟩) (x_can v i j) (m_can v i j)
/-! may -/
noncomputable def aMay (v t x y : Int32) (D : Dat) : Value := .int (if (0 ≤ v.toInt ∧ v.toInt < dN D) ∧ isHr t ∧ isCl D x y then tI (dMy D v.toInt.toNat t.toInt.toNat (plI x y)) else -1)
theorem x_mayBe {M : am_M} {s t p : Nat} {D : Dat} (hL : Lay M) (hs : s < 8) (ht : t < 48) (hp : p < 256) (hS : SetX M s (dV D s) (dWt D s) (dSn D s) (dBs D s) (dY D s)) (d : Nat) (Q : Option Value → am_M → Prop) : am_E am_P0 d 88 [.ref (173 + 13 * s), .int (nI t), .int (nI p)] M Q ↔ Q (some (.int (tI (dMy D s t p)))) M := by
  rw [c_x_mayBe d s t p M Q hL hs ht hp, tI_i (hS.2.2.2.2 t ht p)]
  exact Iff.rfl
theorem x_may (v t x y : Int32) : XqO 121 [.int v, .int t, .int x, .int y] (aMay v t x y) := by
  intro d M z D Q hD h hQ
  have hz := h.1.2.2.1
  have hL := h.1.1
  have hr := h.1.2.2.2.1
  have n8 := dN_8 hD
  have eP := fun x y Q => x_place hD h (d + 19) x y Q
  have eS := fun v Q => x_isShip hD h (d + 19) v Q
  unfold aMay at hQ
  rw [eX10_may]
  simp +decide only [qX10_may, lx hL, lz hL hz, hr, eP, eS, c_x_isHour, bI_0, Classical.not_not, am_w1_i, am_w1_r, am_w1_x, am_w1_l, am_w1_w, va_rf_s, am_push_n, am_push_s, am_cs_0, am_cs_i, am_cs_l, am_cs_r, m_uI_K, m_uI_N, m_uI_R, m_uI_L, m_uI_I, m_uL_K, m_uL_N, m_uL_R, m_uL_I, m_uL_L, m_uR_K, m_uR_N, m_uR_I, m_uR_L, m_uR_R, true_and, and_true, true_implies, false_implies, not_true_eq_false, not_false_eq_true, if_true, if_false, false_and, and_false]
  by_cases hv : 0 ≤ v.toInt ∧ v.toInt < dN D
  · first | rw [br_p (hv)] | rw [br_r (hv)] | rw [br_s (hv)]
    by_cases ht : 0 ≤ t.toInt ∧ t.toInt < 48
    · first | rw [br_p (ht)] | rw [br_r (ht)] | rw [br_s (ht)]
      by_cases hc : isCl D x y
      · obtain ⟨c1, c2, c3, c4, c5, c6, c7⟩ := cl_of hD hc
        rw [if_pos hc]
        have hne : ¬ nI (plI x y) = -1 := nI_m1 (by omega)
        first | rw [br_n (hne)] | rw [br_q (hne)] | rw [br_u (hne)]
        rw [if_pos ⟨hv, ht, hc⟩] at hQ
        obtain ⟨s, s1, s2, s3⟩ := sh_of (by omega) hv
        rw [s3] at hQ
        have et : t = nI t.toInt.toNat := i32_of (by omega) (by omega)
        rw [s2, et]
        refine x_settled hD h (d + 14) s1 _ (fun M1 g1 X1 _ S1 => ?_)
        have h0 := hQ M1 g1 X1
        have ht1 := lt_ X1.1.1 (isTr_of (show s < 8 by omega))
        have em := fun Q => x_mayBe (t := t.toInt.toNat) (p := plI x y) X1.1.1 (by omega) (by omega) c2 S1 (d + 19) Q
        have eb := fun Q => c_x_bit (d + 19) (tI (dMy D s t.toInt.toNat (plI x y))) M1 Q (tI_01 _)
        simp +decide only [qX10_may, ht1, em, eb, am_w1_i, am_w1_r, am_w1_x, am_w1_l, am_w1_w, va_rf_s, am_push_n, am_push_s, am_cs_0, am_cs_i, am_cs_l, am_cs_r, m_uI_K, m_uI_N, m_uI_R, m_uI_L, m_uI_I, m_uL_K, m_uL_N, m_uL_R, m_uL_I, m_uL_L, m_uR_K, m_uR_N, m_uR_I, m_uR_L, m_uR_R, true_and, and_true, true_implies, false_implies, not_true_eq_false, not_false_eq_true, if_true, if_false, false_and, and_false]
        exact h0
      · have h0 := hQ M (XR_2 h) h
        rw [if_neg (fun q => hc q.2.2)] at h0
        rw [if_neg hc]
        simp +decide only [am_w1_i, am_w1_r, am_w1_x, am_w1_l, am_w1_w, va_rf_s, am_push_n, am_push_s, am_cs_0, am_cs_i, am_cs_l, am_cs_r, m_uI_K, m_uI_N, m_uI_R, m_uI_L, m_uI_I, m_uL_K, m_uL_N, m_uL_R, m_uL_I, m_uL_L, m_uR_K, m_uR_N, m_uR_I, m_uR_L, m_uR_R, true_and, and_true, true_implies, false_implies, not_true_eq_false, not_false_eq_true, if_true, if_false, false_and, and_false]
        exact h0
    · have h0 := hQ M (XR_2 h) h
      rw [if_neg (fun q => ht q.2.1)] at h0
      first | rw [br_n (ht)] | rw [br_q (ht)] | rw [br_u (ht)]
      exact h0
  · have h0 := hQ M (XR_2 h) h
    rw [if_neg (fun q => hv q.1)] at h0
    first | rw [br_n (hv)] | rw [br_q (hv)] | rw [br_u (hv)]
    exact h0
theorem LyM_g {M M' : am_M} {C R : Nat} {w : Nat → Prop} {v : Nat} {snd : Nat → Bool → Prop} {B : List Fct} {Y : List Sy} {S T' : Nat → Nat → Prop} (h : LyM M C R w v snd B Y) (hg : gF S T' M M') (hS : ∀ a j, sY a j → ¬ S a j) : LyM M' C R w v snd B Y := by
  have k : ∀ a j, sY a j → mI M' a j = mI M a j := fun a j q => hg.1 a j (hS a j q)
  refine ⟨KpM_S h.1 (fun a j q => k a j (by unfold sY sK sP sFG sF sG; omega)), ⟨?_, h.2.1.2.1, fun i f hf => ?_⟩, fun i f q hi hf hq t ht => ?_⟩
  · rw [k _ _ (by unfold sY sK sP sFG sF sG; omega)]; exact h.2.1.1
  · obtain ⟨f1, f2, f3, f4⟩ := h.2.1.2.2 i f hf
    exact ⟨f1, by rw [k _ _ (by unfold sY sK sP sFG sF sG; omega)]; exact f2, by rw [k _ _ (by unfold sY sK sP sFG sF sG; omega)]; exact f3, by rw [k _ _ (by unfold sY sK sP sFG sF sG; omega)]; exact f4⟩
  · rw [k _ _ (by unfold sY; omega)]; exact h.2.2 i f q hi hf hq t ht
theorem MdM_q {M M' : am_M} {b : Nat} {D : Dat} (h : MdM M b D) (hg : gF sMq nT M M') : MdM M' b D := MdM_g h hg (fun a j q w => by unfold tlM at q; unfold sMq at w; omega)
theorem m_may (v t x y : Int32) : MqO 257 [.int v, .int t, .int x, .int y] (aMay v t x y) := by
  intro d M b D Q hD hL h hQ
  have n8 := dN_8 hD
  have eC := fun x y Q => m_isCell hD hL h (d + 18) x y Q
  have eH := fun x Q => c_m_isHour (d + 18) x M Q
  have eS := fun v Q => m_isShip hD hL h (d + 18) v Q
  unfold aMay at hQ
  rw [eX11_may]
  simp +decide only [qX11_may, lm hL, eC, eH, eS, bI_0, Classical.not_not, am_w1_i, am_w1_r, am_w1_x, am_w1_l, am_w1_w, va_rf_s, am_push_n, am_push_s, am_cs_0, am_cs_i, am_cs_l, am_cs_r, m_uI_K, m_uI_N, m_uI_R, m_uI_L, m_uI_I, m_uL_K, m_uL_N, m_uL_R, m_uL_I, m_uL_L, m_uR_K, m_uR_N, m_uR_I, m_uR_L, m_uR_R, true_and, and_true, true_implies, false_implies, not_true_eq_false, not_false_eq_true, if_true, if_false, false_and, and_false]
  by_cases hv : 0 ≤ v.toInt ∧ v.toInt < dN D
  · first | rw [br_p (hv)] | rw [br_r (hv)] | rw [br_s (hv)]
    by_cases ht : 0 ≤ t.toInt ∧ t.toInt < 48
    · first | rw [br_p (ht)] | rw [br_r (ht)] | rw [br_s (ht)]
      by_cases hc : isCl D x y
      · obtain ⟨c1, c2, c3, c4, c5, c6, c7⟩ := cl_of hD hc
        have hc0 := hc
        unfold isCl at hc0
        first | rw [br_p (hc0)] | rw [br_r (hc0)] | rw [br_s (hc0)]
        rw [if_pos ⟨hv, ht, hc⟩] at hQ
        obtain ⟨s, s1, s2, s3⟩ := sh_of (by omega) hv
        rw [s3] at hQ
        have et : t = nI t.toInt.toNat := i32_of (by omega) (by omega)
        rw [s2, et]
        refine m_laysS hD hL h s1 (d + 12) _ (fun M1 g1 y1 => ?_)
        have h0 := hQ M1 g1
        have L1 := gF_LayN g1 hL
        have h1 := MdM_q h g1
        have eA := fun Q => m_atI hD L1 h1 hc (d + 19) Q
        have em := fun Q => m_mayBe hD L1 h1 s1 (d + 18) Q y1 c1 (t := t.toInt.toNat) (by omega)
        simp +decide only [qX11_may, lm L1, eA, em, am_w1_i, am_w1_r, am_w1_x, am_w1_l, am_w1_w, va_rf_s, am_push_n, am_push_s, am_cs_0, am_cs_i, am_cs_l, am_cs_r, m_uI_K, m_uI_N, m_uI_R, m_uI_L, m_uI_I, m_uL_K, m_uL_N, m_uL_R, m_uL_I, m_uL_L, m_uR_K, m_uR_N, m_uR_I, m_uR_L, m_uR_R, true_and, and_true, true_implies, false_implies, not_true_eq_false, not_false_eq_true, if_true, if_false, false_and, and_false]
        by_cases c : dMy D s t.toInt.toNat (plI x y)
        · rw [tI_t c] at h0 ⊢; simp +decide only [qX11_may, am_w1_i, am_w1_r, am_w1_x, am_w1_l, am_w1_w, va_rf_s, am_push_n, am_push_s, am_cs_0, am_cs_i, am_cs_l, am_cs_r, m_uI_K, m_uI_N, m_uI_R, m_uI_L, m_uI_I, m_uL_K, m_uL_N, m_uL_R, m_uL_I, m_uL_L, m_uR_K, m_uR_N, m_uR_I, m_uR_L, m_uR_R, true_and, and_true, true_implies, false_implies, not_true_eq_false, not_false_eq_true, if_true, if_false, false_and, and_false]; exact h0
        · rw [tI_f c] at h0 ⊢; simp +decide only [qX11_may, am_w1_i, am_w1_r, am_w1_x, am_w1_l, am_w1_w, va_rf_s, am_push_n, am_push_s, am_cs_0, am_cs_i, am_cs_l, am_cs_r, m_uI_K, m_uI_N, m_uI_R, m_uI_L, m_uI_I, m_uL_K, m_uL_N, m_uL_R, m_uL_I, m_uL_L, m_uR_K, m_uR_N, m_uR_I, m_uR_L, m_uR_R, true_and, and_true, true_implies, false_implies, not_true_eq_false, not_false_eq_true, if_true, if_false, false_and, and_false]; exact h0
      · have h0 := hQ M (gF_refl _ _ _)
        rw [if_neg (fun q => hc q.2.2)] at h0
        unfold isCl at hc
        first | rw [br_n (hc)] | rw [br_q (hc)] | rw [br_u (hc)]
        exact h0
    · have h0 := hQ M (gF_refl _ _ _)
      rw [if_neg (fun q => ht q.2.1)] at h0
      first | rw [br_n (ht)] | rw [br_q (ht)] | rw [br_u (ht)]
      exact h0
  · have h0 := hQ M (gF_refl _ _ _)
    rw [if_neg (fun q => hv q.1)] at h0
    first | rw [br_n (hv)] | rw [br_q (hv)] | rw [br_u (hv)]
    exact h0
theorem op_may (v t x y : Int32) : OpI 121 257 [.int v, .int t, .int x, .int y] isI := op_q (fun D => ⟨_, rfl⟩) (x_may v t x y) (m_may v t x y)
/-! reach -/
noncomputable def theI (R : Int32 → Prop) : Int32 := @dite _ (∃ x, R x) (Classical.propDecidable _) (fun h => Classical.choose h) (fun _ => 0)
theorem the_e {R : Int32 → Prop} {x : Int32} (hu : ∀ x y, R x → R y → x = y) (h : R x) : theI R = x := by
  unfold theI
  rw [dif_pos ⟨x, h⟩]
  exact hu _ _ (Classical.choose_spec (⟨x, h⟩ : ∃ x, R x)) h
def rcQ (D : Dat) (s t k : Nat) (x : Int32) : Prop := (∃ p, p < 256 ∧ dMy D s t p ∧ cnt (fun p => dB (dMy D s t p)) p = k ∧ x = nI (cel (dC D) p)) ∨ ((∀ p, p < 256 → dMy D s t p → ¬ cnt (fun p => dB (dMy D s t p)) p = k) ∧ x = -1)
theorem cnt_in {g : Nat → Bool} {a b : Nat} (h : a < b) (hg : g a = true) : cnt g a < cnt g b := by
  have h1 := cnt_mono g (show a + 1 ≤ b from h)
  rw [cnt_t hg] at h1
  omega
theorem rcQ_1 {D : Dat} {s t k : Nat} : ∀ x y, rcQ D s t k x → rcQ D s t k y → x = y := by
  rintro x y (⟨p, p1, p2, p3, rfl⟩ | ⟨h1, rfl⟩) (⟨q, q1, q2, q3, rfl⟩ | ⟨h2, rfl⟩)
  · have : p = q := by
      rcases Nat.lt_trichotomy p q with c | c | c
      · have := cnt_in (g := fun p => dB (dMy D s t p)) c (dB_t.mpr p2); omega
      · exact c
      · have := cnt_in (g := fun p => dB (dMy D s t p)) c (dB_t.mpr q2); omega
    rw [this]
  · exact absurd p3 (h2 p p1 p2)
  · exact absurd q3 (h1 q q1 q2)
  · rfl
noncomputable def aRch (v t k : Int32) (D : Dat) : Value := .int (if (0 ≤ v.toInt ∧ v.toInt < dN D) ∧ isHr t ∧ -1 ≤ k.toInt then (if k = -1 then nI (dMc D v.toInt.toNat t.toInt.toNat) else theI (rcQ D v.toInt.toNat t.toInt.toNat k.toInt.toNat)) else -1)
theorem l_x_reach (d z s t k : Nat) (D : Dat) (M : am_M) (Q : Option Value → am_M → Prop) (hD : dOK D) (h : XR M z D) (hs : s < dN D) (ht : t < 48) (hS : SetX M s (dV D s) (dWt D s) (dSn D s) (dBs D s) (dY D s)) (hk : k < 2147483648) (x1 x3 : Int32)
    (hQ : ∀ x, rcQ D s t k x → Q (some (.int x)) M) :
    ∀ (m p : Nat), p + m = 256 → ∀ l, cnt (fun p => dB (dMy D s t p)) p + l = k → am_P am_P0 (d + 1) (am_look tX10_reach) 47 [.ref 0, .int x1, .int (nI t), .int x3, .ref (173 + 13 * s), .int (nI l), .int (nI p)] [] M Q := by
  have hz := h.1.2.2.1
  have hL := h.1.1
  have hr := h.1.2.2.2.1
  have n8 := dN_8 hD
  have hst := lt_ hL (isTr_of (show s < 8 by omega))
  intro m
  induction m with
  | zero =>
    intro p hp l hl
    have ep : p = 256 := by omega
    subst ep
    have h0 := hQ (-1) (Or.inr ⟨fun p hp hm => by have := cnt_in (g := fun p => dB (dMy D s t p)) hp (dB_t.mpr hm); omega, rfl⟩)
    rw [hX10_reach_47]
    simp +decide only [qX10_reach_0, qX10_reach_1, show nI 256 = (256 : Int32) from rfl, am_w1_i, am_w1_r, am_w1_x, am_w1_l, am_w1_w, va_rf_s, am_push_n, am_push_s, am_cs_0, am_cs_i, am_cs_l, am_cs_r, m_uI_K, m_uI_N, m_uI_R, m_uI_L, m_uI_I, m_uL_K, m_uL_N, m_uL_R, m_uL_I, m_uL_L, m_uR_K, m_uR_N, m_uR_I, m_uR_L, m_uR_R, true_and, and_true, true_implies, false_implies, not_true_eq_false, not_false_eq_true, if_true, if_false, false_and, and_false]
    exact h0
  | succ m ih =>
    intro p hp l hl
    have hlt : ¬ (256 : Int32) ≤ nI p := by rw [show (256 : Int32) = nI 256 from rfl, ni_le (by omega) (by omega)]; omega
    have em := fun Q => x_mayBe (D := D) (t := t) (p := p) hL (show s < 8 by omega) ht (by omega) hS d Q
    have en := fun Q => x_numberOf h d p Q (by omega)
    rw [hX10_reach_47]
    simp +decide only [qX10_reach_0, qX10_reach_1, hst, em, tI_0, am_w1_i, am_w1_r, am_w1_x, am_w1_l, am_w1_w, va_rf_s, am_push_n, am_push_s, am_cs_0, am_cs_i, am_cs_l, am_cs_r, m_uI_K, m_uI_N, m_uI_R, m_uI_L, m_uI_I, m_uL_K, m_uL_N, m_uL_R, m_uL_I, m_uL_L, m_uR_K, m_uR_N, m_uR_I, m_uR_L, m_uR_R, true_and, and_true, true_implies, false_implies, not_true_eq_false, not_false_eq_true, if_true, if_false, false_and, and_false]
    first | rw [br_n (hlt)] | rw [br_q (hlt)] | rw [br_u (hlt)]
    by_cases c : dMy D s t p
    · first | rw [br_p (c)] | rw [br_r (c)] | rw [br_s (c)]
      by_cases l0 : l = 0
      · subst l0
        have h0 := hQ _ (Or.inl ⟨p, by omega, c, by omega, rfl⟩)
        simp +decide only [show nI 0 = (0 : Int32) from rfl, qX10_reach_0, qX10_reach_1, lx hL, lz hL hz, hr, en, am_w1_i, am_w1_r, am_w1_x, am_w1_l, am_w1_w, va_rf_s, am_push_n, am_push_s, am_cs_0, am_cs_i, am_cs_l, am_cs_r, m_uI_K, m_uI_N, m_uI_R, m_uI_L, m_uI_I, m_uL_K, m_uL_N, m_uL_R, m_uL_I, m_uL_L, m_uR_K, m_uR_N, m_uR_I, m_uR_L, m_uR_R, true_and, and_true, true_implies, false_implies, not_true_eq_false, not_false_eq_true, if_true, if_false, false_and, and_false]
        exact h0
      · obtain ⟨l', rfl⟩ : ∃ l', l = l' + 1 := ⟨l - 1, by omega⟩
        have hne : ¬ nI (l' + 1) = 0 := by rw [show (0 : Int32) = nI 0 from rfl, ni_eq (by omega) (by omega)]; omega
        have h0 := ih (p + 1) (by omega) l' (by rw [cnt_t (dB_t.mpr c)]; omega)
        first | rw [br_p (hne)] | rw [br_r (hne)] | rw [br_s (hne)]
        simp +decide only [qX10_reach_0, qX10_reach_1, ni_dec, ni_add1, am_w1_i, am_w1_r, am_w1_x, am_w1_l, am_w1_w, va_rf_s, am_push_n, am_push_s, am_cs_0, am_cs_i, am_cs_l, am_cs_r, m_uI_K, m_uI_N, m_uI_R, m_uI_L, m_uI_I, m_uL_K, m_uL_N, m_uL_R, m_uL_I, m_uL_L, m_uR_K, m_uR_N, m_uR_I, m_uR_L, m_uR_R, true_and, and_true, true_implies, false_implies, not_true_eq_false, not_false_eq_true, if_true, if_false, false_and, and_false]
        exact h0
    · have h0 := ih (p + 1) (by omega) l (by rw [cnt_f (fun w => c (dB_t.mp w))]; exact hl)
      first | rw [br_n (c)] | rw [br_q (c)] | rw [br_u (c)]
      simp +decide only [qX10_reach_0, qX10_reach_1, ni_add1, am_w1_i, am_w1_r, am_w1_x, am_w1_l, am_w1_w, va_rf_s, am_push_n, am_push_s, am_cs_0, am_cs_i, am_cs_l, am_cs_r, m_uI_K, m_uI_N, m_uI_R, m_uI_L, m_uI_I, m_uL_K, m_uL_N, m_uL_R, m_uL_I, m_uL_L, m_uR_K, m_uR_N, m_uR_I, m_uR_L, m_uR_R, true_and, and_true, true_implies, false_implies, not_true_eq_false, not_false_eq_true, if_true, if_false, false_and, and_false]
      exact h0
theorem x_reach (v t k : Int32) : XqO 120 [.int v, .int t, .int k] (aRch v t k) := by
  intro d M z D Q hD h hQ
  have hz := h.1.2.2.1
  have hL := h.1.1
  have hr := h.1.2.2.2.1
  have n8 := dN_8 hD
  have eS := fun v Q => x_isShip hD h (d + 19) v Q
  have em1 : (-1 : Int32).toInt = -1 := rfl
  unfold aRch at hQ
  rw [eX10_reach]
  simp +decide only [qX10_reach_0, qX10_reach_1, lx hL, eS, c_x_isHour, bI_0, Classical.not_not, am_w1_i, am_w1_r, am_w1_x, am_w1_l, am_w1_w, va_rf_s, am_push_n, am_push_s, am_cs_0, am_cs_i, am_cs_l, am_cs_r, m_uI_K, m_uI_N, m_uI_R, m_uI_L, m_uI_I, m_uL_K, m_uL_N, m_uL_R, m_uL_I, m_uL_L, m_uR_K, m_uR_N, m_uR_I, m_uR_L, m_uR_R, true_and, and_true, true_implies, false_implies, not_true_eq_false, not_false_eq_true, if_true, if_false, false_and, and_false]
  by_cases hv : 0 ≤ v.toInt ∧ v.toInt < dN D
  · first | rw [br_p (hv)] | rw [br_r (hv)] | rw [br_s (hv)]
    by_cases ht : 0 ≤ t.toInt ∧ t.toInt < 48
    · first | rw [br_p (ht)] | rw [br_r (ht)] | rw [br_s (ht)]
      by_cases hk : (-1 : Int32) ≤ k
      · first | rw [br_p (hk)] | rw [br_r (hk)] | rw [br_s (hk)]
        have hk' : -1 ≤ k.toInt := by rw [le32, em1] at hk; exact hk
        rw [if_pos ⟨hv, ht, hk'⟩] at hQ
        obtain ⟨s, s1, s2, s3⟩ := sh_of (by omega) hv
        rw [s3] at hQ
        have et : t = nI t.toInt.toNat := i32_of (by omega) (by omega)
        rw [s2, et]
        refine x_settled hD h (d + 14) s1 _ (fun M1 g1 X1 _ S1 => ?_)
        have h0 := hQ M1 g1 X1
        have ht1 := lt_ X1.1.1 (isTr_of (show s < 8 by omega))
        simp +decide only [qX10_reach_0, qX10_reach_1, Classical.not_not, am_w1_i, am_w1_r, am_w1_x, am_w1_l, am_w1_w, va_rf_s, am_push_n, am_push_s, am_cs_0, am_cs_i, am_cs_l, am_cs_r, m_uI_K, m_uI_N, m_uI_R, m_uI_L, m_uI_I, m_uL_K, m_uL_N, m_uL_R, m_uL_I, m_uL_L, m_uR_K, m_uR_N, m_uR_I, m_uR_L, m_uR_R, true_and, and_true, true_implies, false_implies, not_true_eq_false, not_false_eq_true, if_true, if_false, false_and, and_false]
        by_cases k0 : k = -1
        · rw [if_pos k0] at h0
          first | rw [br_p (k0)] | rw [br_r (k0)] | rw [br_s (k0)]
          have ec := fun Q => c_x_countMay (d + 17) s t.toInt.toNat M1 Q X1.1.1 (by omega) (by omega)
          have e1 : cnt (fun p => dB (inS (my4 M1 s t.toInt.toNat) p)) 256 = dMc D s t.toInt.toNat := by
            unfold dMc
            congr 1
            funext p
            exact congrArg dB (propext (S1.2.2.2.2 t.toInt.toNat (by omega) p))
          simp +decide only [qX10_reach_0, qX10_reach_1, ht1, ec, e1, am_w1_i, am_w1_r, am_w1_x, am_w1_l, am_w1_w, va_rf_s, am_push_n, am_push_s, am_cs_0, am_cs_i, am_cs_l, am_cs_r, m_uI_K, m_uI_N, m_uI_R, m_uI_L, m_uI_I, m_uL_K, m_uL_N, m_uL_R, m_uL_I, m_uL_L, m_uR_K, m_uR_N, m_uR_I, m_uR_L, m_uR_R, true_and, and_true, true_implies, false_implies, not_true_eq_false, not_false_eq_true, if_true, if_false, false_and, and_false]
          exact h0
        · rw [if_neg k0] at h0
          first | rw [br_n (k0)] | rw [br_q (k0)] | rw [br_u (k0)]
          have k1 : ¬ k.toInt = -1 := fun q => k0 (Int32.toInt_inj.mp q)
          have ek : k = nI k.toInt.toNat := i32_of (by omega) (by have := Int32.toInt_lt k; omega)
          have h9 := l_x_reach (d + 19) z s t.toInt.toNat k.toInt.toNat D M1 Q hD X1 s1 (by omega) S1 (by have := Int32.toInt_lt k; omega) (nI s) k (fun x hx => by rw [the_e rcQ_1 hx] at h0; exact h0) 256 0 (by omega) k.toInt.toNat (by simp [cnt])
          rw [← ek] at h9
          exact h9
      · first | rw [br_n (hk)] | rw [br_q (hk)] | rw [br_u (hk)]
        have h0 := hQ M (XR_2 h) h
        rw [if_neg (fun q => hk (by rw [le32, em1]; exact q.2.2))] at h0
        exact h0
    · have h0 := hQ M (XR_2 h) h
      rw [if_neg (fun q => ht q.2.1)] at h0
      first | rw [br_n (ht)] | rw [br_q (ht)] | rw [br_u (ht)]
      exact h0
  · have h0 := hQ M (XR_2 h) h
    rw [if_neg (fun q => hv q.1)] at h0
    first | rw [br_n (hv)] | rw [br_q (hv)] | rw [br_u (hv)]
    exact h0
theorem dMy_v {D : Dat} {s t p : Nat} (hD : dOK D) (hs : s < dN D) (h : dMy D s t p) : vld (dC D) (dR D) p := ((dWt_v hD hs p).mp h.2.1).1
theorem l_m_reach (d b s t k : Nat) (D : Dat) (M : am_M) (Q : Option Value → am_M → Prop) (hD : dOK D) (hL : Lay M) (h : MdM M b D) (hs : s < dN D) (ht : t < 48) (hY : LyM M (dC D) (dR D) (dWt D s) (dV D s) (dSn D s) (dBs D s) (dY D s)) (hk : k < 2147483648) (x3 : Int32)
    (hQ : ∀ x, rcQ D s t k x → Q (some (.int x)) M) :
    ∀ (m c : Nat), c + m = dC D * dR D → ∀ l, cnt (fun c => dB (dMy D s t (plc (dC D) c))) c + l = k → am_P am_P0 (d + 2) (am_look tX11_reach) 40 [.ref 277, .int (nI s), .int (nI t), .int x3, .int (nI l), .int (nI c)] [] M Q := by
  have n8 := dN_8 hD
  have hCR : dC D * dR D ≤ 16 * 16 := Nat.mul_le_mul hD.1.1.1 hD.1.1.2
  have ec := fun Q => c_m_cells (d + 1) M Q hL b (dC D) (dR D) h.1.1 h.1.2 h.2.1.1 h.2.1.2
  have kat : ∀ p, vld (dC D) (dR D) p → cnt (fun p => dB (dMy D s t p)) p = cnt (fun c => dB (dMy D s t (plc (dC D) c))) (cel (dC D) p) := fun p hp => cnt_at (P := fun p => dMy D s t p) hD.1.1.1 (fun p q => dMy_v hD hs q) hp
  intro m
  induction m with
  | zero =>
    intro c hc l hl
    have h0 := hQ (-1) (Or.inr ⟨fun p hp hm => by
      have hv := dMy_v hD hs hm
      have hcl := (cel_lt hD.1.1.1 hD.1.1.2 hv).1
      have e := plc_v hD.1.1.1 (dOK_1 hD hs).1 hcl
      have e2 : plc (dC D) (cel (dC D) p) = p := cel_inj e.1 hv e.2
      have := cnt_in (g := fun c => dB (dMy D s t (plc (dC D) c))) (a := cel (dC D) p) (b := c) (by omega) (by rw [e2]; exact dB_t.mpr hm)
      rw [kat p hv]
      omega, rfl⟩)
    have hle : nI (dC D * dR D) ≤ nI c := (ni_le (by omega) (by omega)).mpr (by omega)
    rw [hX11_reach_40]
    simp +decide only [qX11_reach_0, qX11_reach_1, lm hL, ec, am_w1_i, am_w1_r, am_w1_x, am_w1_l, am_w1_w, va_rf_s, am_push_n, am_push_s, am_cs_0, am_cs_i, am_cs_l, am_cs_r, m_uI_K, m_uI_N, m_uI_R, m_uI_L, m_uI_I, m_uL_K, m_uL_N, m_uL_R, m_uL_I, m_uL_L, m_uR_K, m_uR_N, m_uR_I, m_uR_L, m_uR_R, true_and, and_true, true_implies, false_implies, not_true_eq_false, not_false_eq_true, if_true, if_false, false_and, and_false]
    first | rw [br_p (hle)] | rw [br_r (hle)] | rw [br_s (hle)]
    exact h0
  | succ m ih =>
    intro c hc l hl
    have hlt : ¬ nI (dC D * dR D) ≤ nI c := by rw [ni_le (by omega) (by omega)]; omega
    have hcl : c < dC D * dR D := by omega
    have hp := plc_v hD.1.1.1 (dOK_1 hD hs).1 hcl
    have em := fun Q => m_mayBe hD hL h hs d Q hY hp.1 ht
    rw [hp.2] at em
    have hl0 : ¬ nI l < 0 := by rw [lt32, z32, ni_ti (by omega)]; omega
    rw [hX11_reach_40]
    simp +decide only [qX11_reach_0, qX11_reach_1, lm hL, ec, em, tI_0, Classical.not_not, am_w1_i, am_w1_r, am_w1_x, am_w1_l, am_w1_w, va_rf_s, am_push_n, am_push_s, am_cs_0, am_cs_i, am_cs_l, am_cs_r, m_uI_K, m_uI_N, m_uI_R, m_uI_L, m_uI_I, m_uL_K, m_uL_N, m_uL_R, m_uL_I, m_uL_L, m_uR_K, m_uR_N, m_uR_I, m_uR_L, m_uR_R, true_and, and_true, true_implies, false_implies, not_true_eq_false, not_false_eq_true, if_true, if_false, false_and, and_false]
    first | rw [br_n (hlt)] | rw [br_q (hlt)] | rw [br_u (hlt)]
    first | rw [br_n (hl0)] | rw [br_q (hl0)] | rw [br_u (hl0)]
    by_cases cm : dMy D s t (plc (dC D) c)
    · first | rw [br_p (cm)] | rw [br_r (cm)] | rw [br_s (cm)]
      by_cases l0 : l = 0
      · subst l0
        have h0 := hQ _ (Or.inl ⟨plc (dC D) c, (cel_lt hD.1.1.1 hD.1.1.2 hp.1).2.2, cm, by rw [kat _ hp.1, hp.2]; omega, rfl⟩)
        rw [hp.2] at h0
        simp +decide only [show nI 0 = (0 : Int32) from rfl, qX11_reach_0, qX11_reach_1, am_w1_i, am_w1_r, am_w1_x, am_w1_l, am_w1_w, va_rf_s, am_push_n, am_push_s, am_cs_0, am_cs_i, am_cs_l, am_cs_r, m_uI_K, m_uI_N, m_uI_R, m_uI_L, m_uI_I, m_uL_K, m_uL_N, m_uL_R, m_uL_I, m_uL_L, m_uR_K, m_uR_N, m_uR_I, m_uR_L, m_uR_R, true_and, and_true, true_implies, false_implies, not_true_eq_false, not_false_eq_true, if_true, if_false, false_and, and_false]
        exact h0
      · obtain ⟨l', rfl⟩ : ∃ l', l = l' + 1 := ⟨l - 1, by omega⟩
        have hne : ¬ nI (l' + 1) = 0 := by rw [show (0 : Int32) = nI 0 from rfl, ni_eq (by omega) (by omega)]; omega
        have h0 := ih (c + 1) (by omega) l' (by rw [cnt_t (dB_t.mpr cm)]; omega)
        first | rw [br_n (hne)] | rw [br_q (hne)] | rw [br_u (hne)]
        simp +decide only [qX11_reach_0, qX11_reach_1, ni_dec, ni_add1, am_w1_i, am_w1_r, am_w1_x, am_w1_l, am_w1_w, va_rf_s, am_push_n, am_push_s, am_cs_0, am_cs_i, am_cs_l, am_cs_r, m_uI_K, m_uI_N, m_uI_R, m_uI_L, m_uI_I, m_uL_K, m_uL_N, m_uL_R, m_uL_I, m_uL_L, m_uR_K, m_uR_N, m_uR_I, m_uR_L, m_uR_R, true_and, and_true, true_implies, false_implies, not_true_eq_false, not_false_eq_true, if_true, if_false, false_and, and_false]
        exact h0
    · have h0 := ih (c + 1) (by omega) l (by rw [cnt_f (fun w => cm (dB_t.mp w))]; exact hl)
      first | rw [br_n (cm)] | rw [br_q (cm)] | rw [br_u (cm)]
      simp +decide only [qX11_reach_0, qX11_reach_1, ni_add1, am_w1_i, am_w1_r, am_w1_x, am_w1_l, am_w1_w, va_rf_s, am_push_n, am_push_s, am_cs_0, am_cs_i, am_cs_l, am_cs_r, m_uI_K, m_uI_N, m_uI_R, m_uI_L, m_uI_I, m_uL_K, m_uL_N, m_uL_R, m_uL_I, m_uL_L, m_uR_K, m_uR_N, m_uR_I, m_uR_L, m_uR_R, true_and, and_true, true_implies, false_implies, not_true_eq_false, not_false_eq_true, if_true, if_false, false_and, and_false]
      exact h0
theorem m_reach (v t k : Int32) : MqO 256 [.int v, .int t, .int k] (aRch v t k) := by
  intro d M b D Q hD hL h hQ
  have n8 := dN_8 hD
  have hCR : dC D * dR D ≤ 16 * 16 := Nat.mul_le_mul hD.1.1.1 hD.1.1.2
  have eH := fun x Q => c_m_isHour (d + 18) x M Q
  have eS := fun v Q => m_isShip hD hL h (d + 18) v Q
  unfold aRch at hQ
  rw [eX11_reach]
  simp +decide only [qX11_reach_0, qX11_reach_1, lm hL, eH, eS, bI_0, Classical.not_not, am_w1_i, am_w1_r, am_w1_x, am_w1_l, am_w1_w, va_rf_s, am_push_n, am_push_s, am_cs_0, am_cs_i, am_cs_l, am_cs_r, m_uI_K, m_uI_N, m_uI_R, m_uI_L, m_uI_I, m_uL_K, m_uL_N, m_uL_R, m_uL_I, m_uL_L, m_uR_K, m_uR_N, m_uR_I, m_uR_L, m_uR_R, true_and, and_true, true_implies, false_implies, not_true_eq_false, not_false_eq_true, if_true, if_false, false_and, and_false]
  by_cases hv : 0 ≤ v.toInt ∧ v.toInt < dN D
  · first | rw [br_p (hv)] | rw [br_r (hv)] | rw [br_s (hv)]
    by_cases ht : 0 ≤ t.toInt ∧ t.toInt < 48
    · first | rw [br_p (ht)] | rw [br_r (ht)] | rw [br_s (ht)]
      obtain ⟨s, s1, s2, s3⟩ := sh_of (by omega) hv
      rw [s3] at hQ
      have et : t = nI t.toInt.toNat := i32_of (by omega) (by omega)
      rw [s2, et]
      refine m_laysS hD hL h s1 (d + 12) _ (fun M1 g1 y1 => ?_)
      have h0 := hQ M1 g1
      have L1 := gF_LayN g1 hL
      have h1 := MdM_q h g1
      simp +decide only [qX11_reach_0, qX11_reach_1, Classical.not_not, am_w1_i, am_w1_r, am_w1_x, am_w1_l, am_w1_w, va_rf_s, am_push_n, am_push_s, am_cs_0, am_cs_i, am_cs_l, am_cs_r, m_uI_K, m_uI_N, m_uI_R, m_uI_L, m_uI_I, m_uL_K, m_uL_N, m_uL_R, m_uL_I, m_uL_L, m_uR_K, m_uR_N, m_uR_I, m_uR_L, m_uR_R, true_and, and_true, true_implies, false_implies, not_true_eq_false, not_false_eq_true, if_true, if_false, false_and, and_false]
      by_cases k0 : k = -1
      · rw [if_pos ⟨hv, ht, by rw [k0]; decide⟩, if_pos k0] at h0
        first | rw [br_p (k0)] | rw [br_r (k0)] | rw [br_s (k0)]
        have ec := fun Q => m_cellsOf hD L1 h1 s1 (d + 17) Q y1 (t := t.toInt.toNat) (by omega)
        simp +decide only [qX11_reach_0, qX11_reach_1, lm L1, ec, am_w1_i, am_w1_r, am_w1_x, am_w1_l, am_w1_w, va_rf_s, am_push_n, am_push_s, am_cs_0, am_cs_i, am_cs_l, am_cs_r, m_uI_K, m_uI_N, m_uI_R, m_uI_L, m_uI_I, m_uL_K, m_uL_N, m_uL_R, m_uL_I, m_uL_L, m_uR_K, m_uR_N, m_uR_I, m_uR_L, m_uR_R, true_and, and_true, true_implies, false_implies, not_true_eq_false, not_false_eq_true, if_true, if_false, false_and, and_false]
        exact h0
      · first | rw [br_n (k0)] | rw [br_q (k0)] | rw [br_u (k0)]
        have k1 : ¬ k.toInt = -1 := fun q => k0 (Int32.toInt_inj.mp q)
        by_cases kn : -1 ≤ k.toInt
        · rw [if_pos ⟨hv, ht, kn⟩, if_neg k0] at h0
          have ek : k = nI k.toInt.toNat := i32_of (by omega) (by have := Int32.toInt_lt k; omega)
          have h9 := l_m_reach (d + 18) b s t.toInt.toNat k.toInt.toNat D M1 Q hD L1 h1 s1 (by omega) y1 (by have := Int32.toInt_lt k; omega) k (fun x hx => by rw [the_e rcQ_1 hx] at h0; exact h0) (dC D * dR D) 0 (by omega) k.toInt.toNat (by simp [cnt])
          rw [← ek] at h9
          exact h9
        · rw [if_neg (fun q => kn q.2.2)] at h0
          have ec := fun Q => c_m_cells (d + 19) M1 Q L1 b (dC D) (dR D) h1.1.1 h1.1.2 h1.2.1.1 h1.2.1.2
          have kl : k < 0 := by rw [lt32, z32]; omega
          rw [hX11_reach_40]
          simp +decide only [qX11_reach_0, qX11_reach_1, lm L1, ec, am_w1_i, am_w1_r, am_w1_x, am_w1_l, am_w1_w, va_rf_s, am_push_n, am_push_s, am_cs_0, am_cs_i, am_cs_l, am_cs_r, m_uI_K, m_uI_N, m_uI_R, m_uI_L, m_uI_I, m_uL_K, m_uL_N, m_uL_R, m_uL_I, m_uL_L, m_uR_K, m_uR_N, m_uR_I, m_uR_L, m_uR_R, true_and, and_true, true_implies, false_implies, not_true_eq_false, not_false_eq_true, if_true, if_false, false_and, and_false]
          by_cases c : nI (dC D * dR D) ≤ 0
          · first | rw [br_p (c)] | rw [br_r (c)] | rw [br_s (c)]
            exact h0
          · first | rw [br_n (c)] | rw [br_q (c)] | rw [br_u (c)]
            first | rw [br_p (kl)] | rw [br_r (kl)] | rw [br_s (kl)]
            exact h0
    · have h0 := hQ M (gF_refl _ _ _)
      rw [if_neg (fun q => ht q.2.1)] at h0
      first | rw [br_n (ht)] | rw [br_q (ht)] | rw [br_u (ht)]
      exact h0
  · have h0 := hQ M (gF_refl _ _ _)
    rw [if_neg (fun q => hv q.1)] at h0
    first | rw [br_n (hv)] | rw [br_q (hv)] | rw [br_u (hv)]
    exact h0
theorem op_reach (v t k : Int32) : OpI 120 256 [.int v, .int t, .int k] isI := op_q (fun D => ⟨_, rfl⟩) (x_reach v t k) (m_reach v t k)
