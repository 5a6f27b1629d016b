/-! the model: met -/
section
variable (d b s o : Nat) (D : Dat) (M : am_M) (Q : Option Value → am_M → Prop)
theorem l_m_met4 (hD : dOK D) (hL : Lay M) (h : MdM M b D) (hs : s < dN D) (ho : o < dN D) (hY : LyM M (dC D) (dR D) (dWt D o) (dV D o) (dSn D o) (dBs D o) (dY D o)) (hF : FmP M D s 48) (t : Nat) (ht : t < 48) (hch : chD D s true t) (x3 x4 x5 x6 : Int32)
    (hN : am_P am_P0 (d + 2) (am_look tX11_met) 235 [.ref 277, .int (nI s), .int (nI o), .int x3, .int x4, .int x5, .int x6, .int (nI t), .int (nI (mtN D s o t)), .int (nI (dC D * dR D))] [] M Q) :
    ∀ (m c : Nat), c + m = dC D * dR D → am_P am_P0 (d + 2) (am_look tX11_met) 181 [.ref 277, .int (nI s), .int (nI o), .int x3, .int x4, .int x5, .int x6, .int (nI t), .int (nI (cnt (fun c => dB (dMy D s t (plc (dC D) c) ∧ dMy D o t (plc (dC D) c))) c)), .int (nI c)] [] M Q := by
  have n8 := dN_8 hD
  have hCR : dC D * dR D ≤ 16 * 16 := Nat.mul_le_mul hD.1.1.1 hD.1.1.2
  have hC1 := dOK_1 hD hs
  have ec := fun Q => c_m_cells (d + 1) M Q hL b (dC D) (dR D) h.1.1 h.1.2 h.2.1.1 h.2.1.2
  intro m
  induction m with
  | zero =>
    intro c hc
    have ecc : c = dC D * dR D := by omega
    have hle : nI (dC D * dR D) ≤ nI c := (ni_le (by omega) (by omega)).mpr (by omega)
    have e : cnt (fun c => dB (dMy D s t (plc (dC D) c) ∧ dMy D o t (plc (dC D) c))) (dC D * dR D) = mtN D s o t := (cnt_places (P := fun p => dMy D s t p ∧ dMy D o t p) hD.1.1.1 hD.1.1.2 (fun p q => dMy_v hD hs q.1)).symm
    rw [hX11_met_181]
    simp +decide only [qX11_met_0, qX11_met_1, qX11_met_2, qX11_met_3, lm hL, ec, am_w1_i, am_w1_r, am_w1_x, am_w1_l, am_w1_w, va_rf_s, am_push_n, am_push_s, am_cs_0, am_cs_i, am_cs_l, am_cs_r, m_uI_K, m_uI_N, m_uI_R, m_uI_L, m_uI_I, m_uL_K, m_uL_N, m_uL_R, m_uL_I, m_uL_L, m_uR_K, m_uR_N, m_uR_I, m_uR_L, m_uR_R, true_and, and_true, true_implies, false_implies, not_true_eq_false, not_false_eq_true, if_true, if_false, false_and, and_false] at hN ⊢
    first | rw [br_p (hle)] | rw [br_r (hle)] | rw [br_s (hle)]
    rw [ecc, e]
    exact hN
  | succ m ih =>
    intro c hc
    have hlt : ¬ nI (dC D * dR D) ≤ nI c := by rw [ni_le (by omega) (by omega)]; omega
    have hcl : c < dC D * dR D := by omega
    have hp := plc_v hD.1.1.1 hC1.1 hcl
    have em := fun Q => m_mayBe hD hL h ho d Q hY hp.1 ht
    rw [hp.2] at em
    have hf := (hF t ht).2 c hcl
    rw [tI_i (q := dMy D s t (plc (dC D) c)) ⟨fun q => q.2, fun q => ⟨hch, q⟩⟩] at hf
    have e256 : (256 : Int32) * nI t + nI c = nI (256 * t + c) := by rw [show (256 : Int32) = nI 256 from rfl, ni_mul, ni_add]
    have h0 := ih (c + 1) (by omega)
    rw [hX11_met_181]
    simp +decide (disch := omega) only [qX11_met_0, qX11_met_1, qX11_met_2, qX11_met_3, lm hL, ec, em, hf, e256, tI_01, tI_0, ni_in_t, ni_tn, ni_add1, am_w1_i, am_w1_r, am_w1_x, am_w1_l, am_w1_w, va_rf_s, am_push_n, am_push_s, am_cs_0, am_cs_i, am_cs_l, am_cs_r, m_uI_K, m_uI_N, m_uI_R, m_uI_L, m_uI_I, m_uL_K, m_uL_N, m_uL_R, m_uL_I, m_uL_L, m_uR_K, m_uR_N, m_uR_I, m_uR_L, m_uR_R, true_and, and_true, true_implies, false_implies, not_true_eq_false, not_false_eq_true, if_true, if_false, false_and, and_false]
    first | rw [br_n (hlt)] | rw [br_q (hlt)] | rw [br_u (hlt)]
    by_cases c1 : dMy D s t (plc (dC D) c)
    · first | rw [br_p (c1)] | rw [br_r (c1)] | rw [br_s (c1)]
      by_cases c2 : dMy D o t (plc (dC D) c)
      · rw [cnt_t (dB_t.mpr ⟨c1, c2⟩)] at h0
        first | rw [br_p (c2)] | rw [br_r (c2)] | rw [br_s (c2)]
        exact h0
      · rw [cnt_f (fun q => c2 (dB_t.mp q).2)] at h0
        first | rw [br_n (c2)] | rw [br_q (c2)] | rw [br_u (c2)]
        rw [show (0 : Int32) = nI 0 from rfl, ni_add]
        exact h0
    · rw [cnt_f (fun q => c1 (dB_t.mp q).1)] at h0
      first | rw [br_n (c1)] | rw [br_q (c1)] | rw [br_u (c1)]
      rw [show (0 : Int32) = nI 0 from rfl, ni_add]
      exact h0
theorem l_m_met3 (hD : dOK D) (hL : Lay M) (h : MdM M b D) (hs : s < dN D) (ho : o < dN D) (hY : LyM M (dC D) (dR D) (dWt D o) (dV D o) (dSn D o) (dBs D o) (dY D o)) (hF : FmP M D s 48) (w : Int32) (hw : 0 ≤ w.toInt ∧ w.toInt ≤ 2) (hQ : Q (some (.int (mtA D s o w))) M) :
    ∀ (m t : Nat), t + m = 48 → ∀ (v8 v9 : Value), jk v8 → jk v9 → am_P am_P0 (d + 2) (am_look tX11_met) 144 [.ref 277, .int (nI s), .int (nI o), .int w, .int (nI (cnt (mtB D s o) t)), .int (oI (fs (mtB D s o) t) t), .int (nI (sumF (mtH D s o) t)), .int (nI t), v8, v9] [] M Q := by
  intro m
  induction m with
  | zero =>
    intro t ht v8 v9 j8 j9
    have et : t = 48 := by omega
    subst et
    unfold mtA at hQ
    rw [hX11_met_144]
    simp +decide only [qX11_met_0, qX11_met_1, qX11_met_2, qX11_met_3, show nI 48 = (48 : Int32) from rfl, Classical.not_not, am_w1_i, am_w1_r, am_w1_x, am_w1_l, am_w1_w, va_rf_s, am_push_n, am_push_s, am_cs_0, am_cs_i, am_cs_l, am_cs_r, m_uI_K, m_uI_N, m_uI_R, m_uI_L, m_uI_I, m_uL_K, m_uL_N, m_uL_R, m_uL_I, m_uL_L, m_uR_K, m_uR_N, m_uR_I, m_uR_L, m_uR_R, true_and, and_true, true_implies, false_implies, not_true_eq_false, not_false_eq_true, if_true, if_false, false_and, and_false]
    by_cases c : w = 0
    · rw [if_pos (by rw [c]; rfl)] at hQ
      first | rw [br_p (c)] | rw [br_r (c)] | rw [br_s (c)]
      exact hQ
    · have c' : ¬ w.toInt = 0 := fun q => c (Int32.toInt_inj.mp q)
      rw [if_neg c'] at hQ
      first | rw [br_n (c)] | rw [br_q (c)] | rw [br_u (c)]
      by_cases c1 : w = 1
      · rw [if_pos (by rw [c1]; rfl)] at hQ
        first | rw [br_p (c1)] | rw [br_r (c1)] | rw [br_s (c1)]
        exact hQ
      · have c1' : ¬ w.toInt = 1 := fun q => c1 (Int32.toInt_inj.mp q)
        rw [if_neg c1'] at hQ
        first | rw [br_n (c1)] | rw [br_q (c1)] | rw [br_u (c1)]
        exact hQ
  | succ m ih =>
    intro t ht v8 v9 j8 j9
    have hlt : ¬ (48 : Int32) ≤ nI t := by rw [show (48 : Int32) = nI 48 from rfl, ni_le (by omega) (by omega)]; omega
    have hf := (hF t (by omega)).1
    have hle := mtH_le D s o t
    have hsm := mt_sum D s o t (by omega)
    have hcn := cnt_le (mtB D s o) t
    have skip : mtH D s o t = 0 → ∀ v8' v9', jk v8' → jk v9' → am_P am_P0 (d + 2) (am_look tX11_met) 144 [.ref 277, .int (nI s), .int (nI o), .int w, .int (nI (cnt (mtB D s o) t)), .int (oI (fs (mtB D s o) t) t), .int (nI (sumF (mtH D s o) t)), .int (nI (t + 1)), v8', v9'] [] M Q := fun c v8' v9' j8' j9' => by
      have h0 := ih (t + 1) (by omega) v8' v9' j8' j9'
      have hff : ¬ mtB D s o t = true := by unfold mtB; simp; omega
      rw [oI_s, show sumF (mtH D s o) (t + 1) = sumF (mtH D s o) t + mtH D s o t from rfl, cnt_f hff, c, Nat.add_zero] at h0
      by_cases q : fs (mtB D s o) t < t
      · rw [if_pos q] at h0
        exact h0
      · rw [if_neg q, if_neg hff] at h0
        rw [show oI (fs (mtB D s o) t) t = -1 from by unfold oI; rw [if_neg q]]
        exact h0
    rw [hX11_met_144]
    simp +decide (disch := omega) only [qX11_met_0, qX11_met_1, qX11_met_2, qX11_met_3, lm hL, hf, tI_01, tI_0, jk_w j8, jk_w j9, ni_in_t, ni_tn, ni_add1, am_w1_i, am_w1_r, am_w1_x, am_w1_l, am_w1_w, va_rf_s, am_push_n, am_push_s, am_cs_0, am_cs_i, am_cs_l, am_cs_r, m_uI_K, m_uI_N, m_uI_R, m_uI_L, m_uI_I, m_uL_K, m_uL_N, m_uL_R, m_uL_I, m_uL_L, m_uR_K, m_uR_N, m_uR_I, m_uR_L, m_uR_R, true_and, and_true, true_implies, false_implies, not_true_eq_false, not_false_eq_true, if_true, if_false, false_and, and_false]
    first | rw [br_n (hlt)] | rw [br_q (hlt)] | rw [br_u (hlt)]
    by_cases c1 : chD D s true t
    · first | rw [br_p (c1)] | rw [br_r (c1)] | rw [br_s (c1)]
      refine m_changes hD hL h ho (by omega) true hY.1 d _ ?_
      rw [show (!true) = false from rfl]
      simp +decide only [qX11_met_0, qX11_met_1, qX11_met_2, qX11_met_3, tI_0, jk_w j8, jk_w j9, ni_add1, Classical.not_not, am_w1_i, am_w1_r, am_w1_x, am_w1_l, am_w1_w, va_rf_s, am_push_n, am_push_s, am_cs_0, am_cs_i, am_cs_l, am_cs_r, m_uI_K, m_uI_N, m_uI_R, m_uI_L, m_uI_I, m_uL_K, m_uL_N, m_uL_R, m_uL_I, m_uL_L, m_uR_K, m_uR_N, m_uR_I, m_uR_L, m_uR_R, true_and, and_true, true_implies, false_implies, not_true_eq_false, not_false_eq_true, if_true, if_false, false_and, and_false]
      by_cases c2 : chD D o false t
      · first | rw [br_p (c2)] | rw [br_r (c2)] | rw [br_s (c2)]
        have em := mtH_t ⟨c1, c2⟩
        refine l_m_met4 d b s o D M Q hD hL h hs ho hY hF t (by omega) c1 w _ _ _ ?_ (dC D * dR D) 0 (by omega)
        rw [← em]
        simp +decide only [qX11_met_0, qX11_met_1, qX11_met_2, qX11_met_3, ni_add1, ni_add, Classical.not_not, am_w1_i, am_w1_r, am_w1_x, am_w1_l, am_w1_w, va_rf_s, am_push_n, am_push_s, am_cs_0, am_cs_i, am_cs_l, am_cs_r, m_uI_K, m_uI_N, m_uI_R, m_uI_L, m_uI_I, m_uL_K, m_uL_N, m_uL_R, m_uL_I, m_uL_L, m_uR_K, m_uR_N, m_uR_I, m_uR_L, m_uR_R, true_and, and_true, true_implies, false_implies, not_true_eq_false, not_false_eq_true, if_true, if_false, false_and, and_false]
        have ez : nI (mtH D s o t) = 0 ↔ mtH D s o t = 0 := by rw [show (0 : Int32) = nI 0 from rfl, ni_eq (by omega) (by omega)]
        rw [ez]
        by_cases c : mtH D s o t = 0
        · first | rw [br_p (c)] | rw [br_r (c)] | rw [br_s (c)]
          exact skip c _ _ (Or.inr ⟨_, rfl⟩) (Or.inr ⟨_, rfl⟩)
        · first | rw [br_n (c)] | rw [br_q (c)] | rw [br_u (c)]
          have h0 := ih (t + 1) (by omega) (.int (nI (mtH D s o t))) (.int (nI (dC D * dR D))) (Or.inr ⟨_, rfl⟩) (Or.inr ⟨_, rfl⟩)
          have hff : mtB D s o t = true := by unfold mtB; simp; omega
          rw [oI_s, show sumF (mtH D s o) (t + 1) = sumF (mtH D s o) t + mtH D s o t from rfl, cnt_t hff] at h0
          by_cases q : fs (mtB D s o) t < t
          · rw [if_pos q] at h0
            have hne : ¬ oI (fs (mtB D s o) t) t = -1 := by unfold oI; rw [if_pos q]; exact nI_m1 (by omega)
            first | rw [br_n (hne)] | rw [br_q (hne)] | rw [br_u (hne)]
            exact h0
          · rw [if_neg q, if_pos hff] at h0
            have e : oI (fs (mtB D s o) t) t = -1 := by unfold oI; rw [if_neg q]
            first | rw [br_p (e)] | rw [br_r (e)] | rw [br_s (e)]
            exact h0
      · first | rw [br_n (c2)] | rw [br_q (c2)] | rw [br_u (c2)]
        exact skip (mtH_f (fun q => c2 q.2)) v8 v9 j8 j9
    · first | rw [br_n (c1)] | rw [br_q (c1)] | rw [br_u (c1)]
      exact skip (mtH_f (fun q => c1 q.1)) v8 v9 j8 j9
end
theorem m_met (v u w : Int32) : MzO 278 [.int v, .int u, .int w] (aMet v u w) := by
  intro d M b D Q hD hL h hQ
  have n8 := dN_8 hD
  have eS := fun v Q => m_isShip hD hL h (d + 18) v Q
  have e2 : (2 : Int32).toInt = 2 := rfl
  unfold aMet at hQ
  rw [eX11_met]
  simp +decide only [qX11_met_0, qX11_met_1, qX11_met_2, qX11_met_3, lm hL, eS, c_m_is, bI_0, Classical.not_not, am_w1_i, am_w1_r, am_w1_x, am_w1_l, am_w1_w, va_rf_s, am_push_n, am_push_s, am_cs_0, am_cs_i, am_cs_l, am_cs_r, m_uI_K, m_uI_N, m_uI_R, m_uI_L, m_uI_I, m_uL_K, m_uL_N, m_uL_R, m_uL_I, m_uL_L, m_uR_K, m_uR_N, m_uR_I, m_uR_L, m_uR_R, true_and, and_true, true_implies, false_implies, not_true_eq_false, not_false_eq_true, if_true, if_false, false_and, and_false]
  by_cases hv : 0 ≤ v.toInt ∧ v.toInt < dN D
  · first | rw [br_p (hv)] | rw [br_r (hv)] | rw [br_s (hv)]
    by_cases hu : 0 ≤ u.toInt ∧ u.toInt < dN D
    · first | rw [br_p (hu)] | rw [br_r (hu)] | rw [br_s (hu)]
      by_cases e : v = u
      · have h0 := hQ M (gF_refl _ _ _)
        rw [if_neg (fun q => q.1 e)] at h0
        first | rw [br_p (e)] | rw [br_r (e)] | rw [br_s (e)]
        exact h0
      · first | rw [br_n (e)] | rw [br_q (e)] | rw [br_u (e)]
        by_cases w2 : 0 ≤ w ∧ w ≤ 2
        · first | rw [br_p (w2)] | rw [br_r (w2)] | rw [br_s (w2)]
          rw [le32, le32, z32, e2] at w2
          rw [if_pos ⟨e, hv, hu, w2⟩] at hQ
          obtain ⟨s, s1, s2, s3⟩ := sh_of (by omega) hv
          obtain ⟨o, o1, o2, o3⟩ := sh_of (by omega) hu
          rw [s3, o3] at hQ
          rw [s2, o2]
          refine m_laysS hD hL h s1 (d + 12) _ (fun M1 g1 y1 => ?_)
          have L1 := gF_LayN g1 hL
          have h1 := MdM_q h g1
          have h9 := l_m_met1 (d + 18) b s o D M1 Q w hD L1 h1 s1 y1 am_x am_x am_x am_x (Or.inl rfl) (Or.inl rfl) (Or.inl rfl) (Or.inl rfl) (fun M2 v5 g2 j5 F2 => by
            have L2 := gF_LayN g2 L1
            have h2 := MdM_3 h1 g2
            simp +decide only [qX11_met_0, qX11_met_1, qX11_met_2, qX11_met_3, lm L2, jk_w j5, am_w1_i, am_w1_r, am_w1_x, am_w1_l, am_w1_w, va_rf_s, am_push_n, am_push_s, am_cs_0, am_cs_i, am_cs_l, am_cs_r, m_uI_K, m_uI_N, m_uI_R, m_uI_L, m_uI_I, m_uL_K, m_uL_N, m_uL_R, m_uL_I, m_uL_L, m_uR_K, m_uR_N, m_uR_I, m_uR_L, m_uR_R, true_and, and_true, true_implies, false_implies, not_true_eq_false, not_false_eq_true, if_true, if_false, false_and, and_false]
            obtain ⟨w1, w2', w3, w4, w5⟩ := mh hD h2 o1
            refine c_m_lays (d + 12) o b (dC D) (dR D) (dV D o) (dDp D) (dDr D o) (dLd D o) (dBk D) (dY D o) M2 _ L2 w1 (by omega) w2' w3 w4 (dY_len hD o) (fun M3 o3' y3 => ?_)
            rw [w5] at y3
            have g3 : gF sMq nT M2 M3 := gF_up (gF_o o3') (fun a j q => sMq_Y q) (fun _ _ q => q)
            have L3 := gF_LayN g3 L2
            have h3 := MdM_q h2 g3
            have F3 : FmP M3 D s 48 := fun t ht => ⟨by rw [g3.1 _ _ (by unfold sMq; omega)]; exact (F2 t ht).1, fun c hc => by rw [g3.1 _ _ (by unfold sMq; omega)]; exact (F2 t ht).2 c hc⟩
            have h0 := hQ M3 (gF_trans (gF_up g1 (fun a j q => Or.inl q) (fun _ _ q => q)) (gF_trans (gF_up g2 (fun a j q => by unfold s330 at q; unfold sMz; omega) (fun _ _ q => q)) (gF_up g3 (fun a j q => Or.inl q) (fun _ _ q => q))))
            have h8 := l_m_met3 (d + 18) b s o D M3 Q hD L3 h3 s1 o1 y3 F3 w w2 h0 48 0 (by omega) am_x am_x (Or.inl rfl) (Or.inl rfl)
            simp +decide only [qX11_met_0, qX11_met_1, qX11_met_2, qX11_met_3, am_w1_i, am_w1_r, am_w1_x, am_w1_l, am_w1_w, va_rf_s, am_push_n, am_push_s, am_cs_0, am_cs_i, am_cs_l, am_cs_r, m_uI_K, m_uI_N, m_uI_R, m_uI_L, m_uI_I, m_uL_K, m_uL_N, m_uL_R, m_uL_I, m_uL_L, m_uR_K, m_uR_N, m_uR_I, m_uR_L, m_uR_R, true_and, and_true, true_implies, false_implies, not_true_eq_false, not_false_eq_true, if_true, if_false, false_and, and_false]
            exact h8) 48 0 (by omega) M1 am_x (Or.inl rfl) (gF_refl _ _ _) (fun t ht => by omega)
          simp +decide only [qX11_met_0, qX11_met_1, qX11_met_2, qX11_met_3, am_w1_i, am_w1_r, am_w1_x, am_w1_l, am_w1_w, va_rf_s, am_push_n, am_push_s, am_cs_0, am_cs_i, am_cs_l, am_cs_r, m_uI_K, m_uI_N, m_uI_R, m_uI_L, m_uI_I, m_uL_K, m_uL_N, m_uL_R, m_uL_I, m_uL_L, m_uR_K, m_uR_N, m_uR_I, m_uR_L, m_uR_R, true_and, and_true, true_implies, false_implies, not_true_eq_false, not_false_eq_true, if_true, if_false, false_and, and_false]
          exact h9
        · have h0 := hQ M (gF_refl _ _ _)
          rw [if_neg (fun q => w2 (by rw [le32, le32, z32, e2]; exact q.2.2.2))] at h0
          first | rw [br_n (w2)] | rw [br_q (w2)] | rw [br_u (w2)]
          exact h0
    · have h0 := hQ M (gF_refl _ _ _)
      rw [if_neg (fun q => hu q.2.2.1)] at h0
      first | rw [br_n (hu)] | rw [br_q (hu)] | rw [br_u (hu)]
      exact h0
  · have h0 := hQ M (gF_refl _ _ _)
    rw [if_neg (fun q => hv q.2.1)] at h0
    first | rw [br_n (hv)] | rw [br_q (hv)] | rw [br_u (hv)]
    exact h0
theorem op_met (v u w : Int32) : OpI 130 278 [.int v, .int u, .int w] isI := op_z (fun D => ⟨_, rfl⟩) (x_met v u w) (m_met v u w)
