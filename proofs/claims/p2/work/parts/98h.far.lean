/-! cell, far, can -/
abbrev isCl (D : Dat) (x y : Int32) : Prop := (0 ≤ x.toInt ∧ x.toInt < dC D) ∧ (0 ≤ y.toInt ∧ y.toInt < dR D)
abbrev isHr (h : Int32) : Prop := 0 ≤ h.toInt ∧ h.toInt < 48
def plI (x y : Int32) : Nat := 16 * y.toInt.toNat + x.toInt.toNat
theorem cl_of {D : Dat} {x y : Int32} (hD : dOK D) (h : isCl D x y) : vld (dC D) (dR D) (plI x y) ∧ plI x y < 256 ∧ cel (dC D) (plI x y) = dC D * y.toInt.toNat + x.toInt.toNat ∧ 1 ≤ dC D ∧ 1 ≤ dR D ∧ x = nI x.toInt.toNat ∧ y = nI y.toInt.toNat := by
  have hC := hD.1.1.1
  have hR := hD.1.1.2
  obtain ⟨⟨h1, h2⟩, h3, h4⟩ := h
  have e1 : plI x y % 16 = x.toInt.toNat := by unfold plI; omega
  have e2 : plI x y / 16 = y.toInt.toNat := by unfold plI; omega
  exact ⟨⟨by omega, by omega⟩, by unfold plI; omega, by unfold cel; rw [e1, e2], by omega, by omega, i32_of (by omega) (by omega), i32_of (by omega) (by omega)⟩
theorem x_place {M : am_M} {z : Nat} {D : Dat} (hD : dOK D) (h : XR M z D) (d : Nat) (x y : Int32) (Q : Option Value → am_M → Prop) : am_E am_P0 d 56 [.ref z, .int x, .int y] M Q ↔ Q (some (.int (if isCl D x y then nI (plI x y) else -1))) M := x_placeAt hD h d x y Q
theorem m_MB {M : am_M} {b : Nat} {D : Dat} (hD : dOK D) (h : MdM M b D) (hC : 1 ≤ dC D) (hR : 1 ≤ dR D) : MB M b (dC D) (dR D) := ⟨h.1.1, h.1.2, h.2.1.1, h.2.1.2, hC, hD.1.1.1, hR, hD.1.1.2⟩
theorem m_atI {M : am_M} {b : Nat} {D : Dat} {x y : Int32} (hD : dOK D) (hL : Lay M) (h : MdM M b D) (hc : isCl D x y) (d : Nat) (Q : Option Value → am_M → Prop) : am_E am_P0 d 218 [.ref 277, .int x, .int y] M Q ↔ Q (some (.int (nI (cel (dC D) (plI x y))))) M := by
  obtain ⟨c1, c2, c3, c4, c5, c6, c7⟩ := cl_of hD hc
  rw [c3]
  have := c_m_at d x.toInt.toNat y.toInt.toNat M Q hL b (dC D) h.1.1 h.1.2 h.2.1.1
  rw [← c6, ← c7] at this
  exact this
noncomputable def aCel (x y t w : Int32) (D : Dat) : Value := .int (if isCl D x y ∧ isHr t then (if w.toInt = 0 then nI (dDp D (plI x y)) else if w.toInt = 1 then nI (dCs D (plI x y)) else if w.toInt = 2 then tI (dQt D (plI x y) t.toInt.toNat) else -1) else -1)
theorem x_cell (x y t w : Int32) : XqO 117 [.int x, .int y, .int t, .int w] (aCel x y t w) := by
  intro d M z D Q hD h hQ
  have hz := h.1.2.2.1
  have hL := h.1.1
  have hI := h.1.2.1
  have hr := h.1.2.2.2.1
  have eP := fun x y Q => x_place hD h (d + 19) x y Q
  unfold aCel at hQ
  rw [eX10_cell]
  simp +decide only [qX10_cell, lx hL, lz hL hz, hr, eP, c_x_isHour, bI_0, Classical.not_not, am_w1_i, am_w1_r, am_w1_x, am_w1_l, am_w1_w, va_rf_s, am_push_n, am_push_s, am_cs_0, am_cs_i, am_cs_l, am_cs_r, m_uI_K, m_uI_N, m_uI_R, m_uI_L, m_uI_I, m_uL_K, m_uL_N, m_uL_R, m_uL_I, m_uL_L, m_uR_K, m_uR_N, m_uR_I, m_uR_L, m_uR_R, true_and, and_true, true_implies, false_implies, not_true_eq_false, not_false_eq_true, if_true, if_false, false_and, and_false]
  by_cases hc : isCl D x y
  · obtain ⟨c1, c2, c3, c4, c5, c6, c7⟩ := cl_of hD hc
    rw [if_pos hc]
    have hne : ¬ nI (plI x y) = -1 := nI_m1 (by omega)
    first | rw [br_n (hne)] | rw [br_q (hne)] | rw [br_u (hne)]
    by_cases ht : 0 ≤ t.toInt ∧ t.toInt < 48
    · first | rw [br_p (ht)] | rw [br_r (ht)] | rw [br_s (ht)]
      rw [if_pos ⟨hc, ht⟩] at hQ
      have et : t = nI t.toInt.toNat := i32_of (by omega) (by omega)
      rcases sw_of w 3 (by omega) with ⟨n, n1, n2, n3⟩ | w1
      · rw [n3] at hQ
        rw [n2]
        rcases (by omega : n = 0 ∨ n = 1 ∨ n = 2) with e | e | e <;> subst e
        · have h0 := hQ M (XR_2 h) h
          have hd := (h.2.2.1.2.2.1 (plI x y) c2).2
          rw [show am_tab 0 [56, 67, 77] 91 (nI 0) = 56 from rfl]
          simp +decide (disch := omega) only [qX10_cell, lx hL, lz hL hz, hr, hd, ni_in_t, ni_tn, if_true, if_false, am_w1_i, am_w1_r, am_w1_x, am_w1_l, am_w1_w, va_rf_s, am_push_n, am_push_s, am_cs_0, am_cs_i, am_cs_l, am_cs_r, m_uI_K, m_uI_N, m_uI_R, m_uI_L, m_uI_I, m_uL_K, m_uL_N, m_uL_R, m_uL_I, m_uL_L, m_uR_K, m_uR_N, m_uR_I, m_uR_L, m_uR_R, true_and, and_true, true_implies, false_implies, not_true_eq_false, not_false_eq_true, if_true, if_false, false_and, and_false] at h0 ⊢
          exact h0
        · rw [show am_tab 0 [56, 67, 77] 91 (nI 1) = 67 from rfl]
          simp +decide (disch := omega) only [qX10_cell, lx hL, lz hL hz, hr, am_w1_i, am_w1_r, am_w1_x, am_w1_l, am_w1_w, va_rf_s, am_push_n, am_push_s, am_cs_0, am_cs_i, am_cs_l, am_cs_r, m_uI_K, m_uI_N, m_uI_R, m_uI_L, m_uI_I, m_uL_K, m_uL_N, m_uL_R, m_uL_I, m_uL_L, m_uR_K, m_uR_N, m_uR_I, m_uR_L, m_uR_R, true_and, and_true, true_implies, false_implies, not_true_eq_false, not_false_eq_true, if_true, if_false, false_and, and_false]
          refine c_x_costAt (d + 14) z (plI x y) (dDp D) (dCs D) (dQt D) M _ hL hI hz c2 h.2.2.1 (fun M1 f1 s1 => ?_)
          have h0 := hQ M1 (zF_up f1 (fun a j q => Or.inr (Or.inr (Or.inr (Or.inr q))))) (XR_mm hD h f1 s1)
          simp +decide (disch := omega) only [qX10_cell, if_true, if_false, am_w1_i, am_w1_r, am_w1_x, am_w1_l, am_w1_w, va_rf_s, am_push_n, am_push_s, am_cs_0, am_cs_i, am_cs_l, am_cs_r, m_uI_K, m_uI_N, m_uI_R, m_uI_L, m_uI_I, m_uL_K, m_uL_N, m_uL_R, m_uL_I, m_uL_L, m_uR_K, m_uR_N, m_uR_I, m_uR_L, m_uR_R, true_and, and_true, true_implies, false_implies, not_true_eq_false, not_false_eq_true, if_true, if_false, false_and, and_false] at h0 ⊢
          exact h0
        · rw [show am_tab 0 [56, 67, 77] 91 (nI 2) = 77 from rfl, et]
          simp +decide (disch := omega) only [qX10_cell, lx hL, lz hL hz, hr, am_w1_i, am_w1_r, am_w1_x, am_w1_l, am_w1_w, va_rf_s, am_push_n, am_push_s, am_cs_0, am_cs_i, am_cs_l, am_cs_r, m_uI_K, m_uI_N, m_uI_R, m_uI_L, m_uI_I, m_uL_K, m_uL_N, m_uL_R, m_uL_I, m_uL_L, m_uR_K, m_uR_N, m_uR_I, m_uR_L, m_uR_R, true_and, and_true, true_implies, false_implies, not_true_eq_false, not_false_eq_true, if_true, if_false, false_and, and_false]
          refine c_x_isQuiet (d + 15) z (plI x y) t.toInt.toNat (dDp D) (dCs D) (dQt D) M _ hL hI hz c2 (by omega) h.2.2.1 (fun M1 f1 s1 => ?_)
          have h0 := hQ M1 (zF_up f1 (fun a j q => Or.inr (Or.inr (Or.inr (Or.inr q))))) (XR_mm hD h f1 s1)
          have eb2 := fun Q => c_x_bit (d + 19) (tI (dQt D (plI x y) t.toInt.toNat)) M1 Q (tI_01 _)
          simp +decide (disch := omega) only [qX10_cell, eb2, if_true, if_false, am_w1_i, am_w1_r, am_w1_x, am_w1_l, am_w1_w, va_rf_s, am_push_n, am_push_s, am_cs_0, am_cs_i, am_cs_l, am_cs_r, m_uI_K, m_uI_N, m_uI_R, m_uI_L, m_uI_I, m_uL_K, m_uL_N, m_uL_R, m_uL_I, m_uL_L, m_uR_K, m_uR_N, m_uR_I, m_uR_L, m_uR_R, true_and, and_true, true_implies, false_implies, not_true_eq_false, not_false_eq_true, if_true, if_false, false_and, and_false] at h0 ⊢
          exact h0
      · have h0 := hQ M (XR_2 h) h
        rw [if_neg (by omega), if_neg (by omega), if_neg (by omega)] at h0
        rw [am_tab_out (by simp; omega)]
        simp +decide only [qX10_cell, am_w1_i, am_w1_r, am_w1_x, am_w1_l, am_w1_w, va_rf_s, am_push_n, am_push_s, am_cs_0, am_cs_i, am_cs_l, am_cs_r, m_uI_K, m_uI_N, m_uI_R, m_uI_L, m_uI_I, m_uL_K, m_uL_N, m_uL_R, m_uL_I, m_uL_L, m_uR_K, m_uR_N, m_uR_I, m_uR_L, m_uR_R, true_and, and_true, true_implies, false_implies, not_true_eq_false, not_false_eq_true, if_true, if_false, false_and, and_false]
        exact h0
    · first | rw [br_n (ht)] | rw [br_q (ht)] | rw [br_u (ht)]
      have h0 := hQ M (XR_2 h) h
      rw [if_neg (fun q => ht q.2)] at h0
      exact h0
  · rw [if_neg hc]
    have h0 := hQ M (XR_2 h) h
    rw [if_neg (fun q => hc q.1)] at h0
    simp +decide only [am_w1_i, am_w1_r, am_w1_x, am_w1_l, am_w1_w, va_rf_s, am_push_n, am_push_s, am_cs_0, am_cs_i, am_cs_l, am_cs_r, m_uI_K, m_uI_N, m_uI_R, m_uI_L, m_uI_I, m_uL_K, m_uL_N, m_uL_R, m_uL_I, m_uL_L, m_uR_K, m_uR_N, m_uR_I, m_uR_L, m_uR_R, true_and, and_true, true_implies, false_implies, not_true_eq_false, not_false_eq_true, if_true, if_false, false_and, and_false]
    exact h0
theorem m_cell (x y t w : Int32) : MqO 225 [.int x, .int y, .int t, .int w] (aCel x y t w) := by
  intro d M b D Q hD hL h hQ
  have eC := fun x y Q => m_isCell hD hL h (d + 18) x y Q
  have eH := fun x Q => c_m_isHour (d + 18) x M Q
  unfold aCel at hQ
  rw [eX11_cell]
  simp +decide only [qX11_cell_0, qX11_cell_1, lm hL, eC, eH, bI_0, Classical.not_not, am_w1_i, am_w1_r, am_w1_x, am_w1_l, am_w1_w, va_rf_s, am_push_n, am_push_s, am_cs_0, am_cs_i, am_cs_l, am_cs_r, m_uI_K, m_uI_N, m_uI_R, m_uI_L, m_uI_I, m_uL_K, m_uL_N, m_uL_R, m_uL_I, m_uL_L, m_uR_K, m_uR_N, m_uR_I, m_uR_L, m_uR_R, true_and, and_true, true_implies, false_implies, not_true_eq_false, not_false_eq_true, if_true, if_false, false_and, and_false]
  by_cases hc : isCl D x y
  · obtain ⟨c1, c2, c3, c4, c5, c6, c7⟩ := cl_of hD hc
    have hc' := hc
    unfold isCl at hc'
    first | rw [br_p (hc')] | rw [br_r (hc')] | rw [br_s (hc')]
    by_cases ht : 0 ≤ t.toInt ∧ t.toInt < 48
    · first | rw [br_p (ht)] | rw [br_r (ht)] | rw [br_s (ht)]
      rw [if_pos ⟨hc, ht⟩] at hQ
      have et : t = nI t.toInt.toNat := i32_of (by omega) (by omega)
      have eA := fun Q => m_atI hD hL h hc (d + 19) Q
      have hcl := (cel_lt hD.1.1.1 hD.1.1.2 c1).2.1
      obtain ⟨v1, v2⟩ := h.2.2.2.2.2.2.2.2 (plI x y) c1
      simp +decide (disch := omega) only [qX11_cell_0, qX11_cell_1, lm hL, eA, v1, v2, ni_in_t, ni_tn, Classical.not_not, am_w1_i, am_w1_r, am_w1_x, am_w1_l, am_w1_w, va_rf_s, am_push_n, am_push_s, am_cs_0, am_cs_i, am_cs_l, am_cs_r, m_uI_K, m_uI_N, m_uI_R, m_uI_L, m_uI_I, m_uL_K, m_uL_N, m_uL_R, m_uL_I, m_uL_L, m_uR_K, m_uR_N, m_uR_I, m_uR_L, m_uR_R, true_and, and_true, true_implies, false_implies, not_true_eq_false, not_false_eq_true, if_true, if_false, false_and, and_false]
      by_cases w0 : w = 0
      · have h0 := hQ M (gF_refl _ _ _)
        rw [if_pos (by rw [w0]; rfl)] at h0
        first | rw [br_p (w0)] | rw [br_r (w0)] | rw [br_s (w0)]
        exact h0
      · first | rw [br_n (w0)] | rw [br_q (w0)] | rw [br_u (w0)]
        have w0' : ¬ w.toInt = 0 := fun q => w0 (Int32.toInt_inj.mp q)
        rw [if_neg w0'] at hQ
        by_cases w1 : w = 1
        · have h0 := hQ M (gF_refl _ _ _)
          rw [if_pos (by rw [w1]; rfl)] at h0
          first | rw [br_p (w1)] | rw [br_r (w1)] | rw [br_s (w1)]
          exact h0
        · first | rw [br_n (w1)] | rw [br_q (w1)] | rw [br_u (w1)]
          have w1' : ¬ w.toInt = 1 := fun q => w1 (Int32.toInt_inj.mp q)
          rw [if_neg w1'] at hQ
          by_cases w2 : w = 2
          · rw [if_pos (by rw [w2]; rfl)] at hQ
            first | rw [br_p (w2)] | rw [br_r (w2)] | rw [br_s (w2)]
            rw [et]
            refine m_isQuiet (d + 15) b (dC D) (dR D) (plI x y) t.toInt.toNat (dRd D) (dRc D) (dRq D) M _ hL (m_MB hD h c4 c5) h.2.2.2.2.2.2.2.2 h.2.2.2.2.2.2.2.1.2.2 c1 (by omega) (fun M1 g1 => ?_)
            have h0 := hQ M1 (gF_up g1 (fun a j q => by unfold sWk at q; unfold sMq; omega) (fun _ _ q => q))
            rw [show qtF (dC D) (dR D) (dRd D) (dRq D) (plI x y) t.toInt.toNat = dQt D (plI x y) t.toInt.toNat from rfl]
            by_cases c : dQt D (plI x y) t.toInt.toNat
            · rw [tI_t c] at h0 ⊢; simp +decide only [qX11_cell_0, qX11_cell_1, am_w1_i, am_w1_r, am_w1_x, am_w1_l, am_w1_w, va_rf_s, am_push_n, am_push_s, am_cs_0, am_cs_i, am_cs_l, am_cs_r, m_uI_K, m_uI_N, m_uI_R, m_uI_L, m_uI_I, m_uL_K, m_uL_N, m_uL_R, m_uL_I, m_uL_L, m_uR_K, m_uR_N, m_uR_I, m_uR_L, m_uR_R, true_and, and_true, true_implies, false_implies, not_true_eq_false, not_false_eq_true, if_true, if_false, false_and, and_false]; exact h0
            · rw [tI_f c] at h0 ⊢; simp +decide only [qX11_cell_0, qX11_cell_1, am_w1_i, am_w1_r, am_w1_x, am_w1_l, am_w1_w, va_rf_s, am_push_n, am_push_s, am_cs_0, am_cs_i, am_cs_l, am_cs_r, m_uI_K, m_uI_N, m_uI_R, m_uI_L, m_uI_I, m_uL_K, m_uL_N, m_uL_R, m_uL_I, m_uL_L, m_uR_K, m_uR_N, m_uR_I, m_uR_L, m_uR_R, true_and, and_true, true_implies, false_implies, not_true_eq_false, not_false_eq_true, if_true, if_false, false_and, and_false]; exact h0
          · have h0 := hQ M (gF_refl _ _ _)
            have w2' : ¬ w.toInt = 2 := fun q => w2 (Int32.toInt_inj.mp q)
            rw [if_neg w2'] at h0
            first | rw [br_n (w2)] | rw [br_q (w2)] | rw [br_u (w2)]
            exact h0
    · first | rw [br_n (ht)] | rw [br_q (ht)] | rw [br_u (ht)]
      have h0 := hQ M (gF_refl _ _ _)
      rw [if_neg (fun q => ht q.2)] at h0
      exact h0
  · have h0 := hQ M (gF_refl _ _ _)
    rw [if_neg (fun q => hc q.1)] at h0
    unfold isCl at hc
    first | rw [br_n (hc)] | rw [br_q (hc)] | rw [br_u (hc)]
    exact h0
theorem op_cell (x y t w : Int32) : OpI 117 225 [.int x, .int y, .int t, .int w] isI := op_q (fun D => ⟨_, rfl⟩) (x_cell x y t w) (m_cell x y t w)
/-! far -/
def farQ (wt : Nat → Prop) (v p q : Nat) (x : Int32) : Prop := (∃ k, k ≤ 256 ∧ dst wt p q k ∧ x = nI ((k + v - 1) / v)) ∨ ((∀ k, ¬ ball wt p k q) ∧ x = -1)
theorem farQ_1 {wt : Nat → Prop} {v p q : Nat} {x y : Int32} (h1 : farQ wt v p q x) (h2 : farQ wt v p q y) : x = y := by
  rcases h1 with ⟨k, -, hk, rfl⟩ | ⟨hk, rfl⟩
  · rcases h2 with ⟨j, -, hj, rfl⟩ | ⟨hj, rfl⟩
    · rw [dst_1 hk hj]
    · exact absurd hk.1 (hj k)
  · rcases h2 with ⟨j, -, hj, rfl⟩ | ⟨hj, rfl⟩
    · exact absurd hj.1 (hk j)
    · rfl
noncomputable def frI (wt : Nat → Prop) (v p q : Nat) : Int32 := @dite _ (∃ x, farQ wt v p q x) (Classical.propDecidable _) (fun h => Classical.choose h) (fun _ => 0)
theorem frI_e {wt : Nat → Prop} {v p q : Nat} {x : Int32} (h : farQ wt v p q x) : frI wt v p q = x := by
  unfold frI
  rw [dif_pos ⟨x, h⟩]
  exact farQ_1 (Classical.choose_spec (⟨x, h⟩ : ∃ x, farQ wt v p q x)) h
noncomputable def aFar (v x y x' y' : Int32) (D : Dat) : Value := .int (if (0 ≤ v.toInt ∧ v.toInt < dN D) ∧ isCl D x y ∧ isCl D x' y' then frI (dWt D v.toInt.toNat) (dV D v.toInt.toNat) (plI x y) (plI x' y') else -1)
theorem x_far (v x y x' y' : Int32) : XqO 118 [.int v, .int x, .int y, .int x', .int y'] (aFar v x y x' y') := by
  intro d M z D Q hD h hQ
  have hz := h.1.2.2.1
  have hL := h.1.1
  have hI := h.1.2.1
  have hr := h.1.2.2.2.1
  have n8 := dN_8 hD
  have eP := fun x y Q => x_place hD h (d + 19) x y Q
  have eS := fun v Q => x_isShip hD h (d + 19) v Q
  unfold aFar at hQ
  rw [eX10_far]
  simp +decide only [qX10_far, lx hL, lz hL hz, hr, eP, eS, bI_0, Classical.not_not, am_w1_i, am_w1_r, am_w1_x, am_w1_l, am_w1_w, va_rf_s, am_push_n, am_push_s, am_cs_0, am_cs_i, am_cs_l, am_cs_r, m_uI_K, m_uI_N, m_uI_R, m_uI_L, m_uI_I, m_uL_K, m_uL_N, m_uL_R, m_uL_I, m_uL_L, m_uR_K, m_uR_N, m_uR_I, m_uR_L, m_uR_R, true_and, and_true, true_implies, false_implies, not_true_eq_false, not_false_eq_true, if_true, if_false, false_and, and_false]
  by_cases hv : 0 ≤ v.toInt ∧ v.toInt < dN D
  · first | rw [br_p (hv)] | rw [br_r (hv)] | rw [br_s (hv)]
    by_cases hc : isCl D x y
    · obtain ⟨c1, c2, c3, c4, c5, c6, c7⟩ := cl_of hD hc
      rw [if_pos hc]
      have hne : ¬ nI (plI x y) = -1 := nI_m1 (by omega)
      first | rw [br_n (hne)] | rw [br_q (hne)] | rw [br_u (hne)]
      by_cases hc' : isCl D x' y'
      · obtain ⟨c1', c2', c3', c4', c5', c6', c7'⟩ := cl_of hD hc'
        rw [if_pos hc']
        have hne' : ¬ nI (plI x' y') = -1 := nI_m1 (by omega)
        first | rw [br_n (hne')] | rw [br_q (hne')] | rw [br_u (hne')]
        rw [if_pos ⟨hv, hc, hc'⟩] at hQ
        obtain ⟨s, s1, s2, s3⟩ := sh_of (by omega) hv
        rw [s3] at hQ
        have htr := ltr hL (show s < 8 by omega)
        have hst := lt_ hL (isTr_of (show s < 8 by omega))
        obtain ⟨hT, -⟩ := (h.2.2.2.1 s s1).1
        have hk := dSp_ok hD.1 s1
        rw [s2]
        have e174 : 173 + 13 * s + 1 = 174 + 13 * s := by omega
        simp +decide (disch := omega) only [qX10_far, lx hL, htr, hst, ni_in_t, ni_tn, am_w1_i, am_w1_r, am_w1_x, am_w1_l, am_w1_w, va_rf_s, am_push_n, am_push_s, am_cs_0, am_cs_i, am_cs_l, am_cs_r, m_uI_K, m_uI_N, m_uI_R, m_uI_L, m_uI_I, m_uL_K, m_uL_N, m_uL_R, m_uL_I, m_uL_L, m_uR_K, m_uR_N, m_uR_I, m_uR_L, m_uR_R, true_and, and_true, true_implies, false_implies, not_true_eq_false, not_false_eq_true, if_true, if_false, false_and, and_false]
        rw [e174]
        refine c_x_hoursBetween (d + 18) s (plI x y) (plI x' y') (dV D s) (dWt D s) _ M hL (by omega) c2 c2' hT.1 hk.2.2.2.2.1 hT.2.1 hT.2.2.1 (fun r M1 o1 f1 => ?_)
        have fz : zF (fun a _ => a = 178 + 13 * s) M M1 := zF_l hL hI o1 (by omega) (fun _ => rfl) (fun s' hs' => by omega)
        have hq : farQ (dWt D s) (dV D s) (plI x y) (plI x' y') r := by
          rcases f1 with ⟨k, k1, k2, k3⟩ | q
          · exact Or.inl ⟨k, by omega, k2, k3⟩
          · exact Or.inr q
        have h0 := hQ M1 (zq_up (s := s) (by omega) fz (fun a j q => by unfold sQ1; omega)) (XR_k (s0 := s) hD (by omega) h fz (fun a j q => by omega))
        rw [frI_e hq] at h0
        simp +decide only [qX10_far, am_w1_i, am_w1_r, am_w1_x, am_w1_l, am_w1_w, va_rf_s, am_push_n, am_push_s, am_cs_0, am_cs_i, am_cs_l, am_cs_r, m_uI_K, m_uI_N, m_uI_R, m_uI_L, m_uI_I, m_uL_K, m_uL_N, m_uL_R, m_uL_I, m_uL_L, m_uR_K, m_uR_N, m_uR_I, m_uR_L, m_uR_R, true_and, and_true, true_implies, false_implies, not_true_eq_false, not_false_eq_true, if_true, if_false, false_and, and_false]
        exact h0
      · have h0 := hQ M (XR_2 h) h
        rw [if_neg (fun q => hc' q.2.2)] at h0
        rw [if_neg hc']
        simp +decide only [am_w1_i, am_w1_r, am_w1_x, am_w1_l, am_w1_w, va_rf_s, am_push_n, am_push_s, am_cs_0, am_cs_i, am_cs_l, am_cs_r, m_uI_K, m_uI_N, m_uI_R, m_uI_L, m_uI_I, m_uL_K, m_uL_N, m_uL_R, m_uL_I, m_uL_L, m_uR_K, m_uR_N, m_uR_I, m_uR_L, m_uR_R, true_and, and_true, true_implies, false_implies, not_true_eq_false, not_false_eq_true, if_true, if_false, false_and, and_false]
        exact h0
    · have h0 := hQ M (XR_2 h) h
      rw [if_neg (fun q => hc q.2.1)] at h0
      rw [if_neg hc]
      simp +decide only [am_w1_i, am_w1_r, am_w1_x, am_w1_l, am_w1_w, va_rf_s, am_push_n, am_push_s, am_cs_0, am_cs_i, am_cs_l, am_cs_r, m_uI_K, m_uI_N, m_uI_R, m_uI_L, m_uI_I, m_uL_K, m_uL_N, m_uL_R, m_uL_I, m_uL_L, m_uR_K, m_uR_N, m_uR_I, m_uR_L, m_uR_R, true_and, and_true, true_implies, false_implies, not_true_eq_false, not_false_eq_true, if_true, if_false, false_and, and_false]
      exact h0
  · have h0 := hQ M (XR_2 h) h
    rw [if_neg (fun q => hv q.1)] at h0
    first | rw [br_n (hv)] | rw [br_q (hv)] | rw [br_u (hv)]
    exact h0
theorem m_far (v x y x' y' : Int32) : MqO 239 [.int v, .int x, .int y, .int x', .int y'] (aFar v x y x' y') := by
  intro d M b D Q hD hL h hQ
  have n8 := dN_8 hD
  have eC := fun x y Q => m_isCell hD hL h (d + 18) x y Q
  have eS := fun v Q => m_isShip hD hL h (d + 18) v Q
  unfold aFar at hQ
  rw [eX11_far]
  simp +decide only [qX11_far, lm hL, eC, eS, bI_0, Classical.not_not, am_w1_i, am_w1_r, am_w1_x, am_w1_l, am_w1_w, va_rf_s, am_push_n, am_push_s, am_cs_0, am_cs_i, am_cs_l, am_cs_r, m_uI_K, m_uI_N, m_uI_R, m_uI_L, m_uI_I, m_uL_K, m_uL_N, m_uL_R, m_uL_I, m_uL_L, m_uR_K, m_uR_N, m_uR_I, m_uR_L, m_uR_R, true_and, and_true, true_implies, false_implies, not_true_eq_false, not_false_eq_true, if_true, if_false, false_and, and_false]
  by_cases hv : 0 ≤ v.toInt ∧ v.toInt < dN D
  · first | rw [br_p (hv)] | rw [br_r (hv)] | rw [br_s (hv)]
    by_cases hc : isCl D x y
    · obtain ⟨c1, c2, c3, c4, c5, c6, c7⟩ := cl_of hD hc
      have hc0 := hc
      unfold isCl at hc0
      first | rw [br_p (hc0)] | rw [br_r (hc0)] | rw [br_s (hc0)]
      by_cases hc' : isCl D x' y'
      · obtain ⟨c1', c2', c3', c4', c5', c6', c7'⟩ := cl_of hD hc'
        have hc0' := hc'
        unfold isCl at hc0'
        first | rw [br_p (hc0')] | rw [br_r (hc0')] | rw [br_s (hc0')]
        rw [if_pos ⟨hv, hc, hc'⟩] at hQ
        obtain ⟨s, s1, s2, s3⟩ := sh_of (by omega) hv
        rw [s3] at hQ
        obtain ⟨m1, m2, m3, m4, m5⟩ := mh hD h s1
        have eA := fun Q => m_atI hD hL h hc (d + 19) Q
        rw [s2]
        simp +decide only [qX11_far, lm hL, eA, am_w1_i, am_w1_r, am_w1_x, am_w1_l, am_w1_w, va_rf_s, am_push_n, am_push_s, am_cs_0, am_cs_i, am_cs_l, am_cs_r, m_uI_K, m_uI_N, m_uI_R, m_uI_L, m_uI_I, m_uL_K, m_uL_N, m_uL_R, m_uL_I, m_uL_L, m_uR_K, m_uR_N, m_uR_I, m_uR_L, m_uR_R, true_and, and_true, true_implies, false_implies, not_true_eq_false, not_false_eq_true, if_true, if_false, false_and, and_false]
        refine c_m_goes (d + 16) s b (dC D) (dR D) (plI x y) M _ hL m1 (by omega) c1 (fun M1 o1 g1 => ?_)
        rw [m5] at g1
        have G1 : gF sMq nT M M1 := gF_up (gF_o (onlyG_S o1)) (fun a j q => by unfold sG at q; unfold sMq; omega) (fun _ _ q => q)
        have L1 := gF_LayN G1 hL
        have h1 := MdM_g h G1 (fun a j q w => by unfold tlM at q; unfold sMq at w; omega)
        have eA1 := fun Q => m_atI hD L1 h1 hc' (d + 19) Q
        have hk := dSp_ok hD.1 s1
        have hcl := (cel_lt hD.1.1.1 hD.1.1.2 c1').2.1
        have eT := fun Q => c_m_hoursTo (d + 19) s b (dV D s) (cel (dC D) (plI x' y')) M1 Q L1 h1.1.1 h1.1.2 (by omega) (mh hD h1 s1).2.1.1 hk.2.2.2.2.1 hk.2.2.2.2.2.1 hcl
        have h0 := hQ M1 G1
        simp +decide only [qX11_far, lm L1, eA1, eT, am_w1_i, am_w1_r, am_w1_x, am_w1_l, am_w1_w, va_rf_s, am_push_n, am_push_s, am_cs_0, am_cs_i, am_cs_l, am_cs_r, m_uI_K, m_uI_N, m_uI_R, m_uI_L, m_uI_I, m_uL_K, m_uL_N, m_uL_R, m_uL_I, m_uL_L, m_uR_K, m_uR_N, m_uR_I, m_uR_L, m_uR_R, true_and, and_true, true_implies, false_implies, not_true_eq_false, not_false_eq_true, if_true, if_false, false_and, and_false]
        have v1 : 1 ≤ dV D s := hk.2.2.2.2.1
        have v4 : dV D s ≤ 4 := hk.2.2.2.2.2.1
        rcases g1 (plI x' y') c1' with ⟨k, k1, k2, k3⟩ | ⟨k1, k2⟩
        · have e1 : hrT (mI M1 317 (cel (dC D) (plI x' y'))) (dV D s) = nI ((k + dV D s - 1) / dV D s) := by
            unfold hrT
            rw [k3, if_neg (nI_m1 (by omega)), ni_add, show (1 : Int32) = nI 1 from rfl, ni_sub (by omega), ni_div (by omega) (by omega)]
          have hdv : (k + dV D s - 1) / dV D s ≤ k + dV D s - 1 := Nat.div_le_self _ _
          have hne : ¬ nI ((k + dV D s - 1) / dV D s) = 1000 := by rw [show (1000 : Int32) = nI 1000 from rfl, ni_eq (by omega) (by omega)]; omega
          rw [frI_e (Or.inl ⟨k, k1, k2, rfl⟩)] at h0
          rw [e1]
          first | rw [br_n (hne)] | rw [br_q (hne)] | rw [br_u (hne)]
          exact h0
        · have e1 : hrT (mI M1 317 (cel (dC D) (plI x' y'))) (dV D s) = 1000 := by
            unfold hrT
            rw [k2, if_pos rfl]
          rw [frI_e (Or.inr ⟨k1, rfl⟩)] at h0
          rw [e1]
          simp +decide only [am_w1_i, am_w1_r, am_w1_x, am_w1_l, am_w1_w, va_rf_s, am_push_n, am_push_s, am_cs_0, am_cs_i, am_cs_l, am_cs_r, m_uI_K, m_uI_N, m_uI_R, m_uI_L, m_uI_I, m_uL_K, m_uL_N, m_uL_R, m_uL_I, m_uL_L, m_uR_K, m_uR_N, m_uR_I, m_uR_L, m_uR_R, true_and, and_true, true_implies, false_implies, not_true_eq_false, not_false_eq_true, if_true, if_false, false_and, and_false]
          exact h0
      · have h0 := hQ M (gF_refl _ _ _)
        rw [if_neg (fun q => hc' q.2.2)] at h0
        unfold isCl at hc'
        first | rw [br_n (hc')] | rw [br_q (hc')] | rw [br_u (hc')]
        exact h0
    · have h0 := hQ M (gF_refl _ _ _)
      rw [if_neg (fun q => hc q.2.1)] at h0
      unfold isCl at hc
      first | rw [br_n (hc)] | rw [br_q (hc)] | rw [br_u (hc)]
      exact h0
  · have h0 := hQ M (gF_refl _ _ _)
    rw [if_neg (fun q => hv q.1)] at h0
    first | rw [br_n (hv)] | rw [br_q (hv)] | rw [br_u (hv)]
    exact h0
theorem op_far (v x y x' y' : Int32) : OpI 118 239 [.int v, .int x, .int y, .int x', .int y'] isI := op_q (fun D => ⟨_, rfl⟩) (x_far v x y x' y') (m_far v x y x' y')
