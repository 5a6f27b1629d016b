/-! the class's parser: formulas, after a fault -/
def FmX (M : am_M) (z c : Nat) : Prop := mI M (z + 6) 1 = nI c ∧ c ≤ 1800
def CdX (M : am_M) (z a c : Nat) (vs : List Den) : Prop := a ≤ c ∧ wfD 64 (insX M z) a (c - a) ∧ cdD (insX M z) a (c - a) = vs
def sPz (z c a j : Nat) : Prop := a = 165 ∨ (a = z + 7 ∧ c ≤ j) ∨ (a = z + 6 ∧ j = 1)
def sFz (z a j : Nat) : Prop := a = 165 ∨ a = z + 7 ∨ (a = z + 6 ∧ j = 1)
theorem CdX_g {M M' : am_M} {z a c : Nat} {vs : List Den} {S T' : Nat → Nat → Prop} (h : CdX M z a c vs) (hg : gF S T' M M') (hS : ∀ j, j < c → ¬ S (z + 7) j) : CdX M' z a c vs := by
  obtain ⟨h1, h2, h3⟩ := h
  have e : ∀ j, j < c - a → insX M z (a + j) = insX M' z (a + j) := fun j hj => by unfold insX; rw [hg.1 _ _ (hS _ (by omega))]
  exact ⟨h1, wfD_ext e h2, by rw [← cdD_ext e]; exact h3⟩
theorem FmX_g {M M' : am_M} {z c : Nat} {S T' : Nat → Nat → Prop} (h : FmX M z c) (hg : gF S T' M M') (hS : ¬ S (z + 6) 1) : FmX M' z c := ⟨by rw [hg.1 _ _ hS]; exact h.1, h.2⟩
theorem c_x_emit (d z c : Nat) (x : Int32) (M : am_M) (Q : Option Value → am_M → Prop) (hL : Lay M) (hz : z = 2 ∨ z = 83) (hF : FmX M z c) (hc : c < 1800) : am_E am_P0 d 1 [.ref (z + 6), .int x] M Q ↔ Q none (uI (uI M (z + 7) c x) (z + 6) 1 (nI (c + 1))) := by
  have hlt : ¬ (1800 : Int32) ≤ nI c := by rw [show (1800 : Int32) = nI 1800 from rfl, ni_le (by omega) (by omega)]; omega
  rw [eX0_emit]
  simp +decide (disch := omega) only [qX0_emit, lz hL hz, hF.1, Nat.add_left_cancel_iff, ni_in_t, ni_tn, ni_add1, am_w1_i, am_w1_r, am_w1_x, am_w1_l, am_w1_w, va_rf_s, am_push_n, am_push_s, am_cs_0, am_cs_i, am_cs_l, am_cs_r, m_uI_K, m_uI_N, m_uI_R, m_uI_L, m_uI_I, m_uL_K, m_uL_N, m_uL_R, m_uL_I, m_uL_L, m_uR_K, m_uR_N, m_uR_I, m_uR_L, m_uR_R, true_and, and_true, true_implies, false_implies, not_true_eq_false, not_false_eq_true, if_true, if_false, false_and, and_false]
  rw [br_n hlt]
theorem c_x_emitF (d z c : Nat) (x : Int32) (M : am_M) (Q : Option Value → am_M → Prop) (hL : Lay M) (hz : z = 2 ∨ z = 83) (hF : FmX M z c)
    (hQ : ∀ M' c', gF (fun a j => (a = z + 7 ∧ c ≤ j) ∨ (a = z + 6 ∧ j = 1)) nT M M' → FmX M' z c' → Q none M') : am_E am_P0 d 1 [.ref (z + 6), .int x] M Q := by
  by_cases hc : c < 1800
  · rw [c_x_emit d z c x M Q hL hz hF hc]
    exact hQ _ (c + 1) (gF_trans (gF_i _ (Or.inl ⟨rfl, Nat.le_refl _⟩)) (gF_i _ (Or.inr ⟨rfl, rfl⟩))) ⟨by rw [m_uI_I, if_pos ⟨rfl, rfl⟩], by omega⟩
  · have e : c = 1800 := by have := hF.2; omega
    have h1 := hF.1
    rw [e] at h1
    have h0 := hQ M c (gF_refl _ _ _) hF
    rw [eX0_emit]
    simp +decide only [qX0_emit, lz hL hz, h1, show nI 1800 = (1800 : Int32) from rfl, am_w1_i, am_w1_r, am_w1_x, am_w1_l, am_w1_w, va_rf_s, am_push_n, am_push_s, am_cs_0, am_cs_i, am_cs_l, am_cs_r, m_uI_K, m_uI_N, m_uI_R, m_uI_L, m_uI_I, m_uL_K, m_uL_N, m_uL_R, m_uL_I, m_uL_L, m_uR_K, m_uR_N, m_uR_I, m_uR_L, m_uR_R, true_and, and_true, true_implies, false_implies, not_true_eq_false, not_false_eq_true, if_true, if_false, false_and, and_false]
    exact h0
theorem CdX_e {M : am_M} {z a c : Nat} {vs : List Den} (x : Int32) (h : CdX M z a c vs) (ho : opOK 64 (inX x) vs) : CdX (uI (uI M (z + 7) c x) (z + 6) 1 (nI (c + 1))) z a (c + 1) (stD (inX x) vs) := by
  have g : gF (fun a j => (a = z + 7 ∧ c ≤ j) ∨ (a = z + 6 ∧ j = 1)) nT M (uI (uI M (z + 7) c x) (z + 6) 1 (nI (c + 1))) := gF_trans (gF_i _ (Or.inl ⟨rfl, Nat.le_refl _⟩)) (gF_i _ (Or.inr ⟨rfl, rfl⟩))
  obtain ⟨h1, h2, h3⟩ := CdX_g h g (fun j hj q => by omega)
  have ei : insX (uI (uI M (z + 7) c x) (z + 6) 1 (nI (c + 1))) z c = inX x := by unfold insX; rw [m_uI_I, if_neg (by omega), m_uI_I, if_pos ⟨rfl, rfl⟩]
  have ec : a + (c - a) = c := by omega
  refine ⟨by omega, ?_, ?_⟩
  · rw [show c + 1 - a = (c - a) + 1 by omega]
    exact wfD_succ h2 (by rw [ec, ei, h3]; exact ho)
  · rw [show c + 1 - a = (c - a) + 1 by omega]
    show stD (insX _ z (a + (c - a))) (cdD _ a (c - a)) = _
    rw [ec, ei, h3]
/-- after a fault -/
def FaX (M : am_M) (z : Nat) (T : Nat → Nat) (n : Nat) (e : Nat × Nat) : Prop := FtX M T n e.1 e.2 ∧ mR M 164 1 = some z ∧ ∃ c, FmX M z c
section
variable {T : Nat → Nat} {n z : Nat}
theorem FaX_r {M M' : am_M} {e e' : Nat × Nat} (hF : FaX M z T n e) (hz : z = 2 ∨ z = 83) (h1 : FtX M' T n e'.1 e'.2) (hg : gF sRd nT M M') : FaX M' z T n e' := by
  obtain ⟨c, hc⟩ := hF.2.2
  exact ⟨h1, by rw [hg.2.2.1 _ _ (fun q => q)]; exact hF.2.1, c, FmX_g hc hg (fun q => by unfold sRd at q; omega)⟩
theorem sRd_F {M M' : am_M} (h : gF sRd nT M M') : gF (sFz z) nT M M' := gF_up h (fun a j q => Or.inl q) (fun _ _ q => q)
theorem f_emit (d : Nat) (e : Nat × Nat) (x : Int32) (M : am_M) (Q : Option Value → am_M → Prop) (hL : Lay M) (hz : z = 2 ∨ z = 83) (hF : FaX M z T n e) (hQ : ∀ M', gF (sFz z) nT M M' → FaX M' z T n e → Q none M') : am_E am_P0 d 1 [.ref (z + 6), .int x] M Q := by
  obtain ⟨h1, h2, c, hc⟩ := hF
  refine c_x_emitF d z c x M Q hL hz hc (fun M1 c1 g1 f1 => hQ M1 (gF_up g1 (fun a j q => by unfold sFz; omega) (fun _ _ q => q)) ⟨FtX_g h1 g1 (fun a j q z => by omega) (fun q => q), by rw [g1.2.2.1 _ _ (fun q => q)]; exact h2, c1, f1⟩)
theorem f_part (d : Nat) (o : Int32) (e : Nat × Nat) (M : am_M) (Q : Option Value → am_M → Prop) (hL : Lay M) (hz : z = 2 ∨ z = 83) (hF : FaX M z T n e) (hQ : ∀ M', gF (sFz z) nT M M' → FaX M' z T n e → Q none M') : am_E am_P0 (d + 2) 29 [.ref 164, .int o] M Q := by
  have h4 : mI M 165 4 = 0 := hF.1.2.2.2.2.2.1
  have h6 : mI M 165 6 = -1 := hF.1.2.2.2.2.2.2
  have hst : StR M T n (.inl e) := hF.1
  have hs := fun Q => c_x_isSign (d + 1) n 40 T (.inl e) M Q hL (by omega) hst
  rw [show nI 40 = (40 : Int32) from rfl] at hs
  have el : am_lk [(1, 154), (16, 145), (23, 128), (24, 136), (25, 163), (26, 173)] 183 (-1) = 183 := by decide
  rw [eX2_readPart]
  simp +decide only [qX2_readPart_0, qX2_readPart_1, lx hL, h4, h6, hs, isSr, b01, el, am_w1_i, am_w1_r, am_w1_x, am_w1_l, am_w1_w, va_rf_s, am_push_n, am_push_s, am_cs_0, am_cs_i, am_cs_l, am_cs_r, m_uI_K, m_uI_N, m_uI_R, m_uI_L, m_uI_I, m_uL_K, m_uL_N, m_uL_R, m_uL_I, m_uL_L, m_uR_K, m_uR_N, m_uR_I, m_uR_L, m_uR_R, true_and, and_true, true_implies, false_implies, not_true_eq_false, not_false_eq_true, if_true, if_false, false_and, and_false]
  rw [show (1 : Int32) = nI 1 from rfl]
  refine c_x_refuse d n 1 T (.inl e) M _ hL (by omega) hst (fun M1 g1 h1 => ?_)
  have h0 := hQ M1 (sRd_F g1) (FaX_r hF hz h1 g1)
  simp +decide only [qX2_readPart_0, qX2_readPart_1, am_w1_i, am_w1_r, am_w1_x, am_w1_l, am_w1_w, va_rf_s, am_push_n, am_push_s, am_cs_0, am_cs_i, am_cs_l, am_cs_r, m_uI_K, m_uI_N, m_uI_R, m_uI_L, m_uI_I, m_uL_K, m_uL_N, m_uL_R, m_uL_I, m_uL_L, m_uR_K, m_uR_N, m_uR_I, m_uR_L, m_uR_R, true_and, and_true, true_implies, false_implies, not_true_eq_false, not_false_eq_true, if_true, if_false, false_and, and_false]
  exact h0
theorem f_times (d : Nat) (e : Nat × Nat) (M : am_M) (Q : Option Value → am_M → Prop) (hL : Lay M) (hF : FaX M z T n e) : am_E am_P0 (d + 1) 28 [.ref 164] M Q ↔ Q (some (.int 0)) M := by
  have hst : StR M T n (.inl e) := hF.1
  have s1 := fun Q => c_x_isSign d n 42 T (.inl e) M Q hL (by omega) hst
  have s2 := fun Q => c_x_isSign d n 47 T (.inl e) M Q hL (by omega) hst
  have s3 := fun Q => c_x_isSign d n 37 T (.inl e) M Q hL (by omega) hst
  rw [show nI 42 = (42 : Int32) from rfl] at s1
  rw [show nI 47 = (47 : Int32) from rfl] at s2
  rw [show nI 37 = (37 : Int32) from rfl] at s3
  rw [eX2_timesSign]
  simp +decide only [qX2_timesSign, lx hL, s1, s2, s3, isSr, b01, am_w1_i, am_w1_r, am_w1_x, am_w1_l, am_w1_w, va_rf_s, am_push_n, am_push_s, am_cs_0, am_cs_i, am_cs_l, am_cs_r, m_uI_K, m_uI_N, m_uI_R, m_uI_L, m_uI_I, m_uL_K, m_uL_N, m_uL_R, m_uL_I, m_uL_L, m_uR_K, m_uR_N, m_uR_I, m_uR_L, m_uR_R, true_and, and_true, true_implies, false_implies, not_true_eq_false, not_false_eq_true, if_true, if_false, false_and, and_false]
theorem f_prod (d : Nat) (o : Int32) (e : Nat × Nat) (M : am_M) (Q : Option Value → am_M → Prop) (hL : Lay M) (hz : z = 2 ∨ z = 83) (hF : FaX M z T n e) (hQ : ∀ M', gF (sFz z) nT M M' → FaX M' z T n e → Q none M') : am_E am_P0 (d + 3) 27 [.ref 164, .int o] M Q := by
  rw [eX2_readProduct]
  simp +decide only [qX2_readProduct, lx hL, am_w1_i, am_w1_r, am_w1_x, am_w1_l, am_w1_w, va_rf_s, am_push_n, am_push_s, am_cs_0, am_cs_i, am_cs_l, am_cs_r, m_uI_K, m_uI_N, m_uI_R, m_uI_L, m_uI_I, m_uL_K, m_uL_N, m_uL_R, m_uL_I, m_uL_L, m_uR_K, m_uR_N, m_uR_I, m_uR_L, m_uR_R, true_and, and_true, true_implies, false_implies, not_true_eq_false, not_false_eq_true, if_true, if_false, false_and, and_false]
  refine f_part d o e M _ hL hz hF (fun M1 g1 h1 => ?_)
  have h0 := hQ M1 g1 h1
  simp +decide only [qX2_readProduct, am_w1_i, am_w1_r, am_w1_x, am_w1_l, am_w1_w, va_rf_s, am_push_n, am_push_s, am_cs_0, am_cs_i, am_cs_l, am_cs_r, m_uI_K, m_uI_N, m_uI_R, m_uI_L, m_uI_I, m_uL_K, m_uL_N, m_uL_R, m_uL_I, m_uL_L, m_uR_K, m_uR_N, m_uR_I, m_uR_L, m_uR_R, true_and, and_true, true_implies, false_implies, not_true_eq_false, not_false_eq_true, if_true, if_false, false_and, and_false]
  rw [hX2_readProduct_7]
  simp +decide only [qX2_readProduct, lx (gF_LayN g1 hL), f_times (d + 1) e M1 _ (gF_LayN g1 hL) h1, am_w1_i, am_w1_r, am_w1_x, am_w1_l, am_w1_w, va_rf_s, am_push_n, am_push_s, am_cs_0, am_cs_i, am_cs_l, am_cs_r, m_uI_K, m_uI_N, m_uI_R, m_uI_L, m_uI_I, m_uL_K, m_uL_N, m_uL_R, m_uL_I, m_uL_L, m_uR_K, m_uR_N, m_uR_I, m_uR_L, m_uR_R, true_and, and_true, true_implies, false_implies, not_true_eq_false, not_false_eq_true, if_true, if_false, false_and, and_false]
  exact h0
theorem f_sum (d : Nat) (o : Int32) (e : Nat × Nat) (M : am_M) (Q : Option Value → am_M → Prop) (hL : Lay M) (hz : z = 2 ∨ z = 83) (hF : FaX M z T n e) (hQ : ∀ M', gF (sFz z) nT M M' → FaX M' z T n e → Q none M') : am_E am_P0 (d + 4) 26 [.ref 164, .int o] M Q := by
  rw [eX2_readSum]
  simp +decide only [qX2_readSum, lx hL, am_w1_i, am_w1_r, am_w1_x, am_w1_l, am_w1_w, va_rf_s, am_push_n, am_push_s, am_cs_0, am_cs_i, am_cs_l, am_cs_r, m_uI_K, m_uI_N, m_uI_R, m_uI_L, m_uI_I, m_uL_K, m_uL_N, m_uL_R, m_uL_I, m_uL_L, m_uR_K, m_uR_N, m_uR_I, m_uR_L, m_uR_R, true_and, and_true, true_implies, false_implies, not_true_eq_false, not_false_eq_true, if_true, if_false, false_and, and_false]
  refine f_prod d o e M _ hL hz hF (fun M1 g1 h1 => ?_)
  have h0 := hQ M1 g1 h1
  have L1 := gF_LayN g1 hL
  have hst : StR M1 T n (.inl e) := h1.1
  have s1 := fun Q => c_x_isSign (d + 3) n 43 T (.inl e) M1 Q L1 (by omega) hst
  have s2 := fun Q => c_x_isSign (d + 3) n 45 T (.inl e) M1 Q L1 (by omega) hst
  rw [show nI 43 = (43 : Int32) from rfl] at s1
  rw [show nI 45 = (45 : Int32) from rfl] at s2
  simp +decide only [qX2_readSum, am_w1_i, am_w1_r, am_w1_x, am_w1_l, am_w1_w, va_rf_s, am_push_n, am_push_s, am_cs_0, am_cs_i, am_cs_l, am_cs_r, m_uI_K, m_uI_N, m_uI_R, m_uI_L, m_uI_I, m_uL_K, m_uL_N, m_uL_R, m_uL_I, m_uL_L, m_uR_K, m_uR_N, m_uR_I, m_uR_L, m_uR_R, true_and, and_true, true_implies, false_implies, not_true_eq_false, not_false_eq_true, if_true, if_false, false_and, and_false]
  rw [hX2_readSum_7]
  simp +decide only [qX2_readSum, lx L1, s1, s2, isSr, b01, am_w1_i, am_w1_r, am_w1_x, am_w1_l, am_w1_w, va_rf_s, am_push_n, am_push_s, am_cs_0, am_cs_i, am_cs_l, am_cs_r, m_uI_K, m_uI_N, m_uI_R, m_uI_L, m_uI_I, m_uL_K, m_uL_N, m_uL_R, m_uL_I, m_uL_L, m_uR_K, m_uR_N, m_uR_I, m_uR_L, m_uR_R, true_and, and_true, true_implies, false_implies, not_true_eq_false, not_false_eq_true, if_true, if_false, false_and, and_false]
  exact h0
theorem f_cmp (d : Nat) (e : Nat × Nat) (M : am_M) (Q : Option Value → am_M → Prop) (hL : Lay M) (hz : z = 2 ∨ z = 83) (hF : FaX M z T n e) (hQ : ∀ M', gF (sFz z) nT M M' → FaX M' z T n e → Q (some (.int (-15))) M') : am_E am_P0 (d + 3) 25 [.ref 164] M Q := by
  have hst : StR M T n (.inl e) := hF.1
  have s1 := fun Q => c_x_isSign (d + 2) n 60 T (.inl e) M Q hL (by omega) hst
  have s2 := fun Q => c_x_isSign (d + 2) n 62 T (.inl e) M Q hL (by omega) hst
  rw [show nI 60 = (60 : Int32) from rfl] at s1
  rw [show nI 62 = (62 : Int32) from rfl] at s2
  rw [eX2_takeComparison]
  simp +decide only [qX2_takeComparison, lx hL, s1, s2, isSr, b01, am_w1_i, am_w1_r, am_w1_x, am_w1_l, am_w1_w, va_rf_s, am_push_n, am_push_s, am_cs_0, am_cs_i, am_cs_l, am_cs_r, m_uI_K, m_uI_N, m_uI_R, m_uI_L, m_uI_I, m_uL_K, m_uL_N, m_uL_R, m_uL_I, m_uL_L, m_uR_K, m_uR_N, m_uR_I, m_uR_L, m_uR_R, true_and, and_true, true_implies, false_implies, not_true_eq_false, not_false_eq_true, if_true, if_false, false_and, and_false]
  rw [show (61 : Int32) = nI 61 from rfl]
  refine c_x_takeSign d n 61 T (.inl e) M _ hL (by omega) hst (fun M1 g1 h1 => ?_)
  have h0 := hQ M1 (sRd_F g1) (FaX_r hF hz h1 g1)
  simp +decide only [qX2_takeComparison, am_w1_i, am_w1_r, am_w1_x, am_w1_l, am_w1_w, va_rf_s, am_push_n, am_push_s, am_cs_0, am_cs_i, am_cs_l, am_cs_r, m_uI_K, m_uI_N, m_uI_R, m_uI_L, m_uI_I, m_uL_K, m_uL_N, m_uL_R, m_uL_I, m_uL_L, m_uR_K, m_uR_N, m_uR_I, m_uR_L, m_uR_R, true_and, and_true, true_implies, false_implies, not_true_eq_false, not_false_eq_true, if_true, if_false, false_and, and_false]
  exact h0
theorem f_fact (d : Nat) (o : Int32) (e : Nat × Nat) (M : am_M) (Q : Option Value → am_M → Prop) (b : Bool) (x3 : Int32) (hL : Lay M) (hz : z = 2 ∨ z = 83) (hF : FaX M z T n e) (hQ : ∀ M', gF (sFz z) nT M M' → FaX M' z T n e → Q none M') : am_P am_P0 (d + 5) (am_look tX2_readFact) 4 [.ref 164, .int o, .int (b01 b), .int x3] [] M Q := by
  have h6 : mI M 165 6 = -1 := hF.1.2.2.2.2.2.2
  have hst : StR M T n (.inl e) := hF.1
  have hs := fun Q => c_x_isSign (d + 4) n 91 T (.inl e) M Q hL (by omega) hst
  rw [show nI 91 = (91 : Int32) from rfl] at hs
  have main : am_E am_P0 (d + 4) 26 [.ref 164, .int o] M (fun r M2 => am_P am_P0 (d + 5) (am_look tX2_readFact) 125 [.ref 164, .int o, .int (b01 b), .int x3] (am_push r []) M2 Q) := by
    refine f_sum d o e M _ hL hz hF (fun M1 g1 h1 => ?_)
    have L1 := gF_LayN g1 hL
    simp +decide only [qX2_readFact_0, qX2_readFact_1, lx L1, am_w1_i, am_w1_r, am_w1_x, am_w1_l, am_w1_w, va_rf_s, am_push_n, am_push_s, am_cs_0, am_cs_i, am_cs_l, am_cs_r, m_uI_K, m_uI_N, m_uI_R, m_uI_L, m_uI_I, m_uL_K, m_uL_N, m_uL_R, m_uL_I, m_uL_L, m_uR_K, m_uR_N, m_uR_I, m_uR_L, m_uR_R, true_and, and_true, true_implies, false_implies, not_true_eq_false, not_false_eq_true, if_true, if_false, false_and, and_false]
    refine f_cmp (d + 1) e M1 _ L1 hz h1 (fun M2 g2 h2 => ?_)
    have L2 := gF_LayN g2 L1
    simp +decide only [qX2_readFact_0, qX2_readFact_1, lx L2, am_w1_i, am_w1_r, am_w1_x, am_w1_l, am_w1_w, va_rf_s, am_push_n, am_push_s, am_cs_0, am_cs_i, am_cs_l, am_cs_r, m_uI_K, m_uI_N, m_uI_R, m_uI_L, m_uI_I, m_uL_K, m_uL_N, m_uL_R, m_uL_I, m_uL_L, m_uR_K, m_uR_N, m_uR_I, m_uR_L, m_uR_R, true_and, and_true, true_implies, false_implies, not_true_eq_false, not_false_eq_true, if_true, if_false, false_and, and_false]
    refine f_sum d o e M2 _ L2 hz h2 (fun M3 g3 h3 => ?_)
    have L3 := gF_LayN g3 L2
    simp +decide only [qX2_readFact_0, qX2_readFact_1, lx L3, lz L3 hz, h3.2.1, am_w1_i, am_w1_r, am_w1_x, am_w1_l, am_w1_w, va_rf_s, am_push_n, am_push_s, am_cs_0, am_cs_i, am_cs_l, am_cs_r, m_uI_K, m_uI_N, m_uI_R, m_uI_L, m_uI_I, m_uL_K, m_uL_N, m_uL_R, m_uL_I, m_uL_L, m_uR_K, m_uR_N, m_uR_I, m_uR_L, m_uR_R, true_and, and_true, true_implies, false_implies, not_true_eq_false, not_false_eq_true, if_true, if_false, false_and, and_false]
    refine f_emit (d + 4) e (-15) M3 _ L3 hz h3 (fun M4 g4 h4 => ?_)
    have L4 := gF_LayN g4 L3
    have G := gF_trans g1 (gF_trans g2 (gF_trans g3 g4))
    cases b with
    | false =>
      simp +decide only [qX2_readFact_0, qX2_readFact_1, b01, am_w1_i, am_w1_r, am_w1_x, am_w1_l, am_w1_w, va_rf_s, am_push_n, am_push_s, am_cs_0, am_cs_i, am_cs_l, am_cs_r, m_uI_K, m_uI_N, m_uI_R, m_uI_L, m_uI_I, m_uL_K, m_uL_N, m_uL_R, m_uL_I, m_uL_L, m_uR_K, m_uR_N, m_uR_I, m_uR_L, m_uR_R, true_and, and_true, true_implies, false_implies, not_true_eq_false, not_false_eq_true, if_true, if_false, false_and, and_false]
      exact hQ M4 G h4
    | true =>
      simp +decide only [qX2_readFact_0, qX2_readFact_1, lx L4, lz L4 hz, h4.2.1, b01, am_w1_i, am_w1_r, am_w1_x, am_w1_l, am_w1_w, va_rf_s, am_push_n, am_push_s, am_cs_0, am_cs_i, am_cs_l, am_cs_r, m_uI_K, m_uI_N, m_uI_R, m_uI_L, m_uI_I, m_uL_K, m_uL_N, m_uL_R, m_uL_I, m_uL_L, m_uR_K, m_uR_N, m_uR_I, m_uR_L, m_uR_R, true_and, and_true, true_implies, false_implies, not_true_eq_false, not_false_eq_true, if_true, if_false, false_and, and_false]
      refine f_emit (d + 4) e (-5) M4 _ L4 hz h4 (fun M5 g5 h5 => ?_)
      simp +decide only [qX2_readFact_0, qX2_readFact_1, am_w1_i, am_w1_r, am_w1_x, am_w1_l, am_w1_w, va_rf_s, am_push_n, am_push_s, am_cs_0, am_cs_i, am_cs_l, am_cs_r, m_uI_K, m_uI_N, m_uI_R, m_uI_L, m_uI_I, m_uL_K, m_uL_N, m_uL_R, m_uL_I, m_uL_L, m_uR_K, m_uR_N, m_uR_I, m_uR_L, m_uR_R, true_and, and_true, true_implies, false_implies, not_true_eq_false, not_false_eq_true, if_true, if_false, false_and, and_false]
      exact hQ M5 (gF_trans G g5) h5
  rw [hX2_readFact_4]
  simp +decide only [qX2_readFact_0, qX2_readFact_1, lx hL, h6, hs, isSr, b01, am_w1_i, am_w1_r, am_w1_x, am_w1_l, am_w1_w, va_rf_s, am_push_n, am_push_s, am_cs_0, am_cs_i, am_cs_l, am_cs_r, m_uI_K, m_uI_N, m_uI_R, m_uI_L, m_uI_I, m_uL_K, m_uL_N, m_uL_R, m_uL_I, m_uL_L, m_uR_K, m_uR_N, m_uR_I, m_uR_L, m_uR_R, true_and, and_true, true_implies, false_implies, not_true_eq_false, not_false_eq_true, if_true, if_false, false_and, and_false] at main ⊢
  by_cases c : (1800 : Int32) ≤ x3
  · rw [br_p c]
    exact main
  · rw [br_n c]
    exact main
theorem f_factE (d : Nat) (o : Int32) (e : Nat × Nat) (M : am_M) (Q : Option Value → am_M → Prop) (hL : Lay M) (hz : z = 2 ∨ z = 83) (hF : FaX M z T n e) (hQ : ∀ M', gF (sFz z) nT M M' → FaX M' z T n e → Q none M') : am_E am_P0 (d + 5) 24 [.ref 164, .int o] M Q := by
  rw [eX2_readFact]
  simp +decide only [qX2_readFact_0, qX2_readFact_1, am_w1_i, am_w1_r, am_w1_x, am_w1_l, am_w1_w, va_rf_s, am_push_n, am_push_s, am_cs_0, am_cs_i, am_cs_l, am_cs_r, m_uI_K, m_uI_N, m_uI_R, m_uI_L, m_uI_I, m_uL_K, m_uL_N, m_uL_R, m_uL_I, m_uL_L, m_uR_K, m_uR_N, m_uR_I, m_uR_L, m_uR_R, true_and, and_true, true_implies, false_implies, not_true_eq_false, not_false_eq_true, if_true, if_false, false_and, and_false]
  exact f_fact d o e M Q false 0 hL hz hF hQ
theorem f_both (d : Nat) (o : Int32) (e : Nat × Nat) (M : am_M) (Q : Option Value → am_M → Prop) (hL : Lay M) (hz : z = 2 ∨ z = 83) (hF : FaX M z T n e) (hQ : ∀ M', gF (sFz z) nT M M' → FaX M' z T n e → Q none M') : am_E am_P0 (d + 6) 23 [.ref 164, .int o] M Q := by
  rw [eX2_readBoth]
  simp +decide only [qX2_readBoth, lx hL, am_w1_i, am_w1_r, am_w1_x, am_w1_l, am_w1_w, va_rf_s, am_push_n, am_push_s, am_cs_0, am_cs_i, am_cs_l, am_cs_r, m_uI_K, m_uI_N, m_uI_R, m_uI_L, m_uI_I, m_uL_K, m_uL_N, m_uL_R, m_uL_I, m_uL_L, m_uR_K, m_uR_N, m_uR_I, m_uR_L, m_uR_R, true_and, and_true, true_implies, false_implies, not_true_eq_false, not_false_eq_true, if_true, if_false, false_and, and_false]
  refine f_factE d o e M _ hL hz hF (fun M1 g1 h1 => ?_)
  have h0 := hQ M1 g1 h1
  have h6 : mI M1 165 6 = -1 := h1.1.2.2.2.2.2.2
  simp +decide only [qX2_readBoth, am_w1_i, am_w1_r, am_w1_x, am_w1_l, am_w1_w, va_rf_s, am_push_n, am_push_s, am_cs_0, am_cs_i, am_cs_l, am_cs_r, m_uI_K, m_uI_N, m_uI_R, m_uI_L, m_uI_I, m_uL_K, m_uL_N, m_uL_R, m_uL_I, m_uL_L, m_uR_K, m_uR_N, m_uR_I, m_uR_L, m_uR_R, true_and, and_true, true_implies, false_implies, not_true_eq_false, not_false_eq_true, if_true, if_false, false_and, and_false]
  rw [hX2_readBoth_7]
  simp +decide only [qX2_readBoth, lx (gF_LayN g1 hL), h6, am_w1_i, am_w1_r, am_w1_x, am_w1_l, am_w1_w, va_rf_s, am_push_n, am_push_s, am_cs_0, am_cs_i, am_cs_l, am_cs_r, m_uI_K, m_uI_N, m_uI_R, m_uI_L, m_uI_I, m_uL_K, m_uL_N, m_uL_R, m_uL_I, m_uL_L, m_uR_K, m_uR_N, m_uR_I, m_uR_L, m_uR_R, true_and, and_true, true_implies, false_implies, not_true_eq_false, not_false_eq_true, if_true, if_false, false_and, and_false]
  exact h0
theorem f_test (d : Nat) (o : Int32) (e : Nat × Nat) (M : am_M) (Q : Option Value → am_M → Prop) (hL : Lay M) (hz : z = 2 ∨ z = 83) (hF : FaX M z T n e) (hQ : ∀ M', gF (sFz z) nT M M' → FaX M' z T n e → Q none M') : am_E am_P0 (d + 7) 22 [.ref 164, .int o] M Q := by
  rw [eX2_readTest]
  simp +decide only [qX2_readTest, lx hL, am_w1_i, am_w1_r, am_w1_x, am_w1_l, am_w1_w, va_rf_s, am_push_n, am_push_s, am_cs_0, am_cs_i, am_cs_l, am_cs_r, m_uI_K, m_uI_N, m_uI_R, m_uI_L, m_uI_I, m_uL_K, m_uL_N, m_uL_R, m_uL_I, m_uL_L, m_uR_K, m_uR_N, m_uR_I, m_uR_L, m_uR_R, true_and, and_true, true_implies, false_implies, not_true_eq_false, not_false_eq_true, if_true, if_false, false_and, and_false]
  refine f_both d o e M _ hL hz hF (fun M1 g1 h1 => ?_)
  have h0 := hQ M1 g1 h1
  have h6 : mI M1 165 6 = -1 := h1.1.2.2.2.2.2.2
  simp +decide only [qX2_readTest, am_w1_i, am_w1_r, am_w1_x, am_w1_l, am_w1_w, va_rf_s, am_push_n, am_push_s, am_cs_0, am_cs_i, am_cs_l, am_cs_r, m_uI_K, m_uI_N, m_uI_R, m_uI_L, m_uI_I, m_uL_K, m_uL_N, m_uL_R, m_uL_I, m_uL_L, m_uR_K, m_uR_N, m_uR_I, m_uR_L, m_uR_R, true_and, and_true, true_implies, false_implies, not_true_eq_false, not_false_eq_true, if_true, if_false, false_and, and_false]
  rw [hX2_readTest_7]
  simp +decide only [qX2_readTest, lx (gF_LayN g1 hL), h6, am_w1_i, am_w1_r, am_w1_x, am_w1_l, am_w1_w, va_rf_s, am_push_n, am_push_s, am_cs_0, am_cs_i, am_cs_l, am_cs_r, m_uI_K, m_uI_N, m_uI_R, m_uI_L, m_uI_I, m_uL_K, m_uL_N, m_uL_R, m_uL_I, m_uL_L, m_uR_K, m_uR_N, m_uR_I, m_uR_L, m_uR_R, true_and, and_true, true_implies, false_implies, not_true_eq_false, not_false_eq_true, if_true, if_false, false_and, and_false]
  exact h0
end
