/-! the class's parser: min, max, parts -/
section
variable {T : Nat → Nat} {n z : Nat}
theorem f_open (d c0 : Nat) (o : Int32) (e : Nat × Nat) (M : am_M) (Q : Option Value → am_M → Prop) (hL : Lay M) (hz : z = 2 ∨ z = 83) (hc0 : c0 < 256) (hF : FaX M z T n e) (hQ : ∀ M', gF (sFz z) nT M M' → FaX M' z T n e → Q (some (.int 0)) M') : am_E am_P0 (d + 2) 32 [.ref 164, .int (nI c0), .int o] M Q := by
  have hst : StR M T n (.inl e) := hF.1
  have s1 := fun Q => c_x_isSign (d + 1) n c0 T (.inl e) M Q hL hc0 hst
  rw [eX2_takeOpening]
  simp +decide only [qX2_takeOpening, lx hL, s1, isSr, b01, am_w1_i, am_w1_r, am_w1_x, am_w1_l, am_w1_w, va_rf_s, am_push_n, am_push_s, am_cs_0, am_cs_i, am_cs_l, am_cs_r, m_uI_K, m_uI_N, m_uI_R, m_uI_L, m_uI_I, m_uL_K, m_uL_N, m_uL_R, m_uL_I, m_uL_L, m_uR_K, m_uR_N, m_uR_I, m_uR_L, m_uR_R, true_and, and_true, true_implies, false_implies, not_true_eq_false, not_false_eq_true, if_true, if_false, false_and, and_false]
  rw [show (1 : Int32) = nI 1 from rfl]
  refine c_x_refuse d n 1 T (.inl e) M _ hL (by omega) hst (fun M1 g1 h1 => ?_)
  have h0 := hQ M1 (sRd_F g1) (FaX_r hF hz h1 g1)
  simp +decide only [qX2_takeOpening, am_w1_i, am_w1_r, am_w1_x, am_w1_l, am_w1_w, va_rf_s, am_push_n, am_push_s, am_cs_0, am_cs_i, am_cs_l, am_cs_r, m_uI_K, m_uI_N, m_uI_R, m_uI_L, m_uI_I, m_uL_K, m_uL_N, m_uL_R, m_uL_I, m_uL_L, m_uR_K, m_uR_N, m_uR_I, m_uR_L, m_uR_R, true_and, and_true, true_implies, false_implies, not_true_eq_false, not_false_eq_true, if_true, if_false, false_and, and_false]
  exact h0
theorem ft_41 (d : Nat) (x o : Int32) (e : Nat × Nat) (M : am_M) (Q : Option Value → am_M → Prop) (hL : Lay M) (hz : z = 2 ∨ z = 83) (hF : FaX M z T n e) (hQ : ∀ M', gF (sFz z) nT M M' → FaX M' z T n e → Q none M') : am_P am_P0 (d + 11) (am_look tX2_readChoice) 41 [.ref 164, .int x, .int o] [] M Q := by
  simp +decide only [qX2_readChoice, lx hL, am_w1_i, am_w1_r, am_w1_x, am_w1_l, am_w1_w, va_rf_s, am_push_n, am_push_s, am_cs_0, am_cs_i, am_cs_l, am_cs_r, m_uI_K, m_uI_N, m_uI_R, m_uI_L, m_uI_I, m_uL_K, m_uL_N, m_uL_R, m_uL_I, m_uL_L, m_uR_K, m_uR_N, m_uR_I, m_uR_L, m_uR_R, true_and, and_true, true_implies, false_implies, not_true_eq_false, not_false_eq_true, if_true, if_false, false_and, and_false]
  rw [show (41 : Int32) = nI 41 from rfl]
  refine f_sign (d + 8) 41 e M _ hL hz (by omega) hF (fun M1 g1 F1 => ?_)
  have L1 := gF_LayN g1 hL
  simp +decide only [qX2_readChoice, lx L1, lz L1 hz, F1.2.1, am_w1_i, am_w1_r, am_w1_x, am_w1_l, am_w1_w, va_rf_s, am_push_n, am_push_s, am_cs_0, am_cs_i, am_cs_l, am_cs_r, m_uI_K, m_uI_N, m_uI_R, m_uI_L, m_uI_I, m_uL_K, m_uL_N, m_uL_R, m_uL_I, m_uL_L, m_uR_K, m_uR_N, m_uR_I, m_uR_L, m_uR_R, true_and, and_true, true_implies, false_implies, not_true_eq_false, not_false_eq_true, if_true, if_false, false_and, and_false]
  refine f_emit (d + 10) e x M1 _ L1 hz F1 (fun M2 g2 F2 => ?_)
  have h0 := hQ M2 (gF_trans g1 g2) F2
  simp +decide only [qX2_readChoice, am_w1_i, am_w1_r, am_w1_x, am_w1_l, am_w1_w, va_rf_s, am_push_n, am_push_s, am_cs_0, am_cs_i, am_cs_l, am_cs_r, m_uI_K, m_uI_N, m_uI_R, m_uI_L, m_uI_I, m_uL_K, m_uL_N, m_uL_R, m_uL_I, m_uL_L, m_uR_K, m_uR_N, m_uR_I, m_uR_L, m_uR_R, true_and, and_true, true_implies, false_implies, not_true_eq_false, not_false_eq_true, if_true, if_false, false_and, and_false]
  exact h0
theorem ft_34 (d : Nat) (x o : Int32) (e : Nat × Nat) (M : am_M) (Q : Option Value → am_M → Prop) (hL : Lay M) (hz : z = 2 ∨ z = 83) (hF : FaX M z T n e) (hQ : ∀ M', gF (sFz z) nT M M' → FaX M' z T n e → Q none M') : am_P am_P0 (d + 11) (am_look tX2_readChoice) 34 [.ref 164, .int x, .int o] [] M Q := by
  simp +decide only [qX2_readChoice, lx hL, am_w1_i, am_w1_r, am_w1_x, am_w1_l, am_w1_w, va_rf_s, am_push_n, am_push_s, am_cs_0, am_cs_i, am_cs_l, am_cs_r, m_uI_K, m_uI_N, m_uI_R, m_uI_L, m_uI_I, m_uL_K, m_uL_N, m_uL_R, m_uL_I, m_uL_L, m_uR_K, m_uR_N, m_uR_I, m_uR_L, m_uR_R, true_and, and_true, true_implies, false_implies, not_true_eq_false, not_false_eq_true, if_true, if_false, false_and, and_false]
  refine f_sum (d + 6) (o + 1) e M _ hL hz hF (fun M1 g1 F1 => ?_)
  have L1 := gF_LayN g1 hL
  have h0 := ft_41 d x o e M1 Q L1 hz F1 (fun M' g' F' => hQ M' (gF_trans g1 g') F')
  simp +decide only [qX2_readChoice, lx L1, am_w1_i, am_w1_r, am_w1_x, am_w1_l, am_w1_w, va_rf_s, am_push_n, am_push_s, am_cs_0, am_cs_i, am_cs_l, am_cs_r, m_uI_K, m_uI_N, m_uI_R, m_uI_L, m_uI_I, m_uL_K, m_uL_N, m_uL_R, m_uL_I, m_uL_L, m_uR_K, m_uR_N, m_uR_I, m_uR_L, m_uR_R, true_and, and_true, true_implies, false_implies, not_true_eq_false, not_false_eq_true, if_true, if_false, false_and, and_false] at h0 ⊢
  exact h0
theorem ft_25 (d : Nat) (x o : Int32) (e : Nat × Nat) (M : am_M) (Q : Option Value → am_M → Prop) (hL : Lay M) (hz : z = 2 ∨ z = 83) (hF : FaX M z T n e) (hQ : ∀ M', gF (sFz z) nT M M' → FaX M' z T n e → Q none M') : am_P am_P0 (d + 11) (am_look tX2_readChoice) 25 [.ref 164, .int x, .int o] [] M Q := by
  simp +decide only [qX2_readChoice, lx hL, am_w1_i, am_w1_r, am_w1_x, am_w1_l, am_w1_w, va_rf_s, am_push_n, am_push_s, am_cs_0, am_cs_i, am_cs_l, am_cs_r, m_uI_K, m_uI_N, m_uI_R, m_uI_L, m_uI_I, m_uL_K, m_uL_N, m_uL_R, m_uL_I, m_uL_L, m_uR_K, m_uR_N, m_uR_I, m_uR_L, m_uR_R, true_and, and_true, true_implies, false_implies, not_true_eq_false, not_false_eq_true, if_true, if_false, false_and, and_false]
  rw [show (44 : Int32) = nI 44 from rfl]
  refine f_sign (d + 8) 44 e M _ hL hz (by omega) hF (fun M1 g1 F1 => ?_)
  have L1 := gF_LayN g1 hL
  have h0 := ft_34 d x o e M1 Q L1 hz F1 (fun M' g' F' => hQ M' (gF_trans g1 g') F')
  simp +decide only [qX2_readChoice, lx L1, am_w1_i, am_w1_r, am_w1_x, am_w1_l, am_w1_w, va_rf_s, am_push_n, am_push_s, am_cs_0, am_cs_i, am_cs_l, am_cs_r, m_uI_K, m_uI_N, m_uI_R, m_uI_L, m_uI_I, m_uL_K, m_uL_N, m_uL_R, m_uL_I, m_uL_L, m_uR_K, m_uR_N, m_uR_I, m_uR_L, m_uR_R, true_and, and_true, true_implies, false_implies, not_true_eq_false, not_false_eq_true, if_true, if_false, false_and, and_false] at h0 ⊢
  exact h0
theorem ft_18 (d : Nat) (x o : Int32) (e : Nat × Nat) (M : am_M) (Q : Option Value → am_M → Prop) (hL : Lay M) (hz : z = 2 ∨ z = 83) (hF : FaX M z T n e) (hQ : ∀ M', gF (sFz z) nT M M' → FaX M' z T n e → Q none M') : am_P am_P0 (d + 11) (am_look tX2_readChoice) 18 [.ref 164, .int x, .int o] [] M Q := by
  simp +decide only [qX2_readChoice, lx hL, am_w1_i, am_w1_r, am_w1_x, am_w1_l, am_w1_w, va_rf_s, am_push_n, am_push_s, am_cs_0, am_cs_i, am_cs_l, am_cs_r, m_uI_K, m_uI_N, m_uI_R, m_uI_L, m_uI_I, m_uL_K, m_uL_N, m_uL_R, m_uL_I, m_uL_L, m_uR_K, m_uR_N, m_uR_I, m_uR_L, m_uR_R, true_and, and_true, true_implies, false_implies, not_true_eq_false, not_false_eq_true, if_true, if_false, false_and, and_false]
  refine f_sum (d + 6) (o + 1) e M _ hL hz hF (fun M1 g1 F1 => ?_)
  have L1 := gF_LayN g1 hL
  have h0 := ft_25 d x o e M1 Q L1 hz F1 (fun M' g' F' => hQ M' (gF_trans g1 g') F')
  simp +decide only [qX2_readChoice, lx L1, am_w1_i, am_w1_r, am_w1_x, am_w1_l, am_w1_w, va_rf_s, am_push_n, am_push_s, am_cs_0, am_cs_i, am_cs_l, am_cs_r, m_uI_K, m_uI_N, m_uI_R, m_uI_L, m_uI_I, m_uL_K, m_uL_N, m_uL_R, m_uL_I, m_uL_L, m_uR_K, m_uR_N, m_uR_I, m_uR_L, m_uR_R, true_and, and_true, true_implies, false_implies, not_true_eq_false, not_false_eq_true, if_true, if_false, false_and, and_false] at h0 ⊢
  exact h0
theorem g_choice (hz : z = 2 ∨ z = 83) (hn : n ≤ 1800) (f : Nat) (h0 : HP T n z 0 26 3 2 f) (d op o : Nat) (x : Int32) (t : Tok) (v : Den) (res : Sum (Nat × Nat) (Tok × Den)) (a c : Nat) (vs : List Den) (M : am_M) (Q : Option Value → am_M → Prop) (ho : o ≤ 8) (hD : 12 * (9 - o) ≤ d + 12) (hx : inX x = (op, 0)) (hop1 : op = 15 ∨ op = 16) (hG : GoX T n z M a c vs t) (hl : vs.length ≤ 3 * o + 5) (ht0 : ¬ t.1 = 0)
    (hp : adv T n t (fun t0 => opn T n 40 o t0 (fun t1 => bnd (ps T n f 0 (o + 1) t1 v) (fun t2 u => tks T n 44 t2 (fun t3 => bnd (ps T n f 0 (o + 1) t3 v) (fun t4 u' => tks T n 41 t4 (fun t5 => some (.inr (t5, jnD op u u')))))))) = some res)
    (hQ : ∀ M', PoX T n z a c vs t M M' res → Q none M') : am_E am_P0 (d + 11) 31 [.ref 164, .int x, .int (nI o)] M Q := by
  have hL := hG.1
  have hct := hG.2.2.2.2.2
  have bad : ∀ M' e, res = .inl e → gF (sFz z) nT M M' → FaX M' z T n e → Q none M' := fun M' e he g F => hQ M' (by rw [he]; exact ⟨g, F⟩)
  rw [eX2_readChoice]
  simp +decide only [qX2_readChoice, lx hL, am_w1_i, am_w1_r, am_w1_x, am_w1_l, am_w1_w, va_rf_s, am_push_n, am_push_s, am_cs_0, am_cs_i, am_cs_l, am_cs_r, m_uI_K, m_uI_N, m_uI_R, m_uI_L, m_uI_I, m_uL_K, m_uL_N, m_uL_R, m_uL_I, m_uL_L, m_uR_K, m_uR_N, m_uR_I, m_uR_L, m_uR_R, true_and, and_true, true_implies, false_implies, not_true_eq_false, not_false_eq_true, if_true, if_false, false_and, and_false]
  refine g_step (d + 9) t _ res a c vs M _ hz hG ht0 hp (fun M1 e he g1 F1 => ?_) (fun M1 t0 g1 G1 hs1 hk1 => ?_)
  · have L1 := gF_LayN g1 hL
    simp +decide only [qX2_readChoice, lx L1, am_w1_i, am_w1_r, am_w1_x, am_w1_l, am_w1_w, va_rf_s, am_push_n, am_push_s, am_cs_0, am_cs_i, am_cs_l, am_cs_r, m_uI_K, m_uI_N, m_uI_R, m_uI_L, m_uI_I, m_uL_K, m_uL_N, m_uL_R, m_uL_I, m_uL_L, m_uR_K, m_uR_N, m_uR_I, m_uR_L, m_uR_R, true_and, and_true, true_implies, false_implies, not_true_eq_false, not_false_eq_true, if_true, if_false, false_and, and_false]
    rw [show (40 : Int32) = nI 40 from rfl]
    refine f_open (d + 8) 40 (nI o) e M1 _ L1 hz (by omega) F1 (fun M2 g2 F2 => ?_)
    have h9 := bad M2 e he (gF_trans (sRd_F g1) g2) F2
    simp +decide only [qX2_readChoice, am_w1_i, am_w1_r, am_w1_x, am_w1_l, am_w1_w, va_rf_s, am_push_n, am_push_s, am_cs_0, am_cs_i, am_cs_l, am_cs_r, m_uI_K, m_uI_N, m_uI_R, m_uI_L, m_uI_I, m_uL_K, m_uL_N, m_uL_R, m_uL_I, m_uL_L, m_uR_K, m_uR_N, m_uR_I, m_uR_L, m_uR_R, true_and, and_true, true_implies, false_implies, not_true_eq_false, not_false_eq_true, if_true, if_false, false_and, and_false]
    exact h9
  · have L1 := G1.1
    simp +decide only [qX2_readChoice, lx L1, am_w1_i, am_w1_r, am_w1_x, am_w1_l, am_w1_w, va_rf_s, am_push_n, am_push_s, am_cs_0, am_cs_i, am_cs_l, am_cs_r, m_uI_K, m_uI_N, m_uI_R, m_uI_L, m_uI_I, m_uL_K, m_uL_N, m_uL_R, m_uL_I, m_uL_L, m_uR_K, m_uR_N, m_uR_I, m_uR_L, m_uR_R, true_and, and_true, true_implies, false_implies, not_true_eq_false, not_false_eq_true, if_true, if_false, false_and, and_false]
    rw [show (40 : Int32) = nI 40 from rfl]
    refine g_open (d + 8) 40 o t0 _ res a c vs M1 _ hz (by omega) ho G1 hk1 (fun M2 e he g2 F2 => ?_) (fun M2 e he g2 F2 => ?_) (fun M2 t1 ho8 g2 G2 hs2 hk2 => ?_)
    · have h9 := bad M2 e he (gF_trans (sRd_F g1) (sRd_F g2)) F2
      simp +decide only [qX2_readChoice, am_w1_i, am_w1_r, am_w1_x, am_w1_l, am_w1_w, va_rf_s, am_push_n, am_push_s, am_cs_0, am_cs_i, am_cs_l, am_cs_r, m_uI_K, m_uI_N, m_uI_R, m_uI_L, m_uI_I, m_uL_K, m_uL_N, m_uL_R, m_uL_I, m_uL_L, m_uR_K, m_uR_N, m_uR_I, m_uR_L, m_uR_R, true_and, and_true, true_implies, false_implies, not_true_eq_false, not_false_eq_true, if_true, if_false, false_and, and_false]
      exact h9
    · have L2 := gF_LayN g2 L1
      have h9 := ft_18 d x (nI o) e M2 Q L2 hz F2 (fun M' g' F' => bad M' e he (gF_trans (sRd_F g1) (gF_trans (sRd_F g2) g')) F')
      simp +decide only [qX2_readChoice, lx L2, am_w1_i, am_w1_r, am_w1_x, am_w1_l, am_w1_w, va_rf_s, am_push_n, am_push_s, am_cs_0, am_cs_i, am_cs_l, am_cs_r, m_uI_K, m_uI_N, m_uI_R, m_uI_L, m_uI_I, m_uL_K, m_uL_N, m_uL_R, m_uL_I, m_uL_L, m_uR_K, m_uR_N, m_uR_I, m_uR_L, m_uR_R, true_and, and_true, true_implies, false_implies, not_true_eq_false, not_false_eq_true, if_true, if_false, false_and, and_false] at h9 ⊢
      exact h9
    · have L2 := G2.1
      simp +decide only [qX2_readChoice, lx L2, ni_add1, am_w1_i, am_w1_r, am_w1_x, am_w1_l, am_w1_w, va_rf_s, am_push_n, am_push_s, am_cs_0, am_cs_i, am_cs_l, am_cs_r, m_uI_K, m_uI_N, m_uI_R, m_uI_L, m_uI_I, m_uL_K, m_uL_N, m_uL_R, m_uL_I, m_uL_L, m_uR_K, m_uR_N, m_uR_I, m_uR_L, m_uR_R, true_and, and_true, true_implies, false_implies, not_true_eq_false, not_false_eq_true, if_true, if_false, false_and, and_false]
      have tail25 : ∀ M3 e, res = .inl e → gF (sFz z) nT M M3 → FaX M3 z T n e → am_P am_P0 (d + 11) (am_look tX2_readChoice) 25 [.ref 164, .int x, .int (nI o)] [] M3 Q := fun M3 e he g3 F3 => ft_25 d x (nI o) e M3 Q (gF_LayN g3 hL) hz F3 (fun M' g' F' => bad M' e he (gF_trans g3 g') F')
      have G12 : gF (sPz z c) nT M M2 := gF_trans (sRd_P g1) (sRd_P g2)
      rcases bnd_some hk2 with ⟨e, he1, he2⟩ | ⟨t2, u, he1, he2⟩
      · refine h0 (d + 10) (o + 1) t1 v a c vs M2 _ _ (by omega) (by omega) G2 (by omega) he1 (fun M3 P3 => ?_)
        obtain ⟨g3, F3⟩ : gF (sFz z) nT M2 M3 ∧ FaX M3 z T n e := P3
        have h9 := tail25 M3 e he2 (gF_trans (sPz_F G12) g3) F3
        simp +decide only [qX2_readChoice, lx (gF_LayN g3 L2), am_w1_i, am_w1_r, am_w1_x, am_w1_l, am_w1_w, va_rf_s, am_push_n, am_push_s, am_cs_0, am_cs_i, am_cs_l, am_cs_r, m_uI_K, m_uI_N, m_uI_R, m_uI_L, m_uI_I, m_uL_K, m_uL_N, m_uL_R, m_uL_I, m_uL_L, m_uR_K, m_uR_N, m_uR_I, m_uR_L, m_uR_R, true_and, and_true, true_implies, false_implies, not_true_eq_false, not_false_eq_true, if_true, if_false, false_and, and_false] at h9 ⊢
        exact h9
      · refine h0 (d + 10) (o + 1) t1 v a c vs M2 _ _ (by omega) (by omega) G2 (by omega) he1 (fun M3 P3 => ?_)
        obtain ⟨g3, c3, G3, hc3, hc3'⟩ : gF (sPz z c) nT M2 M3 ∧ ∃ c', GoX T n z M3 a c' (u :: vs) t2 ∧ c ≤ c' ∧ c' + tS t1 ≤ c + tS t2 := P3
        have L3 := G3.1
        have hbu := ((ps_typ (T := T) (n := n) f).1 (o + 1) t1 v (tkG_OK (GoX_t G2)) t2 u he1).2
        have G13 := gF_trans G12 g3
        simp +decide only [qX2_readChoice, lx L3, am_w1_i, am_w1_r, am_w1_x, am_w1_l, am_w1_w, va_rf_s, am_push_n, am_push_s, am_cs_0, am_cs_i, am_cs_l, am_cs_r, m_uI_K, m_uI_N, m_uI_R, m_uI_L, m_uI_I, m_uL_K, m_uL_N, m_uL_R, m_uL_I, m_uL_L, m_uR_K, m_uR_N, m_uR_I, m_uR_L, m_uR_R, true_and, and_true, true_implies, false_implies, not_true_eq_false, not_false_eq_true, if_true, if_false, false_and, and_false]
        rw [show (44 : Int32) = nI 44 from rfl]
        refine g_sign (d + 8) 44 t2 _ res a c3 (u :: vs) M3 _ hz (by omega) G3 he2 (fun M4 e he g4 F4 => ?_) (fun M4 t3 g4 G4 hs4 hk4 => ?_)
        · have h9 := ft_34 d x (nI o) e M4 Q (gF_LayN g4 L3) hz F4 (fun M' g' F' => bad M' e he (gF_trans (sPz_F G13) (gF_trans (sRd_F g4) g')) F')
          simp +decide only [qX2_readChoice, lx (gF_LayN g4 L3), am_w1_i, am_w1_r, am_w1_x, am_w1_l, am_w1_w, va_rf_s, am_push_n, am_push_s, am_cs_0, am_cs_i, am_cs_l, am_cs_r, m_uI_K, m_uI_N, m_uI_R, m_uI_L, m_uI_I, m_uL_K, m_uL_N, m_uL_R, m_uL_I, m_uL_L, m_uR_K, m_uR_N, m_uR_I, m_uR_L, m_uR_R, true_and, and_true, true_implies, false_implies, not_true_eq_false, not_false_eq_true, if_true, if_false, false_and, and_false] at h9 ⊢
          exact h9
        · have L4 := G4.1
          have G14 := gF_trans G13 (sRd_P (z := z) (c := c) g4)
          simp +decide only [qX2_readChoice, lx L4, ni_add1, am_w1_i, am_w1_r, am_w1_x, am_w1_l, am_w1_w, va_rf_s, am_push_n, am_push_s, am_cs_0, am_cs_i, am_cs_l, am_cs_r, m_uI_K, m_uI_N, m_uI_R, m_uI_L, m_uI_I, m_uL_K, m_uL_N, m_uL_R, m_uL_I, m_uL_L, m_uR_K, m_uR_N, m_uR_I, m_uR_L, m_uR_R, true_and, and_true, true_implies, false_implies, not_true_eq_false, not_false_eq_true, if_true, if_false, false_and, and_false]
          rcases bnd_some hk4 with ⟨e, hf1, hf2⟩ | ⟨t4, u', hf1, hf2⟩
          · refine h0 (d + 10) (o + 1) t3 v a c3 (u :: vs) M4 _ _ (by omega) (by omega) G4 (by rw [List.length_cons]; omega) hf1 (fun M5 P5 => ?_)
            obtain ⟨g5, F5⟩ : gF (sFz z) nT M4 M5 ∧ FaX M5 z T n e := P5
            have h9 := ft_41 d x (nI o) e M5 Q (gF_LayN g5 L4) hz F5 (fun M' g' F' => bad M' e hf2 (gF_trans (sPz_F G14) (gF_trans g5 g')) F')
            simp +decide only [qX2_readChoice, lx (gF_LayN g5 L4), am_w1_i, am_w1_r, am_w1_x, am_w1_l, am_w1_w, va_rf_s, am_push_n, am_push_s, am_cs_0, am_cs_i, am_cs_l, am_cs_r, m_uI_K, m_uI_N, m_uI_R, m_uI_L, m_uI_I, m_uL_K, m_uL_N, m_uL_R, m_uL_I, m_uL_L, m_uR_K, m_uR_N, m_uR_I, m_uR_L, m_uR_R, true_and, and_true, true_implies, false_implies, not_true_eq_false, not_false_eq_true, if_true, if_false, false_and, and_false] at h9 ⊢
            exact h9
          · refine h0 (d + 10) (o + 1) t3 v a c3 (u :: vs) M4 _ _ (by omega) (by omega) G4 (by rw [List.length_cons]; omega) hf1 (fun M5 P5 => ?_)
            obtain ⟨g5, c5, G5, hc5, hc5'⟩ : gF (sPz z c3) nT M4 M5 ∧ ∃ c', GoX T n z M5 a c' (u' :: u :: vs) t4 ∧ c3 ≤ c' ∧ c' + tS t3 ≤ c3 + tS t4 := P5
            have L5 := G5.1
            have hbu' := ((ps_typ (T := T) (n := n) f).1 (o + 1) t3 v (tkG_OK (GoX_t G4)) t4 u' hf1).2
            have G15 := gF_trans G14 (sPz_le (c := c) g5 hc3)
            simp +decide only [qX2_readChoice, lx L5, am_w1_i, am_w1_r, am_w1_x, am_w1_l, am_w1_w, va_rf_s, am_push_n, am_push_s, am_cs_0, am_cs_i, am_cs_l, am_cs_r, m_uI_K, m_uI_N, m_uI_R, m_uI_L, m_uI_I, m_uL_K, m_uL_N, m_uL_R, m_uL_I, m_uL_L, m_uR_K, m_uR_N, m_uR_I, m_uR_L, m_uR_R, true_and, and_true, true_implies, false_implies, not_true_eq_false, not_false_eq_true, if_true, if_false, false_and, and_false]
            rw [show (41 : Int32) = nI 41 from rfl]
            refine g_sign (d + 8) 41 t4 _ res a c5 (u' :: u :: vs) M5 _ hz (by omega) G5 hf2 (fun M6 e he g6 F6 => ?_) (fun M6 t5 g6 G6 hs6 hk6 => ?_)
            · have L6 := gF_LayN g6 L5
              simp +decide only [qX2_readChoice, lx L6, lz L6 hz, F6.2.1, am_w1_i, am_w1_r, am_w1_x, am_w1_l, am_w1_w, va_rf_s, am_push_n, am_push_s, am_cs_0, am_cs_i, am_cs_l, am_cs_r, m_uI_K, m_uI_N, m_uI_R, m_uI_L, m_uI_I, m_uL_K, m_uL_N, m_uL_R, m_uL_I, m_uL_L, m_uR_K, m_uR_N, m_uR_I, m_uR_L, m_uR_R, true_and, and_true, true_implies, false_implies, not_true_eq_false, not_false_eq_true, if_true, if_false, false_and, and_false]
              refine f_emit (d + 10) e x M6 _ L6 hz F6 (fun M7 g7 F7 => ?_)
              have h9 := bad M7 e he (gF_trans (sPz_F G15) (gF_trans (sRd_F g6) g7)) F7
              simp +decide only [qX2_readChoice, am_w1_i, am_w1_r, am_w1_x, am_w1_l, am_w1_w, va_rf_s, am_push_n, am_push_s, am_cs_0, am_cs_i, am_cs_l, am_cs_r, m_uI_K, m_uI_N, m_uI_R, m_uI_L, m_uI_I, m_uL_K, m_uL_N, m_uL_R, m_uL_I, m_uL_L, m_uR_K, m_uR_N, m_uR_I, m_uR_L, m_uR_R, true_and, and_true, true_implies, false_implies, not_true_eq_false, not_false_eq_true, if_true, if_false, false_and, and_false]
              exact h9
            · cases hk6
              have L6 := G6.1
              have hop := op_bin (r := vs) hx (by omega) (by omega) hbu hbu'
              simp +decide only [qX2_readChoice, lx L6, lz L6 hz, G6.2.1, am_w1_i, am_w1_r, am_w1_x, am_w1_l, am_w1_w, va_rf_s, am_push_n, am_push_s, am_cs_0, am_cs_i, am_cs_l, am_cs_r, m_uI_K, m_uI_N, m_uI_R, m_uI_L, m_uI_I, m_uL_K, m_uL_N, m_uL_R, m_uL_I, m_uL_L, m_uR_K, m_uR_N, m_uR_I, m_uR_L, m_uR_R, true_and, and_true, true_implies, false_implies, not_true_eq_false, not_false_eq_true, if_true, if_false, false_and, and_false]
              refine g_emit (d + 10) x t5 a c5 (u' :: u :: vs) M6 _ hz hn G6 (by omega) hop.1 (fun M7 g7 G7 => ?_)
              rw [hop.2] at G7
              have h9 := hQ M7 ⟨gF_trans G15 (gF_trans (sRd_P g6) (sPz_le g7 (by omega))), c5 + 1, G7, by omega, by show c5 + 1 + tS t ≤ c + tS t5; omega⟩
              simp +decide only [qX2_readChoice, am_w1_i, am_w1_r, am_w1_x, am_w1_l, am_w1_w, va_rf_s, am_push_n, am_push_s, am_cs_0, am_cs_i, am_cs_l, am_cs_r, m_uI_K, m_uI_N, m_uI_R, m_uI_L, m_uI_I, m_uL_K, m_uL_N, m_uL_R, m_uL_I, m_uL_L, m_uR_K, m_uR_N, m_uR_I, m_uR_L, m_uR_R, true_and, and_true, true_implies, false_implies, not_true_eq_false, not_false_eq_true, if_true, if_false, false_and, and_false]
              exact h9
theorem lk_w (x : Int32) (h : ¬ x = 1 ∧ ¬ x = 16 ∧ ¬ x = 23 ∧ ¬ x = 24 ∧ ¬ x = 25 ∧ ¬ x = 26) : am_lk [(1, 154), (16, 145), (23, 128), (24, 136), (25, 163), (26, 173)] 183 x = 183 := by
  refine am_lk_out (fun q hq => ?_)
  have k : ∀ y : Int32, ¬ x = y → y.toInt ≠ x.toInt := fun y hy e => hy (Int32.toInt_inj.mp e).symm
  obtain ⟨h1, h2, h3, h4, h5, h6⟩ := h
  simp only [List.mem_cons, List.not_mem_nil, or_false] at hq
  rcases hq with rfl | rfl | rfl | rfl | rfl | rfl
  · exact k 1 h1
  · exact k 16 h2
  · exact k 23 h3
  · exact k 24 h4
  · exact k 25 h5
  · exact k 26 h6
theorem isW_uniq {t : Tok} {l m : List Nat} (h1 : isW t l = true) (h2 : isW t m = true) : l = m := (isW_1 h1).2.symm.trans (isW_1 h2).2
theorem g_part (hz : z = 2 ∨ z = 83) (hn : n ≤ 1800) (f : Nat) (h0 : ∀ f', f' < f → HP T n z 0 26 3 2 f') : HP T n z 4 29 5 0 f := by
  intro D o t v0 a c vs M Q res ho hD hG hl hp hQ
  cases f with
  | zero => cases hp
  | succ f =>
    obtain ⟨d, rfl⟩ : ∃ d, D = d + 12 := ⟨D - 12, by omega⟩
    rw [ps_4] at hp
    obtain ⟨hL, hpa, hR, hf, hc, hct⟩ := id hG
    have hst : StR M T n (.inr t) := hR
    have hG4 := hR.2.2.2.2.1
    have hG5 := hR.2.2.2.2.2.2.2.1
    have hsz := GoX_t hG
    have hle := hsz.2.2.1
    have s1 := fun Q => c_x_isSign (d + 11) n 40 T (.inr t) M Q hL (by omega) hst
    rw [show nI 40 = (40 : Int32) from rfl] at s1
    have bad : ∀ M' e, res = .inl e → gF (sFz z) nT M M' → FaX M' z T n e → Q none M' := fun M' e he g F => hQ M' (by rw [he]; exact ⟨g, F⟩)
    rw [eX2_readPart]
    by_cases c2 : t.1 = 2
    · have hle9 := hsz.2.2.2.2.2.2.1 c2
      have el : leaf t = some (fun _ => (t.2.1 : Int)) := by unfold leaf; rw [if_pos c2]
      rw [el] at hp
      rw [if_neg (by omega)] at hG5
      have hin : inX (nI t.2.1) = (0, (t.2.1 : Int)) := by unfold inX; rw [ni_ti (by omega), if_pos (by omega)]
      have hop : opOK 64 (inX (nI t.2.1)) vs ∧ stD (inX (nI t.2.1)) vs = (fun _ => (t.2.1 : Int)) :: vs := op_leaf (by rw [hin]; show 0 < 10; omega) (by rw [hin]; rfl) (leaf_bd (tkG_OK hsz) el) (by omega)
      have e2 : nI t.1 = 2 := by rw [c2]; rfl
      simp +decide only [qX2_readPart_0, qX2_readPart_1, lx hL, hG4, hG5, e2, am_w1_i, am_w1_r, am_w1_x, am_w1_l, am_w1_w, va_rf_s, am_push_n, am_push_s, am_cs_0, am_cs_i, am_cs_l, am_cs_r, m_uI_K, m_uI_N, m_uI_R, m_uI_L, m_uI_I, m_uL_K, m_uL_N, m_uL_R, m_uL_I, m_uL_L, m_uR_K, m_uR_N, m_uR_I, m_uR_L, m_uR_R, true_and, and_true, true_implies, false_implies, not_true_eq_false, not_false_eq_true, if_true, if_false, false_and, and_false]
      refine g_leaf (d + 9) (nI t.2.1) _ t res a c vs M _ hz hn hG (by omega) hop hp (fun M1 P1 => ?_)
      have h9 := hQ M1 P1
      simp +decide only [qX2_readPart_0, qX2_readPart_1, am_w1_i, am_w1_r, am_w1_x, am_w1_l, am_w1_w, va_rf_s, am_push_n, am_push_s, am_cs_0, am_cs_i, am_cs_l, am_cs_r, m_uI_K, m_uI_N, m_uI_R, m_uI_L, m_uI_I, m_uL_K, m_uL_N, m_uL_R, m_uL_I, m_uL_L, m_uR_K, m_uR_N, m_uR_I, m_uR_L, m_uR_R, true_and, and_true, true_implies, false_implies, not_true_eq_false, not_false_eq_true, if_true, if_false, false_and, and_false]
      exact h9
    · have n2 : ¬ nI t.1 = 2 := fun q => c2 ((ni_eq (b := 2) (by omega) (by omega)).mp q)
      by_cases c40 : isS t 40 = true
      · have el : leaf t = none := by
          have h3 := isS_1 c40
          unfold leaf
          rw [if_neg c2, if_neg (by rw [isW_0 (fun q => by omega)]; decide), if_neg (by rw [isW_0 (fun q => by omega)]; decide), if_neg (by rw [isW_0 (fun q => by omega)]; decide), if_neg (by rw [isW_0 (fun q => by omega)]; decide)]
        rw [el] at hp
        dsimp only at hp
        rw [if_pos c40] at hp
        have c40' : isSr 40 (.inr t) = true := c40
        simp +decide only [qX2_readPart_0, qX2_readPart_1, lx hL, hG4, s1, c40', b01, am_w1_i, am_w1_r, am_w1_x, am_w1_l, am_w1_w, va_rf_s, am_push_n, am_push_s, am_cs_0, am_cs_i, am_cs_l, am_cs_r, m_uI_K, m_uI_N, m_uI_R, m_uI_L, m_uI_I, m_uL_K, m_uL_N, m_uL_R, m_uL_I, m_uL_L, m_uR_K, m_uR_N, m_uR_I, m_uR_L, m_uR_R, true_and, and_true, true_implies, false_implies, not_true_eq_false, not_false_eq_true, if_true, if_false, false_and, and_false]
        rw [br_p n2, show (40 : Int32) = nI 40 from rfl]
        refine g_open (d + 9) 40 o t _ res a c vs M _ hz (by omega) ho hG hp (fun M2 e he g2 F2 => ?_) (fun M2 e he g2 F2 => ?_) (fun M2 t1 ho8 g2 G2 hs2 hk2 => ?_)
        · have h9 := bad M2 e he (sRd_F g2) F2
          simp +decide only [qX2_readPart_0, qX2_readPart_1, am_w1_i, am_w1_r, am_w1_x, am_w1_l, am_w1_w, va_rf_s, am_push_n, am_push_s, am_cs_0, am_cs_i, am_cs_l, am_cs_r, m_uI_K, m_uI_N, m_uI_R, m_uI_L, m_uI_I, m_uL_K, m_uL_N, m_uL_R, m_uL_I, m_uL_L, m_uR_K, m_uR_N, m_uR_I, m_uR_L, m_uR_R, true_and, and_true, true_implies, false_implies, not_true_eq_false, not_false_eq_true, if_true, if_false, false_and, and_false]
          exact h9
        · have L2 := gF_LayN g2 hL
          simp +decide only [qX2_readPart_0, qX2_readPart_1, lx L2, am_w1_i, am_w1_r, am_w1_x, am_w1_l, am_w1_w, va_rf_s, am_push_n, am_push_s, am_cs_0, am_cs_i, am_cs_l, am_cs_r, m_uI_K, m_uI_N, m_uI_R, m_uI_L, m_uI_I, m_uL_K, m_uL_N, m_uL_R, m_uL_I, m_uL_L, m_uR_K, m_uR_N, m_uR_I, m_uR_L, m_uR_R, true_and, and_true, true_implies, false_implies, not_true_eq_false, not_false_eq_true, if_true, if_false, false_and, and_false]
          refine f_sum (d + 7) (nI o + 1) e M2 _ L2 hz F2 (fun M3 g3 F3 => ?_)
          have L3 := gF_LayN g3 L2
          simp +decide only [qX2_readPart_0, qX2_readPart_1, lx L3, am_w1_i, am_w1_r, am_w1_x, am_w1_l, am_w1_w, va_rf_s, am_push_n, am_push_s, am_cs_0, am_cs_i, am_cs_l, am_cs_r, m_uI_K, m_uI_N, m_uI_R, m_uI_L, m_uI_I, m_uL_K, m_uL_N, m_uL_R, m_uL_I, m_uL_L, m_uR_K, m_uR_N, m_uR_I, m_uR_L, m_uR_R, true_and, and_true, true_implies, false_implies, not_true_eq_false, not_false_eq_true, if_true, if_false, false_and, and_false]
          rw [show (41 : Int32) = nI 41 from rfl]
          refine f_sign (d + 9) 41 e M3 _ L3 hz (by omega) F3 (fun M4 g4 F4 => ?_)
          have h9 := bad M4 e he (gF_trans (sRd_F g2) (gF_trans g3 g4)) F4
          simp +decide only [qX2_readPart_0, qX2_readPart_1, am_w1_i, am_w1_r, am_w1_x, am_w1_l, am_w1_w, va_rf_s, am_push_n, am_push_s, am_cs_0, am_cs_i, am_cs_l, am_cs_r, m_uI_K, m_uI_N, m_uI_R, m_uI_L, m_uI_I, m_uL_K, m_uL_N, m_uL_R, m_uL_I, m_uL_L, m_uR_K, m_uR_N, m_uR_I, m_uR_L, m_uR_R, true_and, and_true, true_implies, false_implies, not_true_eq_false, not_false_eq_true, if_true, if_false, false_and, and_false]
          exact h9
        · have L2 := G2.1
          simp +decide only [qX2_readPart_0, qX2_readPart_1, lx L2, ni_add1, am_w1_i, am_w1_r, am_w1_x, am_w1_l, am_w1_w, va_rf_s, am_push_n, am_push_s, am_cs_0, am_cs_i, am_cs_l, am_cs_r, m_uI_K, m_uI_N, m_uI_R, m_uI_L, m_uI_I, m_uL_K, m_uL_N, m_uL_R, m_uL_I, m_uL_L, m_uR_K, m_uR_N, m_uR_I, m_uR_L, m_uR_R, true_and, and_true, true_implies, false_implies, not_true_eq_false, not_false_eq_true, if_true, if_false, false_and, and_false]
          rcases bnd_some hk2 with ⟨e, he1, he2⟩ | ⟨t2, u, he1, he2⟩
          · refine h0 f (by omega) (d + 11) (o + 1) t1 v0 a c vs M2 _ _ (by omega) (by omega) G2 (by omega) he1 (fun M3 P3 => ?_)
            obtain ⟨g3, F3⟩ : gF (sFz z) nT M2 M3 ∧ FaX M3 z T n e := P3
            have L3 := gF_LayN g3 L2
            simp +decide only [qX2_readPart_0, qX2_readPart_1, lx L3, am_w1_i, am_w1_r, am_w1_x, am_w1_l, am_w1_w, va_rf_s, am_push_n, am_push_s, am_cs_0, am_cs_i, am_cs_l, am_cs_r, m_uI_K, m_uI_N, m_uI_R, m_uI_L, m_uI_I, m_uL_K, m_uL_N, m_uL_R, m_uL_I, m_uL_L, m_uR_K, m_uR_N, m_uR_I, m_uR_L, m_uR_R, true_and, and_true, true_implies, false_implies, not_true_eq_false, not_false_eq_true, if_true, if_false, false_and, and_false]
            rw [show (41 : Int32) = nI 41 from rfl]
            refine f_sign (d + 9) 41 e M3 _ L3 hz (by omega) F3 (fun M4 g4 F4 => ?_)
            have h9 := bad M4 e he2 (gF_trans (sRd_F g2) (gF_trans g3 g4)) F4
            simp +decide only [qX2_readPart_0, qX2_readPart_1, am_w1_i, am_w1_r, am_w1_x, am_w1_l, am_w1_w, va_rf_s, am_push_n, am_push_s, am_cs_0, am_cs_i, am_cs_l, am_cs_r, m_uI_K, m_uI_N, m_uI_R, m_uI_L, m_uI_I, m_uL_K, m_uL_N, m_uL_R, m_uL_I, m_uL_L, m_uR_K, m_uR_N, m_uR_I, m_uR_L, m_uR_R, true_and, and_true, true_implies, false_implies, not_true_eq_false, not_false_eq_true, if_true, if_false, false_and, and_false]
            exact h9
          · refine h0 f (by omega) (d + 11) (o + 1) t1 v0 a c vs M2 _ _ (by omega) (by omega) G2 (by omega) he1 (fun M3 P3 => ?_)
            obtain ⟨g3, c3, G3, hc3, hc3'⟩ : gF (sPz z c) nT M2 M3 ∧ ∃ c', GoX T n z M3 a c' (u :: vs) t2 ∧ c ≤ c' ∧ c' + tS t1 ≤ c + tS t2 := P3
            have L3 := G3.1
            simp +decide only [qX2_readPart_0, qX2_readPart_1, lx L3, am_w1_i, am_w1_r, am_w1_x, am_w1_l, am_w1_w, va_rf_s, am_push_n, am_push_s, am_cs_0, am_cs_i, am_cs_l, am_cs_r, m_uI_K, m_uI_N, m_uI_R, m_uI_L, m_uI_I, m_uL_K, m_uL_N, m_uL_R, m_uL_I, m_uL_L, m_uR_K, m_uR_N, m_uR_I, m_uR_L, m_uR_R, true_and, and_true, true_implies, false_implies, not_true_eq_false, not_false_eq_true, if_true, if_false, false_and, and_false]
            rw [show (41 : Int32) = nI 41 from rfl]
            refine g_sign (d + 9) 41 t2 _ res a c3 (u :: vs) M3 _ hz (by omega) G3 he2 (fun M4 e he g4 F4 => ?_) (fun M4 t3 g4 G4 hs4 hk4 => ?_)
            · have h9 := bad M4 e he (gF_trans (sRd_F g2) (gF_trans (sPz_F g3) (sRd_F g4))) F4
              simp +decide only [qX2_readPart_0, qX2_readPart_1, am_w1_i, am_w1_r, am_w1_x, am_w1_l, am_w1_w, va_rf_s, am_push_n, am_push_s, am_cs_0, am_cs_i, am_cs_l, am_cs_r, m_uI_K, m_uI_N, m_uI_R, m_uI_L, m_uI_I, m_uL_K, m_uL_N, m_uL_R, m_uL_I, m_uL_L, m_uR_K, m_uR_N, m_uR_I, m_uR_L, m_uR_R, true_and, and_true, true_implies, false_implies, not_true_eq_false, not_false_eq_true, if_true, if_false, false_and, and_false]
              exact h9
            · cases hk4
              have h9 := hQ M4 ⟨gF_trans (sRd_P g2) (gF_trans g3 (sRd_P g4)), c3, G4, hc3, by show c3 + tS t ≤ c + tS t3; omega⟩
              simp +decide only [qX2_readPart_0, qX2_readPart_1, am_w1_i, am_w1_r, am_w1_x, am_w1_l, am_w1_w, va_rf_s, am_push_n, am_push_s, am_cs_0, am_cs_i, am_cs_l, am_cs_r, m_uI_K, m_uI_N, m_uI_R, m_uI_L, m_uI_I, m_uL_K, m_uL_N, m_uL_R, m_uL_I, m_uL_L, m_uR_K, m_uR_N, m_uR_I, m_uR_L, m_uR_R, true_and, and_true, true_implies, false_implies, not_true_eq_false, not_false_eq_true, if_true, if_false, false_and, and_false]
              exact h9
      · have c40' : isSr 40 (.inr t) = false := by show isS t 40 = false; simpa using c40
        have hw := fun k (hk : k < 27) => wr_is hst hk
        -- the words of a part
        have word : ∀ (k : Nat) (hk : k < 27) (x : Int32) (tg : Nat), mI M 165 6 = nI k → True := fun _ _ _ _ _ => trivial
        simp +decide only [qX2_readPart_0, qX2_readPart_1, lx hL, hG4, s1, c40', b01, am_w1_i, am_w1_r, am_w1_x, am_w1_l, am_w1_w, va_rf_s, am_push_n, am_push_s, am_cs_0, am_cs_i, am_cs_l, am_cs_r, m_uI_K, m_uI_N, m_uI_R, m_uI_L, m_uI_I, m_uL_K, m_uL_N, m_uL_R, m_uL_I, m_uL_L, m_uR_K, m_uR_N, m_uR_I, m_uR_L, m_uR_R, true_and, and_true, true_implies, false_implies, not_true_eq_false, not_false_eq_true, if_true, if_false, false_and, and_false]
        rw [br_p n2]
        have leafW : ∀ (x : Int32) (u : Den) (pc : Nat), leaf t = some u → ldD (inX x) = u → (inX x).1 < 10 → am_E am_P0 (d + 11) 30 [.ref 164, .int x] M (fun r M2 => r = none → Q none M2) := fun x u pc el hl2 hl1 => by
          rw [el] at hp
          refine g_leaf (d + 9) x u t res a c vs M _ hz hn hG (leaf_k el) (op_leaf hl1 hl2 (leaf_bd (tkG_OK hsz) el) (by omega)) hp (fun M1 P1 _ => hQ M1 P1)
        by_cases w23 : isW t wCol = true
        · have h6 := (hw 23 (by omega)).mpr w23
          have el : leaf t = some (fun e => (e.1 : Int)) := by unfold leaf; rw [if_neg c2, if_pos w23]
          rw [el] at hp
          have elk : am_lk [(1, 154), (16, 145), (23, 128), (24, 136), (25, 163), (26, 173)] 183 (nI 23) = 128 := by decide
          rw [h6, elk]
          simp +decide only [qX2_readPart_0, qX2_readPart_1, lx hL, am_w1_i, am_w1_r, am_w1_x, am_w1_l, am_w1_w, va_rf_s, am_push_n, am_push_s, am_cs_0, am_cs_i, am_cs_l, am_cs_r, m_uI_K, m_uI_N, m_uI_R, m_uI_L, m_uI_I, m_uL_K, m_uL_N, m_uL_R, m_uL_I, m_uL_L, m_uR_K, m_uR_N, m_uR_I, m_uR_L, m_uR_R, true_and, and_true, true_implies, false_implies, not_true_eq_false, not_false_eq_true, if_true, if_false, false_and, and_false]
          refine g_leaf (d + 9) (-1) _ t res a c vs M _ hz hn hG (leaf_k el) (op_leaf (by decide) rfl (leaf_bd (tkG_OK hsz) el) (by omega)) hp (fun M1 P1 => ?_)
          have h9 := hQ M1 P1
          simp +decide only [qX2_readPart_0, qX2_readPart_1, am_w1_i, am_w1_r, am_w1_x, am_w1_l, am_w1_w, va_rf_s, am_push_n, am_push_s, am_cs_0, am_cs_i, am_cs_l, am_cs_r, m_uI_K, m_uI_N, m_uI_R, m_uI_L, m_uI_I, m_uL_K, m_uL_N, m_uL_R, m_uL_I, m_uL_L, m_uR_K, m_uR_N, m_uR_I, m_uR_L, m_uR_R, true_and, and_true, true_implies, false_implies, not_true_eq_false, not_false_eq_true, if_true, if_false, false_and, and_false]
          exact h9
        · by_cases w24 : isW t wRow = true
          · have h6 := (hw 24 (by omega)).mpr w24
            have el : leaf t = some (fun e => (e.2.1 : Int)) := by unfold leaf; rw [if_neg c2, if_neg w23, if_pos w24]
            rw [el] at hp
            have elk : am_lk [(1, 154), (16, 145), (23, 128), (24, 136), (25, 163), (26, 173)] 183 (nI 24) = 136 := by decide
            rw [h6, elk]
            simp +decide only [qX2_readPart_0, qX2_readPart_1, lx hL, am_w1_i, am_w1_r, am_w1_x, am_w1_l, am_w1_w, va_rf_s, am_push_n, am_push_s, am_cs_0, am_cs_i, am_cs_l, am_cs_r, m_uI_K, m_uI_N, m_uI_R, m_uI_L, m_uI_I, m_uL_K, m_uL_N, m_uL_R, m_uL_I, m_uL_L, m_uR_K, m_uR_N, m_uR_I, m_uR_L, m_uR_R, true_and, and_true, true_implies, false_implies, not_true_eq_false, not_false_eq_true, if_true, if_false, false_and, and_false]
            refine g_leaf (d + 9) (-2) _ t res a c vs M _ hz hn hG (leaf_k el) (op_leaf (by decide) rfl (leaf_bd (tkG_OK hsz) el) (by omega)) hp (fun M1 P1 => ?_)
            have h9 := hQ M1 P1
            simp +decide only [qX2_readPart_0, qX2_readPart_1, am_w1_i, am_w1_r, am_w1_x, am_w1_l, am_w1_w, va_rf_s, am_push_n, am_push_s, am_cs_0, am_cs_i, am_cs_l, am_cs_r, m_uI_K, m_uI_N, m_uI_R, m_uI_L, m_uI_I, m_uL_K, m_uL_N, m_uL_R, m_uL_I, m_uL_L, m_uR_K, m_uR_N, m_uR_I, m_uR_L, m_uR_R, true_and, and_true, true_implies, false_implies, not_true_eq_false, not_false_eq_true, if_true, if_false, false_and, and_false]
            exact h9
          · by_cases w16 : isW t wHour = true
            · have h6 := (hw 16 (by omega)).mpr w16
              have el : leaf t = some (fun e => (e.2.2.1 : Int)) := by unfold leaf; rw [if_neg c2, if_neg w23, if_neg w24, if_pos w16]
              rw [el] at hp
              have elk : am_lk [(1, 154), (16, 145), (23, 128), (24, 136), (25, 163), (26, 173)] 183 (nI 16) = 145 := by decide
              rw [h6, elk]
              simp +decide only [qX2_readPart_0, qX2_readPart_1, lx hL, am_w1_i, am_w1_r, am_w1_x, am_w1_l, am_w1_w, va_rf_s, am_push_n, am_push_s, am_cs_0, am_cs_i, am_cs_l, am_cs_r, m_uI_K, m_uI_N, m_uI_R, m_uI_L, m_uI_I, m_uL_K, m_uL_N, m_uL_R, m_uL_I, m_uL_L, m_uR_K, m_uR_N, m_uR_I, m_uR_L, m_uR_R, true_and, and_true, true_implies, false_implies, not_true_eq_false, not_false_eq_true, if_true, if_false, false_and, and_false]
              refine g_leaf (d + 9) (-3) _ t res a c vs M _ hz hn hG (leaf_k el) (op_leaf (by decide) rfl (leaf_bd (tkG_OK hsz) el) (by omega)) hp (fun M1 P1 => ?_)
              have h9 := hQ M1 P1
              simp +decide only [qX2_readPart_0, qX2_readPart_1, am_w1_i, am_w1_r, am_w1_x, am_w1_l, am_w1_w, va_rf_s, am_push_n, am_push_s, am_cs_0, am_cs_i, am_cs_l, am_cs_r, m_uI_K, m_uI_N, m_uI_R, m_uI_L, m_uI_I, m_uL_K, m_uL_N, m_uL_R, m_uL_I, m_uL_L, m_uR_K, m_uR_N, m_uR_I, m_uR_L, m_uR_R, true_and, and_true, true_implies, false_implies, not_true_eq_false, not_false_eq_true, if_true, if_false, false_and, and_false]
              exact h9
            · by_cases w1 : isW t wDepth = true
              · have h6 := (hw 1 (by omega)).mpr w1
                have el : leaf t = some (fun e => (e.2.2.2 : Int)) := by unfold leaf; rw [if_neg c2, if_neg w23, if_neg w24, if_neg w16, if_pos w1]
                rw [el] at hp
                have elk : am_lk [(1, 154), (16, 145), (23, 128), (24, 136), (25, 163), (26, 173)] 183 (nI 1) = 154 := by decide
                rw [h6, elk]
                simp +decide only [qX2_readPart_0, qX2_readPart_1, lx hL, am_w1_i, am_w1_r, am_w1_x, am_w1_l, am_w1_w, va_rf_s, am_push_n, am_push_s, am_cs_0, am_cs_i, am_cs_l, am_cs_r, m_uI_K, m_uI_N, m_uI_R, m_uI_L, m_uI_I, m_uL_K, m_uL_N, m_uL_R, m_uL_I, m_uL_L, m_uR_K, m_uR_N, m_uR_I, m_uR_L, m_uR_R, true_and, and_true, true_implies, false_implies, not_true_eq_false, not_false_eq_true, if_true, if_false, false_and, and_false]
                refine g_leaf (d + 9) (-4) _ t res a c vs M _ hz hn hG (leaf_k el) (op_leaf (by decide) rfl (leaf_bd (tkG_OK hsz) el) (by omega)) hp (fun M1 P1 => ?_)
                have h9 := hQ M1 P1
                simp +decide only [qX2_readPart_0, qX2_readPart_1, am_w1_i, am_w1_r, am_w1_x, am_w1_l, am_w1_w, va_rf_s, am_push_n, am_push_s, am_cs_0, am_cs_i, am_cs_l, am_cs_r, m_uI_K, m_uI_N, m_uI_R, m_uI_L, m_uI_I, m_uL_K, m_uL_N, m_uL_R, m_uL_I, m_uL_L, m_uR_K, m_uR_N, m_uR_I, m_uR_L, m_uR_R, true_and, and_true, true_implies, false_implies, not_true_eq_false, not_false_eq_true, if_true, if_false, false_and, and_false]
                exact h9
              · have el : leaf t = none := by unfold leaf; rw [if_neg c2, if_neg w23, if_neg w24, if_neg w16, if_neg w1]
                rw [el] at hp
                dsimp only at hp
                rw [if_neg c40] at hp
                by_cases w25 : isW t wMin = true
                · have h6 := (hw 25 (by omega)).mpr w25
                  rw [if_pos (by rw [w25]; rfl), if_pos w25] at hp
                  have elk : am_lk [(1, 154), (16, 145), (23, 128), (24, 136), (25, 163), (26, 173)] 183 (nI 25) = 163 := by decide
                  rw [h6, elk]
                  simp +decide only [qX2_readPart_0, qX2_readPart_1, lx hL, am_w1_i, am_w1_r, am_w1_x, am_w1_l, am_w1_w, va_rf_s, am_push_n, am_push_s, am_cs_0, am_cs_i, am_cs_l, am_cs_r, m_uI_K, m_uI_N, m_uI_R, m_uI_L, m_uI_I, m_uL_K, m_uL_N, m_uL_R, m_uL_I, m_uL_L, m_uR_K, m_uR_N, m_uR_I, m_uR_L, m_uR_R, true_and, and_true, true_implies, false_implies, not_true_eq_false, not_false_eq_true, if_true, if_false, false_and, and_false]
                  refine g_choice hz hn f (h0 f (by omega)) d 15 o (-11) t v0 res a c vs M _ ho hD (by decide) (Or.inl rfl) hG hl (by have := (isW_1 w25).1; omega) hp (fun M1 P1 => ?_)
                  have h9 := hQ M1 P1
                  simp +decide only [qX2_readPart_0, qX2_readPart_1, am_w1_i, am_w1_r, am_w1_x, am_w1_l, am_w1_w, va_rf_s, am_push_n, am_push_s, am_cs_0, am_cs_i, am_cs_l, am_cs_r, m_uI_K, m_uI_N, m_uI_R, m_uI_L, m_uI_I, m_uL_K, m_uL_N, m_uL_R, m_uL_I, m_uL_L, m_uR_K, m_uR_N, m_uR_I, m_uR_L, m_uR_R, true_and, and_true, true_implies, false_implies, not_true_eq_false, not_false_eq_true, if_true, if_false, false_and, and_false]
                  exact h9
                · by_cases w26 : isW t wMax = true
                  · have h6 := (hw 26 (by omega)).mpr w26
                    rw [if_pos (by rw [w26, Bool.or_true]), if_neg w25] at hp
                    have elk : am_lk [(1, 154), (16, 145), (23, 128), (24, 136), (25, 163), (26, 173)] 183 (nI 26) = 173 := by decide
                    rw [h6, elk]
                    simp +decide only [qX2_readPart_0, qX2_readPart_1, lx hL, am_w1_i, am_w1_r, am_w1_x, am_w1_l, am_w1_w, va_rf_s, am_push_n, am_push_s, am_cs_0, am_cs_i, am_cs_l, am_cs_r, m_uI_K, m_uI_N, m_uI_R, m_uI_L, m_uI_I, m_uL_K, m_uL_N, m_uL_R, m_uL_I, m_uL_L, m_uR_K, m_uR_N, m_uR_I, m_uR_L, m_uR_R, true_and, and_true, true_implies, false_implies, not_true_eq_false, not_false_eq_true, if_true, if_false, false_and, and_false]
                    refine g_choice hz hn f (h0 f (by omega)) d 16 o (-12) t v0 res a c vs M _ ho hD (by decide) (Or.inr rfl) hG hl (by have := (isW_1 w26).1; omega) hp (fun M1 P1 => ?_)
                    have h9 := hQ M1 P1
                    simp +decide only [qX2_readPart_0, qX2_readPart_1, am_w1_i, am_w1_r, am_w1_x, am_w1_l, am_w1_w, va_rf_s, am_push_n, am_push_s, am_cs_0, am_cs_i, am_cs_l, am_cs_r, m_uI_K, m_uI_N, m_uI_R, m_uI_L, m_uI_I, m_uL_K, m_uL_N, m_uL_R, m_uL_I, m_uL_L, m_uR_K, m_uR_N, m_uR_I, m_uR_L, m_uR_R, true_and, and_true, true_implies, false_implies, not_true_eq_false, not_false_eq_true, if_true, if_false, false_and, and_false]
                    exact h9
                  · rw [if_neg (by rw [Bool.or_eq_true]; exact fun q => q.elim w25 w26)] at hp
                    cases hp
                    rw [lk_w (mI M 165 6) ⟨fun q => w1 ((hw 1 (by omega)).mp q), fun q => w16 ((hw 16 (by omega)).mp q), fun q => w23 ((hw 23 (by omega)).mp q), fun q => w24 ((hw 24 (by omega)).mp q), fun q => w25 ((hw 25 (by omega)).mp q), fun q => w26 ((hw 26 (by omega)).mp q)⟩]
                    simp +decide only [qX2_readPart_0, qX2_readPart_1, lx hL, am_w1_i, am_w1_r, am_w1_x, am_w1_l, am_w1_w, va_rf_s, am_push_n, am_push_s, am_cs_0, am_cs_i, am_cs_l, am_cs_r, m_uI_K, m_uI_N, m_uI_R, m_uI_L, m_uI_I, m_uL_K, m_uL_N, m_uL_R, m_uL_I, m_uL_L, m_uR_K, m_uR_N, m_uR_I, m_uR_L, m_uR_R, true_and, and_true, true_implies, false_implies, not_true_eq_false, not_false_eq_true, if_true, if_false, false_and, and_false]
                    rw [show (1 : Int32) = nI 1 from rfl]
                    refine c_x_refuse (d + 10) n 1 T (.inr t) M _ hL (by omega) hst (fun M1 g1 h1 => ?_)
                    have h9 := bad M1 _ rfl (sRd_F g1) ⟨h1, by rw [g1.2.2.1 _ _ (fun q => q)]; exact hpa, c, FmX_g hf g1 (fun q => by unfold sRd at q; omega)⟩
                    simp +decide only [qX2_readPart_0, qX2_readPart_1, am_w1_i, am_w1_r, am_w1_x, am_w1_l, am_w1_w, va_rf_s, am_push_n, am_push_s, am_cs_0, am_cs_i, am_cs_l, am_cs_r, m_uI_K, m_uI_N, m_uI_R, m_uI_L, m_uI_I, m_uL_K, m_uL_N, m_uL_R, m_uL_I, m_uL_L, m_uR_K, m_uR_N, m_uR_I, m_uR_L, m_uR_R, true_and, and_true, true_implies, false_implies, not_true_eq_false, not_false_eq_true, if_true, if_false, false_and, and_false]
                    exact h9
end
