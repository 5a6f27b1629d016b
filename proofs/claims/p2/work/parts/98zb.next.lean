/-! next: the model -/
def dom (D : Dat) (h0 p0 h p : Nat) : Prop := stN D h p < stN D h0 p0 ∨ (stN D h p = stN D h0 p0 ∧ (dCs D p0 < dCs D p ∨ (dCs D p0 = dCs D p ∧ (h0 < h ∨ (h0 = h ∧ p0 ≤ p)))))
theorem bst_i {D : Dat} {h p : Nat} (h1 : h < 48) (h2 : p < 256) (h3 : 0 < stN D h p) (h4 : ∀ h' p', h' < 48 → p' < 256 → dom D h p h' p') : bst D h p := ⟨h1, h2, h3, h4⟩
theorem bst_1 {D : Dat} {h p h' p' : Nat} (a : bst D h p) (b : bst D h' p') : h = h' ∧ p = p' := by
  have q1 := a.2.2.2 h' p' b.1 b.2.1
  have q2 := b.2.2.2 h p a.1 a.2.1
  omega
theorem stN_0 {D : Dat} (hD : dOK D) {h p : Nat} (hv : ¬ vld (dC D) (dR D) p) : stN D h p = 0 := cnt_stay (a := 0) (by omega) (fun s _ a2 q => hv (dMy_v hD a2 (dB_t.mp q).2.2))
theorem stN_8 {D : Dat} (hD : dOK D) (h p : Nat) : stN D h p ≤ 8 := Nat.le_trans (cnt_le _ _) (dN_8 hD)
theorem dCs_99 (D : Dat) (p : Nat) : dCs D p ≤ 99 := by
  have := sumR_bd (dRc D) (p % 16, p / 16, 0, dDp D p)
  show (sumR (dRc D) (p % 16, p / 16, 0, dDp D p)).toNat ≤ 99
  omega
theorem plc_mono {C c c' : Nat} (hC : 1 ≤ C) (hC2 : C ≤ 16) (h : c ≤ c') : plc C c ≤ plc C c' := by
  unfold plc
  have h1 := Nat.div_le_div_right (c := C) h
  have h2 := Nat.mod_lt c (show 0 < C by omega)
  have h3 := Nat.mod_lt c' (show 0 < C by omega)
  have h4 := Nat.div_add_mod c C
  have h5 := Nat.div_add_mod c' C
  by_cases e : c / C = c' / C
  · rw [e] at h4 ⊢
    omega
  · omega
noncomputable def nxA (D : Dat) (w : Int32) (h p : Nat) : Int32 := if w.toInt = 0 then nI h else if w.toInt = 1 then nI (cel (dC D) p) else nI (stN D h p)
def nxQ (D : Dat) (w x : Int32) : Prop := (∃ h p, bst D h p ∧ x = nxA D w h p) ∨ ((∀ h p, h < 48 → p < 256 → stN D h p = 0) ∧ x = -1)
theorem nxQ_1 {D : Dat} {w : Int32} : ∀ x y, nxQ D w x → nxQ D w y → x = y := by
  rintro x y (⟨h, p, b1, rfl⟩ | ⟨q1, rfl⟩) (⟨h', p', b2, rfl⟩ | ⟨q2, rfl⟩)
  · obtain ⟨rfl, rfl⟩ := bst_1 b1 b2
    rfl
  · have := b1.2.2.1; have := q2 h p b1.1 b1.2.1; omega
  · have := b2.2.2.1; have := q1 h' p' b2.1 b2.2.1; omega
  · rfl
noncomputable def aNxt (w : Int32) (D : Dat) : Value := .int (if 0 ≤ w.toInt ∧ w.toInt ≤ 2 then theI (nxQ D w) else -1)
def scd (h c h' c' : Nat) : Prop := h' < h ∨ (h' = h ∧ c' < c)
def NxI (D : Dat) (h c : Nat) (x : Int32) : Prop := (x = -1 ∧ ∀ h' c', h' < 48 → c' < dC D * dR D → scd h c h' c' → stN D h' (plc (dC D) c') = 0) ∨ ∃ h0 c0, h0 < 48 ∧ c0 < dC D * dR D ∧ scd h c h0 c0 ∧ x = nI (256 * h0 + c0) ∧ 0 < stN D h0 (plc (dC D) c0) ∧ ∀ h' c', h' < 48 → c' < dC D * dR D → scd h c h' c' → dom D h0 (plc (dC D) c0) h' (plc (dC D) c')
section
variable (d b : Nat) (D : Dat) (M : am_M) (Q : Option Value → am_M → Prop) (w : Int32)
theorem l_m_next2 (hD : dOK D) (hL : Lay M) (h : MdM M b D) (hS : StM4 M D (stN D)) (t : Nat) (ht : t < 48)
    (hN : ∀ x v4 v5 v6, NxI D (t + 1) 0 x → jk v4 → jk v5 → jk v6 → am_P am_P0 (d + 1) (am_look tX11_next) 19 [.ref 277, .int w, .int x, .int (nI (t + 1)), v4, v5, v6] [] M Q) :
    ∀ (m c : Nat), c + m = dC D * dR D → ∀ (x : Int32) (v5 v6 : Value), jk v5 → jk v6 → NxI D t c x → am_P am_P0 (d + 1) (am_look tX11_next) 28 [.ref 277, .int w, .int x, .int (nI t), .int (nI c), v5, v6] [] M Q := by
  have hCR : dC D * dR D ≤ 16 * 16 := Nat.mul_le_mul hD.1.1.1 hD.1.1.2
  have ec := fun Q => c_m_cells d M Q hL b (dC D) (dR D) h.1.1 h.1.2 h.2.1.1 h.2.1.2
  intro m
  induction m with
  | zero =>
    intro c hc x v5 v6 j5 j6 hx
    have hle : nI (dC D * dR D) ≤ nI c := (ni_le (by omega) (by omega)).mpr (by omega)
    have h0 := hN x (.int (nI c)) v5 v6 (by
      rcases hx with ⟨q1, q2⟩ | ⟨h0, c0, q1, q2, q3, q4, q5, q6⟩
      · exact Or.inl ⟨q1, fun h' c' a1 a2 a3 => q2 h' c' a1 a2 (by unfold scd at a3 ⊢; omega)⟩
      · exact Or.inr ⟨h0, c0, q1, q2, by unfold scd at q3 ⊢; omega, q4, q5, fun h' c' a1 a2 a3 => q6 h' c' a1 a2 (by unfold scd at a3 ⊢; omega)⟩) (Or.inr ⟨_, rfl⟩) j5 j6
    rw [hX11_next_28]
    simp +decide only [qX11_next_0, qX11_next_1, qX11_next_2, lm hL, ec, ni_add1, jk_w j5, jk_w j6, am_w1_i, am_w1_r, am_w1_x, am_w1_l, am_w1_w, va_rf_s, am_push_n, am_push_s, am_cs_0, am_cs_i, am_cs_l, am_cs_r, m_uI_K, m_uI_N, m_uI_R, m_uI_L, m_uI_I, m_uL_K, m_uL_N, m_uL_R, m_uL_I, m_uL_L, m_uR_K, m_uR_N, m_uR_I, m_uR_L, m_uR_R, true_and, and_true, true_implies, false_implies, not_true_eq_false, not_false_eq_true, if_true, if_false, false_and, and_false] at h0 ⊢
    first | rw [br_p (hle)] | rw [br_r (hle)] | rw [br_s (hle)]
    exact h0
  | succ m ih =>
    intro c hc x v5 v6 j5 j6 hx
    have hlt : ¬ nI (dC D * dR D) ≤ nI c := by rw [ni_le (by omega) (by omega)]; omega
    have hcl : c < dC D * dR D := by omega
    have hC1 : 1 ≤ dC D := Nat.pos_of_ne_zero (fun q => by rw [q, Nat.zero_mul] at hcl; omega)
    have hp := plc_v hD.1.1.1 hC1 hcl
    have e256 : (256 : Int32) * nI t + nI c = nI (256 * t + c) := by rw [show (256 : Int32) = nI 256 from rfl, ni_mul, ni_add]
    have hv := hS t c ht hcl
    have hcs := (h.2.2.2.2.2.2.2.2 (plc (dC D) c) hp.1).2
    rw [hp.2] at hcs
    have hcs' : mI M 316 c = nI (dCs D (plc (dC D) c)) := hcs
    have h8 := stN_8 hD t (plc (dC D) c)
    have h99 := dCs_99 D (plc (dC D) c)
    have take : (∀ h' c', h' < 48 → c' < dC D * dR D → scd t c h' c' → dom D t (plc (dC D) c) h' (plc (dC D) c')) → 0 < stN D t (plc (dC D) c) → am_P am_P0 (d + 1) (am_look tX11_next) 28 [.ref 277, .int w, .int (nI (256 * t + c)), .int (nI t), .int (nI (c + 1)), .int (nI (256 * t + c)), .int 1] [] M Q := fun hd hpos => ih (c + 1) (by omega) _ _ _ (Or.inr ⟨_, rfl⟩) (Or.inr ⟨_, rfl⟩) (Or.inr ⟨t, c, ht, hcl, by unfold scd; omega, rfl, hpos, fun h' c' a1 a2 a3 => by
      by_cases e : h' = t ∧ c' = c
      · rw [e.1, e.2]; unfold dom; omega
      · exact hd h' c' a1 a2 (by unfold scd at a3 ⊢; omega)⟩)
    rw [hX11_next_28]
    simp +decide (disch := omega) only [qX11_next_0, qX11_next_1, qX11_next_2, lm hL, ec, e256, hv, hcs', jk_w j5, jk_w j6, ni_in_t, ni_tn, ni_add1, Classical.not_not, am_w1_i, am_w1_r, am_w1_x, am_w1_l, am_w1_w, va_rf_s, am_push_n, am_push_s, am_cs_0, am_cs_i, am_cs_l, am_cs_r, m_uI_K, m_uI_N, m_uI_R, m_uI_L, m_uI_I, m_uL_K, m_uL_N, m_uL_R, m_uL_I, m_uL_L, m_uR_K, m_uR_N, m_uR_I, m_uR_L, m_uR_R, true_and, and_true, true_implies, false_implies, not_true_eq_false, not_false_eq_true, if_true, if_false, false_and, and_false]
    first | rw [br_n (hlt)] | rw [br_q (hlt)] | rw [br_u (hlt)]
    rcases hx with ⟨rfl, q2⟩ | ⟨h0, c0, q1, q2, q3, rfl, q5, q6⟩
    · simp +decide only [am_w1_i, am_w1_r, am_w1_x, am_w1_l, am_w1_w, va_rf_s, am_push_n, am_push_s, am_cs_0, am_cs_i, am_cs_l, am_cs_r, m_uI_K, m_uI_N, m_uI_R, m_uI_L, m_uI_I, m_uL_K, m_uL_N, m_uL_R, m_uL_I, m_uL_L, m_uR_K, m_uR_N, m_uR_I, m_uR_L, m_uR_R, true_and, and_true, true_implies, false_implies, not_true_eq_false, not_false_eq_true, if_true, if_false, false_and, and_false]
      rw [ni_pos (by omega)]
      by_cases c1 : stN D t (plc (dC D) c) = 0
      · first | rw [br_p (c1)] | rw [br_r (c1)] | rw [br_s (c1)]
        exact ih (c + 1) (by omega) (-1) _ _ (Or.inr ⟨_, rfl⟩) (Or.inr ⟨_, rfl⟩) (Or.inl ⟨rfl, fun h' c' a1 a2 a3 => by
          by_cases e : h' = t ∧ c' = c
          · rw [e.1, e.2]; exact c1
          · exact q2 h' c' a1 a2 (by unfold scd at a3 ⊢; omega)⟩)
      · first | rw [br_n (c1)] | rw [br_q (c1)] | rw [br_u (c1)]
        exact take (fun h' c' a1 a2 a3 => by have := q2 h' c' a1 a2 a3; unfold dom; omega) (by omega)
    · have hne : ¬ nI (256 * h0 + c0) = -1 := nI_m1 (by omega)
      have hp0 := plc_v hD.1.1.1 hC1 q2
      have hv0 := hS h0 c0 q1 q2
      have hcs0 := (h.2.2.2.2.2.2.2.2 (plc (dC D) c0) hp0.1).2
      rw [hp0.2] at hcs0
      have hcs0' : mI M 316 c0 = nI (dCs D (plc (dC D) c0)) := hcs0
      have h80 := stN_8 hD h0 (plc (dC D) c0)
      have h990 := dCs_99 D (plc (dC D) c0)
      have er : nI (256 * h0 + c0) - nI (256 * h0 + c0) / 256 * 256 = nI c0 := by
        rw [show (256 : Int32) = nI 256 from rfl, ni_rem (by omega) (by omega)]
        congr 1
        omega
      have keep : dom D h0 (plc (dC D) c0) t (plc (dC D) c) → ∀ v6', jk v6' → am_P am_P0 (d + 1) (am_look tX11_next) 28 [.ref 277, .int w, .int (nI (256 * h0 + c0)), .int (nI t), .int (nI (c + 1)), .int (nI (256 * t + c)), v6'] [] M Q := fun hd v6' j6' => ih (c + 1) (by omega) _ _ _ (Or.inr ⟨_, rfl⟩) j6' (Or.inr ⟨h0, c0, q1, q2, by unfold scd at q3 ⊢; omega, rfl, q5, fun h' c' a1 a2 a3 => by
        by_cases e : h' = t ∧ c' = c
        · rw [e.1, e.2]; exact hd
        · exact q6 h' c' a1 a2 (by unfold scd at a3 ⊢; omega)⟩)
      have hmono : h0 < t ∨ (h0 = t ∧ plc (dC D) c0 ≤ plc (dC D) c) := by
        rcases q3 with q | q
        · exact Or.inl q
        · exact Or.inr ⟨q.1, plc_mono hC1 hD.1.1.1 (by omega)⟩
      simp +decide (disch := omega) only [qX11_next_0, qX11_next_1, qX11_next_2, lm hL, er, hv0, hcs0', ni_in_t, ni_tn, am_w1_i, am_w1_r, am_w1_x, am_w1_l, am_w1_w, va_rf_s, am_push_n, am_push_s, am_cs_0, am_cs_i, am_cs_l, am_cs_r, m_uI_K, m_uI_N, m_uI_R, m_uI_L, m_uI_I, m_uL_K, m_uL_N, m_uL_R, m_uL_I, m_uL_L, m_uR_K, m_uR_N, m_uR_I, m_uR_L, m_uR_R, true_and, and_true, true_implies, false_implies, not_true_eq_false, not_false_eq_true, if_true, if_false, false_and, and_false]
      first | rw [br_n (hne)] | rw [br_q (hne)] | rw [br_u (hne)]
      rw [ni_lt (by omega) (by omega), ni_eq (by omega) (by omega), ni_le (by omega) (by omega)]
      by_cases c1 : stN D h0 (plc (dC D) c0) < stN D t (plc (dC D) c)
      · first | rw [br_p (c1)] | rw [br_r (c1)] | rw [br_s (c1)]
        exact take (fun h' c' a1 a2 a3 => by have := q6 h' c' a1 a2 a3; unfold dom at this ⊢; omega) (by omega)
      · first | rw [br_n (c1)] | rw [br_q (c1)] | rw [br_u (c1)]
        by_cases c2 : stN D t (plc (dC D) c) = stN D h0 (plc (dC D) c0)
        · first | rw [br_p (c2)] | rw [br_r (c2)] | rw [br_s (c2)]
          by_cases c3 : dCs D (plc (dC D) c0) ≤ dCs D (plc (dC D) c)
          · first | rw [br_p (c3)] | rw [br_r (c3)] | rw [br_s (c3)]
            exact keep (by unfold dom; omega) _ (Or.inr ⟨_, rfl⟩)
          · first | rw [br_n (c3)] | rw [br_q (c3)] | rw [br_u (c3)]
            exact take (fun h' c' a1 a2 a3 => by have := q6 h' c' a1 a2 a3; unfold dom at this ⊢; omega) (by omega)
        · first | rw [br_n (c2)] | rw [br_q (c2)] | rw [br_u (c2)]
          exact keep (by unfold dom; omega) _ (Or.inr ⟨_, rfl⟩)
theorem l_m_next1 (hD : dOK D) (hL : Lay M) (h : MdM M b D) (hS : StM4 M D (stN D)) (hw : 0 ≤ w.toInt ∧ w.toInt ≤ 2) (hQ : Q (some (.int (theI (nxQ D w)))) M) :
    ∀ (m t : Nat), t + m = 48 → ∀ (x : Int32) (v4 v5 v6 : Value), jk v4 → jk v5 → jk v6 → NxI D t 0 x → am_P am_P0 (d + 1) (am_look tX11_next) 19 [.ref 277, .int w, .int x, .int (nI t), v4, v5, v6] [] M Q := by
  have hCR : dC D * dR D ≤ 16 * 16 := Nat.mul_le_mul hD.1.1.1 hD.1.1.2
  intro m
  induction m with
  | zero =>
    intro t ht x v4 v5 v6 j4 j5 j6 hx
    have et : t = 48 := by omega
    subst et
    rw [hX11_next_19]
    rcases hx with ⟨rfl, q2⟩ | ⟨h0, c0, q1, q2, q3, rfl, q5, q6⟩
    · rw [the_e nxQ_1 (Or.inr ⟨fun h' p' a1 a2 => by
        by_cases hv : vld (dC D) (dR D) p'
        · have hcl := (cel_lt hD.1.1.1 hD.1.1.2 hv).1
          have hC1 : 1 ≤ dC D := Nat.pos_of_ne_zero (fun q => by rw [q, Nat.zero_mul] at hcl; omega)
          have e := plc_v hD.1.1.1 hC1 hcl
          have e2 : plc (dC D) (cel (dC D) p') = p' := cel_inj e.1 hv e.2
          have := q2 h' (cel (dC D) p') a1 hcl (by unfold scd; omega)
          rw [e2] at this
          exact this
        · exact stN_0 hD hv, rfl⟩)] at hQ
      simp +decide only [qX11_next_0, qX11_next_1, qX11_next_2, show nI 48 = (48 : Int32) from rfl, am_w1_i, am_w1_r, am_w1_x, am_w1_l, am_w1_w, va_rf_s, am_push_n, am_push_s, am_cs_0, am_cs_i, am_cs_l, am_cs_r, m_uI_K, m_uI_N, m_uI_R, m_uI_L, m_uI_I, m_uL_K, m_uL_N, m_uL_R, m_uL_I, m_uL_L, m_uR_K, m_uR_N, m_uR_I, m_uR_L, m_uR_R, true_and, and_true, true_implies, false_implies, not_true_eq_false, not_false_eq_true, if_true, if_false, false_and, and_false]
      exact hQ
    · have hC1 : 1 ≤ dC D := Nat.pos_of_ne_zero (fun q => by rw [q, Nat.zero_mul] at q2; omega)
      have hp0 := plc_v hD.1.1.1 hC1 q2
      have hb : bst D h0 (plc (dC D) c0) := bst_i q1 (cel_lt hD.1.1.1 hD.1.1.2 hp0.1).2.2 q5 (fun h' p' a1 a2 => by
        by_cases hv : vld (dC D) (dR D) p'
        · have hcl := (cel_lt hD.1.1.1 hD.1.1.2 hv).1
          have e := plc_v hD.1.1.1 hC1 hcl
          have e2 : plc (dC D) (cel (dC D) p') = p' := cel_inj e.1 hv e.2
          have := q6 h' (cel (dC D) p') a1 hcl (by unfold scd; omega)
          rw [e2] at this
          exact this
        · have := stN_0 hD hv (h := h')
          unfold dom
          omega)
      rw [the_e nxQ_1 (Or.inl ⟨h0, _, hb, rfl⟩)] at hQ
      unfold nxA at hQ
      rw [hp0.2] at hQ
      have hne : ¬ nI (256 * h0 + c0) = -1 := nI_m1 (by omega)
      have er : nI (256 * h0 + c0) - nI h0 * 256 = nI c0 := by
        rw [show (256 : Int32) = nI 256 from rfl, ni_mul, ni_sub (by omega)]
        congr 1
        omega
      have ed : nI (256 * h0 + c0) / 256 = nI h0 := by
        rw [show (256 : Int32) = nI 256 from rfl, ni_div (by omega) (by omega)]
        congr 1
        omega
      have hv0 := hS h0 c0 q1 q2
      simp +decide (disch := omega) only [qX11_next_0, qX11_next_1, qX11_next_2, lm hL, ed, er, hv0, show nI 48 = (48 : Int32) from rfl, ni_in_t, ni_tn, Classical.not_not, am_w1_i, am_w1_r, am_w1_x, am_w1_l, am_w1_w, va_rf_s, am_push_n, am_push_s, am_cs_0, am_cs_i, am_cs_l, am_cs_r, m_uI_K, m_uI_N, m_uI_R, m_uI_L, m_uI_I, m_uL_K, m_uL_N, m_uL_R, m_uL_I, m_uL_L, m_uR_K, m_uR_N, m_uR_I, m_uR_L, m_uR_R, true_and, and_true, true_implies, false_implies, not_true_eq_false, not_false_eq_true, if_true, if_false, false_and, and_false]
      first | rw [br_n (hne)] | rw [br_q (hne)] | rw [br_u (hne)]
      by_cases c : w = 0
      · rw [if_pos (by rw [c]; rfl)] at hQ
        first | rw [br_p (c)] | rw [br_r (c)] | rw [br_s (c)]
        exact hQ
      · have c' : ¬ w.toInt = 0 := fun q => c (Int32.toInt_inj.mp q)
        rw [if_neg c'] at hQ
        first | rw [br_n (c)] | rw [br_q (c)] | rw [br_u (c)]
        by_cases c1 : w = 1
        · rw [if_pos (by rw [c1]; rfl)] at hQ
          first | rw [br_p (c1)] | rw [br_r (c1)] | rw [br_s (c1)]
          exact hQ
        · have c1' : ¬ w.toInt = 1 := fun q => c1 (Int32.toInt_inj.mp q)
          rw [if_neg c1'] at hQ
          first | rw [br_n (c1)] | rw [br_q (c1)] | rw [br_u (c1)]
          exact hQ
  | succ m ih =>
    intro t ht x v4 v5 v6 j4 j5 j6 hx
    have hlt : ¬ (48 : Int32) ≤ nI t := by rw [show (48 : Int32) = nI 48 from rfl, ni_le (by omega) (by omega)]; omega
    have h9 := l_m_next2 d b D M Q w hD hL h hS t (by omega) (fun x' v4' v5' v6' a1 a2 a3 a4 => ih (t + 1) (by omega) x' v4' v5' v6' a2 a3 a4 a1) (dC D * dR D) 0 (by omega) x v5 v6 j5 j6 hx
    rw [hX11_next_19]
    simp +decide only [qX11_next_0, qX11_next_1, qX11_next_2, jk_w j4, jk_w j5, jk_w j6, am_w1_i, am_w1_r, am_w1_x, am_w1_l, am_w1_w, va_rf_s, am_push_n, am_push_s, am_cs_0, am_cs_i, am_cs_l, am_cs_r, m_uI_K, m_uI_N, m_uI_R, m_uI_L, m_uI_I, m_uL_K, m_uL_N, m_uL_R, m_uL_I, m_uL_L, m_uR_K, m_uR_N, m_uR_I, m_uR_L, m_uR_R, true_and, and_true, true_implies, false_implies, not_true_eq_false, not_false_eq_true, if_true, if_false, false_and, and_false]
    first | rw [br_n (hlt)] | rw [br_q (hlt)] | rw [br_u (hlt)]
    exact h9
end
theorem m_next (w : Int32) : MzO 289 [.int w] (aNxt w) := by
  intro d M b D Q hD hL h hQ
  have e2 : (2 : Int32).toInt = 2 := rfl
  unfold aNxt at hQ
  rw [eX11_next]
  simp +decide only [qX11_next_0, qX11_next_1, qX11_next_2, lm hL, c_m_is, bI_0, Classical.not_not, am_w1_i, am_w1_r, am_w1_x, am_w1_l, am_w1_w, va_rf_s, am_push_n, am_push_s, am_cs_0, am_cs_i, am_cs_l, am_cs_r, m_uI_K, m_uI_N, m_uI_R, m_uI_L, m_uI_I, m_uL_K, m_uL_N, m_uL_R, m_uL_I, m_uL_L, m_uR_K, m_uR_N, m_uR_I, m_uR_L, m_uR_R, true_and, and_true, true_implies, false_implies, not_true_eq_false, not_false_eq_true, if_true, if_false, false_and, and_false]
  by_cases hw : 0 ≤ w ∧ w ≤ 2
  · first | rw [br_p (hw)] | rw [br_r (hw)] | rw [br_s (hw)]
    rw [le32, le32, z32, e2] at hw
    rw [if_pos hw] at hQ
    refine m_settlesAll hD hL h (d + 11) _ (fun M1 g1 s1 => ?_)
    have L1 := gF_LayN g1 hL
    have h1 := MdM_z h g1
    have h9 := l_m_next1 (d + 19) b D M1 Q w hD L1 h1 s1 hw (hQ M1 g1) 48 0 (by omega) (-1) am_x am_x am_x (Or.inl rfl) (Or.inl rfl) (Or.inl rfl) (Or.inl ⟨rfl, fun h' c' _ _ a3 => by unfold scd at a3; omega⟩)
    simp +decide only [qX11_next_0, qX11_next_1, qX11_next_2, am_w1_i, am_w1_r, am_w1_x, am_w1_l, am_w1_w, va_rf_s, am_push_n, am_push_s, am_cs_0, am_cs_i, am_cs_l, am_cs_r, m_uI_K, m_uI_N, m_uI_R, m_uI_L, m_uI_I, m_uL_K, m_uL_N, m_uL_R, m_uL_I, m_uL_L, m_uR_K, m_uR_N, m_uR_I, m_uR_L, m_uR_R, true_and, and_true, true_implies, false_implies, not_true_eq_false, not_false_eq_true, if_true, if_false, false_and, and_false]
    exact h9
  · first | rw [br_n (hw)] | rw [br_q (hw)] | rw [br_u (hw)]
    have h0 := hQ M (gF_refl _ _ _)
    rw [if_neg (fun q => hw (by rw [le32, le32, z32, e2]; exact q))] at h0
    exact h0
