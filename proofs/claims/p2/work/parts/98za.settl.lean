/-! settles -/
noncomputable def stK (D : Dat) (s h p : Nat) : Nat := cnt (fun s => dB (0 < (dY D s).length ∧ 2 ≤ dMc D s h ∧ dMy D s h p)) s
theorem stK_e (D : Dat) (h p : Nat) : stK D (dN D) h p = stN D h p := rfl
theorem stK_t {D : Dat} {s h p : Nat} (c : 0 < (dY D s).length ∧ 2 ≤ dMc D s h ∧ dMy D s h p) : stK D (s + 1) h p = stK D s h p + 1 := cnt_t (dB_t.mpr c)
theorem stK_f {D : Dat} {s h p : Nat} (c : ¬ (0 < (dY D s).length ∧ 2 ≤ dMc D s h ∧ dMy D s h p)) : stK D (s + 1) h p = stK D s h p := cnt_f (fun q => c (dB_t.mp q))
noncomputable def aStl (t x y : Int32) (D : Dat) : Value := .int (if isCl D x y ∧ isHr t then nI (stN D t.toInt.toNat (plI x y)) else -1)
theorem x_countMay {M : am_M} {s t : Nat} {D : Dat} (hL : Lay M) (hs : s < 8) (ht : t < 48) (hS : dSX M D s) (d : Nat) (Q : Option Value → am_M → Prop) : am_E am_P0 (d + 2) 89 [.ref (173 + 13 * s), .int (nI t)] M Q ↔ Q (some (.int (nI (dMc D s t)))) M := by
  rw [c_x_countMay d s t M Q hL hs ht]
  have e1 : cnt (fun p => dB (inS (my4 M s t) p)) 256 = dMc D s t := by
    unfold dMc
    congr 1
    funext p
    exact congrArg dB (propext (hS.2.2.2.2 t ht p))
  rw [e1]
theorem l_x_settles (d z t p : Nat) (x2 x3 : Int32) (D : Dat) (M0 : am_M) (Q : Option Value → am_M → Prop) (hD : dOK D) (ht : t < 48) (hp : p < 256) (hQ : ∀ M', zF (sXq z) M0 M' → XR M' z D → Q (some (.int (nI (stN D t p)))) M') :
    ∀ (m s : Nat), s + m = dN D → ∀ (M : am_M) (v7 : Value), (v7 = am_x ∨ ∃ a, v7 = .ref a) → zF (sXq z) M0 M → XR M z D → am_P am_P0 (d + 6) (am_look tX10_settles) 32 [.ref 0, .int (nI t), .int x2, .int x3, .int (nI p), .int (nI (stK D s t p)), .int (nI s), v7] [] M Q := by
  have n8 := dN_8 hD
  intro m
  induction m with
  | zero =>
    intro s hs M v7 hv7 hM h
    have hz := h.1.2.2.1
    have hL := h.1.1
    have hr := h.1.2.2.2.1
    have hle : nI (dN D) ≤ nI s := (ni_le (by omega) (by omega)).mpr (by omega)
    have h0 := hQ M hM h
    rw [hX10_settles_32]
    simp +decide only [qX10_settles_0, qX10_settles_1, lx hL, lz hL hz, hr, (x_n h).1, am_w1_i, am_w1_r, am_w1_x, am_w1_l, am_w1_w, va_rf_s, am_push_n, am_push_s, am_cs_0, am_cs_i, am_cs_l, am_cs_r, m_uI_K, m_uI_N, m_uI_R, m_uI_L, m_uI_I, m_uL_K, m_uL_N, m_uL_R, m_uL_I, m_uL_L, m_uR_K, m_uR_N, m_uR_I, m_uR_L, m_uR_R, true_and, and_true, true_implies, false_implies, not_true_eq_false, not_false_eq_true, if_true, if_false, false_and, and_false]
    first | rw [br_p (hle)] | rw [br_r (hle)] | rw [br_s (hle)]
    rw [show s = dN D by omega]
    exact h0
  | succ m ih =>
    intro s hs M v7 hv7 hM h
    have hz := h.1.2.2.1
    have hL := h.1.1
    have hr := h.1.2.2.2.1
    have hlt : ¬ nI (dN D) ≤ nI s := by rw [ni_le (by omega) (by omega)]; omega
    have h48 := dY_len hD s
    have hmc : dMc D s t ≤ 256 := cnt_le _ _
    have hw7 : am_w1 v7 = v7 := by rcases hv7 with rfl | ⟨x, rfl⟩ <;> rfl
    rw [hX10_settles_32]
    simp +decide (disch := omega) only [qX10_settles_0, qX10_settles_1, lx hL, lz hL hz, hr, (x_n h).1, hw7, am_w1_i, am_w1_r, am_w1_x, am_w1_l, am_w1_w, va_rf_s, am_push_n, am_push_s, am_cs_0, am_cs_i, am_cs_l, am_cs_r, m_uI_K, m_uI_N, m_uI_R, m_uI_L, m_uI_I, m_uL_K, m_uL_N, m_uL_R, m_uL_I, m_uL_L, m_uR_K, m_uR_N, m_uR_I, m_uR_L, m_uR_R, true_and, and_true, true_implies, false_implies, not_true_eq_false, not_false_eq_true, if_true, if_false, false_and, and_false]
    first | rw [br_n (hlt)] | rw [br_q (hlt)] | rw [br_u (hlt)]
    refine x_setT hD h d (by omega) _ (fun M1 f1 X1 S1 => ?_)
    have L1 := X1.1.1
    have hr1 := X1.1.2.2.2.1
    have hst := lt_ L1 (isTr_of (show s < 8 by omega))
    have hsh := lsh L1 hz (s := s) (by omega)
    have hw_ := lw_ L1 (isSh_z (z := z) (s := s) hz (by omega))
    have hc := (x_ship X1 (s := s) (by omega)).2.1.1
    have em := fun Q => x_mayBe (D := D) (t := t) (p := p) L1 (show s < 8 by omega) ht hp S1 (d + 5) Q
    have ec := fun Q => x_countMay (D := D) (t := t) L1 (show s < 8 by omega) ht S1 (d + 3) Q
    have h0 := ih (s + 1) (by omega) M1 (.ref (173 + 13 * s)) (Or.inr ⟨_, rfl⟩) (zF_trans hM (zF_up f1 (fun a j q => sSt_q (by omega) q))) X1
    simp +decide (disch := omega) only [qX10_settles_0, qX10_settles_1, lx L1, lz L1 hz, hr1, hst, hsh, hw_, hc, em, ec, tI_0, ni_in_t, ni_tn, ni_add1, am_w1_i, am_w1_r, am_w1_x, am_w1_l, am_w1_w, va_rf_s, am_push_n, am_push_s, am_cs_0, am_cs_i, am_cs_l, am_cs_r, m_uI_K, m_uI_N, m_uI_R, m_uI_L, m_uI_I, m_uL_K, m_uL_N, m_uL_R, m_uL_I, m_uL_L, m_uR_K, m_uR_N, m_uR_I, m_uR_L, m_uR_R, true_and, and_true, true_implies, false_implies, not_true_eq_false, not_false_eq_true, if_true, if_false, false_and, and_false]
    rw [ni_pos (by omega), show (1 : Int32) = nI 1 from rfl, ni_le (by omega) (by omega)]
    by_cases c : (dY D s).length = 0
    · rw [stK_f (fun q => by omega)] at h0
      first | rw [br_p (c)] | rw [br_r (c)] | rw [br_s (c)]
      exact h0
    · first | rw [br_n (c)] | rw [br_q (c)] | rw [br_u (c)]
      by_cases c1 : dMy D s t p
      · first | rw [br_p (c1)] | rw [br_r (c1)] | rw [br_s (c1)]
        by_cases c2 : dMc D s t ≤ 1
        · rw [stK_f (fun q => by omega)] at h0
          first | rw [br_p (c2)] | rw [br_r (c2)] | rw [br_s (c2)]
          exact h0
        · rw [stK_t ⟨by omega, by omega, c1⟩] at h0
          first | rw [br_n (c2)] | rw [br_q (c2)] | rw [br_u (c2)]
          exact h0
      · rw [stK_f (fun q => c1 q.2.2)] at h0
        first | rw [br_n (c1)] | rw [br_q (c1)] | rw [br_u (c1)]
        exact h0
theorem x_settles (t x y : Int32) : XqO 137 [.int t, .int x, .int y] (aStl t x y) := by
  intro d M z D Q hD h hQ
  have hz := h.1.2.2.1
  have hL := h.1.1
  have hr := h.1.2.2.2.1
  have eP := fun x y Q => x_place hD h (d + 19) x y Q
  unfold aStl at hQ
  rw [eX10_settles]
  simp +decide only [qX10_settles_0, qX10_settles_1, lx hL, lz hL hz, hr, eP, c_x_isHour, bI_0, Classical.not_not, am_w1_i, am_w1_r, am_w1_x, am_w1_l, am_w1_w, va_rf_s, am_push_n, am_push_s, am_cs_0, am_cs_i, am_cs_l, am_cs_r, m_uI_K, m_uI_N, m_uI_R, m_uI_L, m_uI_I, m_uL_K, m_uL_N, m_uL_R, m_uL_I, m_uL_L, m_uR_K, m_uR_N, m_uR_I, m_uR_L, m_uR_R, true_and, and_true, true_implies, false_implies, not_true_eq_false, not_false_eq_true, if_true, if_false, false_and, and_false]
  by_cases hc : isCl D x y
  · obtain ⟨c1, c2, c3, c4, c5, c6, c7⟩ := cl_of hD hc
    rw [if_pos hc]
    have hne : ¬ nI (plI x y) = -1 := nI_m1 (by omega)
    first | rw [br_n (hne)] | rw [br_q (hne)] | rw [br_u (hne)]
    by_cases ht : 0 ≤ t.toInt ∧ t.toInt < 48
    · first | rw [br_p (ht)] | rw [br_r (ht)] | rw [br_s (ht)]
      rw [if_pos ⟨hc, ht⟩] at hQ
      have et : t = nI t.toInt.toNat := i32_of (by omega) (by omega)
      have h0 := l_x_settles (d + 14) z t.toInt.toNat (plI x y) x y D M Q hD (by omega) c2 hQ (dN D) 0 (by omega) M am_x (Or.inl rfl) (XR_2 h) h
      rw [← et] at h0
      exact h0
    · first | rw [br_n (ht)] | rw [br_q (ht)] | rw [br_u (ht)]
      have h0 := hQ M (XR_2 h) h
      rw [if_neg (fun q => ht q.2)] at h0
      exact h0
  · rw [if_neg hc]
    have h0 := hQ M (XR_2 h) h
    rw [if_neg (fun q => hc q.1)] at h0
    simp +decide only [am_w1_i, am_w1_r, am_w1_x, am_w1_l, am_w1_w, va_rf_s, am_push_n, am_push_s, am_cs_0, am_cs_i, am_cs_l, am_cs_r, m_uI_K, m_uI_N, m_uI_R, m_uI_L, m_uI_I, m_uL_K, m_uL_N, m_uL_R, m_uL_I, m_uL_L, m_uR_K, m_uR_N, m_uR_I, m_uR_L, m_uR_R, true_and, and_true, true_implies, false_implies, not_true_eq_false, not_false_eq_true, if_true, if_false, false_and, and_false]
    exact h0
/-- the model: what looks settle -/
def StM4 (M : am_M) (D : Dat) (f : Nat → Nat → Nat) : Prop := ∀ h c, h < 48 → c < dC D * dR D → mI M 334 (256 * h + c) = nI (f h (plc (dC D) c))
def s334 (a _j : Nat) : Prop := a = 334
theorem MdM_4 {M M' : am_M} {b : Nat} {D : Dat} (h : MdM M b D) (hg : gF s334 nT M M') : MdM M' b D := MdM_g h hg (fun a j q z => by unfold s334 at z; unfold tlM at q; omega)
theorem LyM_4 {M M' : am_M} {C R : Nat} {w : Nat → Prop} {v : Nat} {snd : Nat → Bool → Prop} {B : List Fct} {Y : List Sy} (h : LyM M C R w v snd B Y) (hg : gF s334 nT M M') : LyM M' C R w v snd B Y := LyM_g h hg (fun a j q z => by unfold s334 at z; unfold sY sK sP sFG sF sG at q; omega)
theorem l_m_sa0 (d : Nat) (M0 : am_M) (Q : Option Value → am_M → Prop) (hL0 : Lay M0) (hN : ∀ M', gF s334 nT M0 M' → (∀ i, i < 12288 → mI M' 334 i = 0) → am_P am_P0 d (am_look tX11_settlesAll) 24 [.ref 277, .int 0, am_x, am_x] [] M' Q) :
    ∀ (m i : Nat), i + m = 12288 → ∀ (M : am_M), gF s334 nT M0 M → (∀ k, k < i → mI M 334 k = 0) → am_P am_P0 d (am_look tX11_settlesAll) 2 [.ref 277, .int (nI i), am_x, am_x] [] M Q := by
  intro m
  induction m with
  | zero =>
    intro i hi M hM hb
    have ei : i = 12288 := by omega
    subst ei
    have h0 := hN M hM hb
    rw [hX11_settlesAll_2]
    simp +decide only [qX11_settlesAll_0, qX11_settlesAll_1, show nI 12288 = (12288 : Int32) from rfl, am_w1_i, am_w1_r, am_w1_x, am_w1_l, am_w1_w, va_rf_s, am_push_n, am_push_s, am_cs_0, am_cs_i, am_cs_l, am_cs_r, m_uI_K, m_uI_N, m_uI_R, m_uI_L, m_uI_I, m_uL_K, m_uL_N, m_uL_R, m_uL_I, m_uL_L, m_uR_K, m_uR_N, m_uR_I, m_uR_L, m_uR_R, true_and, and_true, true_implies, false_implies, not_true_eq_false, not_false_eq_true, if_true, if_false, false_and, and_false] at h0 ⊢
    exact h0
  | succ m ih =>
    intro i hi M hM hb
    have hL := gF_LayN hM hL0
    have hlt : ¬ (12288 : Int32) ≤ nI i := by rw [show (12288 : Int32) = nI 12288 from rfl, ni_le (by omega) (by omega)]; omega
    have w1 : gF s334 nT M (uI M 334 i 0) := gF_i _ rfl
    have h0 := ih (i + 1) (by omega) (uI M 334 i 0) (gF_trans hM w1) (fun k hk => by
      rw [m_uI_I]
      by_cases e : k = i
      · rw [if_pos ⟨rfl, e⟩]
      · rw [if_neg (by omega)]; exact hb k (by omega))
    rw [hX11_settlesAll_2]
    simp +decide (disch := omega) only [qX11_settlesAll_0, qX11_settlesAll_1, lm hL, ni_in_t, ni_tn, ni_add1, am_w1_i, am_w1_r, am_w1_x, am_w1_l, am_w1_w, va_rf_s, am_push_n, am_push_s, am_cs_0, am_cs_i, am_cs_l, am_cs_r, m_uI_K, m_uI_N, m_uI_R, m_uI_L, m_uI_I, m_uL_K, m_uL_N, m_uL_R, m_uL_I, m_uL_L, m_uR_K, m_uR_N, m_uR_I, m_uR_L, m_uR_R, true_and, and_true, true_implies, false_implies, not_true_eq_false, not_false_eq_true, if_true, if_false, false_and, and_false]
    first | rw [br_n (hlt)] | rw [br_q (hlt)] | rw [br_u (hlt)]
    exact h0
section
variable (d b s : Nat) (D : Dat) (M0 : am_M) (Q : Option Value → am_M → Prop)
theorem l_m_sa3 (hD : dOK D) (hL0 : Lay M0) (h0' : MdM M0 b D) (hs : s < dN D) (hlen : 0 < (dY D s).length) (hY0 : LyM M0 (dC D) (dR D) (dWt D s) (dV D s) (dSn D s) (dBs D s) (dY D s)) (t : Nat) (ht : t < 48) (hm2 : 2 ≤ dMc D s t)
    (hN : ∀ M' v3, gF s334 nT M0 M' → jk v3 → StM4 M' D (fun h p => if h < t + 1 then stK D (s + 1) h p else stK D s h p) → am_P am_P0 (d + 3) (am_look tX11_settlesAll) 55 [.ref 277, .int (nI s), .int (nI (t + 1)), v3] [] M' Q) :
    ∀ (m c : Nat), c + m = dC D * dR D → ∀ (M : am_M), gF s334 nT M0 M → (∀ h k, h < 48 → k < dC D * dR D → mI M 334 (256 * h + k) = nI (if h < t ∨ (h = t ∧ k < c) then stK D (s + 1) h (plc (dC D) k) else stK D s h (plc (dC D) k))) → am_P am_P0 (d + 3) (am_look tX11_settlesAll) 76 [.ref 277, .int (nI s), .int (nI t), .int (nI c)] [] M Q := by
  have n8 := dN_8 hD
  have hCR : dC D * dR D ≤ 16 * 16 := Nat.mul_le_mul hD.1.1.1 hD.1.1.2
  have hC1 := dOK_1 hD hs
  intro m
  induction m with
  | zero =>
    intro c hc M hM hb
    have hL := gF_LayN hM hL0
    have h := MdM_4 h0' hM
    have ec := fun Q => c_m_cells (d + 2) M Q hL b (dC D) (dR D) h.1.1 h.1.2 h.2.1.1 h.2.1.2
    have hle : nI (dC D * dR D) ≤ nI c := (ni_le (by omega) (by omega)).mpr (by omega)
    have h0 := hN M (.int (nI c)) hM (Or.inr ⟨_, rfl⟩) (fun h' k a1 a2 => by
      rw [hb h' k a1 a2]
      dsimp only
      by_cases q : h' < t + 1
      · rw [if_pos (by omega), if_pos q]
      · rw [if_neg (by omega), if_neg q])
    rw [hX11_settlesAll_76]
    simp +decide only [qX11_settlesAll_0, qX11_settlesAll_1, lm hL, ec, ni_add1, am_w1_i, am_w1_r, am_w1_x, am_w1_l, am_w1_w, va_rf_s, am_push_n, am_push_s, am_cs_0, am_cs_i, am_cs_l, am_cs_r, m_uI_K, m_uI_N, m_uI_R, m_uI_L, m_uI_I, m_uL_K, m_uL_N, m_uL_R, m_uL_I, m_uL_L, m_uR_K, m_uR_N, m_uR_I, m_uR_L, m_uR_R, true_and, and_true, true_implies, false_implies, not_true_eq_false, not_false_eq_true, if_true, if_false, false_and, and_false] at h0 ⊢
    first | rw [br_p (hle)] | rw [br_r (hle)] | rw [br_s (hle)]
    exact h0
  | succ m ih =>
    intro c hc M hM hb
    have hL := gF_LayN hM hL0
    have h := MdM_4 h0' hM
    have hY := LyM_4 hY0 hM
    have ec := fun Q => c_m_cells (d + 2) M Q hL b (dC D) (dR D) h.1.1 h.1.2 h.2.1.1 h.2.1.2
    have hlt : ¬ nI (dC D * dR D) ≤ nI c := by rw [ni_le (by omega) (by omega)]; omega
    have hcl : c < dC D * dR D := by omega
    have hp := plc_v hD.1.1.1 hC1.1 hcl
    have em := fun Q => m_mayBe hD hL h hs (d + 1) Q hY hp.1 ht
    rw [hp.2] at em
    have e256 : (256 : Int32) * nI t + nI c = nI (256 * t + c) := by rw [show (256 : Int32) = nI 256 from rfl, ni_mul, ni_add]
    have hcur := hb t c ht hcl
    rw [if_neg (by omega)] at hcur
    have put : am_P am_P0 (d + 3) (am_look tX11_settlesAll) 76 [.ref 277, .int (nI s), .int (nI t), .int (nI (c + 1))] [] (uI M 334 (256 * t + c) (nI (stK D (s + 1) t (plc (dC D) c)))) Q := by
      have w1 : gF s334 nT M (uI M 334 (256 * t + c) (nI (stK D (s + 1) t (plc (dC D) c)))) := gF_i _ rfl
      refine ih (c + 1) (by omega) _ (gF_trans hM w1) (fun h' k a1 a2 => ?_)
      rw [m_uI_I]
      by_cases e : h' = t ∧ k = c
      · rw [e.1, e.2, if_pos ⟨rfl, rfl⟩, if_pos (by omega)]
      · rw [if_neg (by omega), hb h' k a1 a2]
        by_cases q : h' < t ∨ (h' = t ∧ k < c)
        · rw [if_pos q, if_pos (by omega)]
        · rw [if_neg q, if_neg (by omega)]
    rw [hX11_settlesAll_76]
    simp +decide (disch := omega) only [qX11_settlesAll_0, qX11_settlesAll_1, lm hL, ec, em, e256, hcur, tI_0, ni_in_t, ni_tn, ni_add1, am_w1_i, am_w1_r, am_w1_x, am_w1_l, am_w1_w, va_rf_s, am_push_n, am_push_s, am_cs_0, am_cs_i, am_cs_l, am_cs_r, m_uI_K, m_uI_N, m_uI_R, m_uI_L, m_uI_I, m_uL_K, m_uL_N, m_uL_R, m_uL_I, m_uL_L, m_uR_K, m_uR_N, m_uR_I, m_uR_L, m_uR_R, true_and, and_true, true_implies, false_implies, not_true_eq_false, not_false_eq_true, if_true, if_false, false_and, and_false]
    first | rw [br_n (hlt)] | rw [br_q (hlt)] | rw [br_u (hlt)]
    by_cases c2 : dMy D s t (plc (dC D) c)
    · rw [stK_t ⟨hlen, hm2, c2⟩] at put
      first | rw [br_p (c2)] | rw [br_r (c2)] | rw [br_s (c2)]
      exact put
    · rw [stK_f (fun q => c2 q.2.2)] at put
      first | rw [br_n (c2)] | rw [br_q (c2)] | rw [br_u (c2)]
      rw [show (0 : Int32) = nI 0 from rfl, ni_add]
      exact put
theorem l_m_sa2 (hD : dOK D) (hL0 : Lay M0) (h0' : MdM M0 b D) (hs : s < dN D) (hlen : 0 < (dY D s).length) (hY0 : LyM M0 (dC D) (dR D) (dWt D s) (dV D s) (dSn D s) (dBs D s) (dY D s))
    (hN : ∀ M' v2 v3, gF s334 nT M0 M' → jk v2 → jk v3 → StM4 M' D (stK D (s + 1)) → am_P am_P0 (d + 3) (am_look tX11_settlesAll) 24 [.ref 277, .int (nI (s + 1)), v2, v3] [] M' Q) :
    ∀ (m t : Nat), t + m = 48 → ∀ (M : am_M) (v3 : Value), jk v3 → gF s334 nT M0 M → StM4 M D (fun h p => if h < t then stK D (s + 1) h p else stK D s h p) → am_P am_P0 (d + 3) (am_look tX11_settlesAll) 55 [.ref 277, .int (nI s), .int (nI t), v3] [] M Q := by
  have n8 := dN_8 hD
  intro m
  induction m with
  | zero =>
    intro t ht M v3 j3 hM hb
    have et : t = 48 := by omega
    subst et
    have h0 := hN M (.int 48) v3 hM (Or.inr ⟨_, rfl⟩) j3 (fun h' k a1 a2 => by rw [hb h' k a1 a2]; dsimp only; rw [if_pos a1])
    rw [hX11_settlesAll_55]
    simp +decide only [qX11_settlesAll_0, qX11_settlesAll_1, show nI 48 = (48 : Int32) from rfl, ni_add1, jk_w j3, am_w1_i, am_w1_r, am_w1_x, am_w1_l, am_w1_w, va_rf_s, am_push_n, am_push_s, am_cs_0, am_cs_i, am_cs_l, am_cs_r, m_uI_K, m_uI_N, m_uI_R, m_uI_L, m_uI_I, m_uL_K, m_uL_N, m_uL_R, m_uL_I, m_uL_L, m_uR_K, m_uR_N, m_uR_I, m_uR_L, m_uR_R, true_and, and_true, true_implies, false_implies, not_true_eq_false, not_false_eq_true, if_true, if_false, false_and, and_false] at h0 ⊢
    exact h0
  | succ m ih =>
    intro t ht M v3 j3 hM hb
    have hL := gF_LayN hM hL0
    have h := MdM_4 h0' hM
    have hY := LyM_4 hY0 hM
    have hlt : ¬ (48 : Int32) ≤ nI t := by rw [show (48 : Int32) = nI 48 from rfl, ni_le (by omega) (by omega)]; omega
    have ec := fun Q => m_cellsOf hD hL h hs d Q hY (t := t) (by omega)
    have hmc : dMc D s t ≤ 256 := cnt_le _ _
    rw [hX11_settlesAll_55]
    simp +decide only [qX11_settlesAll_0, qX11_settlesAll_1, lm hL, ec, jk_w j3, am_w1_i, am_w1_r, am_w1_x, am_w1_l, am_w1_w, va_rf_s, am_push_n, am_push_s, am_cs_0, am_cs_i, am_cs_l, am_cs_r, m_uI_K, m_uI_N, m_uI_R, m_uI_L, m_uI_I, m_uL_K, m_uL_N, m_uL_R, m_uL_I, m_uL_L, m_uR_K, m_uR_N, m_uR_I, m_uR_L, m_uR_R, true_and, and_true, true_implies, false_implies, not_true_eq_false, not_false_eq_true, if_true, if_false, false_and, and_false]
    first | rw [br_n (hlt)] | rw [br_q (hlt)] | rw [br_u (hlt)]
    rw [show (2 : Int32) = nI 2 from rfl, ni_le (by omega) (by omega)]
    by_cases c : 2 ≤ dMc D s t
    · first | rw [br_p (c)] | rw [br_r (c)] | rw [br_s (c)]
      exact l_m_sa3 d b s D M0 Q hD hL0 h0' hs hlen hY0 t (by omega) c (fun M' v3' g' j3' S' => ih (t + 1) (by omega) M' v3' j3' g' S') (dC D * dR D) 0 (by omega) M hM (fun h' k a1 a2 => by
        rw [hb h' k a1 a2]
        dsimp only
        by_cases q : h' < t
        · rw [if_pos q, if_pos (by omega)]
        · rw [if_neg q, if_neg (by omega)])
    · first | rw [br_n (c)] | rw [br_q (c)] | rw [br_u (c)]
      have h0 := ih (t + 1) (by omega) M v3 j3 hM (fun h' k a1 a2 => by
        rw [hb h' k a1 a2]
        dsimp only
        by_cases q : h' < t
        · rw [if_pos q, if_pos (by omega)]
        · rw [if_neg q]
          by_cases e : h' = t
          · rw [if_pos (by omega), e, stK_f (fun z => c z.2.1)]
          · rw [if_neg (by omega)])
      simp +decide only [qX11_settlesAll_0, qX11_settlesAll_1, ni_add1, jk_w j3, am_w1_i, am_w1_r, am_w1_x, am_w1_l, am_w1_w, va_rf_s, am_push_n, am_push_s, am_cs_0, am_cs_i, am_cs_l, am_cs_r, m_uI_K, m_uI_N, m_uI_R, m_uI_L, m_uI_I, m_uL_K, m_uL_N, m_uL_R, m_uL_I, m_uL_L, m_uR_K, m_uR_N, m_uR_I, m_uR_L, m_uR_R, true_and, and_true, true_implies, false_implies, not_true_eq_false, not_false_eq_true, if_true, if_false, false_and, and_false]
      exact h0
end
theorem l_m_sa1 (d b : Nat) (D : Dat) (M0 : am_M) (Q : Option Value → am_M → Prop) (hD : dOK D) (hL0 : Lay M0) (h0' : MdM M0 b D) (hQ : ∀ M', gF sMz nT M0 M' → StM4 M' D (stN D) → Q none M') :
    ∀ (m s : Nat), s + m = dN D → ∀ (M : am_M) (v2 v3 : Value), jk v2 → jk v3 → gF sMz nT M0 M → StM4 M D (stK D s) → am_P am_P0 (d + 8) (am_look tX11_settlesAll) 24 [.ref 277, .int (nI s), v2, v3] [] M Q := by
  have n8 := dN_8 hD
  intro m
  induction m with
  | zero =>
    intro s hs M v2 v3 h2 h3 hM hb
    have hL := gF_LayN hM hL0
    have h := MdM_z h0' hM
    have hb2 := h.1.2
    have hle : nI (dN D) ≤ nI s := (ni_le (by omega) (by omega)).mpr (by omega)
    have h0 := hQ M hM (by rw [show s = dN D by omega] at hb; exact hb)
    rw [hX11_settlesAll_24]
    simp +decide (disch := omega) only [qX11_settlesAll_0, qX11_settlesAll_1, lm hL, h.1.1, h.2.2.2.1.1, ni_in_t, ni_tn, am_w1_i, am_w1_r, am_w1_x, am_w1_l, am_w1_w, va_rf_s, am_push_n, am_push_s, am_cs_0, am_cs_i, am_cs_l, am_cs_r, m_uI_K, m_uI_N, m_uI_R, m_uI_L, m_uI_I, m_uL_K, m_uL_N, m_uL_R, m_uL_I, m_uL_L, m_uR_K, m_uR_N, m_uR_I, m_uR_L, m_uR_R, true_and, and_true, true_implies, false_implies, not_true_eq_false, not_false_eq_true, if_true, if_false, false_and, and_false]
    first | rw [br_p (hle)] | rw [br_r (hle)] | rw [br_s (hle)]
    exact h0
  | succ m ih =>
    intro s hs M v2 v3 h2 h3 hM hb
    have hL := gF_LayN hM hL0
    have h := MdM_z h0' hM
    have hb2 := h.1.2
    have h48 := dY_len hD s
    have hlt : ¬ nI (dN D) ≤ nI s := by rw [ni_le (by omega) (by omega)]; omega
    have hsay := fun Q => m_sayN hD hL h (s := s) (by omega) (d + 6) Q
    have ez : nI (dY D s).length = 0 ↔ (dY D s).length = 0 := by rw [show (0 : Int32) = nI 0 from rfl, ni_eq (by omega) (by omega)]
    rw [hX11_settlesAll_24]
    simp +decide (disch := omega) only [qX11_settlesAll_0, qX11_settlesAll_1, lm hL, h.1.1, h.2.2.2.1.1, hsay, ez, jk_w h2, jk_w h3, ni_in_t, ni_tn, ni_add1, Classical.not_not, am_w1_i, am_w1_r, am_w1_x, am_w1_l, am_w1_w, va_rf_s, am_push_n, am_push_s, am_cs_0, am_cs_i, am_cs_l, am_cs_r, m_uI_K, m_uI_N, m_uI_R, m_uI_L, m_uI_I, m_uL_K, m_uL_N, m_uL_R, m_uL_I, m_uL_L, m_uR_K, m_uR_N, m_uR_I, m_uR_L, m_uR_R, true_and, and_true, true_implies, false_implies, not_true_eq_false, not_false_eq_true, if_true, if_false, false_and, and_false]
    first | rw [br_n (hlt)] | rw [br_q (hlt)] | rw [br_u (hlt)]
    by_cases c : (dY D s).length = 0
    · first | rw [br_p (c)] | rw [br_r (c)] | rw [br_s (c)]
      exact ih (s + 1) (by omega) M v2 v3 h2 h3 hM (fun h' k a1 a2 => by rw [hb h' k a1 a2, stK_f (fun q => by omega)])
    · first | rw [br_n (c)] | rw [br_q (c)] | rw [br_u (c)]
      obtain ⟨w1, w2, w3, w4, w5⟩ := mh hD h (s := s) (by omega)
      refine c_m_lays d s b (dC D) (dR D) (dV D s) (dDp D) (dDr D s) (dLd D s) (dBk D) (dY D s) M _ hL w1 (by omega) w2 w3 w4 (dY_len hD s) (fun M1 o1 y1 => ?_)
      rw [w5] at y1
      have g1 : gF sMz nT M M1 := gF_up (gF_o o1) (fun a j q => Or.inl (sMq_Y q)) (fun _ _ q => q)
      have L1 := gF_LayN g1 hL
      have h1 := MdM_z h g1
      have h9 := l_m_sa2 (d + 5) b s D M1 Q hD L1 h1 (by omega) (by omega) y1 (fun M' v2' v3' g' q2 q3 e' => ih (s + 1) (by omega) M' v2' v3' q2 q3 (gF_trans hM (gF_trans g1 (gF_up g' (fun a j q => by unfold s334 at q; unfold sMz; omega) (fun _ _ q => q)))) e') 48 0 (by omega) M1 v3 h3 (gF_refl _ _ _) (fun h' k a1 a2 => by dsimp only; rw [if_neg (by omega), o1.1 _ _ (by unfold sY sK sP sFG sF sG; omega)]; exact hb h' k a1 a2)
      simp +decide only [qX11_settlesAll_0, qX11_settlesAll_1, jk_w h3, am_w1_i, am_w1_r, am_w1_x, am_w1_l, am_w1_w, va_rf_s, am_push_n, am_push_s, am_cs_0, am_cs_i, am_cs_l, am_cs_r, m_uI_K, m_uI_N, m_uI_R, m_uI_L, m_uI_I, m_uL_K, m_uL_N, m_uL_R, m_uL_I, m_uL_L, m_uR_K, m_uR_N, m_uR_I, m_uR_L, m_uR_R, true_and, and_true, true_implies, false_implies, not_true_eq_false, not_false_eq_true, if_true, if_false, false_and, and_false]
      exact h9
theorem m_settlesAll {M : am_M} {b : Nat} {D : Dat} (hD : dOK D) (hL : Lay M) (h : MdM M b D) (d : Nat) (Q : Option Value → am_M → Prop) (hQ : ∀ M', gF sMz nT M M' → StM4 M' D (stN D) → Q none M') : am_E am_P0 (d + 8) 287 [.ref 277] M Q := by
  have hCR : dC D * dR D ≤ 16 * 16 := Nat.mul_le_mul hD.1.1.1 hD.1.1.2
  have h0 := l_m_sa0 (d + 8) M Q hL (fun M' g' e' => by
    have g2 : gF sMz nT M M' := gF_up g' (fun a j q => by unfold s334 at q; unfold sMz; omega) (fun _ _ q => q)
    exact l_m_sa1 d b D M' Q hD (gF_LayN g' hL) (MdM_z h g2) (fun M2 q2 => hQ M2 (gF_trans g2 q2)) (dN D) 0 (by omega) M' am_x am_x (Or.inl rfl) (Or.inl rfl) (gF_refl _ _ _) (fun h' k a1 a2 => by rw [e' _ (by omega)]; rfl)) 12288 0 (by omega) M (gF_refl _ _ _) (fun k hk => by omega)
  rw [eX11_settlesAll]
  simp +decide only [qX11_settlesAll_0, qX11_settlesAll_1, am_w1_i, am_w1_r, am_w1_x, am_w1_l, am_w1_w, va_rf_s, am_push_n, am_push_s, am_cs_0, am_cs_i, am_cs_l, am_cs_r, m_uI_K, m_uI_N, m_uI_R, m_uI_L, m_uI_I, m_uL_K, m_uL_N, m_uL_R, m_uL_I, m_uL_L, m_uR_K, m_uR_N, m_uR_I, m_uR_L, m_uR_R, true_and, and_true, true_implies, false_implies, not_true_eq_false, not_false_eq_true, if_true, if_false, false_and, and_false]
  exact h0
theorem m_settles (t x y : Int32) : MzO 288 [.int t, .int x, .int y] (aStl t x y) := by
  intro d M b D Q hD hL h hQ
  have hCR : dC D * dR D ≤ 16 * 16 := Nat.mul_le_mul hD.1.1.1 hD.1.1.2
  have eC := fun x y Q => m_isCell hD hL h (d + 18) x y Q
  have eH := fun x Q => c_m_isHour (d + 18) x M Q
  unfold aStl at hQ
  rw [eX11_settles]
  simp +decide only [qX11_settles, lm hL, eC, eH, bI_0, Classical.not_not, am_w1_i, am_w1_r, am_w1_x, am_w1_l, am_w1_w, va_rf_s, am_push_n, am_push_s, am_cs_0, am_cs_i, am_cs_l, am_cs_r, m_uI_K, m_uI_N, m_uI_R, m_uI_L, m_uI_I, m_uL_K, m_uL_N, m_uL_R, m_uL_I, m_uL_L, m_uR_K, m_uR_N, m_uR_I, m_uR_L, m_uR_R, true_and, and_true, true_implies, false_implies, not_true_eq_false, not_false_eq_true, if_true, if_false, false_and, and_false]
  by_cases ht : 0 ≤ t.toInt ∧ t.toInt < 48
  · first | rw [br_p (ht)] | rw [br_r (ht)] | rw [br_s (ht)]
    by_cases hc : isCl D x y
    · obtain ⟨c1, c2, c3, c4, c5, c6, c7⟩ := cl_of hD hc
      have hc' := hc
      unfold isCl at hc'
      first | rw [br_p (hc')] | rw [br_r (hc')] | rw [br_s (hc')]
      rw [if_pos ⟨hc, ht⟩] at hQ
      have et : t = nI t.toInt.toNat := i32_of (by omega) (by omega)
      refine m_settlesAll hD hL h (d + 11) _ (fun M1 g1 s1 => ?_)
      have L1 := gF_LayN g1 hL
      have h1 := MdM_z h g1
      have h0 := hQ M1 g1
      have eA := fun Q => m_atI hD L1 h1 hc (d + 19) Q
      have hcl := (cel_lt hD.1.1.1 hD.1.1.2 c1).1
      have e256 : (256 : Int32) * t + nI (cel (dC D) (plI x y)) = nI (256 * t.toInt.toNat + cel (dC D) (plI x y)) := by rw [show (256 : Int32) = nI 256 from rfl, et, ni_mul, ni_add, ← et]
      have e := plc_v hD.1.1.1 c4 hcl
      have e2 : plc (dC D) (cel (dC D) (plI x y)) = plI x y := cel_inj e.1 c1 e.2
      have hv := s1 t.toInt.toNat (cel (dC D) (plI x y)) (by omega) hcl
      rw [e2] at hv
      simp +decide (disch := omega) only [qX11_settles, lm L1, eA, e256, hv, ni_in_t, ni_tn, am_w1_i, am_w1_r, am_w1_x, am_w1_l, am_w1_w, va_rf_s, am_push_n, am_push_s, am_cs_0, am_cs_i, am_cs_l, am_cs_r, m_uI_K, m_uI_N, m_uI_R, m_uI_L, m_uI_I, m_uL_K, m_uL_N, m_uL_R, m_uL_I, m_uL_L, m_uR_K, m_uR_N, m_uR_I, m_uR_L, m_uR_R, true_and, and_true, true_implies, false_implies, not_true_eq_false, not_false_eq_true, if_true, if_false, false_and, and_false]
      exact h0
    · have h0 := hQ M (gF_refl _ _ _)
      rw [if_neg (fun q => hc q.1)] at h0
      unfold isCl at hc
      first | rw [br_n (hc)] | rw [br_q (hc)] | rw [br_u (hc)]
      exact h0
  · first | rw [br_n (ht)] | rw [br_q (ht)] | rw [br_u (ht)]
    have h0 := hQ M (gF_refl _ _ _)
    rw [if_neg (fun q => ht q.2)] at h0
    exact h0
theorem op_settles (t x y : Int32) : OpI 137 288 [.int t, .int x, .int y] isI := op_z (fun D => ⟨_, rfl⟩) (x_settles t x y) (m_settles t x y)
