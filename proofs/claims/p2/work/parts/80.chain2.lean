/-! the class: countChains -/
def sM (s a _j : Nat) : Prop := a = 184 + 13 * s
theorem l_x_chain1 (d s g z v : Nat) (wt : Nat → Prop) (dep : Nat → Nat) (dr ld : Nat) (B : List Fct) (Y : List Sy) (M0 : am_M) (Q : Option Value → am_M → Prop) (hs : s < 8) (hg : isSh g) (hz : z = 2 ∨ z = 83) (hsr : srtY Y) (hal : ∀ k y, Y[k]? = some y → mI M0 (181 + 13 * s) k = tI (goodY wt v (sndP dep dr ld) B y))
    (hQ : ∀ M', zF (sM s) M0 M' → TkX M' s g z v wt dep dr ld B Y → (∀ k, k < Y.length → mI M' (184 + 13 * s) k = nI (lgY wt v (sndP dep dr ld) B Y k)) → Q (some (.int (nI (mostY wt v (sndP dep dr ld) B Y)))) M') :
    ∀ (i : Nat), i ≤ Y.length → ∀ (M : am_M) (v3 v4 v5 : Value), jk v5 → zF (sM s) M0 M → TkX M s g z v wt dep dr ld B Y → (∀ k, i ≤ k → k < Y.length → mI M (184 + 13 * s) k = nI (lgY wt v (sndP dep dr ld) B Y k)) → am_P am_P0 (d + 3) (am_look tX8_countChains) 12 [.ref (173 + 13 * s), .int (nI (mx1 (lgY wt v (sndP dep dr ld) B Y) (fun _ => true) i (Y.length - i))), .int (nI i - 1), v3, v4, v5] [] M Q := by
  obtain ⟨w, hwe⟩ : ∃ w, w = 173 + 13 * s := ⟨_, rfl⟩
  have hw : isTr w := ⟨s, hs, hwe⟩
  have hgl := isSh_lt hg
  have e8 : 181 + 13 * s = w + 8 := by omega
  have e11 : 184 + 13 * s = w + 11 := by omega
  have e1 : 174 + 13 * s = w + 1 := by omega
  have nS : ∀ a j, a < 164 → ¬ sM s a j := fun a j ha q => by unfold sM at q; omega
  intro i
  induction i with
  | zero =>
    intro _ M v3 v4 v5 j5 hM hT hm
    have e : mx1 (lgY wt v (sndP dep dr ld) B Y) (fun _ => true) 0 (Y.length - 0) = mostY wt v (sndP dep dr ld) B Y := mx1_all _ _
    have e0 : nI 0 - 1 = -1 := rfl
    rw [e, e0, hX8_countChains_12]
    simp +decide only [qX8_countChains_0, qX8_countChains_1, qX8_countChains_2, am_w1_i, am_w1_r, am_w1_x, am_w1_l, am_w1_w, va_rf_s, am_push_n, am_push_s, am_cs_0, am_cs_i, am_cs_l, am_cs_r, m_uI_K, m_uI_N, m_uI_R, m_uI_L, m_uI_I, m_uL_K, m_uL_N, m_uL_R, m_uL_I, m_uL_L, m_uR_K, m_uR_N, m_uR_I, m_uR_L, m_uR_R, true_and, and_true, true_implies, false_implies]
    exact hQ M hM hT (fun k hk => hm k (by omega) hk)
  | succ i ih =>
    intro hi M v3 v4 v5 j5 hM hT hm
    have hL := hM.1
    have h48 := hT.2.2.2.2.1
    have hfb := lgY_b wt v (sndP dep dr ld) B Y h48
    have hmb : ∀ a m, mx1 (lgY wt v (sndP dep dr ld) B Y) (fun _ => true) a m ≤ 48 := fun a m => by
      rcases mx1_at (f := lgY wt v (sndP dep dr ld) B Y) (g := fun _ => true) (a := a) (m := m) with e | ⟨j, -, -, -, e⟩
      · omega
      · rw [← e]; exact hfb j
    have hR := hT.2.1.1
    have ei : nI (i + 1) - 1 = nI i := by rw [show (1 : Int32) = nI 1 from rfl, ni_sub (by omega)]; rfl
    have em : nI i + -1 = nI i - 1 := (Int32.sub_eq_add_neg _ _).symm
    have hn0 : ¬ nI i < 0 := by rw [show (0 : Int32) = nI 0 from rfl, ni_lt (by omega) (by omega)]; omega
    obtain ⟨y, hy⟩ : ∃ y, Y[i]? = some y := ⟨Y[i]'(by omega), List.getElem?_eq_getElem (by omega)⟩
    obtain ⟨⟨y1, y2⟩, y3, y4, y5⟩ := hT.2.2.2.2.2 i y hy
    have hgd := gdF_y (w := wt) (v := v) (snd := sndP dep dr ld) (B := B) hy
    have ral : mI M (w + 8) i = tI (goodY wt v (sndP dep dr ld) B y) := by
      rw [hM.2.2.2.1 _ _ (by omega) (fun s' hs' => by omega) (fun q => by unfold sM at q; omega), ← e8]
      exact hal i y hy
    have hstep : mx1 (lgY wt v (sndP dep dr ld) B Y) (fun _ => true) i (Y.length - i) = max (lgY wt v (sndP dep dr ld) B Y i) (mx1 (lgY wt v (sndP dep dr ld) B Y) (fun _ => true) (i + 1) (Y.length - (i + 1))) := by
      rw [show Y.length - i = (Y.length - (i + 1)) + 1 by omega, mx1_dn, if_pos rfl]
    have z1 : zF (sM s) M (uI M (w + 11) i 0) := zF_i hL hM.2.1 _ e11.symm (fun s' hs' => by omega)
    have hM1 := zF_trans hM z1
    have hT1 := TkX_z hs hg hz hT z1 nS
    have b1 := hfb i
    have b2 := hmb (i + 1) (Y.length - (i + 1))
    have n8 : ¬ w + 8 = w + 11 := by omega
    have ng2 : ¬ g + 2 = w + 11 := by omega
    rw [ei]
    by_cases c1 : goodY wt v (sndP dep dr ld) B y
    · rw [tI_t c1] at ral
      have hgi := hgd.mpr c1
      rw [← hwe] at hR ⊢
      rw [hX8_countChains_12]
      simp +decide (disch := omega) only [qX8_countChains_0, qX8_countChains_1, qX8_countChains_2, lt_ hL hw, lw_ hL hg, hR, ral, y4, n8, ng2, ni_in_t, ni_tn, am_w1_i, am_w1_r, am_w1_x, am_w1_l, am_w1_w, va_rf_s, am_push_n, am_push_s, am_cs_0, am_cs_i, am_cs_l, am_cs_r, m_uI_K, m_uI_N, m_uI_R, m_uI_L, m_uI_I, m_uL_K, m_uL_N, m_uL_R, m_uL_I, m_uL_L, m_uR_K, m_uR_N, m_uR_I, m_uR_L, m_uR_R, true_and, and_true, if_false, false_and, not_true_eq_false, not_false_eq_true, true_implies, false_implies]
      rw [br_n hn0, ← e1]
      refine c_x_ringsOf (d + 1) s y.2.1 v wt (uI M (w + 11) i 0) _ hM1.1 hs y2 hT1.1.1 hT1.1.2.1 hT1.1.2.2.1 hM1.2.1 (hT1.1.2.2.2 y.2.1 y2) (fun r M2 h2 => ?_)
      have F2 := rgP_F hM1.1 hM1.2.1 hs y2 hT1.1 h2
      have hM2 : zF (sM s) M0 M2 := zF_trans hM1 (zF_r F2)
      have hT2 := TkX_z hs hg hz hT1 (zF_r F2 : zF (sM s) _ M2) nS
      have r11 : ∀ k, mI M2 (w + 11) k = mI (uI M (w + 11) i 0) (w + 11) k := fun k => F2.2.2.2.1 _ _ (by omega) (fun s' hs' => by omega)
      simp +decide only [qX8_countChains_0, qX8_countChains_1, qX8_countChains_2, ni_add1, am_w1_i, am_w1_r, am_w1_x, am_w1_l, am_w1_w, va_rf_s, am_push_n, am_push_s, am_cs_0, am_cs_i, am_cs_l, am_cs_r, m_uI_K, m_uI_N, m_uI_R, m_uI_L, m_uI_I, m_uL_K, m_uL_N, m_uL_R, m_uL_I, m_uL_L, m_uR_K, m_uR_N, m_uR_I, m_uR_L, m_uR_R, true_and, and_true]
      have h0 := l_x_chain2 d s g z v i r wt dep dr ld B Y y M2 Q (nI (mx1 (lgY wt v (sndP dep dr ld) B Y) (fun _ => true) (i + 1) (Y.length - (i + 1)))) (lgY wt v (sndP dep dr ld) B Y) hfb hs hg hz hy hsr hM2.1 hM2.2.1 ⟨h2.2.2.2.2.2.1.1, h2.2.2.2.2.2.1.2⟩ hT2 h2.2.1 (fun k k1 k2 => ?_) (fun M3 v5' j5' g3 m3 => ?_) (Y.length - (i + 1)) (i + 1) (by omega) (Nat.le_refl _) M2 v5 j5 (onI_refl _ _ _) ?_
      · rw [← hwe] at h0
        exact h0
      · rw [e11, r11, m_uI_I, if_neg (by omega), ← e11]
        exact hm k (by omega) k2
      · have z3 : zF (sM s) M2 M3 := onI_z g3 hM2.1 hM2.2.1 rfl (fun s' hs' => by omega)
        have hM3 := zF_trans hM2 z3
        have hT3 := TkX_z hs hg hz hT2 z3 nS
        have efi : lgY wt v (sndP dep dr ld) B Y i = mx1 (lgY wt v (sndP dep dr ld) B Y) (goF wt v Y i) (i + 1) (Y.length - (i + 1)) + 1 := by
          show lg _ _ _ i = _
          rw [lg_eq (by omega), if_pos hgi, Nat.add_comm]
          rfl
        rw [e11] at m3
        have z4 : zF (sM s) M3 (uI M3 (w + 11) i (nI (lgY wt v (sndP dep dr ld) B Y i))) := zF_i hM3.1 hM3.2.1 _ e11.symm (fun s' hs' => by omega)
        have h9 := ih (by omega) (uI M3 (w + 11) i (nI (lgY wt v (sndP dep dr ld) B Y i))) (.ref r) (.int (nI Y.length)) v5' j5' (zF_trans hM3 z4) (TkX_z hs hg hz hT3 z4 nS) (fun k k1 k2 => ?_)
        · have hmx := fun M' Q => c_max (d + 2) (mx1 (lgY wt v (sndP dep dr ld) B Y) (fun _ => true) (i + 1) (Y.length - (i + 1))) (lgY wt v (sndP dep dr ld) B Y i) M' Q (by omega) (by omega)
          rw [hstep, Nat.max_comm] at h9
          rw [← hwe] at h9 ⊢
          have L3 := hM3.1
          simp +decide (disch := omega) only [qX8_countChains_0, qX8_countChains_1, qX8_countChains_2, lt_ L3 hw, m3, ni_add1, ← efi, hmx, em, ni_in_t, ni_tn, am_w1_i, am_w1_r, am_w1_x, am_w1_l, am_w1_w, va_rf_s, am_push_n, am_push_s, am_cs_0, am_cs_i, am_cs_l, am_cs_r, m_uI_K, m_uI_N, m_uI_R, m_uI_L, m_uI_I, m_uL_K, m_uL_N, m_uL_R, m_uL_I, m_uL_L, m_uR_K, m_uR_N, m_uR_I, m_uR_L, m_uR_R, true_and, and_true, and_self, if_true]
          exact h9
        · rw [e11, m_uI_I]
          by_cases ek : k = i
          · subst ek; rw [if_pos ⟨rfl, rfl⟩]
          · rw [if_neg (fun q => ek q.2), g3.1 _ _ (fun q => ek q.2), r11, m_uI_I, if_neg (fun q => ek q.2), ← e11]
            exact hm k (by omega) k2
      · rw [e11, r11, m_uI_I, if_pos ⟨rfl, rfl⟩, Nat.sub_self]
        rfl
    · rw [tI_f c1] at ral
      have hz0 : lgY wt v (sndP dep dr ld) B Y i = 0 := by unfold lgY; exact lg_0 (fun q => c1 (hgd.mp q))
      have h9 := ih (by omega) (uI M (w + 11) i 0) v3 v4 v5 j5 hM1 hT1 (fun k k1 k2 => ?_)
      · rw [hstep, hz0, Nat.max_eq_right (Nat.zero_le _)] at h9
        rw [← hwe] at h9 ⊢
        rw [hX8_countChains_12]
        simp +decide (disch := omega) only [qX8_countChains_0, qX8_countChains_1, qX8_countChains_2, lt_ hL hw, ral, em, n8, ni_in_t, ni_tn, am_w1_i, am_w1_r, am_w1_x, am_w1_l, am_w1_w, va_rf_s, am_push_n, am_push_s, am_cs_0, am_cs_i, am_cs_l, am_cs_r, m_uI_K, m_uI_N, m_uI_R, m_uI_L, m_uI_I, m_uL_K, m_uL_N, m_uL_R, m_uL_I, m_uL_L, m_uR_K, m_uR_N, m_uR_I, m_uR_L, m_uR_R, true_and, and_true, if_false, false_and, not_true_eq_false, not_false_eq_true, true_implies, false_implies]
        rw [br_n hn0]
        exact h9
      · rw [e11, m_uI_I]
        by_cases ek : k = i
        · subst ek; rw [if_pos ⟨rfl, rfl⟩, hz0]; rfl
        · rw [if_neg (fun q => ek q.2), ← e11]
          exact hm k (by omega) k2
theorem c_x_countChains (d s g z v : Nat) (wt : Nat → Prop) (dep : Nat → Nat) (dr ld : Nat) (B : List Fct) (Y : List Sy) (M : am_M) (Q : Option Value → am_M → Prop) (hL : Lay M) (hI : RInv M) (hs : s < 8) (hg : isSh g) (hz : z = 2 ∨ z = 83) (hsr : srtY Y) (hT : TkX M s g z v wt dep dr ld B Y) (hal : ∀ k y, Y[k]? = some y → mI M (181 + 13 * s) k = tI (goodY wt v (sndP dep dr ld) B y))
    (hQ : ∀ M', zF (sM s) M M' → TkX M' s g z v wt dep dr ld B Y → (∀ k, k < Y.length → mI M' (184 + 13 * s) k = nI (lgY wt v (sndP dep dr ld) B Y k)) → Q (some (.int (nI (mostY wt v (sndP dep dr ld) B Y)))) M') : am_E am_P0 (d + 3) 85 [.ref (173 + 13 * s)] M Q := by
  obtain ⟨w, hwe⟩ : ∃ w, w = 173 + 13 * s := ⟨_, rfl⟩
  have hw : isTr w := ⟨s, hs, hwe⟩
  have h0 := l_x_chain1 d s g z v wt dep dr ld B Y M Q hs hg hz hsr hal hQ Y.length (Nat.le_refl _) M am_x am_x am_x (Or.inl rfl) (zF_refl hL hI) hT (fun k k1 k2 => by omega)
  have hR := hT.2.1.1
  rw [Nat.sub_self] at h0
  have e0 : mx1 (lgY wt v (sndP dep dr ld) B Y) (fun _ => true) Y.length 0 = 0 := rfl
  rw [e0] at h0
  rw [← hwe] at hR h0 ⊢
  rw [eX8_countChains]
  simp +decide only [qX8_countChains_0, qX8_countChains_1, qX8_countChains_2, lt_ hL hw, lw_ hL hg, hR, hT.2.2.2.1, am_w1_i, am_w1_r, am_w1_x, am_w1_l, am_w1_w, va_rf_s, am_push_n, am_push_s, am_cs_0, am_cs_i, am_cs_l, am_cs_r, m_uI_K, m_uI_N, m_uI_R, m_uI_L, m_uI_I, m_uL_K, m_uL_N, m_uL_R, m_uL_I, m_uL_L, m_uR_K, m_uR_N, m_uR_I, m_uR_L, m_uR_R, true_and, and_true]
  exact h0
