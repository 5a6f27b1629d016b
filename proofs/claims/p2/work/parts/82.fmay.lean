/-! the class: findMay, the line with what is kept -/
theorem gow_tr {w : Nat → Prop} {v : Nat} {Y : List Sy} (hs : srtY Y) : ∀ i j k, i < j → j < k → goF w v Y i j = true → goF w v Y j k = true → goF w v Y i k = true := by
  intro i j k hij hjk h1 h2
  have h1' := dB_t.mp h1
  have h2' := dB_t.mp h2
  obtain ⟨a, b, ha, hb, g1⟩ := h1'
  obtain ⟨b', c, hb', hc, g2⟩ := h2'
  cases hb.symm.trans hb'
  refine dB_t.mpr ⟨a, c, ha, hc, ?_⟩
  have q1 := srtY_lt hs ha hb hij
  have q2 := srtY_lt hs hb hc hjk
  unfold gowY hd_ at *
  rw [if_pos q1] at g1
  rw [if_pos q2] at g2
  rw [if_pos (by omega), show c.1 - a.1 = (b.1 - a.1) + (c.1 - b.1) by omega]
  exact wit_comp g1 g2
theorem fcY_fit {w : Nat → Prop} {v : Nat} {snd : Nat → Bool → Prop} {B : List Fct} {Y : List Sy} (hs : srtY Y) (ho : ordF B) (hw : ∀ y, y ∈ Y → snd y.2.1 y.2.2 → w y.2.1) (hB : fitP w v B) : fitP w v (fcY w v snd B Y) ∧ ordF (fcY w v snd B Y) := by
  have hgood : ∀ k y, keptY w v snd B Y k → Y[k]? = some y → goodY w v snd B y := fun k y hk hy => (gdF_y hy).mp (kp_gd hk.2).1
  have hkp : ordF (kpF (fun k => fitP w v B ∧ keptY w v snd B Y k) Y Y.length) := fun a ha => by
    obtain ⟨k, y, -, -, -, rfl⟩ := kpF_mem.mp ha
    exact Nat.le_refl _
  have hord : ordF (fcY w v snd B Y) := ordF_app ho hkp
  refine ⟨(fit_app hord).mpr ⟨hB, fun a ha b hb => ?_, fun a ha b hb => ?_⟩, hord⟩
  · obtain ⟨k, y, k1, k2, k3, rfl⟩ := kpF_mem.mp ha
    obtain ⟨j, z, j1, j2, j3, rfl⟩ := kpF_mem.mp hb
    dsimp only
    rcases Nat.lt_trichotomy k j with q | q | q
    · have hg := (goF_y (w := w) (v := v) k3 j3).mp (kp_go (gow_tr hs) q k2.2.2 j2.2.2)
      have hl := srtY_lt hs k3 j3 q
      unfold gowY hd_ at hg
      rw [if_pos hl] at hg
      unfold btw
      rw [if_pos hl]
      exact hg
    · subst q
      cases k3.symm.trans j3
      unfold btw
      rw [if_neg (by omega), if_neg (by omega), wit_0]
      exact ⟨rfl, hw y (List.mem_of_getElem? k3) (hgood k y k2.2 k3).1⟩
    · have hg := (goF_y (w := w) (v := v) j3 k3).mp (kp_go (gow_tr hs) q j2.2.2 k2.2.2)
      have hl := srtY_lt hs j3 k3 q
      unfold gowY hd_ at hg
      rw [if_pos hl] at hg
      unfold btw
      rw [if_neg (by omega), if_pos hl]
      exact wit_symm hg
  · obtain ⟨j, z, j1, j2, j3, rfl⟩ := kpF_mem.mp hb
    have hg := (hgood j z j2.2 j3).2 a ha
    rw [btw_symm _ _ _ _ (ho a ha) (Nat.le_refl _)]
    exact wit_symm hg
theorem cov_mono {F G : List Fct} (h : ∀ a, a ∈ F → a ∈ G) {t p : Nat} (hc : cov F t p) : cov G t p := by
  obtain ⟨a, ha, q⟩ := hc
  exact ⟨a, h a ha, q⟩
theorem l_x_fm1 (d s g z v : Nat) (wt : Nat → Prop) (dep : Nat → Nat) (dr ld : Nat) (B : List Fct) (Y : List Sy) (M0 : am_M) (Q : Option Value → am_M → Prop) (hs : s < 8) (hg : isSh g) (hz : z = 2 ∨ z = 83) (hL : Lay M0) (hI : RInv M0) (hT : TkX M0 s g z v wt dep dr ld B Y) (hB : fitP wt v B) (hu : uniq (cov (fcY wt v (sndP dep dr ld) B Y))) (hk : ∀ k, k < Y.length → mI M0 (182 + 13 * s) k = tI (keptY wt v (sndP dep dr ld) B Y k)) (v2 v3 v4 : Value)
    (hQ : ∀ M', oS (sL (173 + 13 * s)) M0 M' → LnP M' (173 + 13 * s) (cov (fcY wt v (sndP dep dr ld) B Y)) → am_P am_P0 (d + 1) (am_look tX8_findMay) 54 [.ref (173 + 13 * s), .int (nI Y.length), v2, v3, v4] [] M' Q) :
    ∀ (m i : Nat), i + m = Y.length → ∀ (M : am_M), oS (sL (173 + 13 * s)) M0 M → LnP M (173 + 13 * s) (cov (B ++ kpF (fun k => fitP wt v B ∧ keptY wt v (sndP dep dr ld) B Y k) Y i)) → am_P am_P0 (d + 1) (am_look tX8_findMay) 2 [.ref (173 + 13 * s), .int (nI i), v2, v3, v4] [] M Q := by
  obtain ⟨w, hwe⟩ : ∃ w, w = 173 + 13 * s := ⟨_, rfl⟩
  have hw : isTr w := ⟨s, hs, hwe⟩
  have hgl := isSh_lt hg
  have e9 : 182 + 13 * s = w + 9 := by omega
  have h48 := hT.2.2.2.2.1
  rw [← hwe] at hQ ⊢
  intro m
  induction m with
  | zero =>
    intro i hi M hM hc
    have e : i = Y.length := by omega
    subst e
    have hLM := oS_Lay hM hL
    have hR : mR M w 0 = some g := by rw [hM.2.2.1, hwe]; exact hT.2.1.1
    have hn : mI M g 5 = nI Y.length := by rw [hM.1 _ _ (fun q => by unfold sL at q; omega)]; exact hT.2.2.2.1
    have hle : nI Y.length ≤ nI Y.length := (ni_le (by omega) (by omega)).mpr (Nat.le_refl _)
    have h0 := hQ M hM hc
    rw [hX8_findMay_2]
    simp +decide only [qX8_findMay_0, qX8_findMay_1, qX8_findMay_2, qX8_findMay_3, lt_ hLM hw, lw_ hLM hg, hR, hn, am_w1_i, am_w1_r, am_w1_x, am_w1_l, am_w1_w, va_rf_s, am_push_n, am_push_s, am_cs_0, am_cs_i, am_cs_l, am_cs_r, m_uI_K, m_uI_N, m_uI_R, m_uI_L, m_uI_I, m_uL_K, m_uL_N, m_uL_R, m_uL_I, m_uL_L, m_uR_K, m_uR_N, m_uR_I, m_uR_L, m_uR_R, true_and, and_true] at h0 ⊢
    rw [br_p hle]
    exact h0
  | succ m ih =>
    intro i hi M hM hc
    have hLM := oS_Lay hM hL
    have hR : mR M w 0 = some g := by rw [hM.2.2.1, hwe]; exact hT.2.1.1
    have hn : mI M g 5 = nI Y.length := by rw [hM.1 _ _ (fun q => by unfold sL at q; omega)]; exact hT.2.2.2.1
    have hlt : ¬ nI Y.length ≤ nI i := by rw [ni_le (by omega) (by omega)]; omega
    obtain ⟨y, hy⟩ : ∃ y, Y[i]? = some y := ⟨Y[i]'(by omega), List.getElem?_eq_getElem (by omega)⟩
    obtain ⟨⟨y1, y2⟩, y3, y4, y5⟩ := hT.2.2.2.2.2 i y hy
    have y3' : mI M (g + 1) i = nI y.1 := by rw [hM.1 _ _ (fun q => by unfold sL at q; omega)]; exact y3
    have y4' : mI M (g + 2) i = nI y.2.1 := by rw [hM.1 _ _ (fun q => by unfold sL at q; omega)]; exact y4
    have hk' : mI M (w + 9) i = tI (keptY wt v (sndP dep dr ld) B Y i) := by rw [hM.1 _ _ (fun q => by unfold sL at q; omega), ← e9]; exact hk i (by omega)
    have hput := fun Q => c_x_lput d w y.1 y.2.1 M Q _ hLM hw hc y1 y2
    rw [hX8_findMay_2]
    by_cases c : keptY wt v (sndP dep dr ld) B Y i
    · rw [tI_t c] at hk'
      have hf : ((y.2.1, y.1, y.1) : Fct) ∈ fcY wt v (sndP dep dr ld) B Y := List.mem_append_right _ (kpF_mem.mpr ⟨i, y, by omega, ⟨hB, c⟩, hy, rfl⟩)
      have hnq : ∀ q, cov (B ++ kpF (fun k => fitP wt v B ∧ keptY wt v (sndP dep dr ld) B Y k) Y i) y.1 q → q = y.2.1 := fun q hq => by
        refine hu y.1 q y.2.1 (cov_mono (fun a ha => ?_) hq) ⟨_, hf, rfl, Nat.le_refl _, Nat.le_refl _⟩
        rcases List.mem_append.mp ha with ha | ha
        · exact List.mem_append_left _ ha
        · obtain ⟨k, y', k1, k2, k3, k4⟩ := kpF_mem.mp ha
          exact List.mem_append_right _ (kpF_mem.mpr ⟨k, y', by omega, k2, k3, k4⟩)
      simp +decide (disch := omega) only [qX8_findMay_0, qX8_findMay_1, qX8_findMay_2, qX8_findMay_3, lt_ hLM hw, lw_ hLM hg, hR, hn, hk', y3', y4', hput, ni_in_t, ni_tn, ni_add1, am_w1_i, am_w1_r, am_w1_x, am_w1_l, am_w1_w, va_rf_s, am_push_n, am_push_s, am_cs_0, am_cs_i, am_cs_l, am_cs_r, m_uI_K, m_uI_N, m_uI_R, m_uI_L, m_uI_I, m_uL_K, m_uL_N, m_uL_R, m_uL_I, m_uL_L, m_uR_K, m_uR_N, m_uR_I, m_uR_L, m_uR_R, true_and, and_true, not_true_eq_false, not_false_eq_true, true_implies, false_implies]
      rw [br_n hlt, br_p hnq]
      have g2 : oS (sL w) M (uI M (w + 7) y.1 (nI y.2.1)) := ⟨fun a j h => by rw [m_uI_I, if_neg (fun z => h z.1)], fun _ _ => rfl, fun _ _ => rfl, rfl⟩
      refine ih (i + 1) (by omega) _ (oS_trans hM g2) (LnP_ext (fun t p => ?_) (LnP_put hc y1 y2 hnq))
      rw [kpF_t hy ⟨hB, c⟩, ← List.append_assoc, cov_app (B ++ _), cov_one]
    · rw [tI_f c] at hk'
      simp +decide (disch := omega) only [qX8_findMay_0, qX8_findMay_1, qX8_findMay_2, qX8_findMay_3, lt_ hLM hw, lw_ hLM hg, hR, hn, hk', ni_in_t, ni_tn, ni_add1, am_w1_i, am_w1_r, am_w1_x, am_w1_l, am_w1_w, va_rf_s, am_push_n, am_push_s, am_cs_0, am_cs_i, am_cs_l, am_cs_r, m_uI_K, m_uI_N, m_uI_R, m_uI_L, m_uI_I, m_uL_K, m_uL_N, m_uL_R, m_uL_I, m_uL_L, m_uR_K, m_uR_N, m_uR_I, m_uR_L, m_uR_R, true_and, and_true, not_true_eq_false, not_false_eq_true, true_implies, false_implies]
      rw [br_n hlt]
      refine ih (i + 1) (by omega) M hM ?_
      rw [kpF_f (fun q => c q.2)]
      exact hc
