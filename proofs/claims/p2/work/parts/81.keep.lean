/-! the class: keep -/
def sKp (s a j : Nat) : Prop := a = 182 + 13 * s ∨ (a = 173 + 13 * s ∧ j = 11)
theorem l_x_keep (d s g z v : Nat) (wt : Nat → Prop) (dep : Nat → Nat) (dr ld : Nat) (B : List Fct) (Y : List Sy) (M0 : am_M) (Q : Option Value → am_M → Prop) (hs : s < 8) (hg : isSh g) (hz : z = 2 ∨ z = 83) (hsr : srtY Y) (hmk : ∀ k, k < Y.length → mI M0 (184 + 13 * s) k = nI (lgY wt v (sndP dep dr ld) B Y k))
    (hQ : ∀ M', zF (sKp s) M0 M' → TkX M' s g z v wt dep dr ld B Y → mI M' (173 + 13 * s) 11 = nI (mostY wt v (sndP dep dr ld) B Y) → (∀ k, k < Y.length → mI M' (182 + 13 * s) k = tI (keptY wt v (sndP dep dr ld) B Y k)) → Q none M') :
    ∀ (m i : Nat), i + m = Y.length → ∀ (M : am_M), zF (sKp s) M0 M → TkX M s g z v wt dep dr ld B Y → mI M (173 + 13 * s) 11 = nI (kpS (mostY wt v (sndP dep dr ld) B Y) (lgY wt v (sndP dep dr ld) B Y) (goF wt v Y) i).1 → (∀ k, k < Y.length → mI M (182 + 13 * s) k = tI (k < i ∧ keptY wt v (sndP dep dr ld) B Y k)) →
    am_P am_P0 (d + 3) (am_look tX8_keep) 4 [.ref (173 + 13 * s), .int (nI (mostY wt v (sndP dep dr ld) B Y)), .int (match (kpS (mostY wt v (sndP dep dr ld) B Y) (lgY wt v (sndP dep dr ld) B Y) (goF wt v Y) i).2 with | none => -1 | some l => nI l), .int (nI i)] [] M Q := by
  obtain ⟨w, hwe⟩ : ∃ w, w = 173 + 13 * s := ⟨_, rfl⟩
  have hw : isTr w := ⟨s, hs, hwe⟩
  have hgl := isSh_lt hg
  have e9 : 182 + 13 * s = w + 9 := by omega
  have e11 : 184 + 13 * s = w + 11 := by omega
  have e1 : 174 + 13 * s = w + 1 := by omega
  have nS : ∀ a j, a < 164 → ¬ sKp s a j := fun a j ha q => by unfold sKp at q; omega
  have hkA := kp_all (n := Y.length) (gd := gdF wt v (sndP dep dr ld) B Y) (go := goF wt v Y) (L := mostY wt v (sndP dep dr ld) B Y) rfl
  have hkI := fun i hi => (kp_inv (n := Y.length) (gd := gdF wt v (sndP dep dr ld) B Y) (go := goF wt v Y) (L := mostY wt v (sndP dep dr ld) B Y) rfl i hi).1
  obtain ⟨L, hLe⟩ : ∃ L, L = mostY wt v (sndP dep dr ld) B Y := ⟨_, rfl⟩
  obtain ⟨f, hfe⟩ : ∃ f, f = lgY wt v (sndP dep dr ld) B Y := ⟨_, rfl⟩
  obtain ⟨go, hge⟩ : ∃ go, go = goF wt v Y := ⟨_, rfl⟩
  have hkA' : (kpS L f go Y.length).1 = L := by rw [hLe, hfe, hge]; exact hkA
  have hkI' : ∀ i, i ≤ Y.length → (kpS L f go i).1 ≤ L := fun i hi => by rw [hLe, hfe, hge]; exact hkI i hi
  have hkY : ∀ k, keptY wt v (sndP dep dr ld) B Y k ↔ k < Y.length ∧ kpT L f go k := fun k => by rw [hLe, hfe, hge]; exact Iff.rfl
  rw [← hLe] at hQ
  rw [← hLe, ← hfe, ← hge]
  rw [← hfe] at hmk
  intro m
  induction m with
  | zero =>
    intro i hi M hM hT hc hk
    have e : i = Y.length := by omega
    have h48 := hT.2.2.2.2.1
    have hR := hT.2.1.1
    have hle : nI Y.length ≤ nI i := (ni_le (by omega) (by omega)).mpr (by omega)
    have h0 := hQ M hM hT (by rw [hc, e, hkA']) (fun k hk2 => by rw [hk k hk2]; exact tI_i (and_iff_right (by omega)))
    rw [← hwe] at hR ⊢
    rw [hX8_keep_4]
    simp +decide only [qX8_keep_0, qX8_keep_1, lt_ hM.1 hw, lw_ hM.1 hg, hR, hT.2.2.2.1, am_w1_i, am_w1_r, am_w1_x, am_w1_l, am_w1_w, va_rf_s, am_push_n, am_push_s, am_cs_0, am_cs_i, am_cs_l, am_cs_r, m_uI_K, m_uI_N, m_uI_R, m_uI_L, m_uI_I, m_uL_K, m_uL_N, m_uL_R, m_uL_I, m_uL_L, m_uR_K, m_uR_N, m_uR_I, m_uR_L, m_uR_R, true_and, and_true]
    rw [br_p hle]
    exact h0
  | succ m ih =>
    intro i hi M hM hT hc hk
    have hL := hM.1
    have h48 := hT.2.2.2.2.1
    have hfb : ∀ k, f k ≤ 48 := by rw [hfe]; exact lgY_b wt v (sndP dep dr ld) B Y h48
    have hLb : L ≤ 48 := by
      rw [hLe]
      unfold mostY
      rcases lgM_at (f := lgY wt v (sndP dep dr ld) B Y) (k := Y.length) with e | ⟨j, -, e⟩
      · omega
      · rw [← e, ← hfe]; exact hfb j
    have hcl := hkI' i (by omega)
    have hR := hT.2.1.1
    have hlt : ¬ nI Y.length ≤ nI i := by rw [ni_le (by omega) (by omega)]; omega
    obtain ⟨y, hy⟩ : ∃ y, Y[i]? = some y := ⟨Y[i]'(by omega), List.getElem?_eq_getElem (by omega)⟩
    obtain ⟨⟨y1, y2⟩, y3, y4, y5⟩ := hT.2.2.2.2.2 i y hy
    have r11 : mI M (w + 11) i = nI (f i) := by
      rw [hM.2.2.2.1 _ _ (by omega) (fun s' hs' => by omega) (fun q => by unfold sKp at q; omega), ← e11]
      exact hmk i (by omega)
    have b1 := hfb i
    have esub : nI L - nI (kpS L f go i).1 = nI (L - (kpS L f go i).1) := ni_sub hcl
    -- not taken
    have hno : ∀ M1, zF (sKp s) M M1 → TkX M1 s g z v wt dep dr ld B Y → (∀ a j, a = 182 + 13 * s ∨ (a = 173 + 13 * s ∧ j = 11) → mI M1 a j = mI M a j) → ¬ kpT L f go i → am_P am_P0 (d + 3) (am_look tX8_keep) 4 [.ref w, .int (nI L), .int (match (kpS L f go i).2 with | none => -1 | some l => nI l), .int (nI (i + 1))] [] M1 Q := by
      intro M1 g1 hT1 k1 hn
      have h0 := ih (i + 1) (by omega) M1 (zF_trans hM g1) hT1 (by rw [k1 _ _ (Or.inr ⟨rfl, rfl⟩), hc, kpS_f hn]) (fun k hk2 => ?_)
      · rw [kpS_f hn, ← hwe] at h0
        exact h0
      · rw [k1 _ _ (Or.inl rfl), hk k hk2]
        refine tI_i ⟨fun q => ⟨by omega, q.2⟩, fun q => ⟨?_, q.2⟩⟩
        by_cases ek : k = i
        · subst ek; exact absurd ((hkY k).mp q.2).2 hn
        · omega
    -- taken
    have hyes : ∀ M1, zF (sKp s) M M1 → TkX M1 s g z v wt dep dr ld B Y → (∀ a j, a = 182 + 13 * s ∨ (a = 173 + 13 * s ∧ j = 11) → mI M1 a j = mI M a j) → kpT L f go i → am_P am_P0 (d + 3) (am_look tX8_keep) 4 [.ref w, .int (nI L), .int (nI i), .int (nI (i + 1))] [] (uI (uI M1 (w + 9) i 1) w 11 (nI ((kpS L f go i).1 + 1))) Q := by
      intro M1 g1 hT1 k1 ht
      have hM1 := zF_trans hM g1
      have z1 : zF (sKp s) M1 (uI M1 (w + 9) i 1) := zF_i hM1.1 hM1.2.1 _ (Or.inl e9.symm) (fun s' hs' => by omega)
      have z2 : zF (sKp s) (uI M1 (w + 9) i 1) (uI (uI M1 (w + 9) i 1) w 11 (nI ((kpS L f go i).1 + 1))) := zF_i z1.1 z1.2.1 _ (Or.inr ⟨hwe, rfl⟩) (fun s' hs' => by omega)
      have h0 := ih (i + 1) (by omega) _ (zF_trans hM1 (zF_trans z1 z2)) (TkX_z hs hg hz (TkX_z hs hg hz hT1 z1 nS) z2 nS) (by rw [m_uI_I, if_pos ⟨hwe.symm, rfl⟩, kpS_t ht]) (fun k hk2 => ?_)
      · rw [kpS_t ht, ← hwe] at h0
        exact h0
      · rw [m_uI_I, if_neg (by omega), m_uI_I]
        by_cases ek : k = i
        · subst ek
          rw [if_pos ⟨e9, rfl⟩]
          exact (tI_t ⟨by omega, (hkY k).mpr ⟨by omega, ht⟩⟩).symm
        · rw [if_neg (fun q => ek q.2), k1 _ _ (Or.inl rfl), hk k hk2]
          exact tI_i ⟨fun q => ⟨by omega, q.2⟩, fun q => ⟨by omega, q.2⟩⟩
    have hMr := zF_refl (S := sKp s) hL hM.2.1
    have n9 : ¬ (w = w + 9 ∧ 11 = i) := by omega
    have nw9 : ¬ w = w + 9 := by omega
    rw [← hwe] at hR hc ⊢
    rw [hX8_keep_4]
    by_cases c1 : (kpS L f go i).1 < L
    · have hc1 : ¬ nI L ≤ nI (kpS L f go i).1 := by rw [ni_le (by omega) (by omega)]; omega
      cases hls : (kpS L f go i).2 with
      | none =>
        have hno' := hno M hMr hT (fun _ _ _ => rfl)
        have hyes' := hyes M hMr hT (fun _ _ _ => rfl)
        rw [hls] at hno'
        dsimp only at hno' ⊢
        simp +decide (disch := omega) only [qX8_keep_0, qX8_keep_1, lt_ hL hw, lw_ hL hg, hR, hT.2.2.2.1, hc, r11, esub, nw9, ni_in_t, ni_tn, ni_add1, am_w1_i, am_w1_r, am_w1_x, am_w1_l, am_w1_w, va_rf_s, am_push_n, am_push_s, am_cs_0, am_cs_i, am_cs_l, am_cs_r, m_uI_K, m_uI_N, m_uI_R, m_uI_L, m_uI_I, m_uL_K, m_uL_N, m_uL_R, m_uL_I, m_uL_L, m_uR_K, m_uR_N, m_uR_I, m_uR_L, m_uR_R, true_and, and_true, false_and, if_false, true_implies, false_implies]
        rw [br_n hlt, br_n hc1]
        by_cases c2 : f i = L - (kpS L f go i).1
        · rw [br_r (by rw [c2])]
          exact hyes' ⟨c1, c2, fun l h => by rw [hls] at h; cases h⟩
        · rw [br_q (fun q => c2 ((ni_eq (by omega) (by omega)).mp q))]
          exact hno' (fun q => c2 q.2.1)
      | some l =>
        have hli := kpS_lt i l hls
        obtain ⟨x, hx⟩ : ∃ x, Y[l]? = some x := ⟨Y[l]'(by omega), List.getElem?_eq_getElem (by omega)⟩
        obtain ⟨⟨x1, x2⟩, x3, x4, x5⟩ := hT.2.2.2.2.2 l x hx
        have hts := srtY_lt hsr hx hy hli
        have hgo := goF_y (w := wt) (v := v) hx hy
        rw [← hge] at hgo
        have hl1 : ¬ nI l = -1 := nI_m1 (by omega)
        dsimp only
        simp +decide (disch := omega) only [qX8_keep_0, qX8_keep_1, lt_ hL hw, lw_ hL hg, hR, hT.2.2.2.1, hc, r11, x3, x4, y3, y4, esub, ni_in_t, ni_tn, ni_add1, am_w1_i, am_w1_r, am_w1_x, am_w1_l, am_w1_w, va_rf_s, am_push_n, am_push_s, am_cs_0, am_cs_i, am_cs_l, am_cs_r, m_uI_K, m_uI_N, m_uI_R, m_uI_L, m_uI_I, m_uL_K, m_uL_N, m_uL_R, m_uL_I, m_uL_L, m_uR_K, m_uR_N, m_uR_I, m_uR_L, m_uR_R, true_and, and_true]
        rw [br_n hlt, br_n hc1]
        by_cases c2 : f i = L - (kpS L f go i).1
        · rw [br_r (by rw [c2]), br_n hl1, ni_sub (by omega), ← e1]
          refine c_x_isWithin d s x.2.1 y.2.1 (y.1 - x.1) v wt M _ hL hM.2.1 hs x2 y2 (by omega) hT.1 (fun M1 g1 => ?_)
          have hT1 := TkX_z hs hg hz hT (zF_r g1 : zF (sKp s) M M1) nS
          have k1 : ∀ a j, a = 182 + 13 * s ∨ (a = 173 + 13 * s ∧ j = 11) → mI M1 a j = mI M a j := fun a j q => g1.2.2.2.1 a j (by omega) (fun s' hs' => by omega)
          have hno' := hno M1 (zF_r g1) hT1 k1
          have hyes' := hyes M1 (zF_r g1) hT1 k1
          rw [hls] at hno'
          dsimp only at hno'
          have hgw : gowY wt v x y ↔ wit wt v x.2.1 y.2.1 (y.1 - x.1) := by
            unfold gowY hd_
            rw [if_pos hts]
          have hc' : mI M1 w 11 = nI (kpS L f go i).1 := by rw [k1 _ _ (Or.inr ⟨hwe, rfl⟩)]; exact hc
          by_cases c3 : wit wt v x.2.1 y.2.1 (y.1 - x.1)
          · have hk0 := hyes' ⟨c1, c2, fun l' h => by rw [hls] at h; cases h; exact hgo.mpr (hgw.mpr c3)⟩
            simp +decide (disch := omega) only [qX8_keep_0, qX8_keep_1, lt_ g1.1 hw, tI_t c3, hc', nw9, ni_in_t, ni_tn, ni_add1, am_w1_i, am_w1_r, am_w1_x, am_w1_l, am_w1_w, va_rf_s, am_push_n, am_push_s, am_cs_0, am_cs_i, am_cs_l, am_cs_r, m_uI_K, m_uI_N, m_uI_R, m_uI_L, m_uI_I, m_uL_K, m_uL_N, m_uL_R, m_uL_I, m_uL_L, m_uR_K, m_uR_N, m_uR_I, m_uR_L, m_uR_R, true_and, and_true, false_and, if_false, true_implies, false_implies]
            exact hk0
          · have hk0 := hno' (fun q => c3 (hgw.mp (hgo.mp (q.2.2 l hls))))
            simp +decide (disch := omega) only [qX8_keep_0, qX8_keep_1, tI_f c3, ni_add1, am_w1_i, am_w1_r, am_w1_x, am_w1_l, am_w1_w, va_rf_s, am_push_n, am_push_s, am_cs_0, am_cs_i, am_cs_l, am_cs_r, m_uI_K, m_uI_N, m_uI_R, m_uI_L, m_uI_I, m_uL_K, m_uL_N, m_uL_R, m_uL_I, m_uL_L, m_uR_K, m_uR_N, m_uR_I, m_uR_L, m_uR_R, true_and, and_true, true_implies, false_implies]
            exact hk0
        · rw [br_q (fun q => c2 ((ni_eq (by omega) (by omega)).mp q))]
          have hno' := hno M hMr hT (fun _ _ _ => rfl) (fun q => c2 q.2.1)
          rw [hls] at hno'
          exact hno'
    · have hc1 : nI L ≤ nI (kpS L f go i).1 := (ni_le (by omega) (by omega)).mpr (by omega)
      have hno' := hno M hMr hT (fun _ _ _ => rfl) (fun q => c1 q.1)
      simp +decide (disch := omega) only [qX8_keep_0, qX8_keep_1, lt_ hL hw, lw_ hL hg, hR, hT.2.2.2.1, hc, ni_add1, am_w1_i, am_w1_r, am_w1_x, am_w1_l, am_w1_w, va_rf_s, am_push_n, am_push_s, am_cs_0, am_cs_i, am_cs_l, am_cs_r, m_uI_K, m_uI_N, m_uI_R, m_uI_L, m_uI_I, m_uL_K, m_uL_N, m_uL_R, m_uL_I, m_uL_L, m_uR_K, m_uR_N, m_uR_I, m_uR_L, m_uR_R, true_and, and_true]
      rw [br_n hlt, br_p hc1]
      exact hno'
theorem c_x_keep (d s g z v : Nat) (wt : Nat → Prop) (dep : Nat → Nat) (dr ld : Nat) (B : List Fct) (Y : List Sy) (M : am_M) (Q : Option Value → am_M → Prop) (hL : Lay M) (hI : RInv M) (hs : s < 8) (hg : isSh g) (hz : z = 2 ∨ z = 83) (hsr : srtY Y) (hT : TkX M s g z v wt dep dr ld B Y) (hmk : ∀ k, k < Y.length → mI M (184 + 13 * s) k = nI (lgY wt v (sndP dep dr ld) B Y k)) (hk0 : ∀ k, k < Y.length → mI M (182 + 13 * s) k = 0) (hc0 : mI M (173 + 13 * s) 11 = 0)
    (hQ : ∀ M', zF (sKp s) M M' → TkX M' s g z v wt dep dr ld B Y → mI M' (173 + 13 * s) 11 = nI (mostY wt v (sndP dep dr ld) B Y) → (∀ k, k < Y.length → mI M' (182 + 13 * s) k = tI (keptY wt v (sndP dep dr ld) B Y k)) → Q none M') : am_E am_P0 (d + 3) 86 [.ref (173 + 13 * s), .int (nI (mostY wt v (sndP dep dr ld) B Y))] M Q := by
  rw [eX8_keep]
  simp +decide only [qX8_keep_0, qX8_keep_1, am_w1_i, am_w1_r, am_w1_x, am_w1_l, am_w1_w, va_rf_s, am_push_n, am_push_s, am_cs_0, am_cs_i, am_cs_l, am_cs_r, m_uI_K, m_uI_N, m_uI_R, m_uI_L, m_uI_I, m_uL_K, m_uL_N, m_uL_R, m_uL_I, m_uL_L, m_uR_K, m_uR_N, m_uR_I, m_uR_L, m_uR_R, true_and, and_true]
  rw [show (0 : Int32) = nI 0 from rfl]
  exact l_x_keep d s g z v wt dep dr ld B Y M Q hs hg hz hsr hmk hQ Y.length 0 (by omega) M (zF_refl hL hI) hT hc0 (fun k hk => by rw [hk0 k hk]; exact (tI_f (fun q => by omega)).symm)
