/-! the class: markAlone -/
theorem l_x_alone1 (d s g z v : Nat) (wt : Nat → Prop) (dep : Nat → Nat) (dr ld : Nat) (B : List Fct) (Y : List Sy) (M0 : am_M) (Q : Option Value → am_M → Prop) (hs : s < 8) (hg : isSh g) (hz : z = 2 ∨ z = 83)
    (hQ : ∀ M', zF (sA s) M0 M' → TkX M' s g z v wt dep dr ld B Y → (∀ k y, Y[k]? = some y → mI M' (181 + 13 * s) k = tI (goodY wt v (sndP dep dr ld) B y) ∧ mI M' (182 + 13 * s) k = 0) → Q none M') :
    ∀ (m i : Nat), i + m = Y.length → ∀ (M : am_M) (v2 v3 v4 : Value), jk v2 → jk v3 → jk v4 → zF (sA s) M0 M → TkX M s g z v wt dep dr ld B Y → (∀ k y, k < i → Y[k]? = some y → mI M (181 + 13 * s) k = tI (goodY wt v (sndP dep dr ld) B y) ∧ mI M (182 + 13 * s) k = 0) → am_P am_P0 (d + 3) (am_look tX8_markAlone) 2 [.ref (173 + 13 * s), .int (nI i), v2, v3, v4] [] M Q := by
  obtain ⟨w, hwe⟩ : ∃ w, w = 173 + 13 * s := ⟨_, rfl⟩
  have hw : isTr w := ⟨s, hs, hwe⟩
  have hgl := isSh_lt hg
  have e8 : 181 + 13 * s = w + 8 := by omega
  have e9 : 182 + 13 * s = w + 9 := by omega
  intro m
  induction m with
  | zero =>
    intro i hi M v2 v3 v4 j2 j3 j4 hM hT hall
    have e : i = Y.length := by omega
    subst e
    have hL := hM.1
    have h48 := hT.2.2.2.2.1
    have hR := hT.2.1.1
    have hle : nI Y.length ≤ nI Y.length := (ni_le (by omega) (by omega)).mpr (Nat.le_refl _)
    rw [← hwe] at hR ⊢
    rw [hX8_markAlone_2]
    simp +decide (disch := omega) only [qX8_markAlone_0, qX8_markAlone_1, lt_ hL hw, lw_ hL hg, hR, hT.2.2.2.1, am_w1_i, am_w1_r, am_w1_x, am_w1_l, am_w1_w, va_rf_s, am_push_n, am_push_s, am_cs_0, am_cs_i, am_cs_l, am_cs_r, m_uI_K, m_uI_N, m_uI_R, m_uI_L, m_uI_I, m_uL_K, m_uL_N, m_uL_R, m_uL_I, m_uL_L, m_uR_K, m_uR_N, m_uR_I, m_uR_L, m_uR_R, true_and, and_true]
    rw [br_p hle]
    exact hQ M hM hT (fun k y hy => hall k y (List.getElem?_eq_some_iff.mp hy).1 hy)
  | succ m ih =>
    intro i hi M v2 v3 v4 j2 j3 j4 hM hT hall
    have hL := hM.1
    have h48 := hT.2.2.2.2.1
    have hR := hT.2.1.1
    have hlt : ¬ nI Y.length ≤ nI i := by rw [ni_le (by omega) (by omega)]; omega
    obtain ⟨y, hy⟩ : ∃ y, Y[i]? = some y := ⟨Y[i]'(by omega), List.getElem?_eq_getElem (by omega)⟩
    obtain ⟨⟨y1, y2⟩, y3, y4, y5⟩ := hT.2.2.2.2.2 i y hy
    have nS : ∀ a j, a < 164 → ¬ sA s a j := fun a j ha q => by unfold sA at q; omega
    have z1 : zF (sA s) M (uI M (w + 9) i 0) := zF_i hL hM.2.1 _ (Or.inr e9.symm) (fun s' hs' => by omega)
    have hT1 := TkX_z hs hg hz hT z1 nS
    have hM1 := zF_trans hM z1
    have hD1 := hT1.2.1
    have hy5 : mI (uI M (w + 9) i 0) (g + 3) i = b01 y.2.2 := by rw [m_uI_I, if_neg (by omega)]; exact y5
    rw [← hwe] at hD1
    have hso := fun Q => c_x_isSound (d + 2) w g z y.2.1 y.2.2 dep dr ld (uI M (w + 9) i 0) Q hM1.1 hw hg hz hD1 y2
    have z2 : zF (sA s) (uI M (w + 9) i 0) (uI (uI M (w + 9) i 0) (w + 8) i (tI (sndP dep dr ld y.2.1 y.2.2))) := zF_i hM1.1 hM1.2.1 _ (Or.inl e8.symm) (fun s' hs' => by omega)
    have hT2 := TkX_z hs hg hz hT1 z2 nS
    have hM2 := zF_trans hM1 z2
    have h5w : ¬ (g + 3 = w + 9 ∧ i = i) := by omega
    have hin := l_x_alone2 d s g z v i wt dep dr ld B Y y (uI (uI M (w + 9) i 0) (w + 8) i (tI (sndP dep dr ld y.2.1 y.2.2))) Q hs hg hz hy (fun M' x3 x4 a0 a1 a2 a3 a4 => ?_) B.length 0 (by omega) _ v4 j4 (zF_refl hM2.1 hM2.2.1) hT2 (fun _ _ _ _ _ => rfl) ?_
    · rw [← hwe] at hR hin ⊢
      rw [hX8_markAlone_2]
      have hg9 : ¬ g + 3 = w + 9 := by omega
      have y5' : ∀ x : Int32, (if g + 3 = w + 9 ∧ i = i then x else mI M (g + 3) i) = b01 y.2.2 := fun x => by rw [if_neg (by omega)]; exact y5
      simp +decide (disch := omega) only [qX8_markAlone_0, qX8_markAlone_1, lt_ hL hw, lw_ hL hg, hR, hT.2.2.2.1, y4, jk_w j2, jk_w j3, ni_in_t, ni_tn, am_w1_i, am_w1_r, am_w1_x, am_w1_l, am_w1_w, va_rf_s, am_push_n, am_push_s, am_cs_0, am_cs_i, am_cs_l, am_cs_r, m_uI_K, m_uI_N, m_uI_R, m_uI_L, m_uI_I, m_uL_K, m_uL_N, m_uL_R, m_uL_I, m_uL_L, m_uR_K, m_uR_N, m_uR_I, m_uR_L, m_uR_R, true_and, and_true, hg9, y5, false_and, if_false, hso]
      rw [br_n hlt]
      refine ⟨tI_01 _, ?_⟩
      exact hin
    · rw [ni_add1]
      refine ih (i + 1) (by omega) M' _ _ _ (Or.inr ⟨_, rfl⟩) (Or.inr ⟨_, rfl⟩) a0 (zF_trans hM2 a1) a2 (fun k y' hk hy' => ?_)
      have r9 : mI M' (182 + 13 * s) k = if k = i then 0 else mI M (182 + 13 * s) k := by
        rw [a3 _ _ (by omega) (fun s' hs' => by omega) (by omega), m_uI_I, if_neg (by omega), m_uI_I]
        by_cases ek : k = i
        · rw [if_pos ⟨e9, ek⟩, if_pos ek]
        · rw [if_neg (fun q => ek q.2), if_neg ek]
      by_cases ek : k = i
      · subst ek
        cases hy.symm.trans hy'
        exact ⟨a4, by rw [r9, if_pos rfl]⟩
      · have hh := hall k y' (by omega) hy'
        refine ⟨?_, by rw [r9, if_neg ek]; exact hh.2⟩
        rw [a3 _ _ (by omega) (fun s' hs' => by omega) (fun q => ek q.2), m_uI_I, if_neg (fun q => ek q.2), m_uI_I, if_neg (by omega)]
        exact hh.1
    · rw [m_uI_I, if_pos ⟨e8, rfl⟩]
      exact tI_i ⟨fun q => ⟨q, fun k' f hk' => by omega⟩, fun q => q.1⟩
theorem c_x_markAlone (d s g z v : Nat) (wt : Nat → Prop) (dep : Nat → Nat) (dr ld : Nat) (B : List Fct) (Y : List Sy) (M : am_M) (Q : Option Value → am_M → Prop) (hL : Lay M) (hI : RInv M) (hs : s < 8) (hg : isSh g) (hz : z = 2 ∨ z = 83) (hT : TkX M s g z v wt dep dr ld B Y)
    (hQ : ∀ M', zF (sA s) M M' → TkX M' s g z v wt dep dr ld B Y → (∀ k y, Y[k]? = some y → mI M' (181 + 13 * s) k = tI (goodY wt v (sndP dep dr ld) B y) ∧ mI M' (182 + 13 * s) k = 0) → Q none M') : am_E am_P0 (d + 3) 84 [.ref (173 + 13 * s)] M Q := by
  rw [eX8_markAlone]
  simp +decide only [qX8_markAlone_0, qX8_markAlone_1, am_w1_i, am_w1_r, am_w1_x, am_w1_l, am_w1_w, va_rf_s, am_push_n, am_push_s, am_cs_0, am_cs_i, am_cs_l, am_cs_r, m_uI_K, m_uI_N, m_uI_R, m_uI_L, m_uI_I, m_uL_K, m_uL_N, m_uL_R, m_uL_I, m_uL_L, m_uR_K, m_uR_N, m_uR_I, m_uR_L, m_uR_R, true_and, and_true]
  rw [show (0 : Int32) = nI 0 from rfl]
  exact l_x_alone1 d s g z v wt dep dr ld B Y M Q hs hg hz hQ Y.length 0 (by omega) M am_x am_x am_x (Or.inl rfl) (Or.inl rfl) (Or.inl rfl) (zF_refl hL hI) hT (fun k y hk => by omega)
