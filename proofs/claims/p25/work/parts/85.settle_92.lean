/-! 85.settle 86.bits 87.may2 88.clash 89.bar 90.clock 91.part 92.canpart -/
section
/-! the class: settle -/
noncomputable def kcY (w : Nat → Prop) (v : Nat) (snd : Nat → Bool → Prop) (B : List Fct) (Y : List Sy) : Nat := @ite _ (fitP w v B) (Classical.propDecidable _) (mostY w v snd B Y) 0
theorem kcY_t {w : Nat → Prop} {v : Nat} {snd : Nat → Bool → Prop} {B : List Fct} {Y : List Sy} (h : fitP w v B) : kcY w v snd B Y = mostY w v snd B Y := if_pos h
theorem kcY_f {w : Nat → Prop} {v : Nat} {snd : Nat → Bool → Prop} {B : List Fct} {Y : List Sy} (h : ¬ fitP w v B) : kcY w v snd B Y = 0 := if_neg h
/-- what settle leaves -/
def SetX (M : am_M) (s v : Nat) (wt : Nat → Prop) (snd : Nat → Bool → Prop) (B : List Fct) (Y : List Sy) : Prop :=
  mI M (173 + 13 * s) 8 = tI (fitP wt v B) ∧ (∀ k y, Y[k]? = some y → mI M (181 + 13 * s) k = tI (goodY wt v snd B y)) ∧ mI M (173 + 13 * s) 11 = nI (kcY wt v snd B Y) ∧ (∀ k, k < Y.length → mI M (182 + 13 * s) k = tI (fitP wt v B ∧ keptY wt v snd B Y k)) ∧ ∀ h, h < 48 → ∀ q, inS (my4 M s h) q ↔ mayY wt v snd B Y q h
/-- settled or not yet -/
def StX (M : am_M) (s v : Nat) (wt : Nat → Prop) (snd : Nat → Bool → Prop) (B : List Fct) (Y : List Sy) : Prop := mI M (173 + 13 * s) 4 = 0 ∨ (mI M (173 + 13 * s) 4 = 1 ∧ SetX M s v wt snd B Y)
def sSt (s a j : Nat) : Prop := (a = 173 + 13 * s ∧ (j = 4 ∨ j = 8 ∨ j = 11)) ∨ (180 + 13 * s ≤ a ∧ a ≤ 184 + 13 * s)
theorem inS_0 (q : Nat) : ¬ inS (fun _ => 0) q := fun h => by rw [inS, sb_0] at h; cases h.2
theorem l_x_settle2 (d s g z v : Nat) (wt : Nat → Prop) (dep : Nat → Nat) (dr ld : Nat) (B : List Fct) (Y : List Sy) (M : am_M) (Q : Option Value → am_M → Prop) (hL : Lay M) (hI : RInv M) (hs : s < 8) (hg : isSh g) (hz : z = 2 ∨ z = 83) (hsr : srtY Y) (hsw : ∀ y, y ∈ Y → sndP dep dr ld y.2.1 y.2.2 → wt y.2.1) (hT : TkX M s g z v wt dep dr ld B Y) (hln : fitP wt v B → LnP M (173 + 13 * s) (cov B)) (h4 : mI M (173 + 13 * s) 4 = 1)
    (hQ : ∀ M', zF (sSt s) M M' → mI M' (173 + 13 * s) 4 = 1 → SetX M' s v wt (sndP dep dr ld) B Y → Q none M') : am_P am_P0 (d + 4) (am_look tX8_settle) 40 [.ref (173 + 13 * s)] [.int (tI (fitP wt v B)), .ref (173 + 13 * s)] M Q := by
  obtain ⟨w, hwe⟩ : ∃ w, w = 173 + 13 * s := ⟨_, rfl⟩
  have hw : isTr w := ⟨s, hs, hwe⟩
  have hgl := isSh_lt hg
  have e10 : 183 + 13 * s = w + 10 := by omega
  have nS : ∀ a j, a < 164 → ¬ sSt s a j := fun a j ha q => by unfold sSt at q; omega
  rw [← hwe] at h4
  have h01 := tI_01 (fitP wt v B)
  rw [← hwe]
  have z1 : zF (sSt s) M (uI M w 8 (tI (fitP wt v B))) := zF_i hL hI _ (Or.inl ⟨hwe, by omega⟩) (fun s' hs' => by omega)
  have T1 := TkX_z hs hg hz hT z1 nS
  simp +decide (disch := omega) only [qX8_settle, lt_ hL hw, h01, am_w1_i, am_w1_r, am_w1_x, am_w1_l, am_w1_w, va_rf_s, am_push_n, am_push_s, am_cs_0, am_cs_i, am_cs_l, am_cs_r, m_uI_K, m_uI_N, m_uI_R, m_uI_L, m_uI_I, m_uL_K, m_uL_N, m_uL_R, m_uL_I, m_uL_L, m_uR_K, m_uR_N, m_uR_I, m_uR_L, m_uR_R, true_and, and_true]
  rw [hwe]
  refine c_x_markAlone d s g z v wt dep dr ld B Y (uI M (173 + 13 * s) 8 (tI (fitP wt v B))) _ (by rw [← hwe]; exact z1.1) (by rw [← hwe]; exact z1.2.1) hs hg hz (by rw [← hwe]; exact T1) (fun M2 g2 T2 a2 => ?_)
  rw [← hwe] at g2 ⊢
  have G2 : zF (sSt s) M M2 := zF_trans z1 (zF_up g2 (fun a j q => by unfold sA at q; unfold sSt; omega))
  have L2 := G2.1
  have hk2 := lt_ L2 hw
  have k10 : mK (uI M2 w 11 0) (w + 10) = 1 := by show mK M2 (w + 10) = 1; simp only [hk2]
  have n10 : mN (uI M2 w 11 0) (w + 10) = 192 := by show mN M2 (w + 10) = 192; simp only [hk2]
  have z3 : zF (sSt s) M2 (uI M2 w 11 0) := zF_i L2 G2.2.1 _ (Or.inl ⟨hwe, by omega⟩) (fun s' hs' => by omega)
  have z4 : zF (sSt s) (uI M2 w 11 0) (uB (uI M2 w 11 0) (w + 10) (fun j => if j < 192 then 0 else mL (uI M2 w 11 0) (w + 10) j)) := zF_l z3.1 z3.2.1 ⟨fun _ _ => rfl, fun _ _ => rfl, rfl, fun a j q => by rw [uB_L, if_neg q]⟩ (by omega) (fun j => by unfold sSt; omega) (fun s' hs' => by omega)
  have G4 := zF_trans G2 (zF_trans z3 z4)
  have T4 := TkX_z hs hg hz (TkX_z hs hg hz T2 z3 nS) z4 nS
  simp +decide (disch := omega) only [qX8_settle, lt_ L2 hw, am_w1_i, am_w1_r, am_w1_x, am_w1_l, am_w1_w, va_rf_s, am_push_n, am_push_s, am_cs_0, am_cs_i, am_cs_l, am_cs_r, m_uI_K, m_uI_N, m_uI_R, m_uI_L, m_uI_I, m_uL_K, m_uL_N, m_uL_R, m_uL_I, m_uL_L, m_uR_K, m_uR_N, m_uR_I, m_uR_L, m_uR_R, true_and, and_true]
  rw [c_fillJ (d + 3) (w + 10) 0 (uI M2 w 11 0) _ k10 (by rw [n10]; decide), n10]
  obtain ⟨M4, hM4⟩ : ∃ M4, M4 = uB (uI M2 w 11 0) (w + 10) (fun j => if j < 192 then 0 else mL (uI M2 w 11 0) (w + 10) j) := ⟨_, rfl⟩
  rw [← hM4] at G4 T4 ⊢
  have L4 := G4.1
  have r8 : mI M4 w 8 = tI (fitP wt v B) := by
    rw [hM4]
    show mI (uI M2 w 11 0) w 8 = _
    rw [m_uI_I, if_neg (by omega), g2.2.2.2.1 _ _ (by omega) (fun s' hs' => by omega) (fun q => by unfold sA at q; omega), m_uI_I, if_pos ⟨rfl, rfl⟩]
  have r4 : mI M4 w 4 = 1 := by
    rw [hM4]
    show mI (uI M2 w 11 0) w 4 = _
    rw [m_uI_I, if_neg (by omega), g2.2.2.2.1 _ _ (by omega) (fun s' hs' => by omega) (fun q => by unfold sA at q; omega), m_uI_I, if_neg (by omega)]
    exact h4
  have r11 : mI M4 w 11 = 0 := by
    rw [hM4]
    show mI (uI M2 w 11 0) w 11 = _
    rw [m_uI_I, if_pos ⟨rfl, rfl⟩]
  have ra : ∀ k y, Y[k]? = some y → mI M4 (181 + 13 * s) k = tI (goodY wt v (sndP dep dr ld) B y) ∧ mI M4 (182 + 13 * s) k = 0 := by
    intro k y hy
    rw [hM4]
    show mI (uI M2 w 11 0) _ k = _ ∧ mI (uI M2 w 11 0) _ k = _
    rw [m_uI_I, if_neg (by omega), m_uI_I, if_neg (by omega)]
    exact a2 k y hy
  have rm : ∀ h, h < 48 → ∀ q, ¬ inS (my4 M4 s h) q := fun h hh q hq => by
    refine inS_0 q ((inS_ext (fun i hi => ?_) q).mp hq)
    show mL M4 (183 + 13 * s) (4 * h + i) = 0
    rw [hM4, uB_L, if_pos (by omega), if_pos (by omega)]
  simp +decide (disch := omega) only [qX8_settle, lt_ L4 hw, r8, am_w1_i, am_w1_r, am_w1_x, am_w1_l, am_w1_w, va_rf_s, am_push_n, am_push_s, am_cs_0, am_cs_i, am_cs_l, am_cs_r, m_uI_K, m_uI_N, m_uI_R, m_uI_L, m_uI_I, m_uL_K, m_uL_N, m_uL_R, m_uL_I, m_uL_L, m_uR_K, m_uR_N, m_uR_I, m_uR_L, m_uR_R, true_and, and_true]
  by_cases c : fitP wt v B
  · have hln4 : LnP M4 (173 + 13 * s) (cov B) := LnP_I (hln c) (fun j => by
      rw [hM4]
      show mI (uI M2 w 11 0) _ j = _
      rw [m_uI_I, if_neg (by omega), g2.2.2.2.1 _ _ (by omega) (fun s' hs' => by omega) (fun q => by unfold sA at q; omega), m_uI_I, if_neg (by omega)])
    rw [tI_t c, br_n (by decide)]
    rw [hwe]
    refine c_x_countChains d s g z v wt dep dr ld B Y M4 _ L4 G4.2.1 hs hg hz hsr T4 (fun k y hy => (ra k y hy).1) (fun M5 g5 T5 m5 => ?_)
    have k5 : ∀ a j, a < 336 → (∀ s', s' < 8 → ¬ a = 177 + 13 * s') → ¬ a = 184 + 13 * s → mI M5 a j = mI M4 a j := fun a j q1 q2 q3 => g5.2.2.2.1 a j q1 q2 q3
    simp +decide only [qX8_settle, lt_ g5.1 (isTr_of hs), am_w1_i, am_w1_r, am_w1_x, am_w1_l, am_w1_w, va_rf_s, am_push_n, am_push_s, am_cs_0, am_cs_i, am_cs_l, am_cs_r, m_uI_K, m_uI_N, m_uI_R, m_uI_L, m_uI_I, m_uL_K, m_uL_N, m_uL_R, m_uL_I, m_uL_L, m_uR_K, m_uR_N, m_uR_I, m_uR_L, m_uR_R, true_and, and_true]
    refine c_x_keep d s g z v wt dep dr ld B Y M5 _ g5.1 g5.2.1 hs hg hz hsr T5 m5 (fun k hk => ?_) ?_ (fun M6 g6 T6 c6 k6 => ?_)
    · obtain ⟨y, hy⟩ : ∃ y, Y[k]? = some y := ⟨Y[k]'hk, List.getElem?_eq_getElem hk⟩
      rw [k5 _ _ (by omega) (fun s' hs' => by omega) (by omega)]
      exact (ra k y hy).2
    · rw [k5 _ _ (by omega) (fun s' hs' => by omega) (by omega), ← hwe]
      exact r11
    · have f6 : ∀ a j, a < 336 → (∀ s', s' < 8 → ¬ a = 177 + 13 * s') → ¬ a = 182 + 13 * s → ¬ (a = 173 + 13 * s ∧ j = 11) → mI M6 a j = mI M5 a j := fun a j q1 q2 q3 q4 => g6.2.2.2.1 a j q1 q2 (fun q => by unfold sKp at q; omega)
      simp +decide only [qX8_settle, lt_ g6.1 (isTr_of hs), am_w1_i, am_w1_r, am_w1_x, am_w1_l, am_w1_w, va_rf_s, am_push_n, am_push_s, am_cs_0, am_cs_i, am_cs_l, am_cs_r, m_uI_K, m_uI_N, m_uI_R, m_uI_L, m_uI_I, m_uL_K, m_uL_N, m_uL_R, m_uL_I, m_uL_L, m_uR_K, m_uR_N, m_uR_I, m_uR_L, m_uR_R, true_and, and_true]
      refine c_x_findMay (d + 1) s g z v wt dep dr ld B Y M6 _ g6.1 g6.2.1 hs hg hz hsr hsw T6 c (LnP_I hln4 (fun j => ?_)) k6 (fun M7 g7 m7 => ?_)
      · rw [f6 _ _ (by omega) (fun s' hs' => by omega) (by omega) (by omega), k5 _ _ (by omega) (fun s' hs' => by omega) (by omega)]
      · have f7 : ∀ a j, a < 336 → (∀ s', s' < 8 → ¬ a = 177 + 13 * s') → ¬ a = 180 + 13 * s → ¬ a = 183 + 13 * s → mI M7 a j = mI M6 a j := fun a j q1 q2 q3 q4 => g7.2.2.2.1 a j q1 q2 (fun q => by unfold sMy at q; omega)
        simp +decide only [qX8_settle, am_w1_i, am_w1_r, am_w1_x, am_w1_l, am_w1_w, va_rf_s, am_push_n, am_push_s, am_cs_0, am_cs_i, am_cs_l, am_cs_r, m_uI_K, m_uI_N, m_uI_R, m_uI_L, m_uI_I, m_uL_K, m_uL_N, m_uL_R, m_uL_I, m_uL_L, m_uR_K, m_uR_N, m_uR_I, m_uR_L, m_uR_R, true_and, and_true]
        refine hQ M7 (zF_trans G4 (zF_trans (zF_up g5 (fun a j q => by unfold sM at q; unfold sSt; omega)) (zF_trans (zF_up g6 (fun a j q => by unfold sKp at q; unfold sSt; omega)) (zF_up g7 (fun a j q => by unfold sMy at q; unfold sSt; omega))))) ?_ ⟨?_, fun k y hy => ?_, ?_, fun k hk => ?_, m7⟩
        · rw [f7 _ _ (by omega) (fun s' hs' => by omega) (by omega) (by omega), f6 _ _ (by omega) (fun s' hs' => by omega) (by omega) (by omega), k5 _ _ (by omega) (fun s' hs' => by omega) (by omega), ← hwe]
          exact r4
        · rw [f7 _ _ (by omega) (fun s' hs' => by omega) (by omega) (by omega), f6 _ _ (by omega) (fun s' hs' => by omega) (by omega) (by omega), k5 _ _ (by omega) (fun s' hs' => by omega) (by omega), ← hwe]
          exact r8
        · rw [f7 _ _ (by omega) (fun s' hs' => by omega) (by omega) (by omega), f6 _ _ (by omega) (fun s' hs' => by omega) (by omega) (by omega), k5 _ _ (by omega) (fun s' hs' => by omega) (by omega)]
          exact (ra k y hy).1
        · rw [f7 _ _ (by omega) (fun s' hs' => by omega) (by omega) (by omega), c6, kcY_t c]
        · rw [f7 _ _ (by omega) (fun s' hs' => by omega) (by omega) (by omega), k6 k hk]
          exact tI_i (and_iff_right c).symm
  · rw [tI_f c, br_p rfl]
    refine hQ M4 G4 (by rw [← hwe]; exact r4) ⟨by rw [← hwe]; exact r8, fun k y hy => (ra k y hy).1, by rw [← hwe, r11, kcY_f c]; rfl, fun k hk => ?_, fun h hh q => ⟨fun z => absurd z (rm h hh q), fun z => absurd z.1 c⟩⟩
    obtain ⟨y, hy⟩ : ∃ y, Y[k]? = some y := ⟨Y[k]'hk, List.getElem?_eq_getElem hk⟩
    rw [(ra k y hy).2, tI_f (fun q => c q.1)]
theorem c_x_settle (d s g z v : Nat) (wt : Nat → Prop) (dep : Nat → Nat) (dr ld : Nat) (B : List Fct) (Y : List Sy) (M : am_M) (Q : Option Value → am_M → Prop) (hL : Lay M) (hI : RInv M) (hs : s < 8) (hg : isSh g) (hz : z = 2 ∨ z = 83) (hsr : srtY Y) (hsw : ∀ y, y ∈ Y → sndP dep dr ld y.2.1 y.2.2 → wt y.2.1) (hT : TkX M s g z v wt dep dr ld B Y) (hS : StX M s v wt (sndP dep dr ld) B Y)
    (hQ : ∀ M', zF (sSt s) M M' → mI M' (173 + 13 * s) 4 = 1 → SetX M' s v wt (sndP dep dr ld) B Y → Q none M') : am_E am_P0 (d + 4) 83 [.ref (173 + 13 * s)] M Q := by
  obtain ⟨w, hwe⟩ : ∃ w, w = 173 + 13 * s := ⟨_, rfl⟩
  have hw : isTr w := ⟨s, hs, hwe⟩
  have hgl := isSh_lt hg
  have nS : ∀ a j, a < 164 → ¬ sSt s a j := fun a j ha q => by unfold sSt at q; omega
  have hord := BkX_ord hT.2.2.1
  rw [eX8_settle]
  rcases hS with h4 | ⟨h4, hS⟩
  · rw [← hwe] at h4 ⊢
    have z1 : zF (sSt s) M (uI M w 4 1) := zF_i hL hI _ (Or.inl ⟨hwe, by omega⟩) (fun s' hs' => by omega)
    have T1 := TkX_z hs hg hz hT z1 nS
    have L1 := z1.1
    have hR1 := T1.2.1.1
    rw [← hwe] at hR1
    simp +decide (disch := omega) only [qX8_settle, lt_ hL hw, h4, am_w1_i, am_w1_r, am_w1_x, am_w1_l, am_w1_w, va_rf_s, am_push_n, am_push_s, am_cs_0, am_cs_i, am_cs_l, am_cs_r, m_uI_K, m_uI_N, m_uI_R, m_uI_L, m_uI_I, m_uL_K, m_uL_N, m_uL_R, m_uL_I, m_uL_L, m_uR_K, m_uR_N, m_uR_I, m_uR_L, m_uR_R, true_and, and_true, true_implies, false_implies]
    have h41 : mI (uI M w 4 1) w 4 = 1 := by rw [m_uI_I, if_pos ⟨rfl, rfl⟩]
    obtain ⟨M1, hM1⟩ : ∃ M1, M1 = uI M w 4 1 := ⟨_, rfl⟩
    rw [← hM1] at z1 T1 L1 hR1 h41 ⊢
    refine c_x_layBooks (d + 1) w g B M1 _ L1 hw hg hR1 T1.2.2.1 (fun M2 g2 hn => ?_) (fun M2 g2 hc => ?_)
    · have x2 := zF_x (xF_L hs L1 z1.2.1 (by rw [← hwe]; exact g2))
      have X2 : zF (sSt s) M1 M2 := zF_up x2 (fun a j q => by unfold sSt; omega)
      have hnf : ¬ fitP wt v B := fun q => hn (lin_uniq ((fit_lin hord).mp q))
      have h0 := l_x_settle2 d s g z v wt dep dr ld B Y M2 Q X2.1 X2.2.1 hs hg hz hsr hsw (TkX_z hs hg hz T1 X2 nS) (fun q => absurd q hnf) (by rw [← hwe, x2.2.2.2.1 _ _ (by omega) (fun s' hs' => by omega) (by omega)]; exact h41) (fun M' a1 a2 a3 => hQ M' (zF_trans z1 (zF_trans X2 a1)) a2 a3)
      rw [tI_f hnf, ← hwe] at h0
      simp +decide only [qX8_settle, lt_ X2.1 hw, am_w1_i, am_w1_r, am_w1_x, am_w1_l, am_w1_w, va_rf_s, am_push_n, am_push_s, am_cs_0, am_cs_i, am_cs_l, am_cs_r, m_uI_K, m_uI_N, m_uI_R, m_uI_L, m_uI_I, m_uL_K, m_uL_N, m_uL_R, m_uL_I, m_uL_L, m_uR_K, m_uR_N, m_uR_I, m_uR_L, m_uR_R, true_and, and_true, true_implies, false_implies] at h0 ⊢
      exact h0
    · have x2 := zF_x (xF_L hs L1 z1.2.1 (by rw [← hwe]; exact g2))
      have X2 : zF (sSt s) M1 M2 := zF_up x2 (fun a j q => by unfold sSt; omega)
      have T2 := TkX_z hs hg hz T1 X2 nS
      simp +decide only [qX8_settle, lt_ X2.1 hw, am_w1_i, am_w1_r, am_w1_x, am_w1_l, am_w1_w, va_rf_s, am_push_n, am_push_s, am_cs_0, am_cs_i, am_cs_l, am_cs_r, m_uI_K, m_uI_N, m_uI_R, m_uI_L, m_uI_I, m_uL_K, m_uL_N, m_uL_R, m_uL_I, m_uL_L, m_uR_K, m_uR_N, m_uR_I, m_uR_L, m_uR_R, true_and, and_true, true_implies, false_implies]
      have e6 : w + 6 = 179 + 13 * s := by omega
      have e1 : w + 1 = 174 + 13 * s := by omega
      rw [e6, e1]
      refine c_x_holds d s v wt (cov B) M2 _ hs X2.1 X2.2.1 (by rw [← hwe]; exact hc) T2.1 (fun M3 g3 => ?_)
      have X3 : zF (sSt s) M2 M3 := zF_r g3
      have k3 : ∀ a j, a < 336 → (∀ s', s' < 8 → ¬ a = 177 + 13 * s') → mI M3 a j = mI M2 a j := fun a j q1 q2 => g3.2.2.2.1 a j q1 q2
      have h0 := l_x_settle2 d s g z v wt dep dr ld B Y M3 Q X3.1 X3.2.1 hs hg hz hsr hsw (TkX_z hs hg hz T2 X3 nS) (fun q => LnP_I (by rw [← hwe]; exact hc) (fun j => k3 _ _ (by omega) (fun s' hs' => by omega))) (by rw [k3 _ _ (by omega) (fun s' hs' => by omega), x2.2.2.2.1 _ _ (by omega) (fun s' hs' => by omega) (by omega), ← hwe]; exact h41) (fun M' a1 a2 a3 => hQ M' (zF_trans z1 (zF_trans X2 (zF_trans X3 a1))) a2 a3)
      rw [← hwe] at h0
      have hfl := fit_lin (w := wt) (v := v) hord
      by_cases c : linP wt v (cov B)
      · rw [tI_t (hfl.mpr c)] at h0
        rw [tI_t c]
        simp +decide only [qX8_settle, lt_ X3.1 hw, am_w1_i, am_w1_r, am_w1_x, am_w1_l, am_w1_w, va_rf_s, am_push_n, am_push_s, am_cs_0, am_cs_i, am_cs_l, am_cs_r, m_uI_K, m_uI_N, m_uI_R, m_uI_L, m_uI_I, m_uL_K, m_uL_N, m_uL_R, m_uL_I, m_uL_L, m_uR_K, m_uR_N, m_uR_I, m_uR_L, m_uR_R, true_and, and_true, true_implies, false_implies] at h0 ⊢
        exact h0
      · rw [tI_f (fun q => c (hfl.mp q))] at h0
        rw [tI_f c]
        simp +decide only [qX8_settle, lt_ X3.1 hw, am_w1_i, am_w1_r, am_w1_x, am_w1_l, am_w1_w, va_rf_s, am_push_n, am_push_s, am_cs_0, am_cs_i, am_cs_l, am_cs_r, m_uI_K, m_uI_N, m_uI_R, m_uI_L, m_uI_I, m_uL_K, m_uL_N, m_uL_R, m_uL_I, m_uL_L, m_uR_K, m_uR_N, m_uR_I, m_uR_L, m_uR_R, true_and, and_true, true_implies, false_implies] at h0 ⊢
        exact h0
  · have h0 := hQ M (zF_refl hL hI) h4 hS
    rw [← hwe] at h4 ⊢
    simp +decide only [qX8_settle, lt_ hL hw, h4, am_w1_i, am_w1_r, am_w1_x, am_w1_l, am_w1_w, va_rf_s, am_push_n, am_push_s, am_cs_0, am_cs_i, am_cs_l, am_cs_r, m_uI_K, m_uI_N, m_uI_R, m_uI_L, m_uI_I, m_uL_K, m_uL_N, m_uL_R, m_uL_I, m_uL_L, m_uR_K, m_uR_N, m_uR_I, m_uR_L, m_uR_R, true_and, and_true, true_implies, false_implies]
    exact h0
end
section
/-! how many bits are set -/
theorem land_split (p q m n : Nat) (hp : p < 256) (hm : m < 256) : (p + 256 * q) &&& (m + 256 * n) = (p &&& m) + 256 * (q &&& n) := by
  have e : ∀ a b : Nat, a < 256 → a + 256 * b = 2 ^ 8 * b + a := fun a b _ => by omega
  have hpm : p &&& m < 2 ^ 8 := Nat.lt_of_le_of_lt Nat.and_le_left hp
  rw [e p q hp, e m n hm, e (p &&& m) (q &&& n) hpm]
  refine Nat.eq_of_testBit_eq (fun i => ?_)
  rw [Nat.testBit_and, Nat.testBit_two_pow_mul_add _ (show p < 2 ^ 8 from hp), Nat.testBit_two_pow_mul_add _ (show m < 2 ^ 8 from hm), Nat.testBit_two_pow_mul_add _ hpm]
  split
  · rw [Nat.testBit_and]
  · rw [Nat.testBit_and]
def mkA (c : Nat) : Nat → Nat
  | 0 => 0
  | k + 1 => c + 256 * mkA c k
def pS1 (k x : Nat) : Nat := x - ((x / 2) &&& mkA 85 k)
def pS2 (k x : Nat) : Nat := (x &&& mkA 51 k) + ((x / 4) &&& mkA 51 k)
def pS3 (k x : Nat) : Nat := (x + x / 16) &&& mkA 15 k
theorem pb1 : ∀ b, b < 256 → ∀ c, c < 2 → (b / 2 + 128 * c) &&& 85 = (b / 2) &&& 85 ∧ (b / 2) &&& 85 ≤ b := by decide +kernel
theorem pS1_s (k b y : Nat) (hb : b < 256) : pS1 (k + 1) (b + 256 * y) = (b - ((b / 2) &&& 85)) + 256 * pS1 k y := by
  unfold pS1
  have e : (b + 256 * y) / 2 = (b / 2 + 128 * (y % 2)) + 256 * (y / 2) := by omega
  have h1 := pb1 b hb (y % 2) (by omega)
  have e2 : mkA 85 (k + 1) = 85 + 256 * mkA 85 k := rfl
  rw [e, e2, land_split _ _ _ _ (by omega) (by decide), h1.1]
  have h2 : (y / 2) &&& mkA 85 k ≤ y / 2 := Nat.and_le_left
  omega
theorem pb2 : ∀ b, b < 256 → ∀ c, c < 4 → (b / 4 + 64 * c) &&& 51 = (b / 4) &&& 51 ∧ (b &&& 51) + ((b / 4) &&& 51) < 256 := by decide +kernel
theorem pS2_s (k b y : Nat) (hb : b < 256) : pS2 (k + 1) (b + 256 * y) = ((b &&& 51) + ((b / 4) &&& 51)) + 256 * pS2 k y := by
  unfold pS2
  have e : (b + 256 * y) / 4 = (b / 4 + 64 * (y % 4)) + 256 * (y / 4) := by omega
  have h1 := pb2 b hb (y % 4) (by omega)
  have e2 : mkA 51 (k + 1) = 51 + 256 * mkA 51 k := rfl
  rw [e, e2, land_split b _ _ _ hb (by decide), land_split _ _ _ _ (by omega) (by decide), h1.1]
  omega
theorem pb3 : ∀ b, b < 69 → ∀ c, c < 5 → (b + (b / 16 + 16 * c)) &&& 15 = (b + b / 16) &&& 15 := by decide +kernel
theorem pS3_s (k b y : Nat) (hb : b < 69) (hy : y % 16 < 5) : pS3 (k + 1) (b + 256 * y) = ((b + b / 16) &&& 15) + 256 * pS3 k y := by
  unfold pS3
  have e : (b + 256 * y) + (b + 256 * y) / 16 = (b + (b / 16 + 16 * (y % 16))) + 256 * (y + y / 16) := by omega
  have h1 := pb3 b hb (y % 16) hy
  have e2 : mkA 15 (k + 1) = 15 + 256 * mkA 15 k := rfl
  rw [e, e2, land_split _ _ _ _ (by omega) (by decide), h1]
/-- the bits of a byte -/
def bc8 (b : Nat) : Nat := ((((b - ((b / 2) &&& 85)) &&& 51) + (((b - ((b / 2) &&& 85)) / 4) &&& 51)) + (((b - ((b / 2) &&& 85)) &&& 51) + (((b - ((b / 2) &&& 85)) / 4) &&& 51)) / 16) &&& 15
theorem bc8_ok : ∀ b, b < 256 → bc8 b = cnt (fun i => b.testBit i) 8 ∧ ((b - ((b / 2) &&& 85)) &&& 51) + (((b - ((b / 2) &&& 85)) / 4) &&& 51) < 69 ∧ (((b - ((b / 2) &&& 85)) &&& 51) + (((b - ((b / 2) &&& 85)) / 4) &&& 51)) % 16 < 5 := by decide +kernel
theorem pS_low (k b y : Nat) (hb : b < 256) : pS2 (k + 1) (pS1 (k + 1) (b + 256 * y)) = (((b - ((b / 2) &&& 85)) &&& 51) + (((b - ((b / 2) &&& 85)) / 4) &&& 51)) + 256 * pS2 k (pS1 k y) := by
  rw [pS1_s k b y hb, pS2_s k _ _ (by omega)]
theorem pS_16 (k x : Nat) : pS2 k (pS1 k x) % 16 < 5 := by
  cases k with
  | zero =>
    simp [pS2, pS1, mkA]
  | succ k =>
    have e : x = x % 256 + 256 * (x / 256) := by omega
    have h := bc8_ok (x % 256) (by omega)
    rw [e, pS_low k _ _ (by omega)]
    omega
theorem pS_all (k b y : Nat) (hb : b < 256) : pS3 (k + 1) (pS2 (k + 1) (pS1 (k + 1) (b + 256 * y))) = bc8 b + 256 * pS3 k (pS2 k (pS1 k y)) := by
  have h := bc8_ok b hb
  rw [pS_low k b y hb, pS3_s k _ _ h.2.1 (pS_16 k y)]
  rfl
theorem cnt_add (g : Nat → Bool) (m : Nat) : ∀ n, cnt g (m + n) = cnt g m + cnt (fun i => g (m + i)) n := by
  intro n
  induction n with
  | zero => rfl
  | succ n ih =>
    rw [← Nat.add_assoc, cnt_s, cnt_s, ih]
    omega
theorem cnt_byte (x n : Nat) : cnt (fun i => x.testBit i) (8 + n) = bc8 (x % 256) + cnt (fun i => (x / 256).testBit i) n := by
  rw [cnt_add, (bc8_ok (x % 256) (by omega)).1]
  congr 1
  · refine cnt_ext (fun t ht => ?_)
    show x.testBit t = (x % 2 ^ 8).testBit t
    rw [Nat.testBit_mod_two_pow]
    simp [ht]
  · refine cnt_ext (fun t ht => ?_)
    show x.testBit (8 + t) = (x / 2 ^ 8).testBit t
    rw [Nat.testBit_div_two_pow, Nat.add_comm]
theorem bc8_le (b : Nat) (hb : b < 256) : bc8 b ≤ 8 := by
  rw [(bc8_ok b hb).1]
  exact cnt_le _ _
theorem sw_dv (a k y : Nat) (h : a < k) : (a + k * y) / k = y := by
  rw [Nat.add_mul_div_left _ _ (by omega), Nat.div_eq_of_lt h, Nat.zero_add]
theorem sw_md (a k y : Nat) (h : a < k) : (a + k * y) % k = a := by
  rw [Nat.add_mul_mod_self_left, Nat.mod_eq_of_lt h]
theorem sw1 (c0 c1 c2 c3 c4 c5 c6 c7 t : Nat) (b0 : c0 ≤ 8) (b1 : c1 ≤ 8) (b2 : c2 ≤ 8) (b3 : c3 ≤ 8) (b4 : c4 ≤ 8) (b5 : c5 ≤ 8) (b6 : c6 ≤ 8) (b7 : c7 ≤ 8) (ht : t = c0 + 256 * (c1 + 256 * (c2 + 256 * (c3 + 256 * (c4 + 256 * (c5 + 256 * (c6 + 256 * (c7 + 256 * 0)))))))) :
   t + t / 256 < 2 ^ 62 ∧ (t + t / 256) + (t + t / 256) / 65536 < 2 ^ 63 ∧ ((t + t / 256) + (t + t / 256) / 65536) + ((t + t / 256) + (t + t / 256) / 65536) / 4294967296 < 2 ^ 64 ∧ (((t + t / 256) + (t + t / 256) / 65536) + ((t + t / 256) + (t + t / 256) / 65536) / 4294967296) % 128 = c0 + (c1 + (c2 + (c3 + (c4 + (c5 + (c6 + (c7 + 0))))))) := by
  rw [Nat.mul_zero, Nat.add_zero] at ht
  have q1 : t / 256 = c1 + 256 * (c2 + 256 * (c3 + 256 * (c4 + 256 * (c5 + 256 * (c6 + 256 * c7))))) := by
    rw [ht, sw_dv _ _ _ (by omega)]
  have u1 : t + t / 256 = ((c0 + c1) + 256 * (c1 + c2)) + 65536 * ((c2 + c3) + 256 * ((c3 + c4) + 256 * ((c4 + c5) + 256 * ((c5 + c6) + 256 * ((c6 + c7) + 256 * c7))))) := by
    rw [q1, ht]; clear ht q1; omega
  rw [u1]
  have u2 : (((c0 + c1) + 256 * (c1 + c2)) + 65536 * ((c2 + c3) + 256 * ((c3 + c4) + 256 * ((c4 + c5) + 256 * ((c5 + c6) + 256 * ((c6 + c7) + 256 * c7)))))) / 65536 = ((c2 + c3) + 256 * ((c3 + c4) + 256 * ((c4 + c5) + 256 * ((c5 + c6) + 256 * ((c6 + c7) + 256 * c7))))) := sw_dv _ _ _ (by clear ht q1 u1; omega)
  rw [u2]
  have u3 : ((c0 + c1) + 256 * (c1 + c2)) + 65536 * ((c2 + c3) + 256 * ((c3 + c4) + 256 * ((c4 + c5) + 256 * ((c5 + c6) + 256 * ((c6 + c7) + 256 * c7))))) + ((c2 + c3) + 256 * ((c3 + c4) + 256 * ((c4 + c5) + 256 * ((c5 + c6) + 256 * ((c6 + c7) + 256 * c7))))) = ((c0 + c1 + c2 + c3) + 256 * (c1 + c2 + c3 + c4) + 65536 * (c2 + c3 + c4 + c5) + 16777216 * (c3 + c4 + c5 + c6)) + 4294967296 * ((c4 + c5 + c6 + c7) + 256 * ((c5 + c6 + c7) + 256 * ((c6 + c7) + 256 * c7))) := by
    clear ht q1 u1 u2; omega
  rw [u3, sw_dv _ 4294967296 _ (by clear ht q1 u1 u2 u3; omega)]
  clear ht q1 u1 u2 u3
  refine ⟨by omega, by omega, by omega, ?_⟩
  have e : ((c0 + c1 + c2 + c3) + 256 * (c1 + c2 + c3 + c4) + 65536 * (c2 + c3 + c4 + c5) + 16777216 * (c3 + c4 + c5 + c6)) + 4294967296 * ((c4 + c5 + c6 + c7) + 256 * ((c5 + c6 + c7) + 256 * ((c6 + c7) + 256 * c7))) + ((c4 + c5 + c6 + c7) + 256 * ((c5 + c6 + c7) + 256 * ((c6 + c7) + 256 * c7))) = (c0 + (c1 + (c2 + (c3 + (c4 + (c5 + (c6 + (c7 + 0)))))))) + 128 * (2 * ((c1 + c2 + c3 + c4) + (c5 + c6 + c7) + 256 * ((c2 + c3 + c4 + c5) + (c6 + c7) + 256 * ((c3 + c4 + c5 + c6) + c7 + 256 * ((c4 + c5 + c6 + c7) + 256 * ((c5 + c6 + c7) + 256 * ((c6 + c7) + 256 * c7))))))) := by omega
  rw [e, sw_md _ _ _ (by clear e; omega)]
theorem pc_all (x : Nat) (t : Nat) (ht : t = pS3 8 (pS2 8 (pS1 8 x))) : t + t / 256 < 2 ^ 62 ∧ (t + t / 256) + (t + t / 256) / 65536 < 2 ^ 63 ∧ ((t + t / 256) + (t + t / 256) / 65536) + ((t + t / 256) + (t + t / 256) / 65536) / 4294967296 < 2 ^ 64 ∧ (((t + t / 256) + (t + t / 256) / 65536) + ((t + t / 256) + (t + t / 256) / 65536) / 4294967296) % 128 = cnt (fun i => x.testBit i) 64 := by
  have go : ∀ k y, pS3 (k + 1) (pS2 (k + 1) (pS1 (k + 1) y)) = bc8 (y % 256) + 256 * pS3 k (pS2 k (pS1 k (y / 256))) := fun k y => by
    have e : y = y % 256 + 256 * (y / 256) := by omega
    rw [← pS_all k (y % 256) (y / 256) (by omega), ← e]
  have z0 : ∀ y, pS3 0 y = 0 := fun y => by unfold pS3 mkA; rw [Nat.and_zero]
  have hb : ∀ y, bc8 (y % 256) ≤ 8 := fun y => bc8_le _ (by omega)
  have k0 : cnt (fun i => (x).testBit i) 64 = bc8 ((x) % 256) + cnt (fun i => (x / 256).testBit i) 56 := cnt_byte (x) 56
  have g0 : pS3 8 (pS2 8 (pS1 8 (x))) = bc8 ((x) % 256) + 256 * pS3 7 (pS2 7 (pS1 7 (x / 256))) := go 7 (x)
  have k1 : cnt (fun i => (x / 256).testBit i) 56 = bc8 ((x / 256) % 256) + cnt (fun i => (x / 256 / 256).testBit i) 48 := cnt_byte (x / 256) 48
  have g1 : pS3 7 (pS2 7 (pS1 7 (x / 256))) = bc8 ((x / 256) % 256) + 256 * pS3 6 (pS2 6 (pS1 6 (x / 256 / 256))) := go 6 (x / 256)
  have k2 : cnt (fun i => (x / 256 / 256).testBit i) 48 = bc8 ((x / 256 / 256) % 256) + cnt (fun i => (x / 256 / 256 / 256).testBit i) 40 := cnt_byte (x / 256 / 256) 40
  have g2 : pS3 6 (pS2 6 (pS1 6 (x / 256 / 256))) = bc8 ((x / 256 / 256) % 256) + 256 * pS3 5 (pS2 5 (pS1 5 (x / 256 / 256 / 256))) := go 5 (x / 256 / 256)
  have k3 : cnt (fun i => (x / 256 / 256 / 256).testBit i) 40 = bc8 ((x / 256 / 256 / 256) % 256) + cnt (fun i => (x / 256 / 256 / 256 / 256).testBit i) 32 := cnt_byte (x / 256 / 256 / 256) 32
  have g3 : pS3 5 (pS2 5 (pS1 5 (x / 256 / 256 / 256))) = bc8 ((x / 256 / 256 / 256) % 256) + 256 * pS3 4 (pS2 4 (pS1 4 (x / 256 / 256 / 256 / 256))) := go 4 (x / 256 / 256 / 256)
  have k4 : cnt (fun i => (x / 256 / 256 / 256 / 256).testBit i) 32 = bc8 ((x / 256 / 256 / 256 / 256) % 256) + cnt (fun i => (x / 256 / 256 / 256 / 256 / 256).testBit i) 24 := cnt_byte (x / 256 / 256 / 256 / 256) 24
  have g4 : pS3 4 (pS2 4 (pS1 4 (x / 256 / 256 / 256 / 256))) = bc8 ((x / 256 / 256 / 256 / 256) % 256) + 256 * pS3 3 (pS2 3 (pS1 3 (x / 256 / 256 / 256 / 256 / 256))) := go 3 (x / 256 / 256 / 256 / 256)
  have k5 : cnt (fun i => (x / 256 / 256 / 256 / 256 / 256).testBit i) 24 = bc8 ((x / 256 / 256 / 256 / 256 / 256) % 256) + cnt (fun i => (x / 256 / 256 / 256 / 256 / 256 / 256).testBit i) 16 := cnt_byte (x / 256 / 256 / 256 / 256 / 256) 16
  have g5 : pS3 3 (pS2 3 (pS1 3 (x / 256 / 256 / 256 / 256 / 256))) = bc8 ((x / 256 / 256 / 256 / 256 / 256) % 256) + 256 * pS3 2 (pS2 2 (pS1 2 (x / 256 / 256 / 256 / 256 / 256 / 256))) := go 2 (x / 256 / 256 / 256 / 256 / 256)
  have k6 : cnt (fun i => (x / 256 / 256 / 256 / 256 / 256 / 256).testBit i) 16 = bc8 ((x / 256 / 256 / 256 / 256 / 256 / 256) % 256) + cnt (fun i => (x / 256 / 256 / 256 / 256 / 256 / 256 / 256).testBit i) 8 := cnt_byte (x / 256 / 256 / 256 / 256 / 256 / 256) 8
  have g6 : pS3 2 (pS2 2 (pS1 2 (x / 256 / 256 / 256 / 256 / 256 / 256))) = bc8 ((x / 256 / 256 / 256 / 256 / 256 / 256) % 256) + 256 * pS3 1 (pS2 1 (pS1 1 (x / 256 / 256 / 256 / 256 / 256 / 256 / 256))) := go 1 (x / 256 / 256 / 256 / 256 / 256 / 256)
  have k7 : cnt (fun i => (x / 256 / 256 / 256 / 256 / 256 / 256 / 256).testBit i) 8 = bc8 ((x / 256 / 256 / 256 / 256 / 256 / 256 / 256) % 256) + cnt (fun i => (x / 256 / 256 / 256 / 256 / 256 / 256 / 256 / 256).testBit i) 0 := cnt_byte (x / 256 / 256 / 256 / 256 / 256 / 256 / 256) 0
  have g7 : pS3 1 (pS2 1 (pS1 1 (x / 256 / 256 / 256 / 256 / 256 / 256 / 256))) = bc8 ((x / 256 / 256 / 256 / 256 / 256 / 256 / 256) % 256) + 256 * pS3 0 (pS2 0 (pS1 0 (x / 256 / 256 / 256 / 256 / 256 / 256 / 256 / 256))) := go 0 (x / 256 / 256 / 256 / 256 / 256 / 256 / 256)
  have e0 : ∀ g : Nat → Bool, cnt g 0 = 0 := fun _ => rfl
  rw [g0, g1, g2, g3, g4, g5, g6, g7, z0] at ht
  rw [k0, k1, k2, k3, k4, k5, k6, k7, e0]
  exact sw1 _ _ _ _ _ _ _ _ t (hb _) (hb _) (hb _) (hb _) (hb _) (hb _) (hb _) (hb _) ht
def jN (x : Int64) : Nat := x.toBitVec.toNat
theorem jN_lt (x : Int64) : jN x < 2 ^ 64 := x.toBitVec.isLt
theorem jN_and (x y : Int64) : jN (x &&& y) = jN x &&& jN y := by unfold jN; rw [Int64.toBitVec_and, BitVec.toNat_and]
theorem jN_add (x y : Int64) (h : jN x + jN y < 2 ^ 64) : jN (x + y) = jN x + jN y := by
  unfold jN at *; rw [Int64.toBitVec_add, BitVec.toNat_add, Nat.mod_eq_of_lt h]
theorem jN_sub (x y : Int64) (h : jN y ≤ jN x) : jN (x - y) = jN x - jN y := by
  unfold jN at *
  have h1 := x.toBitVec.isLt
  have h2 := y.toBitVec.isLt
  rw [Int64.toBitVec_sub, BitVec.toNat_sub]
  omega
theorem jN_shr (x : Int64) (y : UInt64) (k : Nat) (hy : y.toNat % 64 = k) : jN (x.toUInt64 >>> y).toInt64 = jN x / 2 ^ k := by
  subst hy
  rw [← Nat.shiftRight_eq_div_pow]
  show (x.toUInt64 >>> y).toNat = _
  rw [UInt64.toNat_shiftRight]
  rfl
theorem jN_127 (x : Int64) : x.toInt32 &&& 127 = nI (jN x % 128) := by
  apply Int32.toBitVec_inj.mp
  apply BitVec.eq_of_toNat_eq
  have h1 : x.toInt32.toBitVec = x.toBitVec.setWidth 32 := by rw [Int64.toBitVec_toInt32, BitVec.signExtend_eq_setWidth_of_le _ (by decide)]
  have h2 : (nI (jN x % 128)).toBitVec.toNat = jN x % 128 := by
    show (Int32.ofNat (jN x % 128)).toBitVec.toNat = _
    rw [Int32.toBitVec_ofNat', BitVec.toNat_ofNat]
    omega
  rw [Int32.toBitVec_and, BitVec.toNat_and, h1, BitVec.toNat_setWidth, h2]
  show (jN x % 2 ^ 32) &&& (2 ^ 7 - 1) = _
  rw [Nat.and_two_pow_sub_one_eq_mod]
  omega
theorem bt_count (x x1 x2 x3 x4 x5 x6 : Int64) (h1 : x1 = x - ((x.toUInt64 >>> ((1 : Int32).toInt64 &&& 63).toUInt64).toInt64 &&& 6148914691236517205)) (h2 : x2 = (x1 &&& 3689348814741910323) + ((x1.toUInt64 >>> ((2 : Int32).toInt64 &&& 63).toUInt64).toInt64 &&& 3689348814741910323)) (h3 : x3 = (x2 + (x2.toUInt64 >>> ((4 : Int32).toInt64 &&& 63).toUInt64).toInt64) &&& 1085102592571150095)
    (h4 : x4 = x3 + (x3.toUInt64 >>> ((8 : Int32).toInt64 &&& 63).toUInt64).toInt64) (h5 : x5 = x4 + (x4.toUInt64 >>> ((16 : Int32).toInt64 &&& 63).toUInt64).toInt64) (h6 : x6 = x5 + (x5.toUInt64 >>> ((32 : Int32).toInt64 &&& 63).toUInt64).toInt64) : x6.toInt32 &&& 127 = nI (cnt (fun i => sbit x i) 64) := by
  have hc := pc_all (jN x) _ rfl
  have m1 : jN 6148914691236517205 = mkA 85 8 := by decide +kernel
  have m2 : jN 3689348814741910323 = mkA 51 8 := by decide +kernel
  have m3 : jN 1085102592571150095 = mkA 15 8 := by decide +kernel
  have n1 : jN x1 = pS1 8 (jN x) := by
    rw [h1, jN_sub]
    · rw [jN_and, jN_shr x _ 1 (by decide +kernel), m1]; rfl
    · rw [jN_and, jN_shr x _ 1 (by decide +kernel)]
      exact Nat.le_trans Nat.and_le_left (Nat.div_le_self _ _)
  have b51 : mkA 51 8 < 2 ^ 62 := by decide +kernel
  have n2 : jN x2 = pS2 8 (pS1 8 (jN x)) := by
    rw [h2, jN_add]
    · rw [jN_and, jN_and, jN_shr x1 _ 2 (by decide +kernel), m2, n1]; rfl
    · rw [jN_and, jN_and, m2]
      have a1 : jN x1 &&& mkA 51 8 ≤ mkA 51 8 := Nat.and_le_right
      have a2 : jN (x1.toUInt64 >>> ((2 : Int32).toInt64 &&& 63).toUInt64).toInt64 &&& mkA 51 8 ≤ mkA 51 8 := Nat.and_le_right
      omega
  have l2 : jN x2 < 2 ^ 63 := by
    rw [n2]
    unfold pS2
    have a1 : pS1 8 (jN x) &&& mkA 51 8 ≤ mkA 51 8 := Nat.and_le_right
    have a2 : pS1 8 (jN x) / 4 &&& mkA 51 8 ≤ mkA 51 8 := Nat.and_le_right
    omega
  have n3 : jN x3 = pS3 8 (pS2 8 (pS1 8 (jN x))) := by
    rw [h3, jN_and, m3, jN_add]
    · rw [jN_shr x2 _ 4 (by decide +kernel), n2]; rfl
    · rw [jN_shr x2 _ 4 (by decide +kernel)]
      omega
  rw [← n3] at hc
  have n4 : jN x4 = jN x3 + jN x3 / 256 := by
    rw [h4, jN_add]
    · rw [jN_shr x3 _ 8 (by decide +kernel)]
    · rw [jN_shr x3 _ 8 (by decide +kernel)]
      have := hc.1
      omega
  rw [← n4] at hc
  have n5 : jN x5 = jN x4 + jN x4 / 65536 := by
    rw [h5, jN_add]
    · rw [jN_shr x4 _ 16 (by decide +kernel)]
    · rw [jN_shr x4 _ 16 (by decide +kernel)]
      have := hc.2.1
      omega
  rw [← n5] at hc
  have n6 : jN x6 = jN x5 + jN x5 / 4294967296 := by
    rw [h6, jN_add]
    · rw [jN_shr x5 _ 32 (by decide +kernel)]
    · rw [jN_shr x5 _ 32 (by decide +kernel)]
      have := hc.2.2.1
      omega
  rw [← n6] at hc
  rw [jN_127, hc.2.2.2]
  rfl
theorem c_bitCount (d : Nat) (x : Int64) (M : am_M) (Q : Option Value → am_M → Prop) : am_E am_P0 d 303 [.long x] M Q ↔ Q (some (.int (nI (cnt (fun i => sbit x i) 64)))) M := by
  rw [eJ13_bitCount_95d88]
  simp only [qJ13_bitCount_95d88_0, qJ13_bitCount_95d88_1, am_w1_i, am_w1_r, am_w1_x, am_w1_l, am_w1_w, va_rf_s, am_push_n, am_push_s, am_cs_0, am_cs_i, am_cs_l, am_cs_r, m_uI_K, m_uI_N, m_uI_R, m_uI_L, m_uI_I, m_uL_K, m_uL_N, m_uL_R, m_uL_I, m_uL_L, m_uR_K, m_uR_N, m_uR_I, m_uR_L, m_uR_R, true_and, and_true]
  rw [bt_count x _ _ _ _ _ _ rfl rfl rfl rfl rfl rfl]
end
section
/-! the class: mayBe, countShared -/
theorem c_x_mayBe (d s h p : Nat) (M : am_M) (Q : Option Value → am_M → Prop) (hL : Lay M) (hs : s < 8) (hh : h < 48) (hp : p < 256) : am_E am_P0 d 88 [.ref (173 + 13 * s), .int (nI h), .int (nI p)] M Q ↔ Q (some (.int (tI (inS (my4 M s h) p)))) M := by
  obtain ⟨w, hwe⟩ : ∃ w, w = 173 + 13 * s := ⟨_, rfl⟩
  have hw : isTr w := ⟨s, hs, hwe⟩
  have e10 : 183 + 13 * s = w + 10 := by omega
  have ea : nI h * 4 + nI (p / 64) = nI (4 * h + p / 64) := by rw [show (4 : Int32) = nI 4 from rfl, ni_mul, ni_add, Nat.mul_comm]
  have hin : inS (my4 M s h) p ↔ sbit (mL M (w + 10) (4 * h + p / 64)) (p % 64) = true := by
    unfold inS my4
    rw [e10]
    exact ⟨fun q => q.2, fun q => ⟨hp, q⟩⟩
  rw [← hwe, eX8_mayBe]
  simp +decide (disch := omega) only [qX8_mayBe, lt_ hL hw, sr6 p hp, an63 p hp, ea, ni_in_t, ni_tn, lgc_0, bt_test _ (Nat.mod_lt p (show 0 < 64 by decide)), am_w1_i, am_w1_r, am_w1_x, am_w1_l, am_w1_w, va_rf_s, am_push_n, am_push_s, am_cs_0, am_cs_i, am_cs_l, am_cs_r, m_uI_K, m_uI_N, m_uI_R, m_uI_L, m_uI_I, m_uL_K, m_uL_N, m_uL_R, m_uL_I, m_uL_L, m_uR_K, m_uR_N, m_uR_I, m_uR_L, m_uR_R, true_and, and_true]
  by_cases e : sbit (mL M (w + 10) (4 * h + p / 64)) (p % 64) = true
  · rw [br_r e, tI_t (hin.mpr e)]
  · rw [br_q e, tI_f (fun q => e (hin.mp q))]
theorem l_x_shared (d s s' h : Nat) (M : am_M) (Q : Option Value → am_M → Prop) (hL : Lay M) (hs : s < 8) (hs' : s' < 8) (hh : h < 48) : ∀ (m k : Nat), k + m = 4 → (am_P am_P0 (d + 1) (am_look tX8_countShared) 7 [.ref (173 + 13 * s), .ref (173 + 13 * s'), .int (nI h), .int (nI (cnt (fun p => dB (inS (my4 M s h) p ∧ inS (my4 M s' h) p)) (64 * k))), .int (nI (4 * h + k))] [] M Q ↔ Q (some (.int (nI (cnt (fun p => dB (inS (my4 M s h) p ∧ inS (my4 M s' h) p)) 256)))) M) := by
  obtain ⟨w, hwe⟩ : ∃ w, w = 173 + 13 * s := ⟨_, rfl⟩
  obtain ⟨w', hwe'⟩ : ∃ w, w = 173 + 13 * s' := ⟨_, rfl⟩
  have hw : isTr w := ⟨s, hs, hwe⟩
  have hw' : isTr w' := ⟨s', hs', hwe'⟩
  have e10 : 183 + 13 * s = w + 10 := by omega
  have e10' : 183 + 13 * s' = w' + 10 := by omega
  have eend : (nI h + 1) * 4 = nI (4 * h + 4) := by rw [ni_add1, show (4 : Int32) = nI 4 from rfl, ni_mul]; congr 1; omega
  have eend' : nI (h + 1) * 4 = nI (4 * h + 4) := by rw [show (4 : Int32) = nI 4 from rfl, ni_mul]; congr 1; omega
  rw [← hwe, ← hwe']
  intro m
  induction m with
  | zero =>
    intro k hk
    have e : k = 4 := by omega
    subst e
    have hle : nI (4 * h + 4) ≤ nI (4 * h + 4) := (ni_le (by omega) (by omega)).mpr (Nat.le_refl _)
    rw [hX8_countShared_7]
    simp +decide only [qX8_countShared, eend, am_w1_i, am_w1_r, am_w1_x, am_w1_l, am_w1_w, va_rf_s, am_push_n, am_push_s, am_cs_0, am_cs_i, am_cs_l, am_cs_r, m_uI_K, m_uI_N, m_uI_R, m_uI_L, m_uI_I, m_uL_K, m_uL_N, m_uL_R, m_uL_I, m_uL_L, m_uR_K, m_uR_N, m_uR_I, m_uR_L, m_uR_R, true_and, and_true]
    rw [br_p hle]
  | succ m ih =>
    intro k hk
    have hlt : ¬ nI (4 * h + 4) ≤ nI (4 * h + k) := by rw [ni_le (by omega) (by omega)]; omega
    have hbc := fun x Q => c_bitCount d x M Q
    have ih2 := ih (k + 1) (by omega)
    have estep : cnt (fun p => dB (inS (my4 M s h) p ∧ inS (my4 M s' h) p)) (64 * (k + 1)) = cnt (fun p => dB (inS (my4 M s h) p ∧ inS (my4 M s' h) p)) (64 * k) + cnt (fun i => sbit (mL M (w + 10) (4 * h + k) &&& mL M (w' + 10) (4 * h + k)) i) 64 := by
      rw [show 64 * (k + 1) = 64 * k + 64 by omega, cnt_add]
      congr 1
      refine cnt_ext (fun t ht => ?_)
      rw [sb_and]
      have q1 : (64 * k + t) / 64 = k := by omega
      have q2 : (64 * k + t) % 64 = t := by omega
      have q3 : 64 * k + t < 256 := by omega
      rw [Bool.eq_iff_iff, dB_t, Bool.and_eq_true]
      unfold inS my4
      rw [q1, q2, e10, e10']
      exact ⟨fun z => ⟨z.1.2, z.2.2⟩, fun z => ⟨⟨q3, z.1⟩, ⟨q3, z.2⟩⟩⟩
    rw [estep, ← Nat.add_assoc] at ih2
    rw [hX8_countShared_7]
    simp +decide (disch := omega) only [qX8_countShared, lt_ hL hw, lt_ hL hw', eend, eend', hbc, ni_in_t, ni_tn, ni_add, ni_add1, am_w1_i, am_w1_r, am_w1_x, am_w1_l, am_w1_w, va_rf_s, am_push_n, am_push_s, am_cs_0, am_cs_i, am_cs_l, am_cs_r, m_uI_K, m_uI_N, m_uI_R, m_uI_L, m_uI_I, m_uL_K, m_uL_N, m_uL_R, m_uL_I, m_uL_L, m_uR_K, m_uR_N, m_uR_I, m_uR_L, m_uR_R, true_and, and_true]
    rw [br_n hlt]
    exact ih2
theorem c_x_countShared (d s s' h : Nat) (M : am_M) (Q : Option Value → am_M → Prop) (hL : Lay M) (hs : s < 8) (hs' : s' < 8) (hh : h < 48) : am_E am_P0 (d + 1) 90 [.ref (173 + 13 * s), .ref (173 + 13 * s'), .int (nI h)] M Q ↔ Q (some (.int (nI (cnt (fun p => dB (inS (my4 M s h) p ∧ inS (my4 M s' h) p)) 256)))) M := by
  have h0 := l_x_shared d s s' h M Q hL hs hs' hh 4 0 rfl
  have e4 : nI h * 4 = nI (4 * h + 0) := by rw [show (4 : Int32) = nI 4 from rfl, ni_mul, Nat.mul_comm, Nat.add_zero]
  rw [eX8_countShared]
  simp +decide only [qX8_countShared, e4, am_w1_i, am_w1_r, am_w1_x, am_w1_l, am_w1_w, va_rf_s, am_push_n, am_push_s, am_cs_0, am_cs_i, am_cs_l, am_cs_r, m_uI_K, m_uI_N, m_uI_R, m_uI_L, m_uI_I, m_uL_K, m_uL_N, m_uL_R, m_uL_I, m_uL_L, m_uR_K, m_uR_N, m_uR_I, m_uR_L, m_uR_R, true_and, and_true]
  exact h0
theorem c_x_countMay (d s h : Nat) (M : am_M) (Q : Option Value → am_M → Prop) (hL : Lay M) (hs : s < 8) (hh : h < 48) : am_E am_P0 (d + 2) 89 [.ref (173 + 13 * s), .int (nI h)] M Q ↔ Q (some (.int (nI (cnt (fun p => dB (inS (my4 M s h) p)) 256)))) M := by
  have hcs := fun Q => c_x_countShared d s s h M Q hL hs hs hh
  have e : (fun p => dB (inS (my4 M s h) p ∧ inS (my4 M s h) p)) = (fun p => dB (inS (my4 M s h) p)) := funext fun p => by rw [and_self]
  rw [e] at hcs
  rw [eX8_countMay]
  simp +decide only [qX8_countMay, lt_ hL (isTr_of hs), hcs, am_w1_i, am_w1_r, am_w1_x, am_w1_l, am_w1_w, va_rf_s, am_push_n, am_push_s, am_cs_0, am_cs_i, am_cs_l, am_cs_r, m_uI_K, m_uI_N, m_uI_R, m_uI_L, m_uI_I, m_uL_K, m_uL_N, m_uL_R, m_uL_I, m_uL_L, m_uR_K, m_uR_N, m_uR_I, m_uR_L, m_uR_R, true_and, and_true]
/-! places and cells: the same order -/
theorem cnt_row {P : Nat → Prop} {C R : Nat} (hC : C ≤ 16) (hv : ∀ p, P p → vld C R p) (r : Nat) : cnt (fun i => dB (P (16 * r + i))) 16 = cnt (fun i => dB (P (16 * r + i))) C := by
  have e : 16 = C + (16 - C) := by omega
  have h0 : cnt (fun i => dB (P (16 * r + (C + i)))) (16 - C) = 0 := by
    have : ∀ n, n ≤ 16 - C → cnt (fun i => dB (P (16 * r + (C + i)))) n = 0 := by
      intro n
      induction n with
      | zero => intro _; rfl
      | succ n ih =>
        intro hn
        rw [cnt_f (fun z => ?_), ih (by omega)]
        have := (hv _ (dB_t.mp z)).1
        omega
    exact this _ (Nat.le_refl _)
  have h1 := cnt_add (fun i => dB (P (16 * r + i))) C (16 - C)
  rw [← e] at h1
  rw [h1, h0, Nat.add_zero]
theorem plc_row {C r i : Nat} (hi : i < C) : plc C (C * r + i) = 16 * r + i := by
  unfold plc
  rw [Nat.mul_add_div (by omega), Nat.div_eq_of_lt hi, Nat.mul_add_mod, Nat.mod_eq_of_lt hi, Nat.add_zero]
theorem cnt_rows {P : Nat → Prop} {C R : Nat} (hC : C ≤ 16) (hv : ∀ p, P p → vld C R p) : ∀ r, cnt (fun p => dB (P p)) (16 * r) = cnt (fun c => dB (P (plc C c))) (C * r) := by
  intro r
  induction r with
  | zero => rfl
  | succ r ih =>
    rw [show 16 * (r + 1) = 16 * r + 16 by omega, cnt_add, ih, cnt_row hC hv, Nat.mul_succ, cnt_add]
    congr 1
    refine cnt_ext (fun t ht => ?_)
    rw [plc_row ht]
theorem cnt_places {P : Nat → Prop} {C R : Nat} (hC : C ≤ 16) (hR : R ≤ 16) (hv : ∀ p, P p → vld C R p) : cnt (fun p => dB (P p)) 256 = cnt (fun c => dB (P (plc C c))) (C * R) := by
  rw [← cnt_rows hC hv R, show 256 = 16 * R + (256 - 16 * R) by omega, cnt_add]
  have h0 : ∀ n, cnt (fun i => dB (P (16 * R + i))) n = 0 := by
    intro n
    induction n with
    | zero => rfl
    | succ n ih =>
      rw [cnt_f (fun z => ?_), ih]
      have := (hv _ (dB_t.mp z)).2
      omega
  rw [h0, Nat.add_zero]
/-- the place below which so many are: in both orders -/
theorem cnt_at {P : Nat → Prop} {C R p : Nat} (hC : C ≤ 16) (hv : ∀ p, P p → vld C R p) (hp : vld C R p) : cnt (fun p => dB (P p)) p = cnt (fun c => dB (P (plc C c))) (cel C p) := by
  have e1 : p = 16 * (p / 16) + p % 16 := by omega
  have h1 := hp.1
  unfold cel
  rw [cnt_add (fun c => dB (P (plc C c))) (C * (p / 16)) (p % 16), ← cnt_rows hC hv (p / 16)]
  have h2 := cnt_add (fun p => dB (P p)) (16 * (p / 16)) (p % 16)
  rw [← e1] at h2
  rw [h2]
  congr 1
  refine cnt_ext (fun t ht => ?_)
  rw [plc_row (by omega)]
/-! goTogether, and what clashes -/
theorem c_absd (d a b : Nat) (M : am_M) (Q : Option Value → am_M → Prop) (ha : a < 65536) (hb : b < 65536) : am_E am_P0 d 306 [.int (nI a - nI b)] M Q ↔ Q (some (.int (nI (hd_ a b)))) M := by
  have et : (nI a - nI b).toInt = (a : Int) - b := by
    rw [Int32.toInt_sub, ni_ti (by omega), ni_ti (by omega)]
    exact Int.bmod_eq_of_le (by omega) (by omega)
  rw [eJ9_abs_0f7a4]
  simp +decide only [qJ9_abs_0f7a4, am_w1_i, am_w1_r, am_w1_x, am_w1_l, am_w1_w, va_rf_s, am_push_n, am_push_s, am_cs_0, am_cs_i, am_cs_l, am_cs_r, m_uI_K, m_uI_N, m_uI_R, m_uI_L, m_uI_I, m_uL_K, m_uL_N, m_uL_R, m_uL_I, m_uL_L, m_uR_K, m_uR_N, m_uR_I, m_uR_L, m_uR_R, true_and, and_true]
  unfold hd_
  by_cases c : a < b
  · have hlt : nI a - nI b < 0 := by rw [Int32.lt_iff_toInt_lt, et]; show _ < (0 : Int); omega
    have e : -(nI a - nI b) = nI (b - a) := by
      apply Int32.toInt_inj.mp
      rw [Int32.toInt_neg, et, ni_ti (by omega)]
      have e2 : -((a : Int) - b) = ((b - a : Nat) : Int) := by omega
      rw [e2]
      exact Int.bmod_eq_of_le (by omega) (by omega)
    rw [if_pos c]
    first | rw [br_n (fun q => absurd q (by rw [Int32.not_le]; exact hlt)), e] | (rw [br_p hlt, e]) | (rw [br_n (by rw [Int32.not_le]; exact hlt), e])
  · rw [if_neg c]
    have hnl : ¬ nI a - nI b < 0 := by rw [Int32.lt_iff_toInt_lt, et]; show ¬ _ < (0 : Int); omega
    first | rw [br_n hnl, ni_sub (by omega)] | rw [br_p (Int32.not_lt.mp hnl), ni_sub (by omega)]
theorem c_x_goTogether (d s g z v i j : Nat) (wt : Nat → Prop) (dep : Nat → Nat) (dr ld : Nat) (B : List Fct) (Y : List Sy) (y y' : Sy) (M : am_M) (Q : Option Value → am_M → Prop) (hL : Lay M) (hI : RInv M) (hs : s < 8) (hg : isSh g) (hT : TkX M s g z v wt dep dr ld B Y) (hy : Y[i]? = some y) (hy' : Y[j]? = some y')
    (hQ : ∀ M', rgF M M' → Q (some (.int (tI (gowY wt v y y')))) M') : am_E am_P0 (d + 3) 76 [.ref (173 + 13 * s), .int (nI i), .int (nI j)] M Q := by
  obtain ⟨w, hwe⟩ : ∃ w, w = 173 + 13 * s := ⟨_, rfl⟩
  have hw : isTr w := ⟨s, hs, hwe⟩
  have h48 := hT.2.2.2.2.1
  have hil := (List.getElem?_eq_some_iff.mp hy).1
  have hjl := (List.getElem?_eq_some_iff.mp hy').1
  obtain ⟨⟨y1, y2⟩, y3, y4, y5⟩ := hT.2.2.2.2.2 i y hy
  obtain ⟨⟨z1, z2⟩, z3, z4, z5⟩ := hT.2.2.2.2.2 j y' hy'
  have hab := fun Q => c_absd (d + 2) y.1 y'.1 M Q (by omega) (by omega)
  have hR := hT.2.1.1
  have e1 : 174 + 13 * s = w + 1 := by omega
  rw [← hwe] at hR ⊢
  rw [eX8_goTogether]
  simp +decide (disch := omega) only [qX8_goTogether, lt_ hL hw, lw_ hL hg, hR, y3, y4, z3, z4, hab, ni_in_t, ni_tn, am_w1_i, am_w1_r, am_w1_x, am_w1_l, am_w1_w, va_rf_s, am_push_n, am_push_s, am_cs_0, am_cs_i, am_cs_l, am_cs_r, m_uI_K, m_uI_N, m_uI_R, m_uI_L, m_uI_I, m_uL_K, m_uL_N, m_uL_R, m_uL_I, m_uL_L, m_uR_K, m_uR_N, m_uR_I, m_uR_L, m_uR_R, true_and, and_true]
  rw [← e1]
  refine c_x_isWithin d s y.2.1 y'.2.1 (hd_ y.1 y'.1) v wt M _ hL hI hs y2 z2 (hd_lt y1 z1) hT.1 (fun M1 g1 => ?_)
  have h0 := hQ M1 g1
  simp +decide only [qX8_goTogether, am_w1_i, am_w1_r, am_w1_x, am_w1_l, am_w1_w, va_rf_s, am_push_n, am_push_s, am_cs_0, am_cs_i, am_cs_l, am_cs_r, m_uI_K, m_uI_N, m_uI_R, m_uI_L, m_uI_I, m_uL_K, m_uL_N, m_uL_R, m_uL_I, m_uL_L, m_uR_K, m_uR_N, m_uR_I, m_uR_L, m_uR_R, true_and, and_true]
  exact ⟨tI_01 _, h0⟩
end
section
/-! the class: what clashes -/
theorem fs_is {c : Nat → Bool} {n i : Nat} (h : ∀ k, k < i → c k = false) (hi : i < n) (hc : c i = true) : fs c n = i := by
  have h1 : fs c n < n := (fs_ex c n).mpr ⟨i, hi, hc⟩
  rcases Nat.lt_trichotomy (fs c n) i with q | q | q
  · have := fs_at c n h1
    rw [h _ q] at this
    cases this
  · exact q
  · have := fs_no c n i q
    rw [hc] at this
    cases this
theorem fs_all {c : Nat → Bool} {n : Nat} (h : ∀ k, k < n → c k = false) : fs c n = n := by
  have h1 := fs_le c n
  rcases Nat.lt_or_ge (fs c n) n with q | q
  · have := fs_at c n q
    rw [h _ q] at this
    cases this
  · omega
theorem fs_ext {c c' : Nat → Bool} {n : Nat} (h : ∀ k, k < n → c k = c' k) : fs c n = fs c' n := by
  rcases Nat.lt_or_ge (fs c n) n with q | q
  · exact (fs_is (fun k hk => by rw [← h k (by omega)]; exact fs_no c n k hk) q (by rw [← h _ q]; exact fs_at c n q)).symm
  · have e : fs c n = n := by have := fs_le c n; omega
    rw [e]
    exact (fs_all (fun k hk => by rw [← h k hk]; exact fs_no c n k (by omega))).symm
theorem fs_cut {c : Nat → Bool} {m n : Nat} (h : m ≤ n) : (fs c m < m → fs c n = fs c m) ∧ (fs c m = m → m ≤ fs c n) := by
  refine ⟨fun q => fs_is (fs_no c m) (by omega) (fs_at c m q), fun q => ?_⟩
  rcases Nat.lt_or_ge (fs c n) m with z | z
  · have h1 := fs_at c n (by omega)
    rw [fs_no c m _ (by omega)] at h1
    cases h1
  · exact z
/-- a place of n, or none -/
def oI (i n : Nat) : Int32 := if i < n then nI i else -1
section
variable (wt : Nat → Prop) (v : Nat) (snd : Nat → Bool → Prop) (B : List Fct) (Y : List Sy)
noncomputable def cl1 : Nat := fs (fun i => !gdF wt v snd B Y i) Y.length
noncomputable def cl3 (i : Nat) : Nat := fs (fun j => !goF wt v Y j i) i
noncomputable def cl2 (n : Nat) : Nat := fs (fun i => decide (cl3 wt v Y i < i)) n
end
theorem l_x_clash1 (d s g z v : Nat) (wt : Nat → Prop) (dep : Nat → Nat) (dr ld : Nat) (B : List Fct) (Y : List Sy) (M : am_M) (Q : Option Value → am_M → Prop) (hL : Lay M) (hs : s < 8) (hg : isSh g) (hT : TkX M s g z v wt dep dr ld B Y) (ha : ∀ k y, Y[k]? = some y → mI M (181 + 13 * s) k = tI (goodY wt v (sndP dep dr ld) B y)) :
    ∀ (m i : Nat), i + m = Y.length → (∀ k, k < i → (!gdF wt v (sndP dep dr ld) B Y k) = false) → (am_P am_P0 d (am_look tX8_clashAlone) 2 [.ref (173 + 13 * s), .int (nI i)] [] M Q ↔ Q (some (.int (oI (cl1 wt v (sndP dep dr ld) B Y) Y.length))) M) := by
  obtain ⟨w, hwe⟩ : ∃ w, w = 173 + 13 * s := ⟨_, rfl⟩
  have hw : isTr w := ⟨s, hs, hwe⟩
  have e8 : 181 + 13 * s = w + 8 := by omega
  have h48 := hT.2.2.2.2.1
  have hR := hT.2.1.1
  rw [← hwe] at hR ⊢
  intro m
  induction m with
  | zero =>
    intro i hi hn
    have e : i = Y.length := by omega
    subst e
    have hle : nI Y.length ≤ nI Y.length := (ni_le (by omega) (by omega)).mpr (Nat.le_refl _)
    have hf : cl1 wt v (sndP dep dr ld) B Y = Y.length := fs_all hn
    rw [hX8_clashAlone_2]
    simp +decide only [qX8_clashAlone, lt_ hL hw, lw_ hL hg, hR, hT.2.2.2.1, am_w1_i, am_w1_r, am_w1_x, am_w1_l, am_w1_w, va_rf_s, am_push_n, am_push_s, am_cs_0, am_cs_i, am_cs_l, am_cs_r, m_uI_K, m_uI_N, m_uI_R, m_uI_L, m_uI_I, m_uL_K, m_uL_N, m_uL_R, m_uL_I, m_uL_L, m_uR_K, m_uR_N, m_uR_I, m_uR_L, m_uR_R, true_and, and_true]
    rw [br_p hle, hf]
    unfold oI
    rw [if_neg (by omega)]
  | succ m ih =>
    intro i hi hn
    have hlt : ¬ nI Y.length ≤ nI i := by rw [ni_le (by omega) (by omega)]; omega
    obtain ⟨y, hy⟩ : ∃ y, Y[i]? = some y := ⟨Y[i]'(by omega), List.getElem?_eq_getElem (by omega)⟩
    have hgd := gdF_y (w := wt) (v := v) (snd := sndP dep dr ld) (B := B) hy
    have hai := ha i y hy
    rw [e8] at hai
    rw [hX8_clashAlone_2]
    simp +decide (disch := omega) only [qX8_clashAlone, lt_ hL hw, lw_ hL hg, hR, hT.2.2.2.1, hai, ni_in_t, ni_tn, ni_add1, am_w1_i, am_w1_r, am_w1_x, am_w1_l, am_w1_w, va_rf_s, am_push_n, am_push_s, am_cs_0, am_cs_i, am_cs_l, am_cs_r, m_uI_K, m_uI_N, m_uI_R, m_uI_L, m_uI_I, m_uL_K, m_uL_N, m_uL_R, m_uL_I, m_uL_L, m_uR_K, m_uR_N, m_uR_I, m_uR_L, m_uR_R, true_and, and_true]
    rw [br_n hlt]
    by_cases c : goodY wt v (sndP dep dr ld) B y
    · rw [tI_t c, br_p (by decide)]
      refine ih (i + 1) (by omega) (fun k hk => ?_)
      by_cases ek : k = i
      · subst ek; rw [hgd.mpr c]; rfl
      · exact hn k (by omega)
    · have hfi : gdF wt v (sndP dep dr ld) B Y i = false := by
        rw [← Bool.not_eq_true]; exact fun q => c (hgd.mp q)
      have hf : cl1 wt v (sndP dep dr ld) B Y = i := fs_is hn (by omega) (by rw [hfi]; rfl)
      rw [tI_f c, br_n (by decide), hf]
      unfold oI
      rw [if_pos (by omega)]
theorem c_x_clashAlone (d s g z v : Nat) (wt : Nat → Prop) (dep : Nat → Nat) (dr ld : Nat) (B : List Fct) (Y : List Sy) (M : am_M) (Q : Option Value → am_M → Prop) (hL : Lay M) (hs : s < 8) (hg : isSh g) (hT : TkX M s g z v wt dep dr ld B Y) (ha : ∀ k y, Y[k]? = some y → mI M (181 + 13 * s) k = tI (goodY wt v (sndP dep dr ld) B y)) :
    am_E am_P0 d 91 [.ref (173 + 13 * s)] M Q ↔ Q (some (.int (oI (cl1 wt v (sndP dep dr ld) B Y) Y.length))) M := by
  rw [eX8_clashAlone]
  simp +decide only [qX8_clashAlone, am_w1_i, am_w1_r, am_w1_x, am_w1_l, am_w1_w, va_rf_s, am_push_n, am_push_s, am_cs_0, am_cs_i, am_cs_l, am_cs_r, m_uI_K, m_uI_N, m_uI_R, m_uI_L, m_uI_I, m_uL_K, m_uL_N, m_uL_R, m_uL_I, m_uL_L, m_uR_K, m_uR_N, m_uR_I, m_uR_L, m_uR_R, true_and, and_true]
  rw [show (0 : Int32) = nI 0 from rfl]
  exact l_x_clash1 d s g z v wt dep dr ld B Y M Q hL hs hg hT ha Y.length 0 (by omega) (fun k hk => by omega)
theorem l_x_clash3 (d s g z v i n : Nat) (wt : Nat → Prop) (dep : Nat → Nat) (dr ld : Nat) (B : List Fct) (Y : List Sy) (M0 : am_M) (Q : Option Value → am_M → Prop) (x1 : Int32) (hs : s < 8) (hg : isSh g) (hz : z = 2 ∨ z = 83) (hn : n ≤ Y.length) (hi : i < n)
    (hY : ∀ M', rgF M0 M' → cl3 wt v Y i < i → Q (some (.int (nI (48 * i + cl3 wt v Y i)))) M')
    (hN : ∀ M' v4, rgF M0 M' → jk v4 → cl3 wt v Y i = i → am_P am_P0 (d + 4) (am_look tX8_clashOfTwo) 19 [.ref (173 + 13 * s), .int x1, .int (nI n), .int (nI (i + 1)), v4] [] M' Q) :
    ∀ (m j : Nat), j + m = i → ∀ (M : am_M), rgF M0 M → TkX M s g z v wt dep dr ld B Y → (∀ k, k < j → (!goF wt v Y k i) = false) → am_P am_P0 (d + 4) (am_look tX8_clashOfTwo) 27 [.ref (173 + 13 * s), .int x1, .int (nI n), .int (nI i), .int (nI j)] [] M Q := by
  obtain ⟨w, hwe⟩ : ∃ w, w = 173 + 13 * s := ⟨_, rfl⟩
  have hw : isTr w := ⟨s, hs, hwe⟩
  intro m
  induction m with
  | zero =>
    intro j hj M hM hT hno
    have h48 := hT.2.2.2.2.1
    have e : j = i := by omega
    subst e
    have hle : nI j ≤ nI j := (ni_le (by omega) (by omega)).mpr (Nat.le_refl _)
    have h0 := hN M (.int (nI j)) hM (Or.inr ⟨_, rfl⟩) (fs_all hno)
    rw [hX8_clashOfTwo_27]
    simp +decide only [qX8_clashOfTwo, ni_add1, am_w1_i, am_w1_r, am_w1_x, am_w1_l, am_w1_w, va_rf_s, am_push_n, am_push_s, am_cs_0, am_cs_i, am_cs_l, am_cs_r, m_uI_K, m_uI_N, m_uI_R, m_uI_L, m_uI_I, m_uL_K, m_uL_N, m_uL_R, m_uL_I, m_uL_L, m_uR_K, m_uR_N, m_uR_I, m_uR_L, m_uR_R, true_and, and_true]
    rw [br_p hle]
    exact h0
  | succ m ih =>
    intro j hj M hM hT hno
    have h48 := hT.2.2.2.2.1
    have hlt : ¬ nI i ≤ nI j := by rw [ni_le (by omega) (by omega)]; omega
    obtain ⟨y, hy⟩ : ∃ y, Y[j]? = some y := ⟨Y[j]'(by omega), List.getElem?_eq_getElem (by omega)⟩
    obtain ⟨y', hy'⟩ : ∃ y, Y[i]? = some y := ⟨Y[i]'(by omega), List.getElem?_eq_getElem (by omega)⟩
    have hgo := goF_y (w := wt) (v := v) hy hy'
    rw [hX8_clashOfTwo_27]
    simp +decide only [qX8_clashOfTwo, lt_ hM.1 (isTr_of hs), am_w1_i, am_w1_r, am_w1_x, am_w1_l, am_w1_w, va_rf_s, am_push_n, am_push_s, am_cs_0, am_cs_i, am_cs_l, am_cs_r, m_uI_K, m_uI_N, m_uI_R, m_uI_L, m_uI_I, m_uL_K, m_uL_N, m_uL_R, m_uL_I, m_uL_L, m_uR_K, m_uR_N, m_uR_I, m_uR_L, m_uR_R, true_and, and_true]
    rw [br_n hlt]
    refine c_x_goTogether d s g z v j i wt dep dr ld B Y y y' M _ hM.1 hM.2.1 hs hg hT hy hy' (fun M1 g1 => ?_)
    have hT1 := TkX_z hs hg hz hT (zF_r g1 : zF (fun _ _ => False) M M1) (fun _ _ _ q => q)
    have e48 : nI i * 48 + nI j = nI (48 * i + j) := by rw [show (48 : Int32) = nI 48 from rfl, ni_mul, ni_add, Nat.mul_comm]
    simp +decide only [qX8_clashOfTwo, e48, ni_add1, am_w1_i, am_w1_r, am_w1_x, am_w1_l, am_w1_w, va_rf_s, am_push_n, am_push_s, am_cs_0, am_cs_i, am_cs_l, am_cs_r, m_uI_K, m_uI_N, m_uI_R, m_uI_L, m_uI_I, m_uL_K, m_uL_N, m_uL_R, m_uL_I, m_uL_L, m_uR_K, m_uR_N, m_uR_I, m_uR_L, m_uR_R, true_and, and_true]
    by_cases c : gowY wt v y y'
    · rw [tI_t c, br_p (by decide)]
      refine ih (j + 1) (by omega) M1 (rgF_trans hM g1) hT1 (fun k hk => ?_)
      by_cases ek : k = j
      · subst ek; rw [hgo.mpr c]; rfl
      · exact hno k (by omega)
    · have hfi : goF wt v Y j i = false := by rw [← Bool.not_eq_true]; exact fun q => c (hgo.mp q)
      have hf : cl3 wt v Y i = j := fs_is hno (by omega) (by rw [hfi]; rfl)
      have h0 := hY M1 (rgF_trans hM g1) (by omega)
      rw [hf] at h0
      rw [tI_f c, br_n (by decide)]
      exact h0
theorem l_x_clash2 (d s g z v n : Nat) (wt : Nat → Prop) (dep : Nat → Nat) (dr ld : Nat) (B : List Fct) (Y : List Sy) (M0 : am_M) (Q : Option Value → am_M → Prop) (x1 : Int32) (hs : s < 8) (hg : isSh g) (hz : z = 2 ∨ z = 83) (hn : n ≤ Y.length)
    (hQ : ∀ M', rgF M0 M' → Q (some (.int (if cl2 wt v Y n < n then nI (48 * cl2 wt v Y n + cl3 wt v Y (cl2 wt v Y n)) else -1))) M') :
    ∀ (m i : Nat), i + m = max n 1 → 1 ≤ i → ∀ (M : am_M) (v4 : Value), jk v4 → rgF M0 M → TkX M s g z v wt dep dr ld B Y → (∀ k, k < i → decide (cl3 wt v Y k < k) = false) → am_P am_P0 (d + 4) (am_look tX8_clashOfTwo) 19 [.ref (173 + 13 * s), .int x1, .int (nI n), .int (nI i), v4] [] M Q := by
  intro m
  induction m with
  | zero =>
    intro i hi h1 M v4 j4 hM hT hno
    have h48 := hT.2.2.2.2.1
    have hle : nI n ≤ nI i := (ni_le (by omega) (by omega)).mpr (by omega)
    have hf : cl2 wt v Y n = n := fs_all (fun k hk => hno k (by omega))
    have h0 := hQ M hM
    rw [hf, if_neg (by omega)] at h0
    rw [hX8_clashOfTwo_19]
    simp +decide only [qX8_clashOfTwo, am_w1_i, am_w1_r, am_w1_x, am_w1_l, am_w1_w, va_rf_s, am_push_n, am_push_s, am_cs_0, am_cs_i, am_cs_l, am_cs_r, m_uI_K, m_uI_N, m_uI_R, m_uI_L, m_uI_I, m_uL_K, m_uL_N, m_uL_R, m_uL_I, m_uL_L, m_uR_K, m_uR_N, m_uR_I, m_uR_L, m_uR_R, true_and, and_true]
    rw [br_p hle]
    exact h0
  | succ m ih =>
    intro i hi h1 M v4 j4 hM hT hno
    have h48 := hT.2.2.2.2.1
    have hin : i < n := by omega
    have hlt : ¬ nI n ≤ nI i := by rw [ni_le (by omega) (by omega)]; omega
    rw [hX8_clashOfTwo_19]
    simp +decide only [qX8_clashOfTwo, am_w1_i, am_w1_r, am_w1_x, am_w1_l, am_w1_w, va_rf_s, am_push_n, am_push_s, am_cs_0, am_cs_i, am_cs_l, am_cs_r, m_uI_K, m_uI_N, m_uI_R, m_uI_L, m_uI_I, m_uL_K, m_uL_N, m_uL_R, m_uL_I, m_uL_L, m_uR_K, m_uR_N, m_uR_I, m_uR_L, m_uR_R, true_and, and_true]
    rw [br_n hlt, show (0 : Int32) = nI 0 from rfl]
    refine l_x_clash3 d s g z v i n wt dep dr ld B Y M Q x1 hs hg hz hn hin (fun M1 g1 hc => ?_) (fun M1 v4' g1 j4' hc => ?_) i 0 (by omega) M (rgF_refl hM.1 hM.2.1) hT (fun k hk => by omega)
    · have hf : cl2 wt v Y n = i := fs_is hno hin (decide_eq_true hc)
      have h0 := hQ M1 (rgF_trans hM g1)
      rw [hf, if_pos hin] at h0
      exact h0
    · refine ih (i + 1) (by omega) (by omega) M1 v4' j4' (rgF_trans hM g1) (TkX_z hs hg hz hT (zF_r g1 : zF (fun _ _ => False) M M1) (fun _ _ _ q => q)) (fun k hk => ?_)
      by_cases ek : k = i
      · subst ek; exact decide_eq_false (by omega)
      · exact hno k (by omega)
theorem c_x_clashOfTwo (d s g z v n : Nat) (wt : Nat → Prop) (dep : Nat → Nat) (dr ld : Nat) (B : List Fct) (Y : List Sy) (M : am_M) (Q : Option Value → am_M → Prop) (hL : Lay M) (hI : RInv M) (hs : s < 8) (hg : isSh g) (hz : z = 2 ∨ z = 83) (hn : n ≤ Y.length) (hT : TkX M s g z v wt dep dr ld B Y)
    (hQ : ∀ M', rgF M M' → Q (some (.int (if cl2 wt v Y n < n then nI (48 * cl2 wt v Y n + cl3 wt v Y (cl2 wt v Y n)) else -1))) M') : am_E am_P0 (d + 4) 92 [.ref (173 + 13 * s), .int (oI n Y.length)] M Q := by
  have h48 := hT.2.2.2.2.1
  have hR := hT.2.1.1
  obtain ⟨w, hwe⟩ : ∃ w, w = 173 + 13 * s := ⟨_, rfl⟩
  have hw : isTr w := ⟨s, hs, hwe⟩
  have h0 := fun x1 => l_x_clash2 d s g z v n wt dep dr ld B Y M Q x1 hs hg hz hn hQ (max n 1 - 1) 1 (by omega) (Nat.le_refl _) M am_x (Or.inl rfl) (rgF_refl hL hI) hT (fun k hk => by
    have e : k = 0 := by omega
    subst e
    exact decide_eq_false (by omega))
  rw [← hwe] at hR h0 ⊢
  rw [eX8_clashOfTwo]
  unfold oI
  by_cases c : n < Y.length
  · have h1 := h0 (nI n)
    rw [if_pos c]
    simp +decide only [qX8_clashOfTwo, lt_ hL hw, lw_ hL hg, hR, hT.2.2.2.1, am_w1_i, am_w1_r, am_w1_x, am_w1_l, am_w1_w, va_rf_s, am_push_n, am_push_s, am_cs_0, am_cs_i, am_cs_l, am_cs_r, m_uI_K, m_uI_N, m_uI_R, m_uI_L, m_uI_I, m_uL_K, m_uL_N, m_uL_R, m_uL_I, m_uL_L, m_uR_K, m_uR_N, m_uR_I, m_uR_L, m_uR_R, true_and, and_true]
    rw [br_q (nI_m1 (by omega))]
    exact h1
  · have h1 := h0 (-1)
    have e : n = Y.length := by omega
    rw [e] at h1
    rw [if_neg c]
    simp +decide only [qX8_clashOfTwo, lt_ hL hw, lw_ hL hg, hR, hT.2.2.2.1, am_w1_i, am_w1_r, am_w1_x, am_w1_l, am_w1_w, va_rf_s, am_push_n, am_push_s, am_cs_0, am_cs_i, am_cs_l, am_cs_r, m_uI_K, m_uI_N, m_uI_R, m_uI_L, m_uI_I, m_uL_K, m_uL_N, m_uL_R, m_uL_I, m_uL_L, m_uR_K, m_uR_N, m_uR_I, m_uR_L, m_uR_R, true_and, and_true, not_true_eq_false, not_false_eq_true, true_implies, false_implies]
    exact h1
end
section
/-! the class: firstBar -/
def fY (Z : List Sy) : List Fct := Z.map (fun y => (y.2.1, y.1, y.1))
theorem fY_take {Y : List Sy} {i : Nat} {y : Sy} (hy : Y[i]? = some y) : fY (Y.take (i + 1)) = fY (Y.take i) ++ [(y.2.1, y.1, y.1)] := by
  have e : Y.take (i + 1) = Y.take i ++ [y] := by
    rw [List.take_add_one, hy]
    rfl
  unfold fY
  rw [e, List.map_append]
  rfl
theorem fY_mem {Z : List Sy} {a : Fct} : a ∈ fY Z ↔ ∃ y, y ∈ Z ∧ a = (y.2.1, y.1, y.1) := by
  unfold fY
  rw [List.mem_map]
  exact ⟨fun ⟨y, h1, h2⟩ => ⟨y, h1, h2.symm⟩, fun ⟨y, h1, h2⟩ => ⟨y, h1, h2.symm⟩⟩
theorem ordF_fY (Z : List Sy) : ordF (fY Z) := fun a ha => by
  obtain ⟨y, -, rfl⟩ := fY_mem.mp ha
  exact Nat.le_refl _
def fbP (wt : Nat → Prop) (v : Nat) (snd : Nat → Bool → Prop) (B : List Fct) (Y : List Sy) (i : Nat) : Prop := fitP wt v (B ++ fY (Y.take (i + 1))) ∧ ∀ y, y ∈ Y.take (i + 1) → snd y.2.1 y.2.2
noncomputable def brY (wt : Nat → Prop) (v : Nat) (snd : Nat → Bool → Prop) (B : List Fct) (Y : List Sy) : Nat := fs (fun i => !dB (fbP wt v snd B Y i)) Y.length
theorem l_x_bar (d s g z v : Nat) (wt : Nat → Prop) (dep : Nat → Nat) (dr ld : Nat) (B : List Fct) (Y : List Sy) (M0 : am_M) (Q : Option Value → am_M → Prop) (hs : s < 8) (hg : isSh g) (hz : z = 2 ∨ z = 83) (hoB : ordF B)
    (hQ : ∀ M', xF s M0 M' → Q (some (.int (oI (brY wt v (sndP dep dr ld) B Y) Y.length))) M') :
    ∀ (m i : Nat), i + m = Y.length → ∀ (M : am_M), xF s M0 M → TkX M s g z v wt dep dr ld B Y → LnP M (173 + 13 * s) (cov (B ++ fY (Y.take i))) → (∀ y, y ∈ Y.take i → sndP dep dr ld y.2.1 y.2.2) → (∀ k, k < i → (!dB (fbP wt v (sndP dep dr ld) B Y k)) = false) → am_P am_P0 (d + 4) (am_look tX8_firstBar) 7 [.ref (173 + 13 * s), .int 1, .int (nI i)] [] M Q := by
  obtain ⟨w, hwe⟩ : ∃ w, w = 173 + 13 * s := ⟨_, rfl⟩
  have hw : isTr w := ⟨s, hs, hwe⟩
  have hgl := isSh_lt hg
  have e6 : w + 6 = 179 + 13 * s := by omega
  have e1 : w + 1 = 174 + 13 * s := by omega
  intro m
  induction m with
  | zero =>
    intro i hi M hM hT hc hsn hno
    have h48 := hT.2.2.2.2.1
    have hR := hT.2.1.1
    have e : i = Y.length := by omega
    subst e
    have hle : nI Y.length ≤ nI Y.length := (ni_le (by omega) (by omega)).mpr (Nat.le_refl _)
    have hf : brY wt v (sndP dep dr ld) B Y = Y.length := fs_all hno
    have h0 := hQ M hM
    rw [hf] at h0
    unfold oI at h0
    rw [if_neg (by omega)] at h0
    rw [← hwe] at hR ⊢
    rw [hX8_firstBar_7]
    simp +decide only [qX8_firstBar_0, qX8_firstBar_1, lt_ hM.1 hw, lw_ hM.1 hg, hR, hT.2.2.2.1, am_w1_i, am_w1_r, am_w1_x, am_w1_l, am_w1_w, va_rf_s, am_push_n, am_push_s, am_cs_0, am_cs_i, am_cs_l, am_cs_r, m_uI_K, m_uI_N, m_uI_R, m_uI_L, m_uI_I, m_uL_K, m_uL_N, m_uL_R, m_uL_I, m_uL_L, m_uR_K, m_uR_N, m_uR_I, m_uR_L, m_uR_R, true_and, and_true]
    rw [br_p hle]
    exact h0
  | succ m ih =>
    intro i hi M hM hT hc hsn hno
    have hL := hM.1
    have h48 := hT.2.2.2.2.1
    have hR := hT.2.1.1
    have hD := hT.2.1
    have hlt : ¬ nI Y.length ≤ nI i := by rw [ni_le (by omega) (by omega)]; omega
    obtain ⟨y, hy⟩ : ∃ y, Y[i]? = some y := ⟨Y[i]'(by omega), List.getElem?_eq_getElem (by omega)⟩
    obtain ⟨⟨y1, y2⟩, y3, y4, y5⟩ := hT.2.2.2.2.2 i y hy
    have etk : Y.take (i + 1) = Y.take i ++ [y] := by
      rw [List.take_add_one, hy]
      rfl
    have hord : ordF (B ++ fY (Y.take (i + 1))) := ordF_app hoB (ordF_fY _)
    have bad : ¬ fbP wt v (sndP dep dr ld) B Y i → ∀ M', xF s M M' → Q (some (.int (nI i))) M' := fun hn M' g1 => by
      have hf : brY wt v (sndP dep dr ld) B Y = i := fs_is hno (by omega) (by rw [dB_f.mpr hn]; rfl)
      have h0 := hQ M' (xF_trans hM g1)
      rw [hf] at h0
      unfold oI at h0
      rw [if_pos (by omega)] at h0
      exact h0
    have ecv : ∀ h p, (cov (B ++ fY (Y.take i)) h p ∨ (h = y.1 ∧ p = y.2.1)) ↔ cov (B ++ fY (Y.take (i + 1))) h p := fun h p => by
      rw [fY_take hy, ← List.append_assoc, cov_app (B ++ fY (Y.take i)), cov_one]
    rw [← hwe] at hR hD hc ⊢
    have hso := fun Q => c_x_isSound (d + 3) w g z y.2.1 y.2.2 dep dr ld M Q hL hw hg hz hD y2
    have hput := fun Q => c_x_lput (d + 3) w y.1 y.2.1 M Q _ hL hw hc y1 y2
    rw [hX8_firstBar_7]
    simp +decide (disch := omega) only [qX8_firstBar_0, qX8_firstBar_1, lt_ hL hw, lw_ hL hg, hR, hT.2.2.2.1, y3, y4, y5, hso, hput, ni_in_t, ni_tn, ni_add1, am_w1_i, am_w1_r, am_w1_x, am_w1_l, am_w1_w, va_rf_s, am_push_n, am_push_s, am_cs_0, am_cs_i, am_cs_l, am_cs_r, m_uI_K, m_uI_N, m_uI_R, m_uI_L, m_uI_I, m_uL_K, m_uL_N, m_uL_R, m_uL_I, m_uL_L, m_uR_K, m_uR_N, m_uR_I, m_uR_L, m_uR_R, true_and, and_true, not_true_eq_false, not_false_eq_true, true_implies, false_implies]
    rw [br_n hlt]
    by_cases c1 : sndP dep dr ld y.2.1 y.2.2
    · rw [tI_t c1, br_n (by decide)]
      by_cases c2 : ∀ q, cov (B ++ fY (Y.take i)) y.1 q → q = y.2.1
      · rw [br_p c2]
        have g2 : oS (sL w) M (uI M (w + 7) y.1 (nI y.2.1)) := ⟨fun a j h => by rw [m_uI_I, if_neg (fun z => h z.1)], fun _ _ => rfl, fun _ _ => rfl, rfl⟩
        have x2 : xF s M (uI M (w + 7) y.1 (nI y.2.1)) := xF_L hs hL hM.2.1 (by rw [← hwe]; exact g2)
        have hc2 := LnP_ext ecv (LnP_put hc y1 y2 c2)
        have hT2 := TkX_z hs hg hz hT (zF_x x2) (fun a j ha q => by omega)
        rw [e6, e1]
        refine c_x_holds d s v wt _ _ _ hs x2.1 x2.2.1 (by rw [← hwe]; exact hc2) hT2.1 (fun M3 g3 => ?_)
        have hfl := fit_lin (w := wt) (v := v) hord
        have x3 : xF s M M3 := xF_trans x2 (xF_r g3)
        simp +decide only [qX8_firstBar_0, qX8_firstBar_1, ni_add1, am_w1_i, am_w1_r, am_w1_x, am_w1_l, am_w1_w, va_rf_s, am_push_n, am_push_s, am_cs_0, am_cs_i, am_cs_l, am_cs_r, m_uI_K, m_uI_N, m_uI_R, m_uI_L, m_uI_I, m_uL_K, m_uL_N, m_uL_R, m_uL_I, m_uL_L, m_uR_K, m_uR_N, m_uR_I, m_uR_L, m_uR_R, true_and, and_true]
        by_cases c3 : linP wt v (cov (B ++ fY (Y.take (i + 1))))
        · rw [tI_t c3, br_p (by decide), hwe]
          refine ih (i + 1) (by omega) M3 (xF_trans hM x3) (TkX_z hs hg hz hT2 (zF_r g3 : zF (fun _ _ => False) _ M3) (fun _ _ _ q => q)) (LnP_I (by rw [← hwe]; exact hc2) (fun j => g3.2.2.2.1 _ _ (by omega) (fun s' hs' => by omega))) (fun y' hy' => ?_) (fun k hk => ?_)
          · rw [etk] at hy'
            rcases List.mem_append.mp hy' with q | q
            · exact hsn y' q
            · rw [List.mem_singleton] at q
              subst q
              exact c1
          · by_cases ek : k = i
            · subst ek
              have hsn2 : ∀ y', y' ∈ Y.take (k + 1) → sndP dep dr ld y'.2.1 y'.2.2 := fun y' hy' => by
                rw [etk] at hy'
                rcases List.mem_append.mp hy' with q | q
                · exact hsn y' q
                · rw [List.mem_singleton] at q
                  subst q
                  exact c1
              rw [dB_t.mpr (show fbP wt v (sndP dep dr ld) B Y k from ⟨hfl.mpr c3, hsn2⟩)]
              rfl
            · exact hno k (by omega)
        · rw [tI_f c3, br_n (by decide)]
          exact bad (fun q => c3 (hfl.mp q.1)) M3 x3
      · rw [br_n c2]
        refine bad (fun q => c2 (fun p hp => ?_)) M (xF_refl hL hM.2.1)
        exact lin_uniq ((fit_lin hord).mp q.1) y.1 p y.2.1 ((ecv _ _).mp (Or.inl hp)) ((ecv _ _).mp (Or.inr ⟨rfl, rfl⟩))
    · rw [tI_f c1, br_p rfl]
      exact bad (fun q => c1 (q.2 y (by rw [etk]; exact List.mem_append_right _ (List.mem_singleton.mpr rfl)))) M (xF_refl hL hM.2.1)
theorem c_x_firstBar (d s g z v : Nat) (wt : Nat → Prop) (dep : Nat → Nat) (dr ld : Nat) (B : List Fct) (Y : List Sy) (M : am_M) (Q : Option Value → am_M → Prop) (hL : Lay M) (hI : RInv M) (hs : s < 8) (hg : isSh g) (hz : z = 2 ∨ z = 83) (hT : TkX M s g z v wt dep dr ld B Y)
    (hQ : ∀ M', xF s M M' → Q (some (.int (oI (brY wt v (sndP dep dr ld) B Y) Y.length))) M') : am_E am_P0 (d + 4) 80 [.ref (173 + 13 * s)] M Q := by
  obtain ⟨w, hwe⟩ : ∃ w, w = 173 + 13 * s := ⟨_, rfl⟩
  have hw : isTr w := ⟨s, hs, hwe⟩
  have hgl := isSh_lt hg
  have hord := BkX_ord hT.2.2.1
  have hR := hT.2.1.1
  have h48 := hT.2.2.2.2.1
  rw [← hwe] at hR ⊢
  rw [eX8_firstBar]
  simp +decide only [qX8_firstBar_0, qX8_firstBar_1, lt_ hL hw, am_w1_i, am_w1_r, am_w1_x, am_w1_l, am_w1_w, va_rf_s, am_push_n, am_push_s, am_cs_0, am_cs_i, am_cs_l, am_cs_r, m_uI_K, m_uI_N, m_uI_R, m_uI_L, m_uI_I, m_uL_K, m_uL_N, m_uL_R, m_uL_I, m_uL_L, m_uR_K, m_uR_N, m_uR_I, m_uR_L, m_uR_R, true_and, and_true]
  refine c_x_layBooks (d + 1) w g B M _ hL hw hg hR hT.2.2.1 (fun M1 g1 hn => ?_) (fun M1 g1 hc => ?_)
  · have x1 : xF s M M1 := xF_L hs hL hI (by rw [← hwe]; exact g1)
    have hT1 := TkX_z hs hg hz hT (zF_x x1) (fun a j ha q => by omega)
    have hR1 := hT1.2.1.1
    have h0 := hQ M1 x1
    have hnf : ∀ i, ¬ fbP wt v (sndP dep dr ld) B Y i := fun i q => hn (lin_uniq ((fit_lin hord).mp (fun a ha b hb => q.1 a (List.mem_append_left _ ha) b (List.mem_append_left _ hb))))
    rw [← hwe] at hR1
    have hf : brY wt v (sndP dep dr ld) B Y = 0 := by
      unfold brY
      by_cases e : Y.length = 0
      · rw [e]; rfl
      · exact fs_is (fun k hk => by omega) (by omega) (by rw [dB_f.mpr (hnf 0)]; rfl)
    rw [hf] at h0
    unfold oI at h0
    simp +decide only [qX8_firstBar_0, qX8_firstBar_1, hX8_firstBar_7, lt_ x1.1 hw, lw_ x1.1 hg, hR1, hT1.2.2.2.1, am_w1_i, am_w1_r, am_w1_x, am_w1_l, am_w1_w, va_rf_s, am_push_n, am_push_s, am_cs_0, am_cs_i, am_cs_l, am_cs_r, m_uI_K, m_uI_N, m_uI_R, m_uI_L, m_uI_I, m_uL_K, m_uL_N, m_uL_R, m_uL_I, m_uL_L, m_uR_K, m_uR_N, m_uR_I, m_uR_L, m_uR_R, true_and, and_true, true_implies, false_implies]
    by_cases e : Y.length = 0
    · rw [if_neg (by omega)] at h0
      rw [br_p (by rw [e]; decide)]
      exact h0
    · rw [if_pos (by omega)] at h0
      rw [br_n (fun q => by rw [show (0 : Int32) = nI 0 from rfl, ni_le (by omega) (by omega)] at q; omega)]
      exact h0
  · have x1 : xF s M M1 := xF_L hs hL hI (by rw [← hwe]; exact g1)
    have hT1 := TkX_z hs hg hz hT (zF_x x1) (fun a j ha q => by omega)
    simp +decide only [qX8_firstBar_0, qX8_firstBar_1, am_w1_i, am_w1_r, am_w1_x, am_w1_l, am_w1_w, va_rf_s, am_push_n, am_push_s, am_cs_0, am_cs_i, am_cs_l, am_cs_r, m_uI_K, m_uI_N, m_uI_R, m_uI_L, m_uI_I, m_uL_K, m_uL_N, m_uL_R, m_uL_I, m_uL_L, m_uR_K, m_uR_N, m_uR_I, m_uR_L, m_uR_R, true_and, and_true]
    rw [hwe, show (0 : Int32) = nI 0 from rfl]
    refine l_x_bar d s g z v wt dep dr ld B Y M Q hs hg hz hord hQ Y.length 0 (by omega) M1 x1 hT1 ?_ (fun y hy => by rw [List.take_zero] at hy; cases hy) (fun k hk => by omega)
    have e : B ++ fY (Y.take 0) = B := List.append_nil B
    rw [e, ← hwe]
    exact hc
end
section
/-! the class: findClock -/
def stP (wt : Nat → Prop) (v : Nat) (snd : Nat → Bool → Prop) (B : List Fct) (Y : List Sy) (x : Int) : Prop := (∃ y, y ∈ Y ∧ ¬ hrOf y.1 x = none) ∧ syS Y x snd ∧ fitP wt v (B ++ syF Y x)
theorem c_x_staysWith (d s g z v : Nat) (wt : Nat → Prop) (dep : Nat → Nat) (dr ld : Nat) (B : List Fct) (Y : List Sy) (sh : Int32) (M : am_M) (Q : Option Value → am_M → Prop) (hL : Lay M) (hI : RInv M) (hs : s < 8) (hg : isSh g) (hz : z = 2 ∨ z = 83) (hsr : srtY Y) (hT : TkX M s g z v wt dep dr ld B Y) (h1 : -40 ≤ sh.toInt) (h2 : sh.toInt ≤ 40)
    (hQ : ∀ M', xF s M M' → Q (some (.int (tI (stP wt v (sndP dep dr ld) B Y sh.toInt)))) M') : am_E am_P0 (d + 5) 82 [.ref (173 + 13 * s), .int sh] M Q := by
  obtain ⟨w, hwe⟩ : ∃ w, w = 173 + 13 * s := ⟨_, rfl⟩
  have hw : isTr w := ⟨s, hs, hwe⟩
  have h48 := hT.2.2.2.2.1
  have hR := hT.2.1.1
  have no : ¬ (∃ y, y ∈ Y ∧ ¬ hrOf y.1 sh.toInt = none) → Q (some (.int 0)) M := fun hn => by
    have h0 := hQ M (xF_refl hL hI)
    rw [tI_f (fun q => hn q.1)] at h0
    exact h0
  rw [← hwe] at hR ⊢
  rw [eX8_staysWith]
  by_cases c0 : Y.length = 0
  · have h0 := no (fun ⟨y, hy, _⟩ => by rw [List.length_eq_zero_iff.mp c0] at hy; cases hy)
    have e : mI M g 5 = 0 := by rw [hT.2.2.2.1, c0]; rfl
    simp +decide only [qX8_staysWith_0, qX8_staysWith_1, lt_ hL hw, lw_ hL hg, hR, e, am_w1_i, am_w1_r, am_w1_x, am_w1_l, am_w1_w, va_rf_s, am_push_n, am_push_s, am_cs_0, am_cs_i, am_cs_l, am_cs_r, m_uI_K, m_uI_N, m_uI_R, m_uI_L, m_uI_I, m_uL_K, m_uL_N, m_uL_R, m_uL_I, m_uL_L, m_uR_K, m_uR_N, m_uR_I, m_uR_L, m_uR_R, true_and, and_true, true_implies, false_implies]
    exact h0
  · have hn0 : ¬ nI Y.length ≤ 0 := by rw [show (0 : Int32) = nI 0 from rfl, ni_le (by omega) (by omega)]; omega
    obtain ⟨a, ha⟩ : ∃ y, Y[0]? = some y := ⟨Y[0]'(by omega), List.getElem?_eq_getElem (by omega)⟩
    obtain ⟨b, hb⟩ : ∃ y, Y[Y.length - 1]? = some y := ⟨Y[Y.length - 1]'(by omega), List.getElem?_eq_getElem (by omega)⟩
    obtain ⟨⟨a1, a2⟩, a3, a4, a5⟩ := hT.2.2.2.2.2 0 a ha
    obtain ⟨⟨b1, b2⟩, b3, b4, b5⟩ := hT.2.2.2.2.2 (Y.length - 1) b hb
    have el : nI Y.length - 1 = nI (Y.length - 1) := by rw [show (1 : Int32) = nI 1 from rfl, ni_sub (by omega)]
    have ea := i32_add (sh := sh) a1 (by omega) (by omega)
    have eb := i32_add (sh := sh) b1 (by omega) (by omega)
    have t0 : (0 : Int32).toInt.toNat = 0 := rfl
    have i0 : (0 : Int) ≤ (0 : Int32).toInt := by decide
    have a3' : mI M (g + 1) 0 = nI a.1 := a3
    have l1 : (nI b.1 + sh < 0) ↔ ((b.1 : Int) + sh.toInt < 0) := by rw [Int32.lt_iff_toInt_lt, eb]; exact Iff.rfl
    have l2 : ((48 : Int32) ≤ nI a.1 + sh) ↔ (48 ≤ (a.1 : Int) + sh.toInt) := by rw [Int32.le_iff_toInt_le, ea]; exact Iff.rfl
    have hab : a.1 ≤ b.1 := by
      by_cases e : Y.length - 1 = 0
      · rw [e] at hb; cases ha.symm.trans hb; exact Nat.le_refl _
      · exact Nat.le_of_lt (srtY_lt hsr ha hb (by omega))
    have hmid : ∀ y, y ∈ Y → a.1 ≤ y.1 ∧ y.1 ≤ b.1 := fun y hy => by
      obtain ⟨k, hk⟩ := List.mem_iff_getElem?.mp hy
      have hkl := (List.getElem?_eq_some_iff.mp hk).1
      constructor
      · by_cases e : k = 0
        · subst e; cases ha.symm.trans hk; exact Nat.le_refl _
        · exact Nat.le_of_lt (srtY_lt hsr ha hk (by omega))
      · by_cases e : k = Y.length - 1
        · subst e; cases hb.symm.trans hk; exact Nat.le_refl _
        · exact Nat.le_of_lt (srtY_lt hsr hk hb (by omega))
    have hleft : (∃ y, y ∈ Y ∧ ¬ hrOf y.1 sh.toInt = none) ↔ (0 ≤ (b.1 : Int) + sh.toInt ∧ (a.1 : Int) + sh.toInt < 48) := by
      constructor
      · rintro ⟨y, hy, hh⟩
        have hm := hmid y hy
        by_cases q : 0 ≤ (y.1 : Int) + sh.toInt ∧ (y.1 : Int) + sh.toInt < 48
        · omega
        · exact absurd (if_neg q) hh
      · rintro ⟨q1, q2⟩
        by_cases q : 0 ≤ (a.1 : Int) + sh.toInt
        · refine ⟨a, List.mem_of_getElem? ha, fun hh => ?_⟩
          unfold hrOf at hh
          rw [if_pos ⟨q, q2⟩] at hh
          cases hh
        · refine ⟨b, List.mem_of_getElem? hb, fun hh => ?_⟩
          unfold hrOf at hh
          rw [if_pos ⟨q1, by omega⟩] at hh
          cases hh
    simp +decide (disch := omega) only [qX8_staysWith_0, qX8_staysWith_1, lt_ hL hw, lw_ hL hg, hR, hT.2.2.2.1, el, b3, a3', t0, i0, ni_in_t, ni_tn, am_w1_i, am_w1_r, am_w1_x, am_w1_l, am_w1_w, va_rf_s, am_push_n, am_push_s, am_cs_0, am_cs_i, am_cs_l, am_cs_r, m_uI_K, m_uI_N, m_uI_R, m_uI_L, m_uI_I, m_uL_K, m_uL_N, m_uL_R, m_uL_I, m_uL_L, m_uR_K, m_uR_N, m_uR_I, m_uR_L, m_uR_R, true_and, and_true, true_implies, false_implies]
    rw [br_n hn0]
    by_cases c1 : nI b.1 + sh < 0
    · rw [br_p c1]
      refine no (fun q => ?_)
      have := hleft.mp q
      have := l1.mp c1
      omega
    · rw [br_n c1]
      by_cases c2 : (48 : Int32) ≤ nI a.1 + sh
      · rw [br_p c2]
        refine no (fun q => ?_)
        have := hleft.mp q
        have := l2.mp c2
        omega
      · rw [br_n c2]
        have hl : ∃ y, y ∈ Y ∧ ¬ hrOf y.1 sh.toInt = none := hleft.mpr ⟨by have := mt l1.mpr c1; omega, by have := mt l2.mpr c2; omega⟩
        rw [hwe]
        refine c_x_fits d s g z g v wt dep dr ld B Y Y sh false M _ hL hI hs hg hg hz (by omega) (by omega) hT.2.1 hT.2.2.1 hT.2.2.2 hT.2.2.2 hT.1 (fun M1 g1 => ?_)
        have h0 := hQ M1 g1
        have e : ownS false Y (sndP dep dr ld) ∧ syS Y sh.toInt (sndP dep dr ld) ∧ fitP wt v (B ++ ownF false Y ++ syF Y sh.toInt) ↔ stP wt v (sndP dep dr ld) B Y sh.toInt := by
          have e2 : B ++ ownF false Y = B := List.append_nil B
          rw [e2]
          exact ⟨fun q => ⟨hl, q.2⟩, fun q => ⟨fun h => (by cases h), q.2⟩⟩
        rw [tI_i e]
        simp +decide only [qX8_staysWith_0, qX8_staysWith_1, am_w1_i, am_w1_r, am_w1_x, am_w1_l, am_w1_w, va_rf_s, am_push_n, am_push_s, am_cs_0, am_cs_i, am_cs_l, am_cs_r, m_uI_K, m_uI_N, m_uI_R, m_uI_L, m_uI_I, m_uL_K, m_uL_N, m_uL_R, m_uL_I, m_uL_L, m_uR_K, m_uR_N, m_uR_I, m_uR_L, m_uR_R, true_and, and_true]
        by_cases c3 : stP wt v (sndP dep dr ld) B Y sh.toInt
        · rw [tI_t c3] at h0 ⊢
          rw [br_n (by decide)]
          exact h0
        · rw [tI_f c3] at h0 ⊢
          rw [br_p rfl]
          exact h0
/-- the k-th clock that is tried -/
def dI (k : Nat) : Int32 := if k % 2 = 0 then nI (k / 2) else -nI ((k + 1) / 2)
noncomputable def ckN (wt : Nat → Prop) (v : Nat) (snd : Nat → Bool → Prop) (B : List Fct) (Y : List Sy) : Nat := fs (fun k => dB (stP wt v snd B Y (dI k).toInt)) 13
noncomputable def ckY (wt : Nat → Prop) (v : Nat) (snd : Nat → Bool → Prop) (B : List Fct) (Y : List Sy) : Int32 := if ckN wt v snd B Y < 13 then dI (ckN wt v snd B Y) else 100
theorem dI_b : ∀ k, k < 13 → -40 ≤ (dI k).toInt ∧ (dI k).toInt ≤ 40 := by decide +kernel
theorem l_x_clock (d s g z v : Nat) (wt : Nat → Prop) (dep : Nat → Nat) (dr ld : Nat) (B : List Fct) (Y : List Sy) (M0 : am_M) (Q : Option Value → am_M → Prop) (hs : s < 8) (hg : isSh g) (hz : z = 2 ∨ z = 83) (hsr : srtY Y)
    (hQ : ∀ M', xF s M0 M' → Q (some (.int (ckY wt v (sndP dep dr ld) B Y))) M') :
    ∀ (m n : Nat), n + m = 7 → ∀ (M : am_M), xF s M0 M → TkX M s g z v wt dep dr ld B Y → (∀ k, k + 1 < 2 * n → dB (stP wt v (sndP dep dr ld) B Y (dI k).toInt) = false) → am_P am_P0 (d + 6) (am_look tX8_findClock) 2 [.ref (173 + 13 * s), .int (nI n)] [] M Q := by
  intro m
  induction m with
  | zero =>
    intro n hn M hM hT hno
    have e : n = 7 := by omega
    subst e
    have hf : ckN wt v (sndP dep dr ld) B Y = 13 := fs_all (fun k hk => hno k (by omega))
    have h0 := hQ M hM
    unfold ckY at h0
    rw [hf, if_neg (by omega)] at h0
    rw [hX8_findClock_2]
    simp +decide only [qX8_findClock, am_w1_i, am_w1_r, am_w1_x, am_w1_l, am_w1_w, va_rf_s, am_push_n, am_push_s, am_cs_0, am_cs_i, am_cs_l, am_cs_r, m_uI_K, m_uI_N, m_uI_R, m_uI_L, m_uI_I, m_uL_K, m_uL_N, m_uL_R, m_uL_I, m_uL_L, m_uR_K, m_uR_N, m_uR_I, m_uR_L, m_uR_R, true_and, and_true, true_implies, false_implies]
    exact h0
  | succ m ih =>
    intro n hn M hM hT hno
    have hlt : ¬ (6 : Int32) < nI n := by rw [show (6 : Int32) = nI 6 from rfl, ni_lt (by omega) (by omega)]; omega
    have hk1 : 2 * n - 1 < 13 := by omega
    have e1 : -nI n = dI (2 * n - 1) := by
      unfold dI
      by_cases e0 : n = 0
      · subst e0; rfl
      · rw [if_neg (by omega), show (2 * n - 1 + 1) / 2 = n by omega]
    have e2 : nI n = dI (2 * n) := by
      unfold dI
      rw [if_pos (by omega), show 2 * n / 2 = n by omega]
    have b1 := dI_b (2 * n - 1) hk1
    have b2 := dI_b (2 * n) (by omega)
    have hit : ∀ k, k < 13 → (∀ j, j < k → dB (stP wt v (sndP dep dr ld) B Y (dI j).toInt) = false) → stP wt v (sndP dep dr ld) B Y (dI k).toInt → ∀ M', xF s M0 M' → Q (some (.int (dI k))) M' := fun k hk hj hst M' g => by
      have hf : ckN wt v (sndP dep dr ld) B Y = k := fs_is hj hk (dB_t.mpr hst)
      have h0 := hQ M' g
      unfold ckY at h0
      rw [hf, if_pos hk] at h0
      exact h0
    rw [hX8_findClock_2]
    simp +decide only [qX8_findClock, lt_ hM.1 (isTr_of hs), am_w1_i, am_w1_r, am_w1_x, am_w1_l, am_w1_w, va_rf_s, am_push_n, am_push_s, am_cs_0, am_cs_i, am_cs_l, am_cs_r, m_uI_K, m_uI_N, m_uI_R, m_uI_L, m_uI_I, m_uL_K, m_uL_N, m_uL_R, m_uL_I, m_uL_L, m_uR_K, m_uR_N, m_uR_I, m_uR_L, m_uR_R, true_and, and_true]
    rw [br_n hlt, e1]
    refine c_x_staysWith d s g z v wt dep dr ld B Y (dI (2 * n - 1)) M _ hM.1 hM.2.1 hs hg hz hsr hT b1.1 b1.2 (fun M1 g1 => ?_)
    have hT1 := TkX_z hs hg hz hT (zF_x g1) (fun a j ha q => by omega)
    by_cases c1 : stP wt v (sndP dep dr ld) B Y (dI (2 * n - 1)).toInt
    · have h0 := hit (2 * n - 1) hk1 (fun j hj => hno j (by omega)) c1 M1 (xF_trans hM g1)
      rw [tI_t c1]
      simp +decide only [qX8_findClock, e1, am_w1_i, am_w1_r, am_w1_x, am_w1_l, am_w1_w, va_rf_s, am_push_n, am_push_s, am_cs_0, am_cs_i, am_cs_l, am_cs_r, m_uI_K, m_uI_N, m_uI_R, m_uI_L, m_uI_I, m_uL_K, m_uL_N, m_uL_R, m_uL_I, m_uL_L, m_uR_K, m_uR_N, m_uR_I, m_uR_L, m_uR_R, true_and, and_true, true_implies, false_implies]
      exact h0
    · rw [tI_f c1]
      simp +decide only [qX8_findClock, lt_ g1.1 (isTr_of hs), am_w1_i, am_w1_r, am_w1_x, am_w1_l, am_w1_w, va_rf_s, am_push_n, am_push_s, am_cs_0, am_cs_i, am_cs_l, am_cs_r, m_uI_K, m_uI_N, m_uI_R, m_uI_L, m_uI_I, m_uL_K, m_uL_N, m_uL_R, m_uL_I, m_uL_L, m_uR_K, m_uR_N, m_uR_I, m_uR_L, m_uR_R, true_and, and_true, true_implies, false_implies]
      rw [e2]
      refine c_x_staysWith d s g z v wt dep dr ld B Y (dI (2 * n)) M1 _ g1.1 g1.2.1 hs hg hz hsr hT1 b2.1 b2.2 (fun M2 g2 => ?_)
      have hno2 : ∀ j, j < 2 * n → dB (stP wt v (sndP dep dr ld) B Y (dI j).toInt) = false := fun j hj => by
        by_cases e : j = 2 * n - 1
        · rw [e]; exact dB_f.mpr c1
        · exact hno j (by omega)
      by_cases c2 : stP wt v (sndP dep dr ld) B Y (dI (2 * n)).toInt
      · have h0 := hit (2 * n) (by omega) hno2 c2 M2 (xF_trans hM (xF_trans g1 g2))
        rw [tI_t c2]
        simp +decide only [qX8_findClock, am_w1_i, am_w1_r, am_w1_x, am_w1_l, am_w1_w, va_rf_s, am_push_n, am_push_s, am_cs_0, am_cs_i, am_cs_l, am_cs_r, m_uI_K, m_uI_N, m_uI_R, m_uI_L, m_uI_I, m_uL_K, m_uL_N, m_uL_R, m_uL_I, m_uL_L, m_uR_K, m_uR_N, m_uR_I, m_uR_L, m_uR_R, true_and, and_true, true_implies, false_implies]
        exact h0
      · have h0 := ih (n + 1) (by omega) M2 (xF_trans hM (xF_trans g1 g2)) (TkX_z hs hg hz hT1 (zF_x g2) (fun a j ha q => by omega)) (fun k hk => by
          by_cases e : k = 2 * n
          · rw [e]; exact dB_f.mpr c2
          · exact hno2 k (by omega))
        rw [tI_f c2, ← e2]
        simp +decide only [qX8_findClock, ni_add1, am_w1_i, am_w1_r, am_w1_x, am_w1_l, am_w1_w, va_rf_s, am_push_n, am_push_s, am_cs_0, am_cs_i, am_cs_l, am_cs_r, m_uI_K, m_uI_N, m_uI_R, m_uI_L, m_uI_I, m_uL_K, m_uL_N, m_uL_R, m_uL_I, m_uL_L, m_uR_K, m_uR_N, m_uR_I, m_uR_L, m_uR_R, true_and, and_true, true_implies, false_implies]
        exact h0
theorem c_x_findClock (d s g z v : Nat) (wt : Nat → Prop) (dep : Nat → Nat) (dr ld : Nat) (B : List Fct) (Y : List Sy) (M : am_M) (Q : Option Value → am_M → Prop) (hL : Lay M) (hI : RInv M) (hs : s < 8) (hg : isSh g) (hz : z = 2 ∨ z = 83) (hsr : srtY Y) (hT : TkX M s g z v wt dep dr ld B Y)
    (hQ : ∀ M', xF s M M' → Q (some (.int (ckY wt v (sndP dep dr ld) B Y))) M') : am_E am_P0 (d + 6) 81 [.ref (173 + 13 * s)] M Q := by
  rw [eX8_findClock]
  simp +decide only [qX8_findClock, am_w1_i, am_w1_r, am_w1_x, am_w1_l, am_w1_w, va_rf_s, am_push_n, am_push_s, am_cs_0, am_cs_i, am_cs_l, am_cs_r, m_uI_K, m_uI_N, m_uI_R, m_uI_L, m_uI_I, m_uL_K, m_uL_N, m_uL_R, m_uL_I, m_uL_L, m_uR_K, m_uR_N, m_uR_I, m_uR_L, m_uR_R, true_and, and_true]
  rw [show (0 : Int32) = nI 0 from rfl]
  exact l_x_clock d s g z v wt dep dr ld B Y M Q hs hg hz hsr hQ 7 0 rfl M (xF_refl hL hI) hT (fun k hk => by omega)
end
section
/-! the class: two sets -/
def mkO : Option Bool → Int32
  | none => 0
  | some true => 1
  | some false => 2
def sCo (s a _j : Nat) : Prop := a = 184 + 13 * s ∨ a = 185 + 13 * s
/-- which sayings can't be in one set -/
def KY (wt : Nat → Prop) (v : Nat) (Y : List Sy) (i j : Nat) : Prop := ¬ i = j ∧ ∃ y y', Y[i]? = some y ∧ Y[j]? = some y' ∧ ¬ gowY wt v y y'
def gY (wt : Nat → Prop) (v : Nat) (snd : Nat → Bool → Prop) (B : List Fct) (Y : List Sy) (i : Nat) : Prop := ∃ y, Y[i]? = some y ∧ goodY wt v snd B y
theorem hd_symm (a b : Nat) : hd_ a b = hd_ b a := by unfold hd_; split <;> split <;> omega
theorem gow_symm {wt : Nat → Prop} {v : Nat} {y y' : Sy} (h : gowY wt v y y') : gowY wt v y' y := by
  unfold gowY at *
  rw [hd_symm]
  exact wit_symm h
theorem KY_symm {wt : Nat → Prop} {v : Nat} {Y : List Sy} (i j : Nat) (h : KY wt v Y i j) : KY wt v Y j i := by
  obtain ⟨h1, y, y', h2, h3, h4⟩ := h
  exact ⟨fun e => h1 e.symm, y', y, h3, h2, fun q => h4 (gow_symm q)⟩
theorem KY_y {wt : Nat → Prop} {v : Nat} {Y : List Sy} {i j : Nat} {y y' : Sy} (h : Y[i]? = some y) (h' : Y[j]? = some y') : KY wt v Y i j ↔ ¬ i = j ∧ ¬ gowY wt v y y' := by
  constructor
  · rintro ⟨h1, z, z', h2, h3, h4⟩
    cases h.symm.trans h2
    cases h'.symm.trans h3
    exact ⟨h1, h4⟩
  · rintro ⟨h1, h4⟩
    exact ⟨h1, y, y', h, h', h4⟩
theorem gY_y {wt : Nat → Prop} {v : Nat} {snd : Nat → Bool → Prop} {B : List Fct} {Y : List Sy} {i : Nat} {y : Sy} (h : Y[i]? = some y) : gY wt v snd B Y i ↔ goodY wt v snd B y := by
  constructor
  · rintro ⟨z, h1, h2⟩; cases h.symm.trans h1; exact h2
  · intro h2; exact ⟨y, h, h2⟩
/-- marks and queue -/
def CoX (M : am_M) (s n : Nat) (S : Nat → Option Bool) (qu : Nat → Nat) (m : Nat) : Prop := (∀ i, i < n → mI M (184 + 13 * s) i = mkO (S i)) ∧ ∀ a, a < m → mI M (185 + 13 * s) a = nI (qu a)
theorem CoX_z {M M' : am_M} {s n m : Nat} {S : Nat → Option Bool} {qu : Nat → Nat} (h : CoX M s n S qu m) (h1 : ∀ a j, a = 184 + 13 * s ∨ a = 185 + 13 * s → mI M' a j = mI M a j) : CoX M' s n S qu m := ⟨fun i hi => by rw [h1 _ _ (Or.inl rfl)]; exact h.1 i hi, fun a ha => by rw [h1 _ _ (Or.inr rfl)]; exact h.2 a ha⟩
theorem colQ_m {n : Nat} {K : Nat → Nat → Prop} {gd : Nat → Prop} {S0 : Nat → Option Bool} {k : Nat} {S : Nat → Option Bool} {qu : Nat → Nat} {m : Nat} (h : colQ n K gd S0 k S qu m) : m ≤ n := by
  rw [← h.2.2.2.2.2.1]
  exact cnt_le _ _
theorem l_x_push2 (d s g z v k : Nat) (wt : Nat → Prop) (dep : Nat → Nat) (dr ld : Nat) (B : List Fct) (Y : List Sy) (gd : Nat → Prop) (S0 : Nat → Option Bool) (M0 : am_M) (Q : Option Value → am_M → Prop) (x1 x2 : Int32) (i : Nat) (y : Sy) (b : Bool) (hy : Y[i]? = some y) (hs : s < 8) (hg : isSh g) (hz : z = 2 ∨ z = 83)
    (hB : ∀ M', zF (sCo s) M0 M' → (∀ c, colV Y.length (KY wt v Y) gd c → ¬ colX Y.length S0 c) → Q (some (.int (-1))) M')
    (hN : ∀ M' S qu m v6 v7, zF (sCo s) M0 M' → TkX M' s g z v wt dep dr ld B Y → CoX M' s Y.length S qu m → colQ Y.length (KY wt v Y) gd S0 (k + 1) S qu m → jk v6 → jk v7 → am_P am_P0 (d + 3) (am_look tX8_pushApart) 5 [.ref (173 + 13 * s), .int x1, .int x2, .int (nI m), .int (nI (k + 1)), .int (nI i), v6, v7] [] M' Q) :
    ∀ (r j : Nat), j + r = Y.length → ∀ (M : am_M) (S : Nat → Option Bool) (qu : Nat → Nat) (m : Nat) (v7 : Value), zF (sCo s) M0 M → TkX M s g z v wt dep dr ld B Y → CoX M s Y.length S qu m → colQ Y.length (KY wt v Y) gd S0 k S qu m → k < m → qu k = i → S i = some b → (∀ j', j' < j → KY wt v Y i j' → S j' = some (!b)) → jk v7 → am_P am_P0 (d + 3) (am_look tX8_pushApart) 30 [.ref (173 + 13 * s), .int x1, .int x2, .int (nI m), .int (nI k), .int (nI i), .int (nI j), v7] [] M Q := by
  obtain ⟨w, hwe⟩ : ∃ w, w = 173 + 13 * s := ⟨_, rfl⟩
  have hw : isTr w := ⟨s, hs, hwe⟩
  have hgl := isSh_lt hg
  have e1 : 174 + 13 * s = w + 1 := by omega
  have e11 : 184 + 13 * s = w + 11 := by omega
  have e12 : 185 + 13 * s = w + 12 := by omega
  have hil := (List.getElem?_eq_some_iff.mp hy).1
  have nS : ∀ a j, a < 164 → ¬ sCo s a j := fun a j ha q => by unfold sCo at q; omega
  intro r
  induction r with
  | zero =>
    intro j hj M S qu m v7 hM hT hC hq hkm hqk hSi hd j7
    have h48 := hT.2.2.2.2.1
    have hR := hT.2.1.1
    have hmn := colQ_m hq
    have e : j = Y.length := by omega
    subst e
    have hle : nI Y.length ≤ nI Y.length := (ni_le (by omega) (by omega)).mpr (Nat.le_refl _)
    have h0 := hN M S qu m (.int (nI Y.length)) v7 hM hT hC (colQ_next hq hkm (fun j b' hj hK hb => by
      rw [hqk] at hK hb
      rw [hSi] at hb
      cases hb
      exact hd j hj hK)) (Or.inr ⟨_, rfl⟩) j7
    rw [← hwe] at hR h0 ⊢
    rw [hX8_pushApart_30]
    simp +decide only [qX8_pushApart_0, qX8_pushApart_1, qX8_pushApart_2, lt_ hM.1 hw, lw_ hM.1 hg, hR, hT.2.2.2.1, ni_add1, am_w1_i, am_w1_r, am_w1_x, am_w1_l, am_w1_w, va_rf_s, am_push_n, am_push_s, am_cs_0, am_cs_i, am_cs_l, am_cs_r, m_uI_K, m_uI_N, m_uI_R, m_uI_L, m_uI_I, m_uL_K, m_uL_N, m_uL_R, m_uL_I, m_uL_L, m_uR_K, m_uR_N, m_uR_I, m_uR_L, m_uR_R, true_and, and_true]
    rw [br_p hle]
    exact h0
  | succ r ih =>
    intro j hj M S qu m v7 hM hT hC hq hkm hqk hSi hd j7
    have hL := hM.1
    have h48 := hT.2.2.2.2.1
    have hR := hT.2.1.1
    have hmn := colQ_m hq
    have hlt : ¬ nI Y.length ≤ nI j := by rw [ni_le (by omega) (by omega)]; omega
    obtain ⟨y', hy'⟩ : ∃ y, Y[j]? = some y := ⟨Y[j]'(by omega), List.getElem?_eq_getElem (by omega)⟩
    obtain ⟨⟨y1, y2⟩, y3, y4, y5⟩ := hT.2.2.2.2.2 i y hy
    obtain ⟨⟨z1, z2⟩, z3, z4, z5⟩ := hT.2.2.2.2.2 j y' hy'
    have hab := fun Q => c_absd (d + 2) y.1 y'.1 M Q (by omega) (by omega)
    have hK := KY_y (wt := wt) (v := v) hy hy'
    rw [← hwe] at hR ⊢
    rw [hX8_pushApart_30]
    simp +decide (disch := omega) only [qX8_pushApart_0, qX8_pushApart_1, qX8_pushApart_2, lt_ hL hw, lw_ hL hg, hR, hT.2.2.2.1, y3, y4, z3, z4, hab, ni_in_t, ni_tn, ni_add1, am_w1_i, am_w1_r, am_w1_x, am_w1_l, am_w1_w, va_rf_s, am_push_n, am_push_s, am_cs_0, am_cs_i, am_cs_l, am_cs_r, m_uI_K, m_uI_N, m_uI_R, m_uI_L, m_uI_I, m_uL_K, m_uL_N, m_uL_R, m_uL_I, m_uL_L, m_uR_K, m_uR_N, m_uR_I, m_uR_L, m_uR_R, true_and, and_true]
    rw [br_n hlt]
    -- go on with the next
    have skip : ∀ M1 v7', zF (sCo s) M0 M1 → TkX M1 s g z v wt dep dr ld B Y → CoX M1 s Y.length S qu m → (KY wt v Y i j → S j = some (!b)) → jk v7' → am_P am_P0 (d + 3) (am_look tX8_pushApart) 30 [.ref w, .int x1, .int x2, .int (nI m), .int (nI k), .int (nI i), .int (nI (j + 1)), v7'] [] M1 Q := by
      intro M1 v7' g1 hT1 hC1 hj1 j7'
      have h0 := ih (j + 1) (by omega) M1 S qu m v7' g1 hT1 hC1 hq hkm hqk hSi (fun j' hj' hKj => by
        by_cases e : j' = j
        · subst e; exact hj1 hKj
        · exact hd j' (by omega) hKj) j7'
      rw [← hwe] at h0
      exact h0
    by_cases c0 : j = i
    · rw [br_p (by rw [c0])]
      exact skip M _ hM hT hC (fun q => absurd c0.symm q.1) (Or.inr ⟨_, rfl⟩)
    · rw [br_n (fun q => c0 ((ni_eq (by omega) (by omega)).mp q)), ← e1]
      refine c_x_isWithin d s y.2.1 y'.2.1 (hd_ y.1 y'.1) v wt M _ hL hM.2.1 hs y2 z2 (hd_lt y1 z1) hT.1 (fun M1 g1 => ?_)
      have hM1 : zF (sCo s) M0 M1 := zF_trans hM (zF_r g1)
      have L1 := hM1.1
      have hT1 := TkX_z hs hg hz hT (zF_r g1 : zF (sCo s) M M1) nS
      have hC1 : CoX M1 s Y.length S qu m := CoX_z hC (fun a j q => g1.2.2.2.1 a j (by omega) (fun s' hs' => by omega))
      by_cases c1 : gowY wt v y y'
      · have h0 := skip M1 (.int (nI (hd_ y.1 y'.1))) hM1 hT1 hC1 (fun q => absurd c1 (hK.mp q).2) (Or.inr ⟨_, rfl⟩)
        have hwi : tI (wit wt v y.2.1 y'.2.1 (hd_ y.1 y'.1)) = 1 := tI_t c1
        rw [hwi]
        simp +decide only [qX8_pushApart_0, qX8_pushApart_1, qX8_pushApart_2, ni_add1, am_w1_i, am_w1_r, am_w1_x, am_w1_l, am_w1_w, va_rf_s, am_push_n, am_push_s, am_cs_0, am_cs_i, am_cs_l, am_cs_r, m_uI_K, m_uI_N, m_uI_R, m_uI_L, m_uI_I, m_uL_K, m_uL_N, m_uL_R, m_uL_I, m_uL_L, m_uR_K, m_uR_N, m_uR_I, m_uR_L, m_uR_R, true_and, and_true, true_implies, false_implies]
        exact h0
      · have hwi : tI (wit wt v y.2.1 y'.2.1 (hd_ y.1 y'.1)) = 0 := tI_f c1
        have hKij : KY wt v Y i j := hK.mpr ⟨fun e => c0 e.symm, c1⟩
        have mi : mI M1 (w + 11) i = mkO (some b) := by rw [← e11, hC1.1 i hil, hSi]
        have mj : mI M1 (w + 11) j = mkO (S j) := by rw [← e11]; exact hC1.1 j (by omega)
        rw [hwi]
        simp +decide (disch := omega) only [qX8_pushApart_0, qX8_pushApart_1, qX8_pushApart_2, lt_ L1 hw, mi, mj, ni_in_t, ni_tn, ni_add1, am_w1_i, am_w1_r, am_w1_x, am_w1_l, am_w1_w, va_rf_s, am_push_n, am_push_s, am_cs_0, am_cs_i, am_cs_l, am_cs_r, m_uI_K, m_uI_N, m_uI_R, m_uI_L, m_uI_I, m_uL_K, m_uL_N, m_uL_R, m_uL_I, m_uL_L, m_uR_K, m_uR_N, m_uR_I, m_uR_L, m_uR_R, true_and, and_true, true_implies, false_implies]
        cases hSj : S j with
        | some b' =>
          by_cases eb : b' = b
          · have h0 := hB M1 hM1 (colQ_bad hq hkm (j := j) (b := b) (by omega) (by rw [hqk]; exact hKij) (by rw [hqk]; exact hSi) (by rw [hSj, eb]))
            rw [br_r (by rw [eb])]
            exact h0
          · have h0 := skip M1 (.int (nI (hd_ y.1 y'.1))) hM1 hT1 hC1 (fun q => by rw [hSj]; cases b <;> cases b' <;> simp_all) (Or.inr ⟨_, rfl⟩)
            have hne : ¬ mkO (some b') = mkO (some b) := by cases b <;> cases b' <;> first | exact absurd rfl eb | decide
            have hn0 : ¬ mkO (some b') = 0 := by cases b' <;> decide
            rw [br_q hne, br_q hn0]
            exact h0
        | none =>
          have hne : ¬ mkO none = mkO (some b) := by cases b <;> decide
          have e3 : 3 - mkO (some b) = mkO (some !b) := by cases b <;> decide
          have hp := colQ_push hq hkm (j := j) (b := b) (by omega) (by rw [hqk]; exact hKij) (by rw [hqk]; exact hSi) hSj
          have hmn' := colQ_m hp
          have z1' : zF (sCo s) M1 (uI M1 (w + 11) j (mkO (some !b))) := zF_i L1 hM1.2.1 _ (Or.inl e11.symm) (fun s' hs' => by omega)
          have z2' : zF (sCo s) (uI M1 (w + 11) j (mkO (some !b))) (uI (uI M1 (w + 11) j (mkO (some !b))) (w + 12) m (nI j)) := zF_i z1'.1 z1'.2.1 _ (Or.inr e12.symm) (fun s' hs' => by omega)
          have h0 := ih (j + 1) (by omega) (uI (uI M1 (w + 11) j (mkO (some !b))) (w + 12) m (nI j)) _ _ (m + 1) (.int (nI (hd_ y.1 y'.1))) (zF_trans hM1 (zF_trans z1' z2')) (TkX_z hs hg hz (TkX_z hs hg hz hT1 z1' nS) z2' nS) ⟨fun i' hi' => ?_, fun a ha => ?_⟩ hp (by omega) (by rw [if_neg (by omega)]; exact hqk) (by rw [if_neg (fun e => c0 e.symm)]; exact hSi) (fun j' hj' hKj => by
            by_cases e : j' = j
            · rw [if_pos e]
            · rw [if_neg e]; exact hd j' (by omega) hKj) (Or.inr ⟨_, rfl⟩)
          · have n1 : ¬ (w + 11 = w + 12) := by omega
            rw [br_q hne, br_r (show mkO none = 0 from rfl)]
            simp +decide (disch := omega) only [qX8_pushApart_0, qX8_pushApart_1, qX8_pushApart_2, lt_ L1 hw, mi, e3, ni_in_t, ni_tn, ni_add1, am_w1_i, am_w1_r, am_w1_x, am_w1_l, am_w1_w, va_rf_s, am_push_n, am_push_s, am_cs_0, am_cs_i, am_cs_l, am_cs_r, m_uI_K, m_uI_N, m_uI_R, m_uI_L, m_uI_I, m_uL_K, m_uL_N, m_uL_R, m_uL_I, m_uL_L, m_uR_K, m_uR_N, m_uR_I, m_uR_L, m_uR_R, true_and, and_true]
            rw [br_n (show ¬ (48 : Int32) ≤ nI m by rw [show (48 : Int32) = nI 48 from rfl, ni_le (by omega) (by omega)]; omega)]
            rw [← hwe] at h0
            exact h0
          · rw [m_uI_I, if_neg (by omega), m_uI_I, ← e11]
            by_cases e : i' = j
            · rw [if_pos ⟨rfl, e⟩, if_pos e]
            · rw [if_neg (fun q => e q.2), if_neg e]; exact hC1.1 i' hi'
          · rw [m_uI_I]
            by_cases e : a = m
            · rw [if_pos ⟨e12, e⟩, if_pos e]
            · rw [if_neg (fun q => e q.2), m_uI_I, if_neg (by omega), if_neg e]; exact hC1.2 a (by omega)
theorem l_x_push1 (d s g z v : Nat) (wt : Nat → Prop) (dep : Nat → Nat) (dr ld : Nat) (B : List Fct) (Y : List Sy) (gd : Nat → Prop) (S0 : Nat → Option Bool) (M0 : am_M) (Q : Option Value → am_M → Prop) (x1 x2 : Int32) (hs : s < 8) (hg : isSh g) (hz : z = 2 ∨ z = 83)
    (hB : ∀ M', zF (sCo s) M0 M' → (∀ c, colV Y.length (KY wt v Y) gd c → ¬ colX Y.length S0 c) → Q (some (.int (-1))) M')
    (hQ : ∀ M' S qu m, zF (sCo s) M0 M' → TkX M' s g z v wt dep dr ld B Y → CoX M' s Y.length S qu m → colQ Y.length (KY wt v Y) gd S0 m S qu m → Q (some (.int (nI m))) M') :
    ∀ (r k : Nat), k + r = Y.length → ∀ (M : am_M) (S : Nat → Option Bool) (qu : Nat → Nat) (m : Nat) (v5 v6 v7 : Value), zF (sCo s) M0 M → TkX M s g z v wt dep dr ld B Y → CoX M s Y.length S qu m → colQ Y.length (KY wt v Y) gd S0 k S qu m → jk v5 → jk v6 → jk v7 → am_P am_P0 (d + 3) (am_look tX8_pushApart) 5 [.ref (173 + 13 * s), .int x1, .int x2, .int (nI m), .int (nI k), v5, v6, v7] [] M Q := by
  obtain ⟨w, hwe⟩ : ∃ w, w = 173 + 13 * s := ⟨_, rfl⟩
  have hw : isTr w := ⟨s, hs, hwe⟩
  have e12 : 185 + 13 * s = w + 12 := by omega
  have hend : ∀ (k : Nat) (M : am_M) (S : Nat → Option Bool) (qu : Nat → Nat) (m : Nat) (v5 v6 v7 : Value), zF (sCo s) M0 M → TkX M s g z v wt dep dr ld B Y → CoX M s Y.length S qu m → colQ Y.length (KY wt v Y) gd S0 k S qu m → k = m → am_P am_P0 (d + 3) (am_look tX8_pushApart) 5 [.ref (173 + 13 * s), .int x1, .int x2, .int (nI m), .int (nI k), v5, v6, v7] [] M Q := by
    intro k M S qu m v5 v6 v7 hM hT hC hq e
    subst e
    have h48 := hT.2.2.2.2.1
    have hmn := colQ_m hq
    have hle : nI k ≤ nI k := (ni_le (by omega) (by omega)).mpr (Nat.le_refl _)
    rw [hX8_pushApart_5]
    simp +decide only [qX8_pushApart_0, qX8_pushApart_1, qX8_pushApart_2, am_w1_i, am_w1_r, am_w1_x, am_w1_l, am_w1_w, va_rf_s, am_push_n, am_push_s, am_cs_0, am_cs_i, am_cs_l, am_cs_r, m_uI_K, m_uI_N, m_uI_R, m_uI_L, m_uI_I, m_uL_K, m_uL_N, m_uL_R, m_uL_I, m_uL_L, m_uR_K, m_uR_N, m_uR_I, m_uR_L, m_uR_R, true_and, and_true]
    rw [br_p hle]
    exact hQ M S qu k hM hT hC hq
  intro r
  induction r with
  | zero =>
    intro k hk M S qu m v5 v6 v7 hM hT hC hq _ _ _
    have hmn := colQ_m hq
    have hkm := hq.2.2.2.2.2.2.1
    exact hend k M S qu m v5 v6 v7 hM hT hC hq (by omega)
  | succ r ih =>
    intro k hk M S qu m v5 v6 v7 hM hT hC hq j5 j6 j7
    have hmn := colQ_m hq
    have hkm := hq.2.2.2.2.2.2.1
    by_cases e : k = m
    · exact hend k M S qu m v5 v6 v7 hM hT hC hq e
    · have hlt2 : k < m := by omega
      have h48 := hT.2.2.2.2.1
      have hlt : ¬ nI m ≤ nI k := by rw [ni_le (by omega) (by omega)]; omega
      obtain ⟨q1, q2⟩ := hq.1 k hlt2
      obtain ⟨y, hy⟩ : ∃ y, Y[qu k]? = some y := ⟨Y[qu k]'q1, List.getElem?_eq_getElem q1⟩
      obtain ⟨b, hb⟩ : ∃ b, S (qu k) = some b := by
        cases h : S (qu k) with
        | none => exact absurd h q2
        | some b => exact ⟨b, rfl⟩
      have mk : mI M (w + 12) k = nI (qu k) := by rw [← e12]; exact hC.2 k hlt2
      have h0 := l_x_push2 d s g z v k wt dep dr ld B Y gd S0 M0 Q x1 x2 (qu k) y b hy hs hg hz hB (fun M' S' qu' m' v6' v7' a1 a2 a3 a4 a5 a6 => ih (k + 1) (by omega) M' S' qu' m' _ v6' v7' a1 a2 a3 a4 (Or.inr ⟨_, rfl⟩) a5 a6) Y.length 0 (by omega) M S qu m v7 hM hT hC hq hlt2 rfl hb (fun j' hj' => by omega) j7
      rw [← hwe] at h0 ⊢
      rw [hX8_pushApart_5]
      simp +decide (disch := omega) only [qX8_pushApart_0, qX8_pushApart_1, qX8_pushApart_2, lt_ hM.1 hw, mk, jk_w j5, ni_in_t, ni_tn, am_w1_i, am_w1_r, am_w1_x, am_w1_l, am_w1_w, va_rf_s, am_push_n, am_push_s, am_cs_0, am_cs_i, am_cs_l, am_cs_r, m_uI_K, m_uI_N, m_uI_R, m_uI_L, m_uI_I, m_uL_K, m_uL_N, m_uL_R, m_uL_I, m_uL_L, m_uR_K, m_uR_N, m_uR_I, m_uR_L, m_uR_R, true_and, and_true]
      rw [br_n hlt, br_n (show ¬ (48 : Int32) ≤ nI k by rw [show (48 : Int32) = nI 48 from rfl, ni_le (by omega) (by omega)]; omega)]
      exact h0
theorem c_x_pushApart (d s g z v k m : Nat) (wt : Nat → Prop) (dep : Nat → Nat) (dr ld : Nat) (B : List Fct) (Y : List Sy) (gd : Nat → Prop) (S0 S : Nat → Option Bool) (qu : Nat → Nat) (M : am_M) (Q : Option Value → am_M → Prop) (hL : Lay M) (hI : RInv M) (hs : s < 8) (hg : isSh g) (hz : z = 2 ∨ z = 83) (hT : TkX M s g z v wt dep dr ld B Y) (hC : CoX M s Y.length S qu m) (hq : colQ Y.length (KY wt v Y) gd S0 k S qu m)
    (hB : ∀ M', zF (sCo s) M M' → (∀ c, colV Y.length (KY wt v Y) gd c → ¬ colX Y.length S0 c) → Q (some (.int (-1))) M')
    (hQ : ∀ M' S qu m, zF (sCo s) M M' → TkX M' s g z v wt dep dr ld B Y → CoX M' s Y.length S qu m → colQ Y.length (KY wt v Y) gd S0 m S qu m → Q (some (.int (nI m))) M') : am_E am_P0 (d + 3) 95 [.ref (173 + 13 * s), .int (nI k), .int (nI m)] M Q := by
  have hmn := colQ_m hq
  have hkm := hq.2.2.2.2.2.2.1
  rw [eX8_pushApart]
  simp +decide only [qX8_pushApart_0, qX8_pushApart_1, qX8_pushApart_2, am_w1_i, am_w1_r, am_w1_x, am_w1_l, am_w1_w, va_rf_s, am_push_n, am_push_s, am_cs_0, am_cs_i, am_cs_l, am_cs_r, m_uI_K, m_uI_N, m_uI_R, m_uI_L, m_uI_I, m_uL_K, m_uL_N, m_uL_R, m_uL_I, m_uL_L, m_uR_K, m_uR_N, m_uR_I, m_uR_L, m_uR_R, true_and, and_true]
  exact l_x_push1 d s g z v wt dep dr ld B Y gd S0 M Q (nI k) (nI m) hs hg hz hB hQ (Y.length - k) k (by omega) M S qu m am_x am_x am_x (zF_refl hL hI) hT hC hq (Or.inl rfl) (Or.inl rfl) (Or.inl rfl)
end
section
/-! the class: can the sayings be parted -/
noncomputable def sB (gd : Nat → Prop) (j : Nat) : Option Bool := if dB (gd j) = true then none else some false
theorem sB_t {gd : Nat → Prop} {j : Nat} (h : gd j) : sB gd j = none := if_pos ((dB_t).mpr h)
theorem sB_f {gd : Nat → Prop} {j : Nat} (h : ¬ gd j) : sB gd j = some false := if_neg (fun q => h ((dB_t).mp q))
theorem colQ_noK {n : Nat} {K : Nat → Nat → Prop} {gd : Nat → Prop} {S0 : Nat → Option Bool} {S : Nat → Option Bool} {qu : Nat → Nat} {m : Nat} (h : colQ n K gd S0 m S qu m) (hK : ∀ i j, i < n → j < n → ¬ K i j) (h0 : ∀ i, i < n → S0 i = some false → ¬ gd i) : ∀ i, i < n → S i = some false → ¬ gd i := by
  intro i hi hS hg
  have hC := colQ_end h
  have e := h.2.2.2.2.1 (fun j => dB (gd j) && !dB (S0 j = some false)) ⟨fun a b ha hb hk => absurd hk (hK a b ha hb), fun a ha q => by
    rw [Bool.and_eq_true] at q
    exact (dB_t).mp q.1⟩ (fun a b ha hb => by
    have hb2 := h.2.2.2.2.2.2.2 a b hb
    cases b with
    | true =>
      have hga := hC.2 a ha hb2
      rw [Bool.and_eq_true]
      refine ⟨(dB_t).mpr hga, ?_⟩
      rw [Bool.not_eq_true', ← Bool.not_eq_true]
      intro q
      rw [(dB_t).mp q] at hb
      cases hb
    | false =>
      dsimp only
      rw [(dB_t).mpr hb]
      simp) i false hi hS
  dsimp only at e
  rw [(dB_t).mpr hg, Bool.true_and, Bool.not_eq_false'] at e
  exact h0 i hi ((dB_t).mp e) hg
/-- the queue at the beginning -/
def QB (gd : Nat → Prop) (i : Nat) (qu : Nat → Nat) (m : Nat) : Prop := (∀ a, a < m → qu a < i ∧ ¬ gd (qu a)) ∧ (∀ j, j < i → ¬ gd j → ∃ a, a < m ∧ qu a = j) ∧ m = cnt (fun j => !dB (gd j)) i
theorem QB_0 (gd : Nat → Prop) (qu : Nat → Nat) : QB gd 0 qu 0 := ⟨fun a h => by omega, fun a h => by omega, rfl⟩
theorem QB_t {gd : Nat → Prop} {i : Nat} {qu : Nat → Nat} {m : Nat} (h : QB gd i qu m) (hg : gd i) : QB gd (i + 1) qu m := by
  refine ⟨fun a ha => ⟨by have := (h.1 a ha).1; omega, (h.1 a ha).2⟩, fun j hj hn => ?_, ?_⟩
  · by_cases e : j = i
    · subst e; exact absurd hg hn
    · exact h.2.1 j (by omega) hn
  · rw [cnt_f (by rw [(dB_t).mpr hg]; decide)]
    exact h.2.2
theorem QB_f {gd : Nat → Prop} {i : Nat} {qu : Nat → Nat} {m : Nat} (h : QB gd i qu m) (hg : ¬ gd i) : QB gd (i + 1) (fun a => if a = m then i else qu a) (m + 1) := by
  have hq : ∀ a, a < m → (if a = m then i else qu a) = qu a := fun a ha => if_neg (by omega)
  refine ⟨fun a ha => ?_, fun j hj hn => ?_, ?_⟩
  · dsimp only
    by_cases e : a = m
    · rw [if_pos e]; exact ⟨by omega, hg⟩
    · rw [if_neg e]
      have := h.1 a (by omega)
      exact ⟨by omega, this.2⟩
  · by_cases e : j = i
    · exact ⟨m, by omega, by dsimp only; rw [if_pos rfl, e]⟩
    · obtain ⟨a, q1, q2⟩ := h.2.1 j (by omega) hn
      exact ⟨a, by omega, by dsimp only; rw [hq a q1]; exact q2⟩
  · rw [cnt_t (by
      have : dB (gd i) = false := by rw [← Bool.not_eq_true]; exact fun q => hg ((dB_t).mp q)
      rw [this]; rfl), ← h.2.2]
theorem QB_Q {n : Nat} {K : Nat → Nat → Prop} {gd : Nat → Prop} {qu : Nat → Nat} {m : Nat} (h : QB gd n qu m) : colQ n K gd (sB gd) 0 (sB gd) qu m := by
  refine ⟨fun a ha => ⟨(h.1 a ha).1, by rw [sB_f (h.1 a ha).2]; simp⟩, fun i hi hs => ?_, fun a j b ha => by omega, fun i hi hg => sB_f hg, fun c _ hX => hX, ?_, by omega, fun i b q => q⟩
  · by_cases hg : gd i
    · exact absurd (sB_t hg) hs
    · exact h.2.1 i hi hg
  · rw [h.2.2]
    refine cnt_ext (fun t ht => ?_)
    by_cases hg : gd t
    · rw [sB_t hg, (dB_t).mpr hg]; rfl
    · rw [sB_f hg]
      have : dB (gd t) = false := by rw [← Bool.not_eq_true]; exact fun q => hg ((dB_t).mp q)
      rw [this]; rfl
theorem QB_m {gd : Nat → Prop} {i : Nat} {qu : Nat → Nat} {m : Nat} (h : QB gd i qu m) : m ≤ i := by rw [h.2.2]; exact cnt_le _ _
theorem sB_X {n : Nat} {K : Nat → Nat → Prop} {gd : Nat → Prop} {c : Nat → Bool} (h : colV n K gd c) : colX n (sB gd) c := by
  intro i b hi hb
  by_cases hg : gd i
  · rw [sB_t hg] at hb; cases hb
  · rw [sB_f hg] at hb
    cases hb
    rw [← Bool.not_eq_true]
    exact fun q => hg (h.2 i hi q)
theorem l_x_isMarked (d s g z v m x : Nat) (wt : Nat → Prop) (dep : Nat → Nat) (dr ld : Nat) (B : List Fct) (Y : List Sy) (S : Nat → Option Bool) (qu : Nat → Nat) (M : am_M) (Q : Option Value → am_M → Prop) (hL : Lay M) (hs : s < 8) (hg : isSh g) (hT : TkX M s g z v wt dep dr ld B Y) (hC : CoX M s Y.length S qu m) :
    ∀ (r i : Nat), i + r = Y.length → (∀ k, k < i → ¬ mkO (S k) = nI x) → (am_P am_P0 d (am_look tX8_isMarked) 2 [.ref (173 + 13 * s), .int (nI x), .int (nI i)] [] M Q ↔ Q (some (.int (tI (∃ k, k < Y.length ∧ mkO (S k) = nI x)))) M) := by
  obtain ⟨w, hwe⟩ : ∃ w, w = 173 + 13 * s := ⟨_, rfl⟩
  have hw : isTr w := ⟨s, hs, hwe⟩
  have e11 : 184 + 13 * s = w + 11 := by omega
  have h48 := hT.2.2.2.2.1
  have hR := hT.2.1.1
  rw [← hwe] at hR ⊢
  intro r
  induction r with
  | zero =>
    intro i hi hn
    have e : i = Y.length := by omega
    subst e
    have hle : nI Y.length ≤ nI Y.length := (ni_le (by omega) (by omega)).mpr (Nat.le_refl _)
    rw [hX8_isMarked_2]
    simp +decide only [qX8_isMarked, lt_ hL hw, lw_ hL hg, hR, hT.2.2.2.1, am_w1_i, am_w1_r, am_w1_x, am_w1_l, am_w1_w, va_rf_s, am_push_n, am_push_s, am_cs_0, am_cs_i, am_cs_l, am_cs_r, m_uI_K, m_uI_N, m_uI_R, m_uI_L, m_uI_I, m_uL_K, m_uL_N, m_uL_R, m_uL_I, m_uL_L, m_uR_K, m_uR_N, m_uR_I, m_uR_L, m_uR_R, true_and, and_true]
    rw [br_p hle, tI_f (fun ⟨k, q1, q2⟩ => hn k q1 q2)]
  | succ r ih =>
    intro i hi hn
    have hlt : ¬ nI Y.length ≤ nI i := by rw [ni_le (by omega) (by omega)]; omega
    have hm := hC.1 i (by omega)
    rw [e11] at hm
    rw [hX8_isMarked_2]
    simp +decide (disch := omega) only [qX8_isMarked, lt_ hL hw, lw_ hL hg, hR, hT.2.2.2.1, hm, ni_in_t, ni_tn, ni_add1, am_w1_i, am_w1_r, am_w1_x, am_w1_l, am_w1_w, va_rf_s, am_push_n, am_push_s, am_cs_0, am_cs_i, am_cs_l, am_cs_r, m_uI_K, m_uI_N, m_uI_R, m_uI_L, m_uI_I, m_uL_K, m_uL_N, m_uL_R, m_uL_I, m_uL_L, m_uR_K, m_uR_N, m_uR_I, m_uR_L, m_uR_R, true_and, and_true]
    rw [br_n hlt]
    by_cases c : mkO (S i) = nI x
    · rw [br_r c, tI_t ⟨i, by omega, c⟩]
    · rw [br_q c]
      refine ih (i + 1) (by omega) (fun k hk => ?_)
      by_cases e : k = i
      · subst e; exact c
      · exact hn k (by omega)
theorem c_x_isMarked (d s g z v m x : Nat) (wt : Nat → Prop) (dep : Nat → Nat) (dr ld : Nat) (B : List Fct) (Y : List Sy) (S : Nat → Option Bool) (qu : Nat → Nat) (M : am_M) (Q : Option Value → am_M → Prop) (hL : Lay M) (hs : s < 8) (hg : isSh g) (hT : TkX M s g z v wt dep dr ld B Y) (hC : CoX M s Y.length S qu m) :
    am_E am_P0 d 96 [.ref (173 + 13 * s), .int (nI x)] M Q ↔ Q (some (.int (tI (∃ k, k < Y.length ∧ mkO (S k) = nI x)))) M := by
  rw [eX8_isMarked]
  simp +decide only [qX8_isMarked, am_w1_i, am_w1_r, am_w1_x, am_w1_l, am_w1_w, va_rf_s, am_push_n, am_push_s, am_cs_0, am_cs_i, am_cs_l, am_cs_r, m_uI_K, m_uI_N, m_uI_R, m_uI_L, m_uI_I, m_uL_K, m_uL_N, m_uL_R, m_uL_I, m_uL_L, m_uR_K, m_uR_N, m_uR_I, m_uR_L, m_uR_R, true_and, and_true]
  exact l_x_isMarked d s g z v m x wt dep dr ld B Y S qu M Q hL hs hg hT hC Y.length 0 (by omega) (fun k hk => by omega)
/-- parted by two -/
def ptP (wt : Nat → Prop) (v : Nat) (snd : Nat → Bool → Prop) (B : List Fct) (Y : List Sy) : Prop := fitP wt v B ∧ (∀ y, y ∈ Y → snd y.2.1 y.2.2) ∧ pairX Y.length (KY wt v Y) (gY wt v snd B Y)
theorem l_x_can1 (d s g z v : Nat) (wt : Nat → Prop) (dep : Nat → Nat) (dr ld : Nat) (B : List Fct) (Y : List Sy) (M0 : am_M) (Q : Option Value → am_M → Prop) (hs : s < 8) (hg : isSh g) (hz : z = 2 ∨ z = 83)
    (hB : ∀ M', zF (sCo s) M0 M' → ¬ (fitP wt v B ∧ ∀ y, y ∈ Y → sndP dep dr ld y.2.1 y.2.2) → Q (some (.int 0)) M')
    (hN : ∀ M' qu m, zF (sCo s) M0 M' → TkX M' s g z v wt dep dr ld B Y → CoX M' s Y.length (sB (gY wt v (sndP dep dr ld) B Y)) qu m → QB (gY wt v (sndP dep dr ld) B Y) Y.length qu m → (∀ y, y ∈ Y → sndP dep dr ld y.2.1 y.2.2) → (Y.length = 0 ∨ fitP wt v B) → am_P am_P0 (d + 4) (am_look tX8_canPart) 94 [.ref (173 + 13 * s), .int (nI m), .int (nI Y.length)] [] M' Q) :
    ∀ (r i : Nat), i + r = Y.length → ∀ (M : am_M) (qu : Nat → Nat) (m : Nat), zF (sCo s) M0 M → TkX M s g z v wt dep dr ld B Y → mI M (173 + 13 * s) 8 = tI (fitP wt v B) → (∀ k y, Y[k]? = some y → mI M (181 + 13 * s) k = tI (goodY wt v (sndP dep dr ld) B y)) → CoX M s i (sB (gY wt v (sndP dep dr ld) B Y)) qu m → QB (gY wt v (sndP dep dr ld) B Y) i qu m → (∀ k y, k < i → Y[k]? = some y → sndP dep dr ld y.2.1 y.2.2) → (i = 0 ∨ fitP wt v B) → am_P am_P0 (d + 4) (am_look tX8_canPart) 4 [.ref (173 + 13 * s), .int (nI m), .int (nI i)] [] M Q := by
  obtain ⟨w, hwe⟩ : ∃ w, w = 173 + 13 * s := ⟨_, rfl⟩
  have hw : isTr w := ⟨s, hs, hwe⟩
  have hgl := isSh_lt hg
  have e8 : 181 + 13 * s = w + 8 := by omega
  have e11 : 184 + 13 * s = w + 11 := by omega
  have e12 : 185 + 13 * s = w + 12 := by omega
  have nS : ∀ a j, a < 164 → ¬ sCo s a j := fun a j ha q => by unfold sCo at q; omega
  intro r
  induction r with
  | zero =>
    intro i hi M qu m hM hT h8 ha hC hq hsd hf
    have h48 := hT.2.2.2.2.1
    have hR := hT.2.1.1
    have e : i = Y.length := by omega
    subst e
    have hle : nI Y.length ≤ nI Y.length := (ni_le (by omega) (by omega)).mpr (Nat.le_refl _)
    have h0 := hN M qu m hM hT hC hq (fun y hy => by
      obtain ⟨k, hk⟩ := List.mem_iff_getElem?.mp hy
      exact hsd k y (List.getElem?_eq_some_iff.mp hk).1 hk) hf
    rw [← hwe] at hR h0 ⊢
    rw [hX8_canPart_4]
    simp +decide only [qX8_canPart_0, qX8_canPart_1, qX8_canPart_2, lt_ hM.1 hw, lw_ hM.1 hg, hR, hT.2.2.2.1, am_w1_i, am_w1_r, am_w1_x, am_w1_l, am_w1_w, va_rf_s, am_push_n, am_push_s, am_cs_0, am_cs_i, am_cs_l, am_cs_r, m_uI_K, m_uI_N, m_uI_R, m_uI_L, m_uI_I, m_uL_K, m_uL_N, m_uL_R, m_uL_I, m_uL_L, m_uR_K, m_uR_N, m_uR_I, m_uR_L, m_uR_R, true_and, and_true] at h0 ⊢
    rw [br_p hle]
    exact h0
  | succ r ih =>
    intro i hi M qu m hM hT h8 ha hC hq hsd hf
    have hL := hM.1
    have h48 := hT.2.2.2.2.1
    have hR := hT.2.1.1
    have hm := QB_m hq
    have hlt : ¬ nI Y.length ≤ nI i := by rw [ni_le (by omega) (by omega)]; omega
    obtain ⟨y, hy⟩ : ∃ y, Y[i]? = some y := ⟨Y[i]'(by omega), List.getElem?_eq_getElem (by omega)⟩
    obtain ⟨⟨y1, y2⟩, y3, y4, y5⟩ := hT.2.2.2.2.2 i y hy
    have hai := ha i y hy
    have hgd := gY_y (wt := wt) (v := v) (snd := sndP dep dr ld) (B := B) hy
    have hD := hT.2.1
    rw [← hwe] at hR h8 hD ⊢
    rw [e8] at hai
    have hso := fun Q => c_x_isSound (d + 3) w g z y.2.1 y.2.2 dep dr ld M Q hL hw hg hz hD y2
    rw [hX8_canPart_4]
    simp +decide (disch := omega) only [qX8_canPart_0, qX8_canPart_1, qX8_canPart_2, lt_ hL hw, lw_ hL hg, hR, hT.2.2.2.1, h8, y4, y5, hso, hai, ni_in_t, ni_tn, ni_add1, am_w1_i, am_w1_r, am_w1_x, am_w1_l, am_w1_w, va_rf_s, am_push_n, am_push_s, am_cs_0, am_cs_i, am_cs_l, am_cs_r, m_uI_K, m_uI_N, m_uI_R, m_uI_L, m_uI_I, m_uL_K, m_uL_N, m_uL_R, m_uL_I, m_uL_L, m_uR_K, m_uR_N, m_uR_I, m_uR_L, m_uR_R, true_and, and_true]
    rw [br_n hlt]
    by_cases cf : fitP wt v B
    · rw [tI_t cf, br_n (by decide)]
      by_cases cs : sndP dep dr ld y.2.1 y.2.2
      · have hsd' : ∀ k y', k < i + 1 → Y[k]? = some y' → sndP dep dr ld y'.2.1 y'.2.2 := fun k y' hk hy' => by
          by_cases e : k = i
          · subst e; cases hy.symm.trans hy'; exact cs
          · exact hsd k y' (by omega) hy'
        rw [tI_t cs, br_p (by decide)]
        by_cases cg : goodY wt v (sndP dep dr ld) B y
        · have z1 : zF (sCo s) M (uI M (w + 11) i 0) := zF_i hL hM.2.1 _ (Or.inl e11.symm) (fun s' hs' => by omega)
          have h0 := ih (i + 1) (by omega) (uI M (w + 11) i 0) qu m (zF_trans hM z1) (TkX_z hs hg hz hT z1 nS) (by rw [m_uI_I, if_neg (by omega), ← hwe, h8]) (fun k y' hy' => by rw [m_uI_I, if_neg (by omega)]; exact ha k y' hy') ⟨fun k hk => ?_, fun a ha' => by rw [m_uI_I, if_neg (by omega)]; exact hC.2 a ha'⟩ (QB_t hq (hgd.mpr cg)) hsd' (Or.inr cf)
          · rw [← hwe] at h0
            rw [tI_t cg]
            simp +decide (disch := omega) only [qX8_canPart_0, qX8_canPart_1, qX8_canPart_2, lt_ hL hw, hai, ni_in_t, ni_tn, ni_add1, am_w1_i, am_w1_r, am_w1_x, am_w1_l, am_w1_w, va_rf_s, am_push_n, am_push_s, am_cs_0, am_cs_i, am_cs_l, am_cs_r, m_uI_K, m_uI_N, m_uI_R, m_uI_L, m_uI_I, m_uL_K, m_uL_N, m_uL_R, m_uL_I, m_uL_L, m_uR_K, m_uR_N, m_uR_I, m_uR_L, m_uR_R, true_and, and_true, true_implies, false_implies, if_false, false_and, tI_t cg, Nat.add_left_cancel_iff, not_true_eq_false, not_false_eq_true]
            exact h0
          · rw [m_uI_I]
            by_cases e : k = i
            · rw [if_pos ⟨e11, e⟩, e, sB_t (hgd.mpr cg)]; rfl
            · rw [if_neg (fun q => e q.2)]; exact hC.1 k (by omega)
        · have hng : ¬ gY wt v (sndP dep dr ld) B Y i := fun q => cg (hgd.mp q)
          have z1 : zF (sCo s) M (uI M (w + 11) i 2) := zF_i hL hM.2.1 _ (Or.inl e11.symm) (fun s' hs' => by omega)
          have z2 : zF (sCo s) (uI M (w + 11) i 2) (uI (uI M (w + 11) i 2) (w + 12) m (nI i)) := zF_i z1.1 z1.2.1 _ (Or.inr e12.symm) (fun s' hs' => by omega)
          have h0 := ih (i + 1) (by omega) (uI (uI M (w + 11) i 2) (w + 12) m (nI i)) _ (m + 1) (zF_trans hM (zF_trans z1 z2)) (TkX_z hs hg hz (TkX_z hs hg hz hT z1 nS) z2 nS) (by rw [m_uI_I, if_neg (by omega), m_uI_I, if_neg (by omega), ← hwe, h8]) (fun k y' hy' => by rw [m_uI_I, if_neg (by omega), m_uI_I, if_neg (by omega)]; exact ha k y' hy') ⟨fun k hk => ?_, fun a ha' => ?_⟩ (QB_f hq hng) hsd' (Or.inr cf)
          · rw [← hwe] at h0
            rw [tI_f cg]
            simp +decide (disch := omega) only [qX8_canPart_0, qX8_canPart_1, qX8_canPart_2, lt_ hL hw, hai, ni_in_t, ni_tn, ni_add1, am_w1_i, am_w1_r, am_w1_x, am_w1_l, am_w1_w, va_rf_s, am_push_n, am_push_s, am_cs_0, am_cs_i, am_cs_l, am_cs_r, m_uI_K, m_uI_N, m_uI_R, m_uI_L, m_uI_I, m_uL_K, m_uL_N, m_uL_R, m_uL_I, m_uL_L, m_uR_K, m_uR_N, m_uR_I, m_uR_L, m_uR_R, true_and, and_true, true_implies, false_implies, if_false, false_and, tI_f cg, Nat.add_left_cancel_iff, not_true_eq_false, not_false_eq_true]
            exact h0
          · rw [m_uI_I, if_neg (by omega), m_uI_I]
            by_cases e : k = i
            · rw [if_pos ⟨e11, e⟩, e, sB_f hng]; rfl
            · rw [if_neg (fun q => e q.2)]; exact hC.1 k (by omega)
          · rw [m_uI_I]
            by_cases e : a = m
            · rw [if_pos ⟨e12, e⟩, if_pos e]
            · rw [if_neg (fun q => e q.2), m_uI_I, if_neg (by omega), if_neg e]; exact hC.2 a (by omega)
      · have h0 := hB M hM (fun q => cs (q.2 y (List.mem_of_getElem? hy)))
        rw [tI_f cs, br_n (by decide)]
        exact h0
    · have h0 := hB M hM (fun q => cf q.1)
      rw [tI_f cf, br_p rfl]
      exact h0
theorem l_x_can2 (d s g z v : Nat) (wt : Nat → Prop) (dep : Nat → Nat) (dr ld : Nat) (B : List Fct) (Y : List Sy) (gd : Nat → Prop) (M0 : am_M) (Q : Option Value → am_M → Prop) (hs : s < 8) (hg : isSh g) (hz : z = 2 ∨ z = 83)
    (hB : ∀ M', zF (sCo s) M0 M' → (∀ c, ¬ colV Y.length (KY wt v Y) gd c) → Q (some (.int 0)) M')
    (hN : ∀ M' S qu m, zF (sCo s) M0 M' → TkX M' s g z v wt dep dr ld B Y → CoX M' s Y.length S qu m → colC Y.length (KY wt v Y) gd S → (∀ i, i < Y.length → ¬ S i = none) → ((∀ i j, i < Y.length → j < Y.length → ¬ KY wt v Y i j) → ∀ i, i < Y.length → S i = some false → ¬ gd i) → m ≤ Y.length → am_P am_P0 (d + 4) (am_look tX8_canPart) 157 [.ref (173 + 13 * s), .int (nI m), .int (nI Y.length)] [] M' Q) :
    ∀ (r i : Nat), i + r = Y.length → (∀ (M : am_M), zF (sCo s) M0 M → TkX M s g z v wt dep dr ld B Y → (∀ c, ¬ colV Y.length (KY wt v Y) gd c) → am_P am_P0 (d + 4) (am_look tX8_canPart) 103 [.ref (173 + 13 * s), .int (-1), .int (nI i)] [] M Q) ∧ ∀ (M : am_M) (S0 S : Nat → Option Bool) (qu : Nat → Nat) (m : Nat), zF (sCo s) M0 M → TkX M s g z v wt dep dr ld B Y → CoX M s Y.length S qu m → colQ Y.length (KY wt v Y) gd S0 m S qu m → (∀ k, k < i → ¬ S k = none) → ((∀ i j, i < Y.length → j < Y.length → ¬ KY wt v Y i j) → ∀ i, i < Y.length → S i = some false → ¬ gd i) → am_P am_P0 (d + 4) (am_look tX8_canPart) 103 [.ref (173 + 13 * s), .int (nI m), .int (nI i)] [] M Q := by
  obtain ⟨w, hwe⟩ : ∃ w, w = 173 + 13 * s := ⟨_, rfl⟩
  have hw : isTr w := ⟨s, hs, hwe⟩
  have hgl := isSh_lt hg
  have e11 : 184 + 13 * s = w + 11 := by omega
  have e12 : 185 + 13 * s = w + 12 := by omega
  have nS : ∀ a j, a < 164 → ¬ sCo s a j := fun a j ha q => by unfold sCo at q; omega
  intro r
  induction r with
  | zero =>
    intro i hi
    have e : i = Y.length := by omega
    subst e
    refine ⟨fun M hM hT hc => ?_, fun M S0 S qu m hM hT hC hq hno hnk => ?_⟩
    · have h48 := hT.2.2.2.2.1
      have hR := hT.2.1.1
      have hle : nI Y.length ≤ nI Y.length := (ni_le (by omega) (by omega)).mpr (Nat.le_refl _)
      have h0 := hB M hM hc
      rw [← hwe] at hR ⊢
      rw [hX8_canPart_103]
      simp +decide only [qX8_canPart_0, qX8_canPart_1, qX8_canPart_2, lt_ hM.1 hw, lw_ hM.1 hg, hR, hT.2.2.2.1, am_w1_i, am_w1_r, am_w1_x, am_w1_l, am_w1_w, va_rf_s, am_push_n, am_push_s, am_cs_0, am_cs_i, am_cs_l, am_cs_r, m_uI_K, m_uI_N, m_uI_R, m_uI_L, m_uI_I, m_uL_K, m_uL_N, m_uL_R, m_uL_I, m_uL_L, m_uR_K, m_uR_N, m_uR_I, m_uR_L, m_uR_R, true_and, and_true, true_implies, false_implies]
      rw [br_p hle]
      exact h0
    · have h48 := hT.2.2.2.2.1
      have hR := hT.2.1.1
      have hle : nI Y.length ≤ nI Y.length := (ni_le (by omega) (by omega)).mpr (Nat.le_refl _)
      have h0 := hN M S qu m hM hT hC (colQ_end hq) hno hnk (colQ_m hq)
      rw [← hwe] at hR h0 ⊢
      rw [hX8_canPart_103]
      simp +decide only [qX8_canPart_0, qX8_canPart_1, qX8_canPart_2, lt_ hM.1 hw, lw_ hM.1 hg, hR, hT.2.2.2.1, am_w1_i, am_w1_r, am_w1_x, am_w1_l, am_w1_w, va_rf_s, am_push_n, am_push_s, am_cs_0, am_cs_i, am_cs_l, am_cs_r, m_uI_K, m_uI_N, m_uI_R, m_uI_L, m_uI_I, m_uL_K, m_uL_N, m_uL_R, m_uL_I, m_uL_L, m_uR_K, m_uR_N, m_uR_I, m_uR_L, m_uR_R, true_and, and_true] at h0 ⊢
      rw [br_p hle]
      exact h0
  | succ r ih =>
    intro i hi
    obtain ⟨ih1, ih2⟩ := ih (i + 1) (by omega)
    refine ⟨fun M hM hT hc => ?_, fun M S0 S qu m hM hT hC hq hno hnk => ?_⟩
    · have h48 := hT.2.2.2.2.1
      have hR := hT.2.1.1
      have hlt : ¬ nI Y.length ≤ nI i := by rw [ni_le (by omega) (by omega)]; omega
      have h0 := ih1 M hM hT hc
      rw [← hwe] at hR h0 ⊢
      rw [hX8_canPart_103]
      simp +decide only [qX8_canPart_0, qX8_canPart_1, qX8_canPart_2, lt_ hM.1 hw, lw_ hM.1 hg, hR, hT.2.2.2.1, ni_add1, am_w1_i, am_w1_r, am_w1_x, am_w1_l, am_w1_w, va_rf_s, am_push_n, am_push_s, am_cs_0, am_cs_i, am_cs_l, am_cs_r, m_uI_K, m_uI_N, m_uI_R, m_uI_L, m_uI_I, m_uL_K, m_uL_N, m_uL_R, m_uL_I, m_uL_L, m_uR_K, m_uR_N, m_uR_I, m_uR_L, m_uR_R, true_and, and_true, true_implies, false_implies]
      rw [br_n hlt]
      exact h0
    · have hL := hM.1
      have h48 := hT.2.2.2.2.1
      have hR := hT.2.1.1
      have hlt : ¬ nI Y.length ≤ nI i := by rw [ni_le (by omega) (by omega)]; omega
      have hmn := colQ_m hq
      have hm1 : ¬ nI m = -1 := nI_m1 (by omega)
      have mi := hC.1 i (by omega)
      rw [e11] at mi
      cases hSi : S i with
      | some b =>
        have h0 := ih2 M S0 S qu m hM hT hC hq (fun k hk => by
          by_cases e : k = i
          · rw [e, hSi]; simp
          · exact hno k (by omega)) hnk
        have hn0 : ¬ mkO (some b) = 0 := by cases b <;> decide
        rw [hSi] at mi
        rw [← hwe] at hR h0 ⊢
        rw [hX8_canPart_103]
        simp +decide (disch := omega) only [qX8_canPart_0, qX8_canPart_1, qX8_canPart_2, lt_ hL hw, lw_ hL hg, hR, hT.2.2.2.1, mi, ni_in_t, ni_tn, ni_add1, am_w1_i, am_w1_r, am_w1_x, am_w1_l, am_w1_w, va_rf_s, am_push_n, am_push_s, am_cs_0, am_cs_i, am_cs_l, am_cs_r, m_uI_K, m_uI_N, m_uI_R, m_uI_L, m_uI_I, m_uL_K, m_uL_N, m_uL_R, m_uL_I, m_uL_L, m_uR_K, m_uR_N, m_uR_I, m_uR_L, m_uR_R, true_and, and_true]
        rw [br_n hlt, br_n hm1, br_p hn0]
        exact h0
      | none =>
        have hp := colQ_more hq (i := i) (by omega) hSi true
        have hpm := colQ_m hp
        have z1 : zF (sCo s) M (uI M (w + 11) i 1) := zF_i hL hM.2.1 _ (Or.inl e11.symm) (fun s' hs' => by omega)
        have z2 : zF (sCo s) (uI M (w + 11) i 1) (uI (uI M (w + 11) i 1) (w + 12) m (nI i)) := zF_i z1.1 z1.2.1 _ (Or.inr e12.symm) (fun s' hs' => by omega)
        have hT2 := TkX_z hs hg hz (TkX_z hs hg hz hT z1 nS) z2 nS
        have hM2 := zF_trans hM (zF_trans z1 z2)
        have hC2 : CoX (uI (uI M (w + 11) i 1) (w + 12) m (nI i)) s Y.length (fun j => if j = i then some true else S j) (fun a => if a = m then i else qu a) (m + 1) := by
          refine ⟨fun k hk => ?_, fun a ha => ?_⟩ <;> dsimp only
          · rw [m_uI_I, if_neg (by omega), m_uI_I]
            by_cases e : k = i
            · rw [if_pos ⟨e11, e⟩, if_pos e]; rfl
            · rw [if_neg (fun q => e q.2), if_neg e]; exact hC.1 k hk
          · rw [m_uI_I]
            by_cases e : a = m
            · rw [if_pos ⟨e12, e⟩, if_pos e]
            · rw [if_neg (fun q => e q.2), m_uI_I, if_neg (by omega), if_neg e]; exact hC.2 a (by omega)
        rw [hSi] at mi
        rw [← hwe] at hR ⊢
        rw [hX8_canPart_103]
        simp +decide (disch := omega) only [qX8_canPart_0, qX8_canPart_1, qX8_canPart_2, lt_ hL hw, lw_ hL hg, hR, hT.2.2.2.1, mi, ni_in_t, ni_tn, ni_add1, am_w1_i, am_w1_r, am_w1_x, am_w1_l, am_w1_w, va_rf_s, am_push_n, am_push_s, am_cs_0, am_cs_i, am_cs_l, am_cs_r, m_uI_K, m_uI_N, m_uI_R, m_uI_L, m_uI_I, m_uL_K, m_uL_N, m_uL_R, m_uL_I, m_uL_L, m_uR_K, m_uR_N, m_uR_I, m_uR_L, m_uR_R, true_and, and_true, true_implies, false_implies, not_true_eq_false, not_false_eq_true, if_true, if_false, false_and, and_false]
        rw [br_n hlt, br_n hm1]
        rw [hwe] at hT2 hM2 hC2 ⊢
        refine c_x_pushApart d s g z v m (m + 1) wt dep dr ld B Y gd _ _ _ _ _ hM2.1 hM2.2.1 hs hg hz hT2 hC2 hp (fun M3 g3 hbad => ?_) (fun M3 S3 qu3 m3 g3 T3 C3 q3 => ?_)
        · have h0 := ih1 M3 (zF_trans hM2 g3) (TkX_z hs hg hz hT2 g3 nS) (fun c hc => by
            obtain ⟨c', a1, a2⟩ := col_flip KY_symm (colQ_end hq) hq.2.2.2.1 (i := i) (by omega) hSi hc
            exact hbad c' a1 a2)
          simp +decide only [qX8_canPart_0, qX8_canPart_1, qX8_canPart_2, ni_add1, am_w1_i, am_w1_r, am_w1_x, am_w1_l, am_w1_w, va_rf_s, am_push_n, am_push_s, am_cs_0, am_cs_i, am_cs_l, am_cs_r, m_uI_K, m_uI_N, m_uI_R, m_uI_L, m_uI_I, m_uL_K, m_uL_N, m_uL_R, m_uL_I, m_uL_L, m_uR_K, m_uR_N, m_uR_I, m_uR_L, m_uR_R, true_and, and_true]
          exact h0
        · have h0 := ih2 M3 _ S3 qu3 m3 (zF_trans hM2 g3) T3 C3 q3 (fun k hk => by
            have hk2 : ¬ (if k = i then some true else S k) = none := by
              by_cases e : k = i
              · rw [if_pos e]; simp
              · rw [if_neg e]; exact hno k (by omega)
            cases hx : (if k = i then some true else S k) with
            | none => exact absurd hx hk2
            | some b => rw [q3.2.2.2.2.2.2.2 k b hx]; simp) (fun hK => colQ_noK q3 hK (fun k hk hf => by
              by_cases e : k = i
              · rw [if_pos e] at hf; cases hf
              · rw [if_neg e] at hf; exact hnk hK k hk hf))
          simp +decide only [qX8_canPart_0, qX8_canPart_1, qX8_canPart_2, ni_add1, am_w1_i, am_w1_r, am_w1_x, am_w1_l, am_w1_w, va_rf_s, am_push_n, am_push_s, am_cs_0, am_cs_i, am_cs_l, am_cs_r, m_uI_K, m_uI_N, m_uI_R, m_uI_L, m_uI_I, m_uL_K, m_uL_N, m_uL_R, m_uL_I, m_uL_L, m_uR_K, m_uR_N, m_uR_I, m_uR_L, m_uR_R, true_and, and_true]
          exact h0
theorem c_x_canPart (d s g z v : Nat) (wt : Nat → Prop) (dep : Nat → Nat) (dr ld : Nat) (B : List Fct) (Y : List Sy) (M : am_M) (Q : Option Value → am_M → Prop) (hL : Lay M) (hI : RInv M) (hs : s < 8) (hg : isSh g) (hz : z = 2 ∨ z = 83) (hT : TkX M s g z v wt dep dr ld B Y) (h8 : mI M (173 + 13 * s) 8 = tI (fitP wt v B)) (ha : ∀ k y, Y[k]? = some y → mI M (181 + 13 * s) k = tI (goodY wt v (sndP dep dr ld) B y))
    (hna : fitP wt v B → 0 < Y.length → (∃ i, i < Y.length ∧ ¬ gY wt v (sndP dep dr ld) B Y i) ∨ ∃ i j, i < Y.length ∧ j < Y.length ∧ KY wt v Y i j)
    (hQ : ∀ M', zF (sCo s) M M' → Q (some (.int (tI (ptP wt v (sndP dep dr ld) B Y)))) M') : am_E am_P0 (d + 4) 94 [.ref (173 + 13 * s)] M Q := by
  have nS : ∀ a j, a < 164 → ¬ sCo s a j := fun a j ha q => by unfold sCo at q; omega
  rw [eX8_canPart]
  simp +decide only [qX8_canPart_0, qX8_canPart_1, qX8_canPart_2, am_w1_i, am_w1_r, am_w1_x, am_w1_l, am_w1_w, va_rf_s, am_push_n, am_push_s, am_cs_0, am_cs_i, am_cs_l, am_cs_r, m_uI_K, m_uI_N, m_uI_R, m_uI_L, m_uI_I, m_uL_K, m_uL_N, m_uL_R, m_uL_I, m_uL_L, m_uR_K, m_uR_N, m_uR_I, m_uR_L, m_uR_R, true_and, and_true]
  rw [show (0 : Int32) = nI 0 from rfl]
  have hneg : ∀ M', zF (sCo s) M M' → (∀ c, ¬ colV Y.length (KY wt v Y) (gY wt v (sndP dep dr ld) B Y) c) → Q (some (.int 0)) M' := fun M' g1 hc => by
    have h0 := hQ M' g1
    rw [tI_f (fun q => pairX_no hc q.2.2)] at h0
    exact h0
  refine l_x_can1 d s g z v wt dep dr ld B Y M Q hs hg hz (fun M1 g1 hn => ?_) (fun M1 qu m g1 T1 C1 q1 hsd hf => ?_) Y.length 0 (by omega) M (fun _ => 0) 0 (zF_refl hL hI) hT h8 ha ⟨fun k hk => by omega, fun a ha => by omega⟩ (QB_0 _ _) (fun k y hk => by omega) (Or.inl rfl)
  · have h0 := hQ M1 g1
    rw [tI_f (fun q => hn ⟨q.1, q.2.1⟩)] at h0
    exact h0
  · have hend : ∀ M' S qu m, zF (sCo s) M M' → TkX M' s g z v wt dep dr ld B Y → CoX M' s Y.length S qu m → colC Y.length (KY wt v Y) (gY wt v (sndP dep dr ld) B Y) S → (∀ i, i < Y.length → ¬ S i = none) → ((∀ i j, i < Y.length → j < Y.length → ¬ KY wt v Y i j) → ∀ i, i < Y.length → S i = some false → ¬ gY wt v (sndP dep dr ld) B Y i) → m ≤ Y.length → am_P am_P0 (d + 4) (am_look tX8_canPart) 157 [.ref (173 + 13 * s), .int (nI m), .int (nI Y.length)] [] M' Q := by
      intro M' S qu m hM' hT' hC' hcc hno hnk hmn
      have h48 := hT'.2.2.2.2.1
      have hm1 : ¬ nI m = -1 := nI_m1 (by omega)
      have i1 := fun Q => c_x_isMarked (d + 3) s g z v m 1 wt dep dr ld B Y S qu M' Q hM'.1 hs hg hT' hC'
      have i2 := fun Q => c_x_isMarked (d + 3) s g z v m 2 wt dep dr ld B Y S qu M' Q hM'.1 hs hg hT' hC'
      rw [show nI 1 = (1 : Int32) from rfl] at i1
      rw [show nI 2 = (2 : Int32) from rfl] at i2
      have e1 : (∃ k, k < Y.length ∧ mkO (S k) = 1) ↔ ∃ k, k < Y.length ∧ S k = some true := by
        constructor
        · rintro ⟨k, a1, a2⟩
          refine ⟨k, a1, ?_⟩
          cases hx : S k with
          | none => exact absurd hx (hno k a1)
          | some b => cases b with
            | true => rfl
            | false => rw [hx] at a2; exact absurd a2 (by decide)
        · rintro ⟨k, a1, a2⟩; exact ⟨k, a1, by rw [a2]; rfl⟩
      have e2 : (∃ k, k < Y.length ∧ mkO (S k) = 2) ↔ ∃ k, k < Y.length ∧ S k = some false := by
        constructor
        · rintro ⟨k, a1, a2⟩
          refine ⟨k, a1, ?_⟩
          cases hx : S k with
          | none => exact absurd hx (hno k a1)
          | some b => cases b with
            | false => rfl
            | true => rw [hx] at a2; exact absurd a2 (by decide)
        · rintro ⟨k, a1, a2⟩; exact ⟨k, a1, by rw [a2]; rfl⟩
      have hpx : ((∃ k, k < Y.length ∧ mkO (S k) = 1) ∧ ∃ k, k < Y.length ∧ mkO (S k) = 2) ↔ ptP wt v (sndP dep dr ld) B Y := by
        rw [e1, e2]
        by_cases h0 : Y.length = 0
        · constructor
          · rintro ⟨⟨k, a1, _⟩, _⟩; omega
          · rintro ⟨_, _, c, _, ⟨k, a1, _⟩, _⟩; omega
        · have cf : fitP wt v B := hf.resolve_left h0
          have := col_pair hcc hno (fun hK i hi hgi => by
            cases hx : S i with
            | none => exact absurd hx (hno i hi)
            | some b => cases b with
              | true => rfl
              | false => exact absurd hgi (hnk hK i hi hx)) (hna cf (by omega))
          rw [this]
          exact ⟨fun q => ⟨cf, hsd, q⟩, fun q => q.2.2⟩
      have h0 := hQ M' hM'
      simp +decide only [qX8_canPart_0, qX8_canPart_1, qX8_canPart_2, lt_ hM'.1 (isTr_of hs), i1, i2, am_w1_i, am_w1_r, am_w1_x, am_w1_l, am_w1_w, va_rf_s, am_push_n, am_push_s, am_cs_0, am_cs_i, am_cs_l, am_cs_r, m_uI_K, m_uI_N, m_uI_R, m_uI_L, m_uI_I, m_uL_K, m_uL_N, m_uL_R, m_uL_I, m_uL_L, m_uR_K, m_uR_N, m_uR_I, m_uR_L, m_uR_R, true_and, and_true]
      rw [br_n hm1]
      by_cases c1 : ∃ k, k < Y.length ∧ mkO (S k) = 1
      · rw [tI_t c1, br_n (by decide)]
        by_cases c2 : ∃ k, k < Y.length ∧ mkO (S k) = 2
        · rw [tI_t c2, br_n (by decide)]
          rw [tI_t (hpx.mp ⟨c1, c2⟩)] at h0
          exact h0
        · rw [tI_f c2, br_p rfl]
          rw [tI_f (fun q => c2 (hpx.mpr q).2)] at h0
          exact h0
      · rw [tI_f c1, br_p rfl]
        rw [tI_f (fun q => c1 (hpx.mpr q).1)] at h0
        exact h0
    have hl2 := l_x_can2 d s g z v wt dep dr ld B Y (gY wt v (sndP dep dr ld) B Y) M Q hs hg hz hneg (fun M' S qu m a1 a2 a3 a4 a5 a6 a7 => ?_) Y.length 0 (by omega)
    · have hq0 := QB_Q (K := KY wt v Y) q1
      simp +decide only [qX8_canPart_0, qX8_canPart_1, qX8_canPart_2, lt_ g1.1 (isTr_of hs), am_w1_i, am_w1_r, am_w1_x, am_w1_l, am_w1_w, va_rf_s, am_push_n, am_push_s, am_cs_0, am_cs_i, am_cs_l, am_cs_r, m_uI_K, m_uI_N, m_uI_R, m_uI_L, m_uI_I, m_uL_K, m_uL_N, m_uL_R, m_uL_I, m_uL_L, m_uR_K, m_uR_N, m_uR_I, m_uR_L, m_uR_R, true_and, and_true]
      rw [show (0 : Int32) = nI 0 from rfl]
      refine c_x_pushApart d s g z v 0 m wt dep dr ld B Y _ _ _ _ _ _ g1.1 g1.2.1 hs hg hz T1 C1 hq0 (fun M3 g3 hbad => ?_) (fun M3 S3 qu3 m3 g3 T3 C3 q3 => ?_)
      · have h0 := hl2.1 M3 (zF_trans g1 g3) (TkX_z hs hg hz T1 g3 nS) (fun c hc => hbad c hc (sB_X hc))
        simp +decide only [qX8_canPart_0, qX8_canPart_1, qX8_canPart_2, am_w1_i, am_w1_r, am_w1_x, am_w1_l, am_w1_w, va_rf_s, am_push_n, am_push_s, am_cs_0, am_cs_i, am_cs_l, am_cs_r, m_uI_K, m_uI_N, m_uI_R, m_uI_L, m_uI_I, m_uL_K, m_uL_N, m_uL_R, m_uL_I, m_uL_L, m_uR_K, m_uR_N, m_uR_I, m_uR_L, m_uR_R, true_and, and_true]
        exact h0
      · have h0 := hl2.2 M3 _ S3 qu3 m3 (zF_trans g1 g3) T3 C3 q3 (fun k hk => by omega) (fun hK => colQ_noK q3 hK (fun k hk hf => fun hgk => by rw [sB_t hgk] at hf; cases hf))
        simp +decide only [qX8_canPart_0, qX8_canPart_1, qX8_canPart_2, am_w1_i, am_w1_r, am_w1_x, am_w1_l, am_w1_w, va_rf_s, am_push_n, am_push_s, am_cs_0, am_cs_i, am_cs_l, am_cs_r, m_uI_K, m_uI_N, m_uI_R, m_uI_L, m_uI_I, m_uL_K, m_uL_N, m_uL_R, m_uL_I, m_uL_L, m_uR_K, m_uR_N, m_uR_I, m_uR_L, m_uR_R, true_and, and_true]
        exact h0
    · exact hend M' S qu m a1 a2 a3 a4 a5 a6 a7
end
