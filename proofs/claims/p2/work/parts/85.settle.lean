/-! the class: settle -/
noncomputable def kcY (w : Nat → Prop) (v : Nat) (snd : Nat → Bool → Prop) (B : List Fct) (Y : List Sy) : Nat := @ite _ (fitP w v B) (Classical.propDecidable _) (mostY w v snd B Y) 0
theorem kcY_t {w : Nat → Prop} {v : Nat} {snd : Nat → Bool → Prop} {B : List Fct} {Y : List Sy} (h : fitP w v B) : kcY w v snd B Y = mostY w v snd B Y := if_pos h
theorem kcY_f {w : Nat → Prop} {v : Nat} {snd : Nat → Bool → Prop} {B : List Fct} {Y : List Sy} (h : ¬ fitP w v B) : kcY w v snd B Y = 0 := if_neg h
/-- what settle leaves -/
def SetX (M : am_M) (s v : Nat) (wt : Nat → Prop) (snd : Nat → Bool → Prop) (B : List Fct) (Y : List Sy) : Prop :=
  mI M (173 + 13 * s) 8 = tI (fitP wt v B) ∧ (∀ k y, Y[k]? = some y → mI M (181 + 13 * s) k = tI (goodY wt v snd B y)) ∧ mI M (173 + 13 * s) 11 = nI (kcY wt v snd B Y) ∧ (∀ k, k < Y.length → mI M (182 + 13 * s) k = tI (fitP wt v B ∧ keptY wt v snd B Y k)) ∧ ∀ h, h < 48 → ∀ q, inS (my4 M s h) q ↔ mayY wt v snd B Y q h
/-- settled or not yet -/
def StX (M : am_M) (s v : Nat) (wt : Nat → Prop) (snd : Nat → Bool → Prop) (B : List Fct) (Y : List Sy) : Prop := mI M (173 + 13 * s) 4 = 0 ∨ (mI M (173 + 13 * s) 4 = 1 ∧ SetX M s v wt snd B Y)
def sSt (s a j : Nat) : Prop := (a = 173 + 13 * s ∧ (j = 4 ∨ j = 8 ∨ j = 11)) ∨ (180 + 13 * s ≤ a ∧ a ≤ 184 + 13 * s)
theorem inS_0 (q : Nat) : ¬ inS (fun _ => 0) q := fun h => by rw [inS, sb_0] at h; cases h.2
theorem l_x_settle2 (d s g z v : Nat) (wt : Nat → Prop) (dep : Nat → Nat) (dr ld : Nat) (B : List Fct) (Y : List Sy) (M : am_M) (Q : Option Value → am_M → Prop) (hL : Lay M) (hI : RInv M) (hs : s < 8) (hg : isSh g) (hz : z = 2 ∨ z = 83) (hsr : srtY Y) (hsw : ∀ y, y ∈ Y → sndP dep dr ld y.2.1 y.2.2 → wt y.2.1) (hT : TkX M s g z v wt dep dr ld B Y) (hln : fitP wt v B → LnP M (173 + 13 * s) (cov B)) (h4 : mI M (173 + 13 * s) 4 = 1)
    (hQ : ∀ M', zF (sSt s) M M' → mI M' (173 + 13 * s) 4 = 1 → SetX M' s v wt (sndP dep dr ld) B Y → Q none M') : am_P am_P0 (d + 4) (am_look tX8_settle) 40 [.ref (173 + 13 * s)] [.int (tI (fitP wt v B)), .ref (173 + 13 * s)] M Q := by
  obtain ⟨w, hwe⟩ : ∃ w, w = 173 + 13 * s := ⟨_, rfl⟩
  have hw : isTr w := ⟨s, hs, hwe⟩
  have hgl := isSh_lt hg
  have e10 : 183 + 13 * s = w + 10 := by omega
  have nS : ∀ a j, a < 164 → ¬ sSt s a j := fun a j ha q => by unfold sSt at q; omega
  rw [← hwe] at h4
  have h01 := tI_01 (fitP wt v B)
  rw [← hwe]
  have z1 : zF (sSt s) M (uI M w 8 (tI (fitP wt v B))) := zF_i hL hI _ (Or.inl ⟨hwe, by omega⟩) (fun s' hs' => by omega)
  have T1 := TkX_z hs hg hz hT z1 nS
  simp +decide (disch := omega) only [qX8_settle, lt_ hL hw, h01, am_w1_i, am_w1_r, am_w1_x, am_w1_l, am_w1_w, va_rf_s, am_push_n, am_push_s, am_cs_0, am_cs_i, am_cs_l, am_cs_r, m_uI_K, m_uI_N, m_uI_R, m_uI_L, m_uI_I, m_uL_K, m_uL_N, m_uL_R, m_uL_I, m_uL_L, m_uR_K, m_uR_N, m_uR_I, m_uR_L, m_uR_R, true_and, and_true]
  rw [hwe]
  refine c_x_markAlone d s g z v wt dep dr ld B Y (uI M (173 + 13 * s) 8 (tI (fitP wt v B))) _ (by rw [← hwe]; exact z1.1) (by rw [← hwe]; exact z1.2.1) hs hg hz (by rw [← hwe]; exact T1) (fun M2 g2 T2 a2 => ?_)
  rw [← hwe] at g2 ⊢
  have G2 : zF (sSt s) M M2 := zF_trans z1 (zF_up g2 (fun a j q => by unfold sA at q; unfold sSt; omega))
  have L2 := G2.1
  have hk2 := lt_ L2 hw
  have k10 : mK (uI M2 w 11 0) (w + 10) = 1 := by show mK M2 (w + 10) = 1; simp only [hk2]
  have n10 : mN (uI M2 w 11 0) (w + 10) = 192 := by show mN M2 (w + 10) = 192; simp only [hk2]
  have z3 : zF (sSt s) M2 (uI M2 w 11 0) := zF_i L2 G2.2.1 _ (Or.inl ⟨hwe, by omega⟩) (fun s' hs' => by omega)
  have z4 : zF (sSt s) (uI M2 w 11 0) (uB (uI M2 w 11 0) (w + 10) (fun j => if j < 192 then 0 else mL (uI M2 w 11 0) (w + 10) j)) := zF_l z3.1 z3.2.1 ⟨fun _ _ => rfl, fun _ _ => rfl, rfl, fun a j q => by rw [uB_L, if_neg q]⟩ (by omega) (fun j => by unfold sSt; omega) (fun s' hs' => by omega)
  have G4 := zF_trans G2 (zF_trans z3 z4)
  have T4 := TkX_z hs hg hz (TkX_z hs hg hz T2 z3 nS) z4 nS
  simp +decide (disch := omega) only [qX8_settle, lt_ L2 hw, am_w1_i, am_w1_r, am_w1_x, am_w1_l, am_w1_w, va_rf_s, am_push_n, am_push_s, am_cs_0, am_cs_i, am_cs_l, am_cs_r, m_uI_K, m_uI_N, m_uI_R, m_uI_L, m_uI_I, m_uL_K, m_uL_N, m_uL_R, m_uL_I, m_uL_L, m_uR_K, m_uR_N, m_uR_I, m_uR_L, m_uR_R, true_and, and_true]
  rw [c_fillJ (d + 3) (w + 10) 0 (uI M2 w 11 0) _ k10 (by rw [n10]; decide), n10]
  obtain ⟨M4, hM4⟩ : ∃ M4, M4 = uB (uI M2 w 11 0) (w + 10) (fun j => if j < 192 then 0 else mL (uI M2 w 11 0) (w + 10) j) := ⟨_, rfl⟩
  rw [← hM4] at G4 T4 ⊢
  have L4 := G4.1
  have r8 : mI M4 w 8 = tI (fitP wt v B) := by
    rw [hM4]
    show mI (uI M2 w 11 0) w 8 = _
    rw [m_uI_I, if_neg (by omega), g2.2.2.2.1 _ _ (by omega) (fun s' hs' => by omega) (fun q => by unfold sA at q; omega), m_uI_I, if_pos ⟨rfl, rfl⟩]
  have r4 : mI M4 w 4 = 1 := by
    rw [hM4]
    show mI (uI M2 w 11 0) w 4 = _
    rw [m_uI_I, if_neg (by omega), g2.2.2.2.1 _ _ (by omega) (fun s' hs' => by omega) (fun q => by unfold sA at q; omega), m_uI_I, if_neg (by omega)]
    exact h4
  have r11 : mI M4 w 11 = 0 := by
    rw [hM4]
    show mI (uI M2 w 11 0) w 11 = _
    rw [m_uI_I, if_pos ⟨rfl, rfl⟩]
  have ra : ∀ k y, Y[k]? = some y → mI M4 (181 + 13 * s) k = tI (goodY wt v (sndP dep dr ld) B y) ∧ mI M4 (182 + 13 * s) k = 0 := by
    intro k y hy
    rw [hM4]
    show mI (uI M2 w 11 0) _ k = _ ∧ mI (uI M2 w 11 0) _ k = _
    rw [m_uI_I, if_neg (by omega), m_uI_I, if_neg (by omega)]
    exact a2 k y hy
  have rm : ∀ h, h < 48 → ∀ q, ¬ inS (my4 M4 s h) q := fun h hh q hq => by
    refine inS_0 q ((inS_ext (fun i hi => ?_) q).mp hq)
    show mL M4 (183 + 13 * s) (4 * h + i) = 0
    rw [hM4, uB_L, if_pos (by omega), if_pos (by omega)]
  simp +decide (disch := omega) only [qX8_settle, lt_ L4 hw, r8, am_w1_i, am_w1_r, am_w1_x, am_w1_l, am_w1_w, va_rf_s, am_push_n, am_push_s, am_cs_0, am_cs_i, am_cs_l, am_cs_r, m_uI_K, m_uI_N, m_uI_R, m_uI_L, m_uI_I, m_uL_K, m_uL_N, m_uL_R, m_uL_I, m_uL_L, m_uR_K, m_uR_N, m_uR_I, m_uR_L, m_uR_R, true_and, and_true]
  by_cases c : fitP wt v B
  · have hln4 : LnP M4 (173 + 13 * s) (cov B) := LnP_I (hln c) (fun j => by
      rw [hM4]
      show mI (uI M2 w 11 0) _ j = _
      rw [m_uI_I, if_neg (by omega), g2.2.2.2.1 _ _ (by omega) (fun s' hs' => by omega) (fun q => by unfold sA at q; omega), m_uI_I, if_neg (by omega)])
    rw [tI_t c, br_n (by decide)]
    rw [hwe]
    refine c_x_countChains d s g z v wt dep dr ld B Y M4 _ L4 G4.2.1 hs hg hz hsr T4 (fun k y hy => (ra k y hy).1) (fun M5 g5 T5 m5 => ?_)
    have k5 : ∀ a j, a < 336 → (∀ s', s' < 8 → ¬ a = 177 + 13 * s') → ¬ a = 184 + 13 * s → mI M5 a j = mI M4 a j := fun a j q1 q2 q3 => g5.2.2.2.1 a j q1 q2 q3
    simp +decide only [qX8_settle, lt_ g5.1 (isTr_of hs), am_w1_i, am_w1_r, am_w1_x, am_w1_l, am_w1_w, va_rf_s, am_push_n, am_push_s, am_cs_0, am_cs_i, am_cs_l, am_cs_r, m_uI_K, m_uI_N, m_uI_R, m_uI_L, m_uI_I, m_uL_K, m_uL_N, m_uL_R, m_uL_I, m_uL_L, m_uR_K, m_uR_N, m_uR_I, m_uR_L, m_uR_R, true_and, and_true]
    refine c_x_keep d s g z v wt dep dr ld B Y M5 _ g5.1 g5.2.1 hs hg hz hsr T5 m5 (fun k hk => ?_) ?_ (fun M6 g6 T6 c6 k6 => ?_)
    · obtain ⟨y, hy⟩ : ∃ y, Y[k]? = some y := ⟨Y[k]'hk, List.getElem?_eq_getElem hk⟩
      rw [k5 _ _ (by omega) (fun s' hs' => by omega) (by omega)]
      exact (ra k y hy).2
    · rw [k5 _ _ (by omega) (fun s' hs' => by omega) (by omega), ← hwe]
      exact r11
    · have f6 : ∀ a j, a < 336 → (∀ s', s' < 8 → ¬ a = 177 + 13 * s') → ¬ a = 182 + 13 * s → ¬ (a = 173 + 13 * s ∧ j = 11) → mI M6 a j = mI M5 a j := fun a j q1 q2 q3 q4 => g6.2.2.2.1 a j q1 q2 (fun q => by unfold sKp at q; omega)
      simp +decide only [qX8_settle, lt_ g6.1 (isTr_of hs), am_w1_i, am_w1_r, am_w1_x, am_w1_l, am_w1_w, va_rf_s, am_push_n, am_push_s, am_cs_0, am_cs_i, am_cs_l, am_cs_r, m_uI_K, m_uI_N, m_uI_R, m_uI_L, m_uI_I, m_uL_K, m_uL_N, m_uL_R, m_uL_I, m_uL_L, m_uR_K, m_uR_N, m_uR_I, m_uR_L, m_uR_R, true_and, and_true]
      refine c_x_findMay (d + 1) s g z v wt dep dr ld B Y M6 _ g6.1 g6.2.1 hs hg hz hsr hsw T6 c (LnP_I hln4 (fun j => ?_)) k6 (fun M7 g7 m7 => ?_)
      · rw [f6 _ _ (by omega) (fun s' hs' => by omega) (by omega) (by omega), k5 _ _ (by omega) (fun s' hs' => by omega) (by omega)]
      · have f7 : ∀ a j, a < 336 → (∀ s', s' < 8 → ¬ a = 177 + 13 * s') → ¬ a = 180 + 13 * s → ¬ a = 183 + 13 * s → mI M7 a j = mI M6 a j := fun a j q1 q2 q3 q4 => g7.2.2.2.1 a j q1 q2 (fun q => by unfold sMy at q; omega)
        simp +decide only [qX8_settle, am_w1_i, am_w1_r, am_w1_x, am_w1_l, am_w1_w, va_rf_s, am_push_n, am_push_s, am_cs_0, am_cs_i, am_cs_l, am_cs_r, m_uI_K, m_uI_N, m_uI_R, m_uI_L, m_uI_I, m_uL_K, m_uL_N, m_uL_R, m_uL_I, m_uL_L, m_uR_K, m_uR_N, m_uR_I, m_uR_L, m_uR_R, true_and, and_true]
        refine hQ M7 (zF_trans G4 (zF_trans (zF_up g5 (fun a j q => by unfold sM at q; unfold sSt; omega)) (zF_trans (zF_up g6 (fun a j q => by unfold sKp at q; unfold sSt; omega)) (zF_up g7 (fun a j q => by unfold sMy at q; unfold sSt; omega))))) ?_ ⟨?_, fun k y hy => ?_, ?_, fun k hk => ?_, m7⟩
        · rw [f7 _ _ (by omega) (fun s' hs' => by omega) (by omega) (by omega), f6 _ _ (by omega) (fun s' hs' => by omega) (by omega) (by omega), k5 _ _ (by omega) (fun s' hs' => by omega) (by omega), ← hwe]
          exact r4
        · rw [f7 _ _ (by omega) (fun s' hs' => by omega) (by omega) (by omega), f6 _ _ (by omega) (fun s' hs' => by omega) (by omega) (by omega), k5 _ _ (by omega) (fun s' hs' => by omega) (by omega), ← hwe]
          exact r8
        · rw [f7 _ _ (by omega) (fun s' hs' => by omega) (by omega) (by omega), f6 _ _ (by omega) (fun s' hs' => by omega) (by omega) (by omega), k5 _ _ (by omega) (fun s' hs' => by omega) (by omega)]
          exact (ra k y hy).1
        · rw [f7 _ _ (by omega) (fun s' hs' => by omega) (by omega) (by omega), c6, kcY_t c]
        · rw [f7 _ _ (by omega) (fun s' hs' => by omega) (by omega) (by omega), k6 k hk]
          exact tI_i (and_iff_right c).symm
  · rw [tI_f c, br_p rfl]
    refine hQ M4 G4 (by rw [← hwe]; exact r4) ⟨by rw [← hwe]; exact r8, fun k y hy => (ra k y hy).1, by rw [← hwe, r11, kcY_f c]; rfl, fun k hk => ?_, fun h hh q => ⟨fun z => absurd z (rm h hh q), fun z => absurd z.1 c⟩⟩
    obtain ⟨y, hy⟩ : ∃ y, Y[k]? = some y := ⟨Y[k]'hk, List.getElem?_eq_getElem hk⟩
    rw [(ra k y hy).2, tI_f (fun q => c q.1)]
theorem c_x_settle (d s g z v : Nat) (wt : Nat → Prop) (dep : Nat → Nat) (dr ld : Nat) (B : List Fct) (Y : List Sy) (M : am_M) (Q : Option Value → am_M → Prop) (hL : Lay M) (hI : RInv M) (hs : s < 8) (hg : isSh g) (hz : z = 2 ∨ z = 83) (hsr : srtY Y) (hsw : ∀ y, y ∈ Y → sndP dep dr ld y.2.1 y.2.2 → wt y.2.1) (hT : TkX M s g z v wt dep dr ld B Y) (hS : StX M s v wt (sndP dep dr ld) B Y)
    (hQ : ∀ M', zF (sSt s) M M' → mI M' (173 + 13 * s) 4 = 1 → SetX M' s v wt (sndP dep dr ld) B Y → Q none M') : am_E am_P0 (d + 4) 83 [.ref (173 + 13 * s)] M Q := by
  obtain ⟨w, hwe⟩ : ∃ w, w = 173 + 13 * s := ⟨_, rfl⟩
  have hw : isTr w := ⟨s, hs, hwe⟩
  have hgl := isSh_lt hg
  have nS : ∀ a j, a < 164 → ¬ sSt s a j := fun a j ha q => by unfold sSt at q; omega
  have hord := BkX_ord hT.2.2.1
  rw [eX8_settle]
  rcases hS with h4 | ⟨h4, hS⟩
  · rw [← hwe] at h4 ⊢
    have z1 : zF (sSt s) M (uI M w 4 1) := zF_i hL hI _ (Or.inl ⟨hwe, by omega⟩) (fun s' hs' => by omega)
    have T1 := TkX_z hs hg hz hT z1 nS
    have L1 := z1.1
    have hR1 := T1.2.1.1
    rw [← hwe] at hR1
    simp +decide (disch := omega) only [qX8_settle, lt_ hL hw, h4, am_w1_i, am_w1_r, am_w1_x, am_w1_l, am_w1_w, va_rf_s, am_push_n, am_push_s, am_cs_0, am_cs_i, am_cs_l, am_cs_r, m_uI_K, m_uI_N, m_uI_R, m_uI_L, m_uI_I, m_uL_K, m_uL_N, m_uL_R, m_uL_I, m_uL_L, m_uR_K, m_uR_N, m_uR_I, m_uR_L, m_uR_R, true_and, and_true, true_implies, false_implies]
    have h41 : mI (uI M w 4 1) w 4 = 1 := by rw [m_uI_I, if_pos ⟨rfl, rfl⟩]
    obtain ⟨M1, hM1⟩ : ∃ M1, M1 = uI M w 4 1 := ⟨_, rfl⟩
    rw [← hM1] at z1 T1 L1 hR1 h41 ⊢
    refine c_x_layBooks (d + 1) w g B M1 _ L1 hw hg hR1 T1.2.2.1 (fun M2 g2 hn => ?_) (fun M2 g2 hc => ?_)
    · have x2 := zF_x (xF_L hs L1 z1.2.1 (by rw [← hwe]; exact g2))
      have X2 : zF (sSt s) M1 M2 := zF_up x2 (fun a j q => by unfold sSt; omega)
      have hnf : ¬ fitP wt v B := fun q => hn (lin_uniq ((fit_lin hord).mp q))
      have h0 := l_x_settle2 d s g z v wt dep dr ld B Y M2 Q X2.1 X2.2.1 hs hg hz hsr hsw (TkX_z hs hg hz T1 X2 nS) (fun q => absurd q hnf) (by rw [← hwe, x2.2.2.2.1 _ _ (by omega) (fun s' hs' => by omega) (by omega)]; exact h41) (fun M' a1 a2 a3 => hQ M' (zF_trans z1 (zF_trans X2 a1)) a2 a3)
      rw [tI_f hnf, ← hwe] at h0
      simp +decide only [qX8_settle, lt_ X2.1 hw, am_w1_i, am_w1_r, am_w1_x, am_w1_l, am_w1_w, va_rf_s, am_push_n, am_push_s, am_cs_0, am_cs_i, am_cs_l, am_cs_r, m_uI_K, m_uI_N, m_uI_R, m_uI_L, m_uI_I, m_uL_K, m_uL_N, m_uL_R, m_uL_I, m_uL_L, m_uR_K, m_uR_N, m_uR_I, m_uR_L, m_uR_R, true_and, and_true, true_implies, false_implies] at h0 ⊢
      exact h0
    · have x2 := zF_x (xF_L hs L1 z1.2.1 (by rw [← hwe]; exact g2))
      have X2 : zF (sSt s) M1 M2 := zF_up x2 (fun a j q => by unfold sSt; omega)
      have T2 := TkX_z hs hg hz T1 X2 nS
      simp +decide only [qX8_settle, lt_ X2.1 hw, am_w1_i, am_w1_r, am_w1_x, am_w1_l, am_w1_w, va_rf_s, am_push_n, am_push_s, am_cs_0, am_cs_i, am_cs_l, am_cs_r, m_uI_K, m_uI_N, m_uI_R, m_uI_L, m_uI_I, m_uL_K, m_uL_N, m_uL_R, m_uL_I, m_uL_L, m_uR_K, m_uR_N, m_uR_I, m_uR_L, m_uR_R, true_and, and_true, true_implies, false_implies]
      have e6 : w + 6 = 179 + 13 * s := by omega
      have e1 : w + 1 = 174 + 13 * s := by omega
      rw [e6, e1]
      refine c_x_holds d s v wt (cov B) M2 _ hs X2.1 X2.2.1 (by rw [← hwe]; exact hc) T2.1 (fun M3 g3 => ?_)
      have X3 : zF (sSt s) M2 M3 := zF_r g3
      have k3 : ∀ a j, a < 336 → (∀ s', s' < 8 → ¬ a = 177 + 13 * s') → mI M3 a j = mI M2 a j := fun a j q1 q2 => g3.2.2.2.1 a j q1 q2
      have h0 := l_x_settle2 d s g z v wt dep dr ld B Y M3 Q X3.1 X3.2.1 hs hg hz hsr hsw (TkX_z hs hg hz T2 X3 nS) (fun q => LnP_I (by rw [← hwe]; exact hc) (fun j => k3 _ _ (by omega) (fun s' hs' => by omega))) (by rw [k3 _ _ (by omega) (fun s' hs' => by omega), x2.2.2.2.1 _ _ (by omega) (fun s' hs' => by omega) (by omega), ← hwe]; exact h41) (fun M' a1 a2 a3 => hQ M' (zF_trans z1 (zF_trans X2 (zF_trans X3 a1))) a2 a3)
      rw [← hwe] at h0
      have hfl := fit_lin (w := wt) (v := v) hord
      by_cases c : linP wt v (cov B)
      · rw [tI_t (hfl.mpr c)] at h0
        rw [tI_t c]
        simp +decide only [qX8_settle, lt_ X3.1 hw, am_w1_i, am_w1_r, am_w1_x, am_w1_l, am_w1_w, va_rf_s, am_push_n, am_push_s, am_cs_0, am_cs_i, am_cs_l, am_cs_r, m_uI_K, m_uI_N, m_uI_R, m_uI_L, m_uI_I, m_uL_K, m_uL_N, m_uL_R, m_uL_I, m_uL_L, m_uR_K, m_uR_N, m_uR_I, m_uR_L, m_uR_R, true_and, and_true, true_implies, false_implies] at h0 ⊢
        exact h0
      · rw [tI_f (fun q => c (hfl.mp q))] at h0
        rw [tI_f c]
        simp +decide only [qX8_settle, lt_ X3.1 hw, am_w1_i, am_w1_r, am_w1_x, am_w1_l, am_w1_w, va_rf_s, am_push_n, am_push_s, am_cs_0, am_cs_i, am_cs_l, am_cs_r, m_uI_K, m_uI_N, m_uI_R, m_uI_L, m_uI_I, m_uL_K, m_uL_N, m_uL_R, m_uL_I, m_uL_L, m_uR_K, m_uR_N, m_uR_I, m_uR_L, m_uR_R, true_and, and_true, true_implies, false_implies] at h0 ⊢
        exact h0
  · have h0 := hQ M (zF_refl hL hI) h4 hS
    rw [← hwe] at h4 ⊢
    simp +decide only [qX8_settle, lt_ hL hw, h4, am_w1_i, am_w1_r, am_w1_x, am_w1_l, am_w1_w, va_rf_s, am_push_n, am_push_s, am_cs_0, am_cs_i, am_cs_l, am_cs_r, m_uI_K, m_uI_N, m_uI_R, m_uI_L, m_uI_I, m_uL_K, m_uL_N, m_uL_R, m_uL_I, m_uL_L, m_uR_K, m_uR_N, m_uR_I, m_uR_L, m_uR_R, true_and, and_true, true_implies, false_implies]
    exact h0
