/-! the class: counting gaps -/
theorem us_no1 {Y : List Sy} {y : Sy} {t : Nat} (hs : srtY Y) (h0 : Y[0]? = some y) (ht : t ≤ y.1) : ¬ usY Y t := by
  rintro ⟨⟨y', h1, h2⟩, -⟩
  obtain ⟨k, hk⟩ := List.mem_iff_getElem?.mp h1
  by_cases e : k = 0
  · subst e; cases h0.symm.trans hk; omega
  · have := srtY_lt hs (i := 0) (j := k) h0 hk (by omega)
    omega
theorem us_no2 {Y : List Sy} {y : Sy} {n t : Nat} (hs : srtY Y) (hn : n + 1 = Y.length) (h0 : Y[n]? = some y) (ht : y.1 ≤ t) : ¬ usY Y t := by
  rintro ⟨-, ⟨y', h1, h2⟩, -⟩
  obtain ⟨k, hk⟩ := List.mem_iff_getElem?.mp h1
  have hkl := (List.getElem?_eq_some_iff.mp hk).1
  by_cases e : k = n
  · subst e; cases h0.symm.trans hk; omega
  · have := srtY_lt hs (i := k) (j := n) hk h0 (by omega)
    omega
theorem us_at {Y : List Sy} {y y' : Sy} {i t : Nat} (hs : srtY Y) (h0 : Y[i]? = some y) (h1 : Y[i + 1]? = some y') (ht : y.1 < t) (ht2 : t < y'.1) : usY Y t := by
  refine ⟨⟨y, List.mem_of_getElem? h0, ht⟩, ⟨y', List.mem_of_getElem? h1, ht2⟩, fun u hu e => ?_⟩
  obtain ⟨k, hk⟩ := List.mem_iff_getElem?.mp hu
  rcases Nat.lt_trichotomy k i with q | q | q
  · have := srtY_lt hs hk h0 q; omega
  · subst q; cases h0.symm.trans hk; omega
  · by_cases e2 : k = i + 1
    · subst e2; cases h1.symm.trans hk; omega
    · have := srtY_lt hs h1 hk (by omega); omega
theorem us_said {Y : List Sy} {y : Sy} (h : y ∈ Y) : ¬ usY Y y.1 := fun q => q.2.2 y h rfl
theorem cnt_stay {g : Nat → Bool} {a b : Nat} (h : a ≤ b) (hg : ∀ t, a ≤ t → t < b → ¬ g t = true) : cnt g b = cnt g a := by
  induction b with
  | zero => have : a = 0 := by omega
            subst this; rfl
  | succ b ih =>
    by_cases e : a = b + 1
    · rw [e]
    · rw [cnt_f (hg b (by omega) (by omega))]
      exact ih (by omega) (fun t h1 h2 => hg t h1 (by omega))
section
variable (wt : Nat → Prop) (v : Nat) (snd : Nat → Bool → Prop) (B : List Fct) (Y : List Sy) (qut : Nat → Nat → Prop)
/-- what counting leaves -/
def GpX (M : am_M) (s : Nat) : Prop := mI M (173 + 13 * s) 4 = 1 ∧ SetX M s v wt snd B Y ∧ mI M (173 + 13 * s) 13 = nI (unN Y 48) ∧ mI M (173 + 13 * s) 14 = nI (gpN wt v snd B Y qut 48)
def CtX (M : am_M) (s : Nat) : Prop := mI M (173 + 13 * s) 5 = 0 ∨ (mI M (173 + 13 * s) 5 = 1 ∧ GpX wt v snd B Y qut M s)
end
def sGp (s z a j : Nat) : Prop := sSt s a j ∨ sMm z a j ∨ (a = 173 + 13 * s ∧ (j = 5 ∨ j = 13 ∨ j = 14))
/-- while it is counted: t hours are through -/
def GqX (wt : Nat → Prop) (v : Nat) (snd : Nat → Bool → Prop) (B : List Fct) (Y : List Sy) (qut : Nat → Nat → Prop) (M : am_M) (s t : Nat) : Prop := mI M (173 + 13 * s) 4 = 1 ∧ mI M (173 + 13 * s) 5 = 1 ∧ SetX M s v wt snd B Y ∧ mI M (173 + 13 * s) 13 = nI (unN Y t) ∧ mI M (173 + 13 * s) 14 = nI (gpN wt v snd B Y qut t)
theorem sGp_g {s g z a j : Nat} (hg : isSh g) (hz : z = 2 ∨ z = 83) (h : (g ≤ a ∧ a ≤ g + 6) ∨ a = z + 21) : ¬ sGp s z a j := by
  have := isSh_lt hg
  rintro (q | q | q)
  · unfold sSt at q; omega
  · exact sMm_g hg hz h q
  · omega
theorem l_x_gap2 (d s g z v i : Nat) (wt : Nat → Prop) (dep cst : Nat → Nat) (qut : Nat → Nat → Prop) (dr ld : Nat) (B : List Fct) (Y : List Sy) (y y' : Sy) (M0 : am_M) (Q : Option Value → am_M → Prop) (hs : s < 8) (hg : isSh g) (hz : z = 2 ∨ z = 83) (hsr : srtY Y) (hy : Y[i]? = some y) (hy' : Y[i + 1]? = some y')
    (hN : ∀ M', zF (sGp s z) M0 M' → TkX M' s g z v wt dep dr ld B Y → SqX M' z dep cst qut → GqX wt v (sndP dep dr ld) B Y qut M' s (y'.1 + 1) → am_P am_P0 (d + 6) (am_look tX8_countGaps) 29 [.ref (173 + 13 * s), .int (nI (i + 1)), .int (nI y'.1)] [] M' Q) :
    ∀ (r t : Nat), t + r = y'.1 → y.1 < t → ∀ (M : am_M), zF (sGp s z) M0 M → TkX M s g z v wt dep dr ld B Y → SqX M z dep cst qut → GqX wt v (sndP dep dr ld) B Y qut M s t → am_P am_P0 (d + 6) (am_look tX8_countGaps) 54 [.ref (173 + 13 * s), .int (nI i), .int (nI t)] [] M Q := by
  obtain ⟨w, hwe⟩ : ∃ w, w = 173 + 13 * s := ⟨_, rfl⟩
  have hw : isTr w := ⟨s, hs, hwe⟩
  have hil := (List.getElem?_eq_some_iff.mp hy').1
  intro r
  induction r with
  | zero =>
    intro t ht hyt M hM hT hS hG
    have h48 := hT.2.2.2.2.1
    have hR := hT.2.1.1
    have e : t = y'.1 := by omega
    subst e
    obtain ⟨⟨y1, y2⟩, y3, y4, y5⟩ := hT.2.2.2.2.2 (i + 1) y' hy'
    have hle : nI y'.1 ≤ nI y'.1 := (ni_le (by omega) (by omega)).mpr (Nat.le_refl _)
    have hus := us_said (List.mem_of_getElem? hy')
    have h0 := hN M hM hT hS ⟨hG.1, hG.2.1, hG.2.2.1, by rw [hG.2.2.2.1]; unfold unN; rw [cnt_f (fun q => hus (dB_t.mp q))], by rw [hG.2.2.2.2]; unfold gpN; rw [cnt_f (fun q => hus (dB_t.mp q).1)]⟩
    rw [← hwe] at hR h0 ⊢
    rw [hX8_countGaps_54]
    simp +decide (disch := omega) only [qX8_countGaps_0, qX8_countGaps_1, lt_ hM.1 hw, lw_ hM.1 hg, hR, y3, ni_in_t, ni_tn, ni_add1, am_w1_i, am_w1_r, am_w1_x, am_w1_l, am_w1_w, va_rf_s, am_push_n, am_push_s, am_cs_0, am_cs_i, am_cs_l, am_cs_r, m_uI_K, m_uI_N, m_uI_R, m_uI_L, m_uI_I, m_uL_K, m_uL_N, m_uL_R, m_uL_I, m_uL_L, m_uR_K, m_uR_N, m_uR_I, m_uR_L, m_uR_R, true_and, and_true, true_implies, false_implies, not_true_eq_false, not_false_eq_true, if_true, if_false, false_and, and_false]
    rw [br_p hle]
    exact h0
  | succ r ih =>
    intro t ht hyt M hM hT hS hG
    have hL := hM.1
    have h48 := hT.2.2.2.2.1
    have hR := hT.2.1.1
    obtain ⟨⟨y1, y2⟩, y3, y4, y5⟩ := hT.2.2.2.2.2 (i + 1) y' hy'
    have hlt : ¬ nI y'.1 ≤ nI t := by rw [ni_le (by omega) (by omega)]; omega
    have hus := us_at hsr hy hy' hyt (by omega)
    have hun : unN Y (t + 1) = unN Y t + 1 := by unfold unN; rw [cnt_t (dB_t.mpr hus)]
    obtain ⟨g4, g5, gS, g13, g14⟩ := hG
    rw [← hwe] at hR g13 g14 ⊢
    have z1 : zF (fun a j => a = w ∧ (j = 13 ∨ j = 14)) M (uI M w 13 (nI (unN Y t + 1))) := zF_i hL hM.2.1 _ ⟨rfl, Or.inl rfl⟩ (fun s' hs' => by omega)
    have up2 : ∀ a j, (a = w ∧ (j = 13 ∨ j = 14)) → sGp s z a j := fun a j q => Or.inr (Or.inr ⟨by omega, by omega⟩)
    rw [hX8_countGaps_54]
    simp +decide (disch := omega) only [qX8_countGaps_0, qX8_countGaps_1, lt_ hL hw, lw_ hL hg, hR, y3, g13, g14, ni_in_t, ni_tn, ni_add1, am_w1_i, am_w1_r, am_w1_x, am_w1_l, am_w1_w, va_rf_s, am_push_n, am_push_s, am_cs_0, am_cs_i, am_cs_l, am_cs_r, m_uI_K, m_uI_N, m_uI_R, m_uI_L, m_uI_I, m_uL_K, m_uL_N, m_uL_R, m_uL_I, m_uL_L, m_uR_K, m_uR_N, m_uR_I, m_uR_L, m_uR_R, true_and, and_true, true_implies, false_implies, not_true_eq_false, not_false_eq_true, if_true, if_false, false_and, and_false]
    rw [br_n hlt]
    obtain ⟨M1, hM1⟩ : ∃ M1, M1 = uI M w 13 (nI (unN Y t + 1)) := ⟨_, rfl⟩
    rw [← hM1] at z1 ⊢
    have hk13 : mI M1 w 13 = nI (unN Y t + 1) := by rw [hM1, m_uI_I, if_pos ⟨rfl, rfl⟩]
    have k1 : ∀ a j, ¬ (a = w ∧ j = 13) → mI M1 a j = mI M a j := fun a j q => by rw [hM1, m_uI_I, if_neg q]
    have hR1 : mR M1 (173 + 13 * s) 1 = some z := by rw [hM1]; exact hT.2.1.2.1
    have S1 : SqX M1 z dep cst qut := SqX_u hS (fun a j q1 q2 q3 => k1 _ _ (by omega)) (fun a j q => by rw [hM1]; rfl)
    have gS1 : SetX M1 s v wt (sndP dep dr ld) B Y := SetX_z hs gS z1 (fun a j q w => by omega)
    have T1 := TkX_zz hs hg hz hT z1 (fun a j q w => by have := isSh_lt hg; omega)
    rw [hwe]
    refine c_x_isHonest d s z t (fun q => mayY wt v (sndP dep dr ld) B Y q t) dep cst qut M1 _ z1.1 z1.2.1 hs hz (by omega) hR1 (gS1.2.2.2.2 t (by omega)) S1 (fun M2 g2 S2 => ?_)
    have gS2 : SetX M2 s v wt (sndP dep dr ld) B Y := SetX_z hs gS1 g2 (fun a j q w => by unfold sMm at w; omega)
    have T2 := TkX_zz hs hg hz T1 g2 (fun a j q => sMm_g hg hz q)
    have k2 : ∀ j, mI M2 w j = mI M1 w j := fun j => g2.2.2.2.1 _ _ (by omega) (fun s' hs' => by omega) (by unfold sMm; omega)
    have fin : ∀ n, n = gpN wt v (sndP dep dr ld) B Y qut (t + 1) → am_P am_P0 (d + 6) (am_look tX8_countGaps) 54 [.ref w, .int (nI i), .int (nI (t + 1))] [] (uI M2 w 14 (nI n)) Q := fun n hn => by
      have z3 : zF (fun a j => a = w ∧ (j = 13 ∨ j = 14)) M2 (uI M2 w 14 (nI n)) := zF_i g2.1 g2.2.1 _ ⟨rfl, Or.inr rfl⟩ (fun s' hs' => by omega)
      have r3 : ∀ j, ¬ j = 14 → mI (uI M2 w 14 (nI n)) (173 + 13 * s) j = mI M1 w j := fun j hj => by rw [m_uI_I, if_neg (fun q => hj q.2), ← hwe, k2]
      have h0 := ih (t + 1) (by omega) (by omega) (uI M2 w 14 (nI n)) (zF_trans hM (zF_trans (zF_up z1 up2) (zF_trans (zF_up g2 (fun a j q => Or.inr (Or.inl q))) (zF_up z3 up2)))) (TkX_zz hs hg hz T2 z3 (fun a j q w => by have := isSh_lt hg; omega)) (SqX_u S2 (fun a j q1 q2 q3 => by rw [m_uI_I, if_neg (by omega)]) (fun a j q => rfl)) ⟨by rw [r3 _ (by omega), k1 _ _ (by omega), hwe]; exact g4, by rw [r3 _ (by omega), k1 _ _ (by omega), hwe]; exact g5, SetX_z hs gS2 z3 (fun a j q w => by omega), by rw [r3 _ (by omega), hk13, hun], by rw [m_uI_I, if_pos ⟨hwe.symm, rfl⟩, hn]⟩
      rw [← hwe] at h0
      exact h0
    rw [← hwe]
    by_cases ch : hnY wt v (sndP dep dr ld) B Y qut t
    · have ch' : ∃ q, mayY wt v (sndP dep dr ld) B Y q t ∧ qut q t := ch
      have h0 := fin (gpN wt v (sndP dep dr ld) B Y qut t) (by unfold gpN; rw [cnt_f (fun q => (dB_t.mp q).2 ch)])
      have ez : nI (gpN wt v (sndP dep dr ld) B Y qut t) + 0 = nI (gpN wt v (sndP dep dr ld) B Y qut t) := Int32.add_zero _
      rw [tI_t ch']
      simp +decide only [qX8_countGaps_0, qX8_countGaps_1, lt_ g2.1 hw, k2, k1 w 14 (by omega), g14, ez, ni_add1, am_w1_i, am_w1_r, am_w1_x, am_w1_l, am_w1_w, va_rf_s, am_push_n, am_push_s, am_cs_0, am_cs_i, am_cs_l, am_cs_r, m_uI_K, m_uI_N, m_uI_R, m_uI_L, m_uI_I, m_uL_K, m_uL_N, m_uL_R, m_uL_I, m_uL_L, m_uR_K, m_uR_N, m_uR_I, m_uR_L, m_uR_R, true_and, and_true, true_implies, false_implies, not_true_eq_false, not_false_eq_true, if_true, if_false, false_and, and_false]
      exact h0
    · have ch' : ¬ ∃ q, mayY wt v (sndP dep dr ld) B Y q t ∧ qut q t := ch
      have h0 := fin (gpN wt v (sndP dep dr ld) B Y qut t + 1) (by unfold gpN; rw [cnt_t (dB_t.mpr ⟨hus, ch⟩)])
      rw [tI_f ch']
      simp +decide only [qX8_countGaps_0, qX8_countGaps_1, lt_ g2.1 hw, k2, k1 w 14 (by omega), g14, ni_add1, am_w1_i, am_w1_r, am_w1_x, am_w1_l, am_w1_w, va_rf_s, am_push_n, am_push_s, am_cs_0, am_cs_i, am_cs_l, am_cs_r, m_uI_K, m_uI_N, m_uI_R, m_uI_L, m_uI_I, m_uL_K, m_uL_N, m_uL_R, m_uL_I, m_uL_L, m_uR_K, m_uR_N, m_uR_I, m_uR_L, m_uR_R, true_and, and_true, true_implies, false_implies, not_true_eq_false, not_false_eq_true, if_true, if_false, false_and, and_false]
      exact h0
theorem l_x_gap1 (d s g z v : Nat) (wt : Nat → Prop) (dep cst : Nat → Nat) (qut : Nat → Nat → Prop) (dr ld : Nat) (B : List Fct) (Y : List Sy) (M0 : am_M) (Q : Option Value → am_M → Prop) (hs : s < 8) (hg : isSh g) (hz : z = 2 ∨ z = 83) (hsr : srtY Y)
    (hQ : ∀ M', zF (sGp s z) M0 M' → SqX M' z dep cst qut → mI M' (173 + 13 * s) 5 = 1 → GpX wt v (sndP dep dr ld) B Y qut M' s → Q none M') :
    ∀ (r i : Nat), i + 1 + r = Y.length → ∀ (y : Sy), Y[i]? = some y → ∀ (M : am_M) (v2 : Value), jk v2 → zF (sGp s z) M0 M → TkX M s g z v wt dep dr ld B Y → SqX M z dep cst qut → GqX wt v (sndP dep dr ld) B Y qut M s (y.1 + 1) → am_P am_P0 (d + 6) (am_look tX8_countGaps) 29 [.ref (173 + 13 * s), .int (nI i), v2] [] M Q := by
  obtain ⟨w, hwe⟩ : ∃ w, w = 173 + 13 * s := ⟨_, rfl⟩
  have hw : isTr w := ⟨s, hs, hwe⟩
  intro r
  induction r with
  | zero =>
    intro i hi y hy M v2 j2 hM hT hS hG
    have h48 := hT.2.2.2.2.1
    have hR := hT.2.1.1
    obtain ⟨⟨y1, y2⟩, y3, y4, y5⟩ := hT.2.2.2.2.2 i y hy
    have hle : nI Y.length ≤ nI (i + 1) := (ni_le (by omega) (by omega)).mpr (by omega)
    have hno : ∀ t, y.1 + 1 ≤ t → t < 48 → ¬ usY Y t := fun t h1 h2 => us_no2 hsr (by omega) hy (by omega)
    have h0 := hQ M hM hS hG.2.1 ⟨hG.1, hG.2.2.1, by rw [hG.2.2.2.1]; unfold unN; rw [cnt_stay (b := 48) (a := y.1 + 1) (by omega) (fun t h1 h2 q => hno t h1 h2 (dB_t.mp q))], by rw [hG.2.2.2.2]; unfold gpN; rw [cnt_stay (b := 48) (a := y.1 + 1) (by omega) (fun t h1 h2 q => hno t h1 h2 (dB_t.mp q).1)]⟩
    rw [← hwe] at hR ⊢
    rw [hX8_countGaps_29]
    simp +decide only [qX8_countGaps_0, qX8_countGaps_1, lt_ hM.1 hw, lw_ hM.1 hg, hR, hT.2.2.2.1, ni_add1, am_w1_i, am_w1_r, am_w1_x, am_w1_l, am_w1_w, va_rf_s, am_push_n, am_push_s, am_cs_0, am_cs_i, am_cs_l, am_cs_r, m_uI_K, m_uI_N, m_uI_R, m_uI_L, m_uI_I, m_uL_K, m_uL_N, m_uL_R, m_uL_I, m_uL_L, m_uR_K, m_uR_N, m_uR_I, m_uR_L, m_uR_R, true_and, and_true, true_implies, false_implies, not_true_eq_false, not_false_eq_true, if_true, if_false, false_and, and_false]
    rw [br_p hle]
    exact h0
  | succ r ih =>
    intro i hi y hy M v2 j2 hM hT hS hG
    have h48 := hT.2.2.2.2.1
    have hR := hT.2.1.1
    obtain ⟨⟨y1, y2⟩, y3, y4, y5⟩ := hT.2.2.2.2.2 i y hy
    obtain ⟨y', hy'⟩ : ∃ y, Y[i + 1]? = some y := ⟨Y[i + 1]'(by omega), List.getElem?_eq_getElem (by omega)⟩
    have hyy := srtY_lt hsr hy hy' (by omega)
    have hlt : ¬ nI Y.length ≤ nI (i + 1) := by rw [ni_le (by omega) (by omega)]; omega
    have h0 := l_x_gap2 d s g z v i wt dep cst qut dr ld B Y y y' M0 Q hs hg hz hsr hy hy' (fun M' a1 a2 a3 a4 => ih (i + 1) (by omega) y' hy' M' _ (Or.inr ⟨_, rfl⟩) a1 a2 a3 a4) (y'.1 - (y.1 + 1)) (y.1 + 1) (by omega) (by omega) M hM hT hS hG
    rw [← hwe] at hR h0 ⊢
    rw [hX8_countGaps_29]
    simp +decide (disch := omega) only [qX8_countGaps_0, qX8_countGaps_1, lt_ hM.1 hw, lw_ hM.1 hg, hR, hT.2.2.2.1, y3, ni_in_t, ni_tn, ni_add1, am_w1_i, am_w1_r, am_w1_x, am_w1_l, am_w1_w, va_rf_s, am_push_n, am_push_s, am_cs_0, am_cs_i, am_cs_l, am_cs_r, m_uI_K, m_uI_N, m_uI_R, m_uI_L, m_uI_I, m_uL_K, m_uL_N, m_uL_R, m_uL_I, m_uL_L, m_uR_K, m_uR_N, m_uR_I, m_uR_L, m_uR_R, true_and, and_true, true_implies, false_implies, not_true_eq_false, not_false_eq_true, if_true, if_false, false_and, and_false]
    rw [br_n hlt]
    exact h0
theorem c_x_countGaps (d s g z v : Nat) (wt : Nat → Prop) (dep cst : Nat → Nat) (qut : Nat → Nat → Prop) (dr ld : Nat) (B : List Fct) (Y : List Sy) (M : am_M) (Q : Option Value → am_M → Prop) (hL : Lay M) (hI : RInv M) (hs : s < 8) (hg : isSh g) (hz : z = 2 ∨ z = 83) (hsr : srtY Y) (hsw : ∀ y, y ∈ Y → sndP dep dr ld y.2.1 y.2.2 → wt y.2.1) (hT : TkX M s g z v wt dep dr ld B Y) (hS : SqX M z dep cst qut) (hSt : StX M s v wt (sndP dep dr ld) B Y) (hC : CtX wt v (sndP dep dr ld) B Y qut M s)
    (hQ : ∀ M', zF (sGp s z) M M' → SqX M' z dep cst qut → mI M' (173 + 13 * s) 5 = 1 → GpX wt v (sndP dep dr ld) B Y qut M' s → Q none M') : am_E am_P0 (d + 6) 98 [.ref (173 + 13 * s)] M Q := by
  obtain ⟨w, hwe⟩ : ∃ w, w = 173 + 13 * s := ⟨_, rfl⟩
  have hw : isTr w := ⟨s, hs, hwe⟩
  have hgl := isSh_lt hg
  rw [eX8_countGaps]
  rcases hC with h5 | ⟨h5, hG⟩
  · rw [← hwe] at h5 ⊢
    have z1 : zF (fun a j => a = w ∧ j = 5) M (uI M w 5 1) := zF_i hL hI _ ⟨rfl, rfl⟩ (fun s' hs' => by omega)
    have T1 := TkX_zz hs hg hz hT z1 (fun a j q w => by omega)
    simp +decide (disch := omega) only [qX8_countGaps_0, qX8_countGaps_1, lt_ hL hw, h5, am_w1_i, am_w1_r, am_w1_x, am_w1_l, am_w1_w, va_rf_s, am_push_n, am_push_s, am_cs_0, am_cs_i, am_cs_l, am_cs_r, m_uI_K, m_uI_N, m_uI_R, m_uI_L, m_uI_I, m_uL_K, m_uL_N, m_uL_R, m_uL_I, m_uL_L, m_uR_K, m_uR_N, m_uR_I, m_uR_L, m_uR_R, true_and, and_true, true_implies, false_implies, not_true_eq_false, not_false_eq_true, if_true, if_false, false_and, and_false]
    obtain ⟨M1, hM1⟩ : ∃ M1, M1 = uI M w 5 1 := ⟨_, rfl⟩
    rw [← hM1] at z1 T1 ⊢
    have k1 : ∀ a j, ¬ (a = w ∧ j = 5) → mI M1 a j = mI M a j := fun a j q => by rw [hM1, m_uI_I, if_neg q]
    have St1 : StX M1 s v wt (sndP dep dr ld) B Y := by
      rcases hSt with q | ⟨q1, q2⟩
      · exact Or.inl (by rw [k1 _ _ (by omega)]; exact q)
      · exact Or.inr ⟨by rw [k1 _ _ (by omega)]; exact q1, SetX_z hs q2 z1 (fun a j q w => by omega)⟩
    rw [hwe]
    refine c_x_settle (d + 1) s g z v wt dep dr ld B Y M1 _ z1.1 z1.2.1 hs hg hz hsr hsw T1 St1 (fun M2 g2 m4 gS2 => ?_)
    have k2 : ∀ a j, a < 336 → (∀ s', s' < 8 → ¬ a = 177 + 13 * s') → ¬ sSt s a j → mI M2 a j = mI M1 a j := fun a j q1 q2 q3 => g2.2.2.2.1 a j q1 q2 q3
    have T2 := TkX_zz hs hg hz T1 g2 (fun a j q w => by unfold sSt at w; omega)
    have S2 : SqX M2 z dep cst qut := SqX_u hS (fun a j q1 q2 q3 => by rw [k2 _ _ (by omega) (fun s' hs' => by omega) (by unfold sSt; omega), k1 _ _ (by omega)]) (fun a j q => by rw [g2.2.2.2.2.1 _ _ (by omega) (by unfold sSt; omega), hM1]; rfl)
    have z3 : zF (fun a j => a = w ∧ (j = 13 ∨ j = 14)) M2 (uI M2 w 13 0) := zF_i g2.1 g2.2.1 _ ⟨rfl, Or.inl rfl⟩ (fun s' hs' => by omega)
    have z4 : zF (fun a j => a = w ∧ (j = 13 ∨ j = 14)) (uI M2 w 13 0) (uI (uI M2 w 13 0) w 14 0) := zF_i z3.1 z3.2.1 _ ⟨rfl, Or.inr rfl⟩ (fun s' hs' => by omega)
    have z34 := zF_trans z3 z4
    have T4 := TkX_zz hs hg hz T2 z34 (fun a j q w => by omega)
    have k4 : ∀ a j, ¬ (a = w ∧ j = 13) → ¬ (a = w ∧ j = 14) → mI (uI (uI M2 w 13 0) w 14 0) a j = mI M2 a j := fun a j q1 q2 => by rw [m_uI_I, if_neg q2, m_uI_I, if_neg q1]
    have S4 : SqX (uI (uI M2 w 13 0) w 14 0) z dep cst qut := SqX_u S2 (fun a j q1 q2 q3 => k4 _ _ (by omega) (by omega)) (fun a j q => rfl)
    have gS4 := SetX_z hs gS2 z34 (fun a j q w => by omega)
    have F4 : zF (sGp s z) M (uI (uI M2 w 13 0) w 14 0) := zF_trans (zF_up z1 (fun a j q => Or.inr (Or.inr ⟨by omega, by omega⟩))) (zF_trans (zF_up g2 (fun a j q => Or.inl q)) (zF_up z34 (fun a j q => Or.inr (Or.inr ⟨by omega, by omega⟩))))
    have m44 : mI (uI (uI M2 w 13 0) w 14 0) (173 + 13 * s) 4 = 1 := by rw [k4 _ _ (by omega) (by omega)]; exact m4
    have m45 : mI (uI (uI M2 w 13 0) w 14 0) (173 + 13 * s) 5 = 1 := by rw [k4 _ _ (by omega) (by omega), k2 _ _ (by omega) (fun s' hs' => by omega) (by unfold sSt; omega), hM1, m_uI_I, if_pos ⟨hwe.symm, rfl⟩]
    have m413 : mI (uI (uI M2 w 13 0) w 14 0) (173 + 13 * s) 13 = 0 := by rw [m_uI_I, if_neg (by omega), m_uI_I, if_pos ⟨hwe.symm, rfl⟩]
    have m414 : mI (uI (uI M2 w 13 0) w 14 0) (173 + 13 * s) 14 = 0 := by rw [m_uI_I, if_pos ⟨hwe.symm, rfl⟩]
    have hR4 := T4.2.1.1
    rw [← hwe] at hR4 ⊢
    simp +decide (disch := omega) only [qX8_countGaps_0, qX8_countGaps_1, lt_ g2.1 hw, am_w1_i, am_w1_r, am_w1_x, am_w1_l, am_w1_w, va_rf_s, am_push_n, am_push_s, am_cs_0, am_cs_i, am_cs_l, am_cs_r, m_uI_K, m_uI_N, m_uI_R, m_uI_L, m_uI_I, m_uL_K, m_uL_N, m_uL_R, m_uL_I, m_uL_L, m_uR_K, m_uR_N, m_uR_I, m_uR_L, m_uR_R, true_and, and_true, true_implies, false_implies, not_true_eq_false, not_false_eq_true, if_true, if_false, false_and, and_false]
    by_cases hn : Y.length = 0
    · have hno : ∀ t, ¬ usY Y t := fun t q => by
        obtain ⟨⟨y, hy, -⟩, -⟩ := q
        rw [List.length_eq_zero_iff.mp hn] at hy
        cases hy
      have h0 := hQ _ F4 S4 m45 ⟨m44, gS4, by rw [m413]; unfold unN; rw [cnt_0 (fun t q => hno t (dB_t.mp q))]; rfl, by rw [m414]; unfold gpN; rw [cnt_0 (fun t q => hno t (dB_t.mp q).1)]; rfl⟩
      have hc5 := T4.2.2.2.1
      rw [hn] at hc5
      rw [hX8_countGaps_29]
      simp +decide (disch := omega) only [qX8_countGaps_0, qX8_countGaps_1, lt_ F4.1 hw, lw_ F4.1 hg, hR4, hc5, am_w1_i, am_w1_r, am_w1_x, am_w1_l, am_w1_w, va_rf_s, am_push_n, am_push_s, am_cs_0, am_cs_i, am_cs_l, am_cs_r, m_uI_K, m_uI_N, m_uI_R, m_uI_L, m_uI_I, m_uL_K, m_uL_N, m_uL_R, m_uL_I, m_uL_L, m_uR_K, m_uR_N, m_uR_I, m_uR_L, m_uR_R, true_and, and_true, true_implies, false_implies, not_true_eq_false, not_false_eq_true, if_true, if_false, false_and, and_false]
      exact h0
    · obtain ⟨y, hy⟩ : ∃ y, Y[0]? = some y := ⟨Y[0]'(by omega), List.getElem?_eq_getElem (by omega)⟩
      have hno : ∀ t, t < y.1 + 1 → ¬ usY Y t := fun t ht => us_no1 hsr hy (by omega)
      have h0 := l_x_gap1 d s g z v wt dep cst qut dr ld B Y M Q hs hg hz hsr hQ (Y.length - 1) 0 (by omega) y hy (uI (uI M2 w 13 0) w 14 0) am_x (Or.inl rfl) F4 T4 S4 ⟨m44, m45, gS4, by rw [m413]; unfold unN; rw [cnt_stay (a := 0) (by omega) (fun t h1 h2 q => hno t h2 (dB_t.mp q))]; rfl, by rw [m414]; unfold gpN; rw [cnt_stay (a := 0) (by omega) (fun t h1 h2 q => hno t h2 (dB_t.mp q).1)]; rfl⟩
      rw [← hwe] at h0
      exact h0
  · have h0 := hQ M (zF_refl hL hI) hS h5 hG
    rw [← hwe] at h5 ⊢
    simp +decide only [qX8_countGaps_0, qX8_countGaps_1, lt_ hL hw, h5, am_w1_i, am_w1_r, am_w1_x, am_w1_l, am_w1_w, va_rf_s, am_push_n, am_push_s, am_cs_0, am_cs_i, am_cs_l, am_cs_r, m_uI_K, m_uI_N, m_uI_R, m_uI_L, m_uI_I, m_uL_K, m_uL_N, m_uL_R, m_uL_I, m_uL_L, m_uR_K, m_uR_N, m_uR_I, m_uR_L, m_uR_R, true_and, and_true, true_implies, false_implies, not_true_eq_false, not_false_eq_true, if_true, if_false, false_and, and_false]
    exact h0
