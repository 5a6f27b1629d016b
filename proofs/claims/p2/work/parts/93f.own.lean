/-! the class: own kinds; hours between the ends; hours of change -/
theorem most_all {wt : Nat → Prop} {v : Nat} {snd : Nat → Bool → Prop} {B : List Fct} {Y : List Sy} (hs : srtY Y) (hn : 0 < Y.length) : mostY wt v snd B Y = Y.length ↔ (∀ i, i < Y.length → gY wt v snd B Y i) ∧ ∀ i j, i < Y.length → j < Y.length → ¬ KY wt v Y i j := by
  have h := lg_whole (n := Y.length) (gd := gdF wt v snd B Y) (go := goF wt v Y) (gow_tr hs) hn
  have e : mostY wt v snd B Y = lgM (lg Y.length (gdF wt v snd B Y) (goF wt v Y)) Y.length := rfl
  rw [e, h]
  have hg : ∀ i, gdF wt v snd B Y i = true ↔ gY wt v snd B Y i := fun i => dB_t
  refine ⟨fun ⟨a1, a2⟩ => ⟨fun i hi => (hg i).mp (a1 i hi), fun i j hi hj hK => ?_⟩, fun ⟨a1, a2⟩ => ⟨fun i hi => (hg i).mpr (a1 i hi), fun i j hij hj => ?_⟩⟩
  · obtain ⟨h1, y, y', hy, hy', h2⟩ := hK
    rcases Nat.lt_or_gt_of_ne h1 with q | q
    · exact h2 ((goF_y hy hy').mp (a2 i j q hj))
    · exact h2 (gow_symm ((goF_y hy' hy).mp (a2 j i q hi)))
  · obtain ⟨y, hy⟩ : ∃ y, Y[i]? = some y := ⟨Y[i]'(by omega), List.getElem?_eq_getElem (by omega)⟩
    obtain ⟨y', hy'⟩ : ∃ y, Y[j]? = some y := ⟨Y[j]'hj, List.getElem?_eq_getElem hj⟩
    rw [goF_y hy hy']
    exact Classical.byContradiction (fun q => a2 i j (by omega) hj ⟨by omega, y, y', hy, hy', q⟩)
section
variable (wt : Nat → Prop) (v : Nat) (snd : Nat → Bool → Prop) (B : List Fct) (Y : List Sy) (qut : Nat → Nat → Prop)
/-- kinds of a tale that need no other ship -/
def k0Y : Prop := 0 < Y.length ∧ kcY wt v snd B Y = Y.length ∧ gpN wt v snd B Y qut 48 = 0
def k1Y : Prop := 0 < Y.length ∧ kcY wt v snd B Y = Y.length ∧ ¬ gpN wt v snd B Y qut 48 = 0
def k3Y : Prop := 0 < Y.length ∧ ¬ kcY wt v snd B Y = Y.length ∧ ptP wt v snd B Y
def k4Y : Prop := 0 < Y.length ∧ ¬ kcY wt v snd B Y = Y.length ∧ 0 < kcY wt v snd B Y
noncomputable def okI : Int32 := @ite _ (k0Y wt v snd B Y qut) (Classical.propDecidable _) 1 (@ite _ (k1Y wt v snd B Y qut) (Classical.propDecidable _) 2 (@ite _ (k4Y wt v snd B Y) (Classical.propDecidable _) 16 0 ||| @ite _ (k3Y wt v snd B Y) (Classical.propDecidable _) 8 0))
end
theorem lgM_le' {f : Nat → Nat} {n k : Nat} (h : ∀ i, i < k → f i ≤ n) : lgM f k ≤ n := by
  rcases lgM_at (f := f) (k := k) with e | ⟨i, h1, h2⟩
  · omega
  · have := h i h1; omega
theorem kc_le {wt : Nat → Prop} {v : Nat} {snd : Nat → Bool → Prop} {B : List Fct} {Y : List Sy} : kcY wt v snd B Y ≤ Y.length := by
  by_cases c : fitP wt v B
  · rw [kcY_t c]
    exact lgM_le' (fun i hi => by
      have := lg_le (n := Y.length) (gd := gdF wt v snd B Y) (go := goF wt v Y) Y.length i (by omega)
      show lg Y.length (gdF wt v snd B Y) (goF wt v Y) i ≤ _
      omega)
  · rw [kcY_f c]; omega
theorem c_x_ownKinds (d s g z v : Nat) (wt : Nat → Prop) (dep : Nat → Nat) (qut : Nat → Nat → Prop) (dr ld : Nat) (B : List Fct) (Y : List Sy) (M : am_M) (Q : Option Value → am_M → Prop) (hL : Lay M) (hI : RInv M) (hs : s < 8) (hg : isSh g) (hz : z = 2 ∨ z = 83) (hsr : srtY Y) (hT : TkX M s g z v wt dep dr ld B Y) (hG : GpX wt v (sndP dep dr ld) B Y qut M s)
    (hQ : ∀ M', zF (sCo s) M M' → Q (some (.int (okI wt v (sndP dep dr ld) B Y qut))) M') : am_E am_P0 (d + 5) 93 [.ref (173 + 13 * s)] M Q := by
  obtain ⟨w, hwe⟩ : ∃ w, w = 173 + 13 * s := ⟨_, rfl⟩
  have hw : isTr w := ⟨s, hs, hwe⟩
  obtain ⟨g4, gS, g13, g14⟩ := hG
  have g11 := gS.2.2.1
  have hkc := kc_le (wt := wt) (v := v) (snd := sndP dep dr ld) (B := B) (Y := Y)
  have hgp : gpN wt v (sndP dep dr ld) B Y qut 48 ≤ 48 := cnt_le _ _
  have h48 := hT.2.2.2.2.1
  have hR := hT.2.1.1
  have h5 := hT.2.2.2.1
  rw [← hwe] at g11 g14 hR ⊢
  rw [eX8_ownKinds]
  simp +decide only [qX8_ownKinds, lt_ hL hw, lw_ hL hg, hR, h5, g11, g14, am_w1_i, am_w1_r, am_w1_x, am_w1_l, am_w1_w, va_rf_s, am_push_n, am_push_s, am_cs_0, am_cs_i, am_cs_l, am_cs_r, m_uI_K, m_uI_N, m_uI_R, m_uI_L, m_uI_I, m_uL_K, m_uL_N, m_uL_R, m_uL_I, m_uL_L, m_uR_K, m_uR_N, m_uR_I, m_uR_L, m_uR_R, true_and, and_true, true_implies, false_implies, not_true_eq_false, not_false_eq_true, if_true, if_false, false_and, and_false]
  by_cases c0 : Y.length = 0
  · have h0 := hQ M (zF_refl hL hI)
    have e : okI wt v (sndP dep dr ld) B Y qut = 0 := by
      unfold okI
      rw [if_neg (fun q => by have := q.1; omega), if_neg (fun q => by have := q.1; omega), if_neg (fun q => by have := q.1; omega), if_neg (fun q => by have := q.1; omega)]
      decide
    rw [e] at h0
    rw [br_n (fun q => q (by rw [c0]; rfl))]
    exact h0
  · have hp : ¬ nI Y.length = 0 := fun q => c0 ((ni_eq (b := 0) (by omega) (by omega)).mp q)
    rw [br_p hp]
    by_cases c1 : kcY wt v (sndP dep dr ld) B Y = Y.length
    · have h0 := hQ M (zF_refl hL hI)
      rw [br_r (by rw [c1])]
      by_cases c2 : gpN wt v (sndP dep dr ld) B Y qut 48 = 0
      · have e : okI wt v (sndP dep dr ld) B Y qut = 1 := by unfold okI; rw [if_pos ⟨by omega, c1, c2⟩]
        rw [e] at h0
        rw [br_r (by rw [c2]; rfl)]
        exact h0
      · have e : okI wt v (sndP dep dr ld) B Y qut = 2 := by unfold okI; rw [if_neg (fun q => c2 q.2.2), if_pos ⟨by omega, c1, c2⟩]
        rw [e] at h0
        have c2' : ¬ nI (gpN wt v (sndP dep dr ld) B Y qut 48) = 0 := fun q => c2 ((ni_eq (b := 0) (by omega) (by omega)).mp q)
        rw [br_q c2']
        exact h0
    · rw [br_q (fun q => c1 ((ni_eq (by omega) (by omega)).mp q))]
      have e : okI wt v (sndP dep dr ld) B Y qut = @ite _ (k4Y wt v (sndP dep dr ld) B Y) (Classical.propDecidable _) 16 0 ||| @ite _ (k3Y wt v (sndP dep dr ld) B Y) (Classical.propDecidable _) 8 0 := by unfold okI; rw [if_neg (fun q => c1 q.2.1), if_neg (fun q => c1 q.2.1)]
      have hpart : ∀ Q : Option Value → am_M → Prop, (∀ M', zF (sCo s) M M' → Q (some (.int (tI (ptP wt v (sndP dep dr ld) B Y)))) M') → am_E am_P0 (d + 4) 94 [.ref (173 + 13 * s)] M Q := fun Q hQ' => c_x_canPart d s g z v wt dep dr ld B Y M Q hL hI hs hg hz hT gS.1 gS.2.1 (fun cf hn => by
        have hm := most_all (wt := wt) (v := v) (snd := sndP dep dr ld) (B := B) hsr hn
        rw [kcY_t cf] at c1
        refine Classical.byContradiction (fun q => c1 (hm.mpr ⟨fun i hi => Classical.byContradiction (fun q2 => q (Or.inl ⟨i, hi, q2⟩)), fun i j hi hj hK => q (Or.inr ⟨i, j, hi, hj, hK⟩)⟩))) hQ'
      rw [← hwe] at hpart
      have hfin : ∀ x : Int32, x = @ite _ (k4Y wt v (sndP dep dr ld) B Y) (Classical.propDecidable _) 16 0 → am_E am_P0 (d + 4) 94 [.ref w] M (fun r M2 => am_P am_P0 (d + 5) (am_look tX8_ownKinds) 60 [.ref w, .int x] (am_push r [.int x]) M2 Q) := fun x hx => by
        refine hpart _ (fun M1 g1 => ?_)
        have h0 := hQ M1 g1
        rw [e, ← hx] at h0
        simp +decide only [qX8_ownKinds, am_w1_i, am_w1_r, am_w1_x, am_w1_l, am_w1_w, va_rf_s, am_push_n, am_push_s, am_cs_0, am_cs_i, am_cs_l, am_cs_r, m_uI_K, m_uI_N, m_uI_R, m_uI_L, m_uI_I, m_uL_K, m_uL_N, m_uL_R, m_uL_I, m_uL_L, m_uR_K, m_uR_N, m_uR_I, m_uR_L, m_uR_R, true_and, and_true, true_implies, false_implies, not_true_eq_false, not_false_eq_true, if_true, if_false, false_and, and_false]
        by_cases cp : ptP wt v (sndP dep dr ld) B Y
        · rw [if_pos ⟨by omega, c1, cp⟩] at h0
          rw [tI_t cp, br_n (by decide)]
          exact h0
        · rw [if_neg (fun q => cp q.2.2)] at h0
          rw [tI_f cp, br_p rfl]
          exact h0
      by_cases c4 : 0 < kcY wt v (sndP dep dr ld) B Y
      · rw [br_n (fun q => by rw [show (0 : Int32) = nI 0 from rfl, ni_le (by omega) (by omega)] at q; omega)]
        exact hfin 16 (by rw [if_pos ⟨by omega, c1, c4⟩])
      · rw [br_p (by rw [show (0 : Int32) = nI 0 from rfl, ni_le (by omega) (by omega)]; omega)]
        exact hfin 0 (by rw [if_neg (fun q => c4 q.2.2)])
/-- the hours between the first and the last saying -/
def betY (Y : List Sy) : Nat := if Y.length < 2 then 0 else (Y[Y.length - 1]?.getD (0, 0, false)).1 - (Y[0]?.getD (0, 0, false)).1 - 1
theorem betY_lt {Y : List Sy} (h : ∀ y, y ∈ Y → y.1 < 48) : betY Y ≤ 46 := by
  unfold betY
  split
  · omega
  · have hl : Y.length - 1 < Y.length := by omega
    have := h _ (List.getElem_mem hl)
    rw [List.getElem?_eq_getElem hl]
    show Y[Y.length - 1].1 - _ - 1 ≤ 46
    omega
theorem c_x_hoursBetweenEnds (d s g z v : Nat) (wt : Nat → Prop) (dep : Nat → Nat) (dr ld : Nat) (B : List Fct) (Y : List Sy) (M : am_M) (Q : Option Value → am_M → Prop) (hL : Lay M) (hs : s < 8) (hg : isSh g) (hsr : srtY Y) (hT : TkX M s g z v wt dep dr ld B Y) : am_E am_P0 d 97 [.ref (173 + 13 * s)] M Q ↔ Q (some (.int (nI (betY Y)))) M := by
  obtain ⟨w, hwe⟩ : ∃ w, w = 173 + 13 * s := ⟨_, rfl⟩
  have hw : isTr w := ⟨s, hs, hwe⟩
  have h48 := hT.2.2.2.2.1
  have hR := hT.2.1.1
  have h5 := hT.2.2.2.1
  rw [← hwe] at hR ⊢
  rw [eX8_hoursBetweenEnds]
  by_cases c : Y.length < 2
  · have hb : betY Y = 0 := if_pos c
    simp +decide only [qX8_hoursBetweenEnds, lt_ hL hw, lw_ hL hg, hR, h5, am_w1_i, am_w1_r, am_w1_x, am_w1_l, am_w1_w, va_rf_s, am_push_n, am_push_s, am_cs_0, am_cs_i, am_cs_l, am_cs_r, m_uI_K, m_uI_N, m_uI_R, m_uI_L, m_uI_I, m_uL_K, m_uL_N, m_uL_R, m_uL_I, m_uL_L, m_uR_K, m_uR_N, m_uR_I, m_uR_L, m_uR_R, true_and, and_true, true_implies, false_implies, not_true_eq_false, not_false_eq_true, if_true, if_false, false_and, and_false]
    rw [br_n (by rw [show (2 : Int32) = nI 2 from rfl, ni_le (by omega) (by omega)]; omega), hb]
    exact Iff.rfl
  · obtain ⟨y, hy⟩ : ∃ y, Y[0]? = some y := ⟨Y[0]'(by omega), List.getElem?_eq_getElem (by omega)⟩
    obtain ⟨y', hy'⟩ : ∃ y, Y[Y.length - 1]? = some y := ⟨Y[Y.length - 1]'(by omega), List.getElem?_eq_getElem (by omega)⟩
    obtain ⟨⟨y1, y2⟩, y3, y4, y5⟩ := hT.2.2.2.2.2 0 y hy
    obtain ⟨⟨z1, z2⟩, z3, z4, z5⟩ := hT.2.2.2.2.2 (Y.length - 1) y' hy'
    have hlt := srtY_lt hsr hy hy' (by omega)
    have hb : betY Y = y'.1 - y.1 - 1 := by unfold betY; rw [if_neg c, hy, hy']; rfl
    have e1 : nI Y.length - 1 = nI (Y.length - 1) := by rw [show (1 : Int32) = nI 1 from rfl, ni_sub (by omega)]
    have e2 : nI y'.1 - nI y.1 - 1 = nI (y'.1 - y.1 - 1) := by rw [ni_sub (by omega), show (1 : Int32) = nI 1 from rfl, ni_sub (by omega)]
    have y3' : mI M (g + 1) ((0 : Int32).toInt.toNat) = nI y.1 := y3
    simp +decide (disch := omega) only [qX8_hoursBetweenEnds, lt_ hL hw, lw_ hL hg, hR, h5, e1, y3, y3', z3, e2, ni_in_t, ni_tn, am_w1_i, am_w1_r, am_w1_x, am_w1_l, am_w1_w, va_rf_s, am_push_n, am_push_s, am_cs_0, am_cs_i, am_cs_l, am_cs_r, m_uI_K, m_uI_N, m_uI_R, m_uI_L, m_uI_I, m_uL_K, m_uL_N, m_uL_R, m_uL_I, m_uL_L, m_uR_K, m_uR_N, m_uR_I, m_uR_L, m_uR_R, true_and, and_true, true_implies, false_implies, not_true_eq_false, not_false_eq_true, if_true, if_false, false_and, and_false]
    rw [br_p (by rw [show (2 : Int32) = nI 2 from rfl, ni_le (by omega) (by omega)]; omega), hb]
/-- the hours of change among the first n sayings -/
def chP (K : Nat → Prop) (Y : List Sy) (wl : Bool) (n t : Nat) : Prop := ∃ i j y y', i < j ∧ j < n ∧ K i ∧ K j ∧ (∀ k, i < k → k < j → ¬ K k) ∧ Y[i]? = some y ∧ Y[j]? = some y' ∧ y.1 < t ∧ t < y'.1 ∧ y.2.2 = wl ∧ ¬ y'.2.2 = wl
/-- the last one kept -/
def lsK (K : Nat → Prop) (i : Nat) (x : Int32) : Prop := (x = -1 ∧ ∀ k, k < i → ¬ K k) ∨ ∃ l, l < i ∧ x = nI l ∧ K l ∧ ∀ k, l < k → k < i → ¬ K k
theorem chP_n {K : Nat → Prop} {Y : List Sy} {wl : Bool} {n t : Nat} (h : ¬ K n) : chP K Y wl (n + 1) t ↔ chP K Y wl n t := by
  constructor
  · rintro ⟨i, j, y, y', h1, h2, h3, h4, h5⟩
    refine ⟨i, j, y, y', h1, ?_, h3, h4, h5⟩
    by_cases e : j = n
    · subst e; exact absurd h4 h
    · omega
  · rintro ⟨i, j, y, y', h1, h2, h3⟩
    exact ⟨i, j, y, y', h1, by omega, h3⟩
theorem chP_l {K : Nat → Prop} {Y : List Sy} {wl : Bool} {n t l : Nat} {y y' : Sy} (h : K n) (hl : l < n) (hKl : K l) (hno : ∀ k, l < k → k < n → ¬ K k) (hy : Y[l]? = some y) (hy' : Y[n]? = some y') : chP K Y wl (n + 1) t ↔ chP K Y wl n t ∨ (y.1 < t ∧ t < y'.1 ∧ y.2.2 = wl ∧ ¬ y'.2.2 = wl) := by
  constructor
  · rintro ⟨i, j, u, u', h1, h2, h3, h4, h5, h6, h7, h8⟩
    by_cases e : j = n
    · subst e
      have ei : i = l := by
        rcases Nat.lt_trichotomy i l with q | q | q
        · exact absurd hKl (h5 l q hl)
        · exact q
        · exact absurd h3 (hno i q h1)
      subst ei
      cases hy.symm.trans h6
      cases hy'.symm.trans h7
      exact Or.inr h8
    · exact Or.inl ⟨i, j, u, u', h1, by omega, h3, h4, h5, h6, h7, h8⟩
  · rintro (⟨i, j, u, u', h1, h2, h3⟩ | h8)
    · exact ⟨i, j, u, u', h1, by omega, h3⟩
    · exact ⟨l, n, y, y', hl, by omega, hKl, h, hno, hy, hy', h8⟩
theorem chP_0 {K : Nat → Prop} {Y : List Sy} {wl : Bool} {n t : Nat} (hno : ∀ k, k < n → ¬ K k) : ¬ chP K Y wl (n + 1) t := by
  rintro ⟨i, j, u, u', h1, h2, h3, -⟩
  exact hno i (by omega) h3
theorem b01_eq (a b : Bool) : b01 a = b01 b ↔ a = b := by cases a <;> cases b <;> decide
theorem l_x_chg2 (d s g z v i l : Nat) (wt : Nat → Prop) (dep : Nat → Nat) (dr ld : Nat) (B : List Fct) (Y : List Sy) (y y' : Sy) (wl : Bool) (P : Nat → Prop) (M : am_M) (Q : Option Value → am_M → Prop) (hL : Lay M) (hs : s < 8) (hg : isSh g) (hT : TkX M s g z v wt dep dr ld B Y) (hy' : Y[i]? = some y') (hyy : y.1 < y'.1)
    (hN : ∀ x, (∀ t, t < 64 → (sbit x t = true ↔ P t ∨ (y.1 < t ∧ t < y'.1))) → am_P am_P0 d (am_look tX8_hoursOfChange) 109 [.ref (173 + 13 * s), .int (b01 wl), .long x, am_x, .int (nI l), .int (nI i), .int (nI y'.1)] [] M Q) :
    ∀ (r t : Nat), t + r = y'.1 → y.1 < t → ∀ (x : Int64), (∀ t', t' < 64 → (sbit x t' = true ↔ P t' ∨ (y.1 < t' ∧ t' < t))) → am_P am_P0 d (am_look tX8_hoursOfChange) 81 [.ref (173 + 13 * s), .int (b01 wl), .long x, am_x, .int (nI l), .int (nI i), .int (nI t)] [] M Q := by
  obtain ⟨w, hwe⟩ : ∃ w, w = 173 + 13 * s := ⟨_, rfl⟩
  have hw : isTr w := ⟨s, hs, hwe⟩
  have h48 := hT.2.2.2.2.1
  have hR := hT.2.1.1
  obtain ⟨⟨y1, y2⟩, y3, y4, y5⟩ := hT.2.2.2.2.2 i y' hy'
  have hil := (List.getElem?_eq_some_iff.mp hy').1
  rw [← hwe] at hR hN ⊢
  intro r
  induction r with
  | zero =>
    intro t ht hyt x hx
    have e : t = y'.1 := by omega
    subst e
    have hle : nI y'.1 ≤ nI y'.1 := (ni_le (by omega) (by omega)).mpr (Nat.le_refl _)
    have h0 := hN x hx
    rw [hX8_hoursOfChange_81]
    simp +decide (disch := omega) only [qX8_hoursOfChange_0, qX8_hoursOfChange_1, lt_ hL hw, lw_ hL hg, hR, y3, ni_in_t, ni_tn, ni_add1, am_w1_i, am_w1_r, am_w1_x, am_w1_l, am_w1_w, va_rf_s, am_push_n, am_push_s, am_cs_0, am_cs_i, am_cs_l, am_cs_r, m_uI_K, m_uI_N, m_uI_R, m_uI_L, m_uI_I, m_uL_K, m_uL_N, m_uL_R, m_uL_I, m_uL_L, m_uR_K, m_uR_N, m_uR_I, m_uR_L, m_uR_R, true_and, and_true, true_implies, false_implies, not_true_eq_false, not_false_eq_true, if_true, if_false, false_and, and_false] at h0 ⊢
    rw [br_p hle]
    exact h0
  | succ r ih =>
    intro t ht hyt x hx
    have hlt : ¬ nI y'.1 ≤ nI t := by rw [ni_le (by omega) (by omega)]; omega
    have h0 := ih (t + 1) (by omega) (by omega) (x ||| (1 : Int64) <<< ((nI t).toInt64 &&& 63)) (fun t' ht' => by
      rw [sb_or, bt_one (by omega), Bool.or_eq_true, hx t' ht', decide_eq_true_iff]
      constructor
      · rintro ((q | q) | q)
        · exact Or.inl q
        · exact Or.inr (by omega)
        · exact Or.inr (by omega)
      · rintro (q | q)
        · exact Or.inl (Or.inl q)
        · by_cases e : t' = t
          · exact Or.inr e
          · exact Or.inl (Or.inr (by omega)))
    rw [hX8_hoursOfChange_81]
    simp +decide (disch := omega) only [qX8_hoursOfChange_0, qX8_hoursOfChange_1, lt_ hL hw, lw_ hL hg, hR, y3, ni_in_t, ni_tn, ni_add1, am_w1_i, am_w1_r, am_w1_x, am_w1_l, am_w1_w, va_rf_s, am_push_n, am_push_s, am_cs_0, am_cs_i, am_cs_l, am_cs_r, m_uI_K, m_uI_N, m_uI_R, m_uI_L, m_uI_I, m_uL_K, m_uL_N, m_uL_R, m_uL_I, m_uL_L, m_uR_K, m_uR_N, m_uR_I, m_uR_L, m_uR_R, true_and, and_true, true_implies, false_implies, not_true_eq_false, not_false_eq_true, if_true, if_false, false_and, and_false]
    rw [br_n hlt]
    exact h0
theorem l_x_chg1 (d s g z v : Nat) (wt : Nat → Prop) (dep : Nat → Nat) (dr ld : Nat) (B : List Fct) (Y : List Sy) (wl : Bool) (K : Nat → Prop) (M : am_M) (Q : Option Value → am_M → Prop) (hL : Lay M) (hs : s < 8) (hg : isSh g) (hsr : srtY Y) (hT : TkX M s g z v wt dep dr ld B Y) (hK : ∀ k, k < Y.length → mI M (182 + 13 * s) k = tI (K k))
    (hQ : ∀ x, (∀ t, t < 64 → (sbit x t = true ↔ chP K Y wl Y.length t)) → Q (some (.long x)) M) :
    ∀ (r i : Nat), i + r = Y.length → ∀ (x : Int64) (xl : Int32) (v6 : Value), jk v6 → (∀ t, t < 64 → (sbit x t = true ↔ chP K Y wl i t)) → lsK K i xl → am_P am_P0 d (am_look tX8_hoursOfChange) 8 [.ref (173 + 13 * s), .int (b01 wl), .long x, am_x, .int xl, .int (nI i), v6] [] M Q := by
  obtain ⟨w, hwe⟩ : ∃ w, w = 173 + 13 * s := ⟨_, rfl⟩
  have hw : isTr w := ⟨s, hs, hwe⟩
  have h48 := hT.2.2.2.2.1
  have hR := hT.2.1.1
  have h5 := hT.2.2.2.1
  have e9 : 182 + 13 * s = w + 9 := by omega
  rw [← hwe] at hR ⊢
  rw [e9] at hK
  intro r
  induction r with
  | zero =>
    intro i hi x xl v6 j6 hx hl
    have e : i = Y.length := by omega
    subst e
    have hle : nI Y.length ≤ nI Y.length := (ni_le (by omega) (by omega)).mpr (Nat.le_refl _)
    have h0 := hQ x hx
    rw [hX8_hoursOfChange_8]
    simp +decide (disch := omega) only [qX8_hoursOfChange_0, qX8_hoursOfChange_1, lt_ hL hw, lw_ hL hg, hR, h5, ni_in_t, ni_tn, ni_add1, am_w1_i, am_w1_r, am_w1_x, am_w1_l, am_w1_w, va_rf_s, am_push_n, am_push_s, am_cs_0, am_cs_i, am_cs_l, am_cs_r, m_uI_K, m_uI_N, m_uI_R, m_uI_L, m_uI_I, m_uL_K, m_uL_N, m_uL_R, m_uL_I, m_uL_L, m_uR_K, m_uR_N, m_uR_I, m_uR_L, m_uR_R, true_and, and_true, true_implies, false_implies, not_true_eq_false, not_false_eq_true, if_true, if_false, false_and, and_false]
    rw [br_p hle]
    exact h0
  | succ r ih =>
    intro i hi x xl v6 j6 hx hl
    have hlt : ¬ nI Y.length ≤ nI i := by rw [ni_le (by omega) (by omega)]; omega
    obtain ⟨y', hy'⟩ : ∃ y, Y[i]? = some y := ⟨Y[i]'(by omega), List.getElem?_eq_getElem (by omega)⟩
    obtain ⟨⟨z1, z2⟩, z3, z4, z5⟩ := hT.2.2.2.2.2 i y' hy'
    rw [hX8_hoursOfChange_8]
    by_cases cK : K i
    · have hki := hK i (by omega)
      rw [tI_t cK] at hki
      rcases hl with ⟨rfl, hno⟩ | ⟨l, hli, rfl, hKl, hno⟩
      · have h0 := ih (i + 1) (by omega) x (nI i) v6 j6 (fun t ht => by
          rw [hx t ht]
          exact ⟨fun q => by obtain ⟨a, b, u, u', h1, h2, h3⟩ := q; exact ⟨a, b, u, u', h1, by omega, h3⟩, fun q => absurd q (chP_0 hno)⟩) (Or.inr ⟨i, by omega, rfl, cK, fun k h1 h2 => by omega⟩)
        simp +decide (disch := omega) only [qX8_hoursOfChange_0, qX8_hoursOfChange_1, lt_ hL hw, lw_ hL hg, hR, h5, hki, ni_in_t, ni_tn, ni_add1, am_w1_i, am_w1_r, am_w1_x, am_w1_l, am_w1_w, va_rf_s, am_push_n, am_push_s, am_cs_0, am_cs_i, am_cs_l, am_cs_r, m_uI_K, m_uI_N, m_uI_R, m_uI_L, m_uI_I, m_uL_K, m_uL_N, m_uL_R, m_uL_I, m_uL_L, m_uR_K, m_uR_N, m_uR_I, m_uR_L, m_uR_R, true_and, and_true, true_implies, false_implies, not_true_eq_false, not_false_eq_true, if_true, if_false, false_and, and_false]
        rw [br_n hlt]
        exact h0
      · obtain ⟨y, hy⟩ : ∃ y, Y[l]? = some y := ⟨Y[l]'(by omega), List.getElem?_eq_getElem (by omega)⟩
        obtain ⟨⟨y1, y2⟩, y3, y4, y5⟩ := hT.2.2.2.2.2 l y hy
        have hyy := srtY_lt hsr hy hy' hli
        have hl1 : ¬ nI l = -1 := nI_m1 (by omega)
        have hls : lsK K (i + 1) (nI i) := Or.inr ⟨i, by omega, rfl, cK, fun k h1 h2 => by omega⟩
        have hcl := fun t => chP_l (wl := wl) (t := t) cK hli hKl hno hy hy'
        have skip : ∀ v6', jk v6' → ¬ (y.2.2 = wl ∧ ¬ y'.2.2 = wl) → am_P am_P0 d (am_look tX8_hoursOfChange) 8 [.ref w, .int (b01 wl), .long x, am_x, .int (nI i), .int (nI (i + 1)), v6'] [] M Q := fun v6' j6' hc =>
          ih (i + 1) (by omega) x (nI i) v6' j6' (fun t ht => by rw [hx t ht, hcl t]; exact ⟨Or.inl, fun q => q.elim id (fun q => absurd q.2.2 hc)⟩) hls
        simp +decide (disch := omega) only [qX8_hoursOfChange_0, qX8_hoursOfChange_1, lt_ hL hw, lw_ hL hg, hR, h5, hki, y3, y5, z5, b01_eq, ni_in_t, ni_tn, ni_add1, am_w1_i, am_w1_r, am_w1_x, am_w1_l, am_w1_w, va_rf_s, am_push_n, am_push_s, am_cs_0, am_cs_i, am_cs_l, am_cs_r, m_uI_K, m_uI_N, m_uI_R, m_uI_L, m_uI_I, m_uL_K, m_uL_N, m_uL_R, m_uL_I, m_uL_L, m_uR_K, m_uR_N, m_uR_I, m_uR_L, m_uR_R, true_and, and_true, true_implies, false_implies, not_true_eq_false, not_false_eq_true, if_true, if_false, false_and, and_false]
        rw [br_n hlt, br_n hl1]
        by_cases c1 : y.2.2 = wl
        · rw [br_r c1]
          by_cases c2 : y'.2.2 = wl
          · rw [br_p c2]
            exact skip v6 j6 (fun q => q.2 c2)
          · rw [br_n c2]
            have h0 := l_x_chg2 d s g z v i l wt dep dr ld B Y y y' wl (fun t => chP K Y wl i t) M Q hL hs hg hT hy' hyy (fun x' hx' => ?_) (y'.1 - (y.1 + 1)) (y.1 + 1) (by omega) (by omega) x (fun t ht => by rw [hx t ht]; exact ⟨Or.inl, fun q => q.elim id (fun q => by omega)⟩)
            · rw [← hwe] at h0
              exact h0
            · have h1 := ih (i + 1) (by omega) x' (nI i) (.int (nI y'.1)) (Or.inr ⟨_, rfl⟩) (fun t ht => by
                rw [hx' t ht, hcl t]
                exact ⟨fun q => q.elim Or.inl (fun q => Or.inr ⟨q.1, q.2, c1, c2⟩), fun q => q.elim Or.inl (fun q => Or.inr ⟨q.1, q.2.1⟩)⟩) hls
              rw [← hwe]
              simp +decide (disch := omega) only [qX8_hoursOfChange_0, qX8_hoursOfChange_1, ni_add1, am_w1_i, am_w1_r, am_w1_x, am_w1_l, am_w1_w, va_rf_s, am_push_n, am_push_s, am_cs_0, am_cs_i, am_cs_l, am_cs_r, m_uI_K, m_uI_N, m_uI_R, m_uI_L, m_uI_I, m_uL_K, m_uL_N, m_uL_R, m_uL_I, m_uL_L, m_uR_K, m_uR_N, m_uR_I, m_uR_L, m_uR_R, true_and, and_true, true_implies, false_implies, not_true_eq_false, not_false_eq_true, if_true, if_false, false_and, and_false]
              exact h1
        · rw [br_q c1]
          exact skip v6 j6 (fun q => c1 q.1)
    · have hki := hK i (by omega)
      rw [tI_f cK] at hki
      have h0 := ih (i + 1) (by omega) x xl v6 j6 (fun t ht => by rw [hx t ht, chP_n cK]) (by
        rcases hl with ⟨e, hno⟩ | ⟨l, h1, h2, h3, h4⟩
        · exact Or.inl ⟨e, fun k hk => by
            by_cases e2 : k = i
            · subst e2; exact cK
            · exact hno k (by omega)⟩
        · exact Or.inr ⟨l, by omega, h2, h3, fun k q1 q2 => by
            by_cases e2 : k = i
            · subst e2; exact cK
            · exact h4 k q1 (by omega)⟩)
      simp +decide (disch := omega) only [qX8_hoursOfChange_0, qX8_hoursOfChange_1, lt_ hL hw, lw_ hL hg, hR, h5, hki, ni_in_t, ni_tn, ni_add1, am_w1_i, am_w1_r, am_w1_x, am_w1_l, am_w1_w, va_rf_s, am_push_n, am_push_s, am_cs_0, am_cs_i, am_cs_l, am_cs_r, m_uI_K, m_uI_N, m_uI_R, m_uI_L, m_uI_I, m_uL_K, m_uL_N, m_uL_R, m_uL_I, m_uL_L, m_uR_K, m_uR_N, m_uR_I, m_uR_L, m_uR_R, true_and, and_true, true_implies, false_implies, not_true_eq_false, not_false_eq_true, if_true, if_false, false_and, and_false]
      rw [br_n hlt]
      exact h0
theorem c_x_hoursOfChange (d s g z v : Nat) (wt : Nat → Prop) (dep : Nat → Nat) (dr ld : Nat) (B : List Fct) (Y : List Sy) (wl : Bool) (K : Nat → Prop) (M : am_M) (Q : Option Value → am_M → Prop) (hL : Lay M) (hs : s < 8) (hg : isSh g) (hsr : srtY Y) (hT : TkX M s g z v wt dep dr ld B Y) (hK : ∀ k, k < Y.length → mI M (182 + 13 * s) k = tI (K k))
    (hQ : ∀ x, (∀ t, t < 64 → (sbit x t = true ↔ chP K Y wl Y.length t)) → Q (some (.long x)) M) : am_E am_P0 d 100 [.ref (173 + 13 * s), .int (b01 wl)] M Q := by
  rw [eX8_hoursOfChange]
  simp +decide only [qX8_hoursOfChange_0, qX8_hoursOfChange_1, am_w1_i, am_w1_r, am_w1_x, am_w1_l, am_w1_w, va_rf_s, am_push_n, am_push_s, am_cs_0, am_cs_i, am_cs_l, am_cs_r, m_uI_K, m_uI_N, m_uI_R, m_uI_L, m_uI_I, m_uL_K, m_uL_N, m_uL_R, m_uL_I, m_uL_L, m_uR_K, m_uR_N, m_uR_I, m_uR_L, m_uR_R, true_and, and_true, true_implies, false_implies, not_true_eq_false, not_false_eq_true, if_true, if_false, false_and, and_false]
  rw [show (0 : Int32) = nI 0 from rfl]
  exact l_x_chg1 d s g z v wt dep dr ld B Y wl K M Q hL hs hg hsr hT hK hQ Y.length 0 (by omega) 0 (-1) am_x (Or.inl rfl) (fun t ht => by rw [sb_0]; exact ⟨fun q => absurd q (by decide), fun ⟨i, j, u, u', h1, h2, _⟩ => absurd h2 (by omega)⟩) (Or.inl ⟨rfl, fun k hk => by omega⟩)
