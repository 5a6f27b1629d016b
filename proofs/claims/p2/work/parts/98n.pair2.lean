/-! the model: isPair -/
theorem l_m_keepsSets (d : Nat) (M0 : am_M) (Q : Option Value → am_M → Prop) (hL0 : Lay M0) (hQ : ∀ M', gF (fun a _ => a = 329) nT M0 M' → (∀ i, i < 48 → mI M' 329 i = mI M0 328 i) → Q none M') :
    ∀ (m i : Nat), i + m = 48 → ∀ (M : am_M), gF (fun a _ => a = 329) nT M0 M → (∀ k, k < i → mI M 329 k = mI M0 328 k) → am_P am_P0 d (am_look tX11_keepsSets) 2 [.ref 277, .int (nI i)] [] M Q := by
  intro m
  induction m with
  | zero =>
    intro i hi M hM hb
    have ei : i = 48 := by omega
    subst ei
    have h0 := hQ M hM hb
    rw [hX11_keepsSets_2]
    simp +decide only [qX11_keepsSets, show nI 48 = (48 : Int32) from rfl, am_w1_i, am_w1_r, am_w1_x, am_w1_l, am_w1_w, va_rf_s, am_push_n, am_push_s, am_cs_0, am_cs_i, am_cs_l, am_cs_r, m_uI_K, m_uI_N, m_uI_R, m_uI_L, m_uI_I, m_uL_K, m_uL_N, m_uL_R, m_uL_I, m_uL_L, m_uR_K, m_uR_N, m_uR_I, m_uR_L, m_uR_R, true_and, and_true, true_implies, false_implies, not_true_eq_false, not_false_eq_true, if_true, if_false, false_and, and_false]
    exact h0
  | succ m ih =>
    intro i hi M hM hb
    have hL := gF_LayN hM hL0
    have hlt : ¬ (48 : Int32) ≤ nI i := by rw [show (48 : Int32) = nI 48 from rfl, ni_le (by omega) (by omega)]; omega
    have w1 : gF (fun a _ => a = 329) nT M (uI M 329 i (mI M 328 i)) := gF_i _ rfl
    have h0 := ih (i + 1) (by omega) (uI M 329 i (mI M 328 i)) (gF_trans hM w1) (fun k hk => by
      rw [m_uI_I]
      by_cases e : k = i
      · rw [if_pos ⟨rfl, e⟩, e, hM.1 _ _ (by omega)]
      · rw [if_neg (by omega)]; exact hb k (by omega))
    rw [hX11_keepsSets_2]
    simp +decide (disch := omega) only [qX11_keepsSets, lm hL, ni_in_t, ni_tn, ni_add1, am_w1_i, am_w1_r, am_w1_x, am_w1_l, am_w1_w, va_rf_s, am_push_n, am_push_s, am_cs_0, am_cs_i, am_cs_l, am_cs_r, m_uI_K, m_uI_N, m_uI_R, m_uI_L, m_uI_I, m_uL_K, m_uL_N, m_uL_R, m_uL_I, m_uL_L, m_uR_K, m_uR_N, m_uR_I, m_uR_L, m_uR_R, true_and, and_true, true_implies, false_implies, not_true_eq_false, not_false_eq_true, if_true, if_false, false_and, and_false]
    first | rw [br_n (hlt)] | rw [br_q (hlt)] | rw [br_u (hlt)]
    exact h0
theorem m_keepsSets (d : Nat) (M : am_M) (Q : Option Value → am_M → Prop) (hL : Lay M) (hQ : ∀ M', gF (fun a _ => a = 329) nT M M' → (∀ i, i < 48 → mI M' 329 i = mI M 328 i) → Q none M') : am_E am_P0 d 263 [.ref 277] M Q := by
  have h0 := l_m_keepsSets d M Q hL hQ 48 0 (by omega) M (gF_refl _ _ _) (fun k hk => by omega)
  rw [eX11_keepsSets]
  simp +decide only [qX11_keepsSets, am_w1_i, am_w1_r, am_w1_x, am_w1_l, am_w1_w, va_rf_s, am_push_n, am_push_s, am_cs_0, am_cs_i, am_cs_l, am_cs_r, m_uI_K, m_uI_N, m_uI_R, m_uI_L, m_uI_I, m_uL_K, m_uL_N, m_uL_R, m_uL_I, m_uL_L, m_uR_K, m_uR_N, m_uR_I, m_uR_L, m_uR_R, true_and, and_true, true_implies, false_implies, not_true_eq_false, not_false_eq_true, if_true, if_false, false_and, and_false]
  exact h0
theorem l_m_bringsSets (d : Nat) (M0 : am_M) (Q : Option Value → am_M → Prop) (hL0 : Lay M0) (hQ : ∀ M', gF s328 nT M0 M' → (∀ i, i < 48 → mI M' 328 i = mI M0 329 i) → Q none M') :
    ∀ (m i : Nat), i + m = 48 → ∀ (M : am_M), gF s328 nT M0 M → (∀ k, k < i → mI M 328 k = mI M0 329 k) → am_P am_P0 d (am_look tX11_bringsSets) 2 [.ref 277, .int (nI i)] [] M Q := by
  intro m
  induction m with
  | zero =>
    intro i hi M hM hb
    have ei : i = 48 := by omega
    subst ei
    have h0 := hQ M hM hb
    rw [hX11_bringsSets_2]
    simp +decide only [qX11_bringsSets, show nI 48 = (48 : Int32) from rfl, am_w1_i, am_w1_r, am_w1_x, am_w1_l, am_w1_w, va_rf_s, am_push_n, am_push_s, am_cs_0, am_cs_i, am_cs_l, am_cs_r, m_uI_K, m_uI_N, m_uI_R, m_uI_L, m_uI_I, m_uL_K, m_uL_N, m_uL_R, m_uL_I, m_uL_L, m_uR_K, m_uR_N, m_uR_I, m_uR_L, m_uR_R, true_and, and_true, true_implies, false_implies, not_true_eq_false, not_false_eq_true, if_true, if_false, false_and, and_false]
    exact h0
  | succ m ih =>
    intro i hi M hM hb
    have hL := gF_LayN hM hL0
    have hlt : ¬ (48 : Int32) ≤ nI i := by rw [show (48 : Int32) = nI 48 from rfl, ni_le (by omega) (by omega)]; omega
    have w1 : gF s328 nT M (uI M 328 i (mI M 329 i)) := gF_i _ rfl
    have h0 := ih (i + 1) (by omega) (uI M 328 i (mI M 329 i)) (gF_trans hM w1) (fun k hk => by
      rw [m_uI_I]
      by_cases e : k = i
      · rw [if_pos ⟨rfl, e⟩, e, hM.1 _ _ (by unfold s328; omega)]
      · rw [if_neg (by omega)]; exact hb k (by omega))
    rw [hX11_bringsSets_2]
    simp +decide (disch := omega) only [qX11_bringsSets, lm hL, ni_in_t, ni_tn, ni_add1, am_w1_i, am_w1_r, am_w1_x, am_w1_l, am_w1_w, va_rf_s, am_push_n, am_push_s, am_cs_0, am_cs_i, am_cs_l, am_cs_r, m_uI_K, m_uI_N, m_uI_R, m_uI_L, m_uI_I, m_uL_K, m_uL_N, m_uL_R, m_uL_I, m_uL_L, m_uR_K, m_uR_N, m_uR_I, m_uR_L, m_uR_R, true_and, and_true, true_implies, false_implies, not_true_eq_false, not_false_eq_true, if_true, if_false, false_and, and_false]
    first | rw [br_n (hlt)] | rw [br_q (hlt)] | rw [br_u (hlt)]
    exact h0
theorem m_bringsSets (d : Nat) (M : am_M) (Q : Option Value → am_M → Prop) (hL : Lay M) (hQ : ∀ M', gF s328 nT M M' → (∀ i, i < 48 → mI M' 328 i = mI M 329 i) → Q none M') : am_E am_P0 d 264 [.ref 277] M Q := by
  have h0 := l_m_bringsSets d M Q hL hQ 48 0 (by omega) M (gF_refl _ _ _) (fun k hk => by omega)
  rw [eX11_bringsSets]
  simp +decide only [qX11_bringsSets, am_w1_i, am_w1_r, am_w1_x, am_w1_l, am_w1_w, va_rf_s, am_push_n, am_push_s, am_cs_0, am_cs_i, am_cs_l, am_cs_r, m_uI_K, m_uI_N, m_uI_R, m_uI_L, m_uI_I, m_uL_K, m_uL_N, m_uL_R, m_uL_I, m_uL_L, m_uR_K, m_uR_N, m_uR_I, m_uR_L, m_uR_R, true_and, and_true, true_implies, false_implies, not_true_eq_false, not_false_eq_true, if_true, if_false, false_and, and_false]
  exact h0
def s3289 (a _j : Nat) : Prop := a = 328 ∨ a = 329
section
variable (w : Nat → Prop) (v : Nat) (snd : Nat → Bool → Prop) (B : List Fct) (Y : List Sy)
/-- not all fit, but they can be parted -/
def prP : Prop := fitP w v B ∧ (∀ y, y ∈ Y → snd y.2.1 y.2.2) ∧ ((∃ i, i < Y.length ∧ ¬ gY w v snd B Y i) ∨ ∃ i j, i < Y.length ∧ j < Y.length ∧ KY w v Y i j) ∧ pairX Y.length (KY w v Y) (gY w v snd B Y)
def noX (S : Nat → Option Bool) : Prop := (∀ i j, i < Y.length → j < Y.length → ¬ KY w v Y i j) → ∀ i, i < Y.length → gY w v snd B Y i → ¬ S i = none → S i = some true
variable (d : Nat) (M0 : am_M) (Q : Option Value → am_M → Prop) (x1 x2 : Int32)
/-- how many are by themselves -/
theorem l_m_ones (M : am_M) (hL : Lay M) (hP : PrM w v snd B Y M Y.length) (h48 : Y.length ≤ 48) (S : Nat → Option Bool) (hS : SeM M Y.length S) (ht : ∀ i, i < Y.length → ¬ S i = none)
    (hQ : Q (some (.int (tI ((∃ i, i < Y.length ∧ S i = some true) ∧ ∃ i, i < Y.length ∧ S i = some false)))) M) :
    ∀ (m i : Nat), i + m = Y.length → am_P am_P0 d (am_look tX11_isPair) 214 [.ref 277, .int x1, .int x2, .int (nI (cnt (fun k => S k == some false) i)), .int (nI i)] [] M Q := by
  intro m
  induction m with
  | zero =>
    intro i hi
    have ei : i = Y.length := by omega
    subst ei
    have hle : nI Y.length ≤ nI Y.length := (ni_le (by omega) (by omega)).mpr (by omega)
    have hcl := cnt_le (fun k => S k == some false) Y.length
    rw [hX11_isPair_214]
    simp +decide only [qX11_isPair_0, qX11_isPair_1, qX11_isPair_2, qX11_isPair_3, lm hL, hP.1.1, am_w1_i, am_w1_r, am_w1_x, am_w1_l, am_w1_w, va_rf_s, am_push_n, am_push_s, am_cs_0, am_cs_i, am_cs_l, am_cs_r, m_uI_K, m_uI_N, m_uI_R, m_uI_L, m_uI_I, m_uL_K, m_uL_N, m_uL_R, m_uL_I, m_uL_L, m_uR_K, m_uR_N, m_uR_I, m_uR_L, m_uR_R, true_and, and_true, true_implies, false_implies, not_true_eq_false, not_false_eq_true, if_true, if_false, false_and, and_false]
    first | rw [br_p (hle)] | rw [br_r (hle)] | rw [br_s (hle)]
    rw [ni_pos (by omega), ni_le (by omega) (by omega)]
    by_cases c0 : cnt (fun k => S k == some false) Y.length = 0
    · first | rw [br_p (c0)] | rw [br_r (c0)] | rw [br_s (c0)]
      rw [tI_f (fun q => by
        obtain ⟨-, i, hi, hf⟩ := q
        have := cnt_in (g := fun k => S k == some false) hi (by simp [hf])
        omega)] at hQ
      exact hQ
    · first | rw [br_n (c0)] | rw [br_q (c0)] | rw [br_u (c0)]
      have hf : ∃ i, i < Y.length ∧ S i = some false := by
        apply Classical.byContradiction
        intro q
        apply c0
        have := cnt_stay (g := fun k => S k == some false) (Nat.zero_le Y.length) (fun t _ h2 h3 => q ⟨t, h2, by simpa using h3⟩)
        rw [this]
        rfl
      by_cases c1 : Y.length ≤ cnt (fun k => S k == some false) Y.length
      · first | rw [br_p (c1)] | rw [br_r (c1)] | rw [br_s (c1)]
        rw [tI_f (fun q => by
          obtain ⟨⟨i, hi, htt⟩, -⟩ := q
          have h1 := cnt_sub_lt (g := fun k => S k == some false) (g' := fun _ => true) (n := Y.length) (i := i) (fun _ _ _ => rfl) hi (by simp [htt]) rfl
          have h2 := cnt_le (fun _ : Nat => true) Y.length
          omega)] at hQ
        exact hQ
      · first | rw [br_n (c1)] | rw [br_q (c1)] | rw [br_u (c1)]
        have htt : ∃ i, i < Y.length ∧ S i = some true := by
          apply Classical.byContradiction
          intro q
          apply c1
          have h1 := cnt_ext (g := fun k => S k == some false) (g' := fun _ => true) (n := Y.length) (fun t h2 => by
            cases hs : S t with
            | none => exact absurd hs (ht t h2)
            | some x => cases x with
              | true => exact absurd ⟨t, h2, hs⟩ q
              | false => rfl)
          have h2 : ∀ n, cnt (fun _ : Nat => true) n = n := fun n => by
            induction n with
            | zero => rfl
            | succ n ih => rw [cnt_t rfl, ih]
          rw [h1, h2]
          exact Nat.le_refl _
        rw [tI_t ⟨htt, hf⟩] at hQ
        exact hQ
  | succ m ih =>
    intro i hi
    have hlt : ¬ nI Y.length ≤ nI i := by rw [ni_le (by omega) (by omega)]; omega
    have hsi := hS i (by omega)
    have h0 := ih (i + 1) (by omega)
    rw [hX11_isPair_214]
    simp +decide (disch := omega) only [qX11_isPair_0, qX11_isPair_1, qX11_isPair_2, qX11_isPair_3, lm hL, hP.1.1, hsi, ni_in_t, ni_tn, ni_add1, am_w1_i, am_w1_r, am_w1_x, am_w1_l, am_w1_w, va_rf_s, am_push_n, am_push_s, am_cs_0, am_cs_i, am_cs_l, am_cs_r, m_uI_K, m_uI_N, m_uI_R, m_uI_L, m_uI_I, m_uL_K, m_uL_N, m_uL_R, m_uL_I, m_uL_L, m_uR_K, m_uR_N, m_uR_I, m_uR_L, m_uR_R, true_and, and_true, true_implies, false_implies, not_true_eq_false, not_false_eq_true, if_true, if_false, false_and, and_false]
    first | rw [br_n (hlt)] | rw [br_q (hlt)] | rw [br_u (hlt)]
    cases hs : S i with
    | none => exact absurd hs (ht i (by omega))
    | some x =>
      cases x with
      | true =>
        rw [cnt_f (by simp [hs])] at h0
        rw [show sI (some true) = nI 0 from rfl, ni_add]
        exact h0
      | false =>
        rw [cnt_t (by simp [hs])] at h0
        rw [show sI (some false) = nI 1 from rfl, ni_add]
        exact h0
theorem l_m_pair2 (hL0 : Lay M0) (hP0 : PrM w v snd B Y M0 Y.length) (h48 : Y.length ≤ 48) (hself : ∀ y, y ∈ Y → gowY w v y y) (hna : (∃ i, i < Y.length ∧ ¬ gY w v snd B Y i) ∨ ∃ i j, i < Y.length ∧ j < Y.length ∧ KY w v Y i j)
    (hQ : ∀ M', gF s3289 nT M0 M' → Q (some (.int (tI (pairX Y.length (KY w v Y) (gY w v snd B Y))))) M') :
    ∀ (m i : Nat), i + m = Y.length → ∀ (M : am_M) (S : Nat → Option Bool) (v4 : Value), jk v4 → gF s3289 nT M0 M → SeM M Y.length S → colC Y.length (KY w v Y) (gY w v snd B Y) S → noX w v snd B Y S → (∀ k, k < i → ¬ S k = none) → am_P am_P0 (d + 1) (am_look tX11_isPair) 142 [.ref 277, .int x1, .int x2, .int (nI i), v4] [] M Q := by
  intro m
  induction m with
  | zero =>
    intro i hi M S v4 hv4 hM hS hC hN ht
    have hL := gF_LayN hM hL0
    have hP := PrM_g hP0 hM (fun a j q z => by unfold s3289 at z; omega)
    have hle : nI Y.length ≤ nI i := (ni_le (by omega) (by omega)).mpr (by omega)
    have h0 := hQ M hM
    have ht' : ∀ k, k < Y.length → ¬ S k = none := fun k hk => ht k (by omega)
    rw [← tI_i (col_pair hC ht' (fun hno k hk hg => hN hno k hk hg (ht' k hk)) hna)] at h0
    have h9 := l_m_ones w v snd B Y (d + 1) Q x1 x2 M hL hP h48 S hS ht' h0 Y.length 0 (by omega)
    rw [hX11_isPair_142]
    simp +decide only [qX11_isPair_0, qX11_isPair_1, qX11_isPair_2, qX11_isPair_3, lm hL, hP.1.1, jk_w hv4, am_w1_i, am_w1_r, am_w1_x, am_w1_l, am_w1_w, va_rf_s, am_push_n, am_push_s, am_cs_0, am_cs_i, am_cs_l, am_cs_r, m_uI_K, m_uI_N, m_uI_R, m_uI_L, m_uI_I, m_uL_K, m_uL_N, m_uL_R, m_uL_I, m_uL_L, m_uR_K, m_uR_N, m_uR_I, m_uR_L, m_uR_R, true_and, and_true, true_implies, false_implies, not_true_eq_false, not_false_eq_true, if_true, if_false, false_and, and_false]
    first | rw [br_p (hle)] | rw [br_r (hle)] | rw [br_s (hle)]
    exact h9
  | succ m ih =>
    intro i hi M S v4 hv4 hM hS hC hN ht
    have hL := gF_LayN hM hL0
    have hP := PrM_g hP0 hM (fun a j q z => by unfold s3289 at z; omega)
    have hlt : ¬ nI Y.length ≤ nI i := by rw [ni_le (by omega) (by omega)]; omega
    have hsi := hS i (by omega)
    obtain ⟨y, hy⟩ : ∃ y, Y[i]? = some y := ⟨Y[i]'(by omega), List.getElem?_eq_getElem (by omega)⟩
    rw [hX11_isPair_142]
    simp +decide (disch := omega) only [qX11_isPair_0, qX11_isPair_1, qX11_isPair_2, qX11_isPair_3, lm hL, hP.1.1, hsi, sI_n, jk_w hv4, ni_in_t, ni_tn, ni_add1, am_w1_i, am_w1_r, am_w1_x, am_w1_l, am_w1_w, va_rf_s, am_push_n, am_push_s, am_cs_0, am_cs_i, am_cs_l, am_cs_r, m_uI_K, m_uI_N, m_uI_R, m_uI_L, m_uI_I, m_uL_K, m_uL_N, m_uL_R, m_uL_I, m_uL_L, m_uR_K, m_uR_N, m_uR_I, m_uR_L, m_uR_R, true_and, and_true, true_implies, false_implies, not_true_eq_false, not_false_eq_true, if_true, if_false, false_and, and_false]
    first | rw [br_n (hlt)] | rw [br_q (hlt)] | rw [br_u (hlt)]
    by_cases c : S i = none
    · first | rw [br_p (c)] | rw [br_r (c)] | rw [br_s (c)]
      refine m_keepsSets d M _ hL (fun M1 g1 e1 => ?_)
      have G1 : gF s3289 nT M0 M1 := gF_trans hM (gF_up g1 (fun a j q => Or.inr q) (fun _ _ q => q))
      have L1 := gF_LayN G1 hL0
      have P1 := PrM_g hP0 G1 (fun a j q z => by unfold s3289 at z; omega)
      have S1 : SeM M1 Y.length S := fun k hk => by rw [g1.1 _ _ (by omega)]; exact hS k hk
      have O1 : ∀ k, k < Y.length → mI M1 329 k = sI (S k) := fun k hk => by rw [e1 k (by omega)]; exact hS k hk
      have hg := P1.2.1 i y (by omega) hy
      -- the second try
      have try2 : ∀ M2, gF s328 nT M1 M2 → (∀ c, colV Y.length (KY w v Y) (gY w v snd B Y) c → colX Y.length S c → ¬ c i = true) → ((∀ i j, i < Y.length → j < Y.length → ¬ KY w v Y i j) → ¬ gY w v snd B Y i) → am_P am_P0 (d + 1) (am_look tX11_isPair) 188 [.ref 277, .int x1, .int x2, .int (nI i), v4] [] M2 Q := fun M2 g2 n2 k2 => by
        have L2 := gF_LayN g2 L1
        simp +decide only [qX11_isPair_0, qX11_isPair_1, qX11_isPair_2, qX11_isPair_3, lm L2, jk_w hv4, am_w1_i, am_w1_r, am_w1_x, am_w1_l, am_w1_w, va_rf_s, am_push_n, am_push_s, am_cs_0, am_cs_i, am_cs_l, am_cs_r, m_uI_K, m_uI_N, m_uI_R, m_uI_L, m_uI_I, m_uL_K, m_uL_N, m_uL_R, m_uL_I, m_uL_L, m_uR_K, m_uR_N, m_uR_I, m_uR_L, m_uR_R, true_and, and_true, true_implies, false_implies, not_true_eq_false, not_false_eq_true, if_true, if_false, false_and, and_false]
        refine m_bringsSets d M2 _ L2 (fun M3 g3 e3 => ?_)
        have G3 : gF s328 nT M1 M3 := gF_trans g2 g3
        have L3 := gF_LayN g3 L2
        have GG : gF s3289 nT M0 M3 := gF_trans G1 (gF_up G3 (fun a j q => Or.inl q) (fun _ _ q => q))
        have P3 := PrM_g hP0 GG (fun a j q z => by unfold s3289 at z; omega)
        have S3 : SeM M3 Y.length S := fun k hk => by rw [e3 k (by omega), g2.1 _ _ (by unfold s328; omega)]; exact O1 k hk
        simp +decide only [qX11_isPair_0, qX11_isPair_1, qX11_isPair_2, qX11_isPair_3, lm L3, jk_w hv4, am_w1_i, am_w1_r, am_w1_x, am_w1_l, am_w1_w, va_rf_s, am_push_n, am_push_s, am_cs_0, am_cs_i, am_cs_l, am_cs_r, m_uI_K, m_uI_N, m_uI_R, m_uI_L, m_uI_I, m_uL_K, m_uL_N, m_uL_R, m_uL_I, m_uL_L, m_uR_K, m_uR_N, m_uR_I, m_uR_L, m_uR_R, true_and, and_true, true_implies, false_implies, not_true_eq_false, not_false_eq_true, if_true, if_false, false_and, and_false]
        refine m_parts d w v snd B Y S i false M3 _ L3 P3 h48 hself (by omega) S3 c (fun M4 g4 n4 => ?_) (fun M4 S4 g4 s4 c4 x4 f4 k4 => ?_)
        · have h0 := hQ M4 (gF_trans GG (gF_up g4 (fun a j q => Or.inl q) (fun _ _ q => q)))
          rw [tI_f (pairX_no (fun c' hc' => by
            obtain ⟨m1, m2⟩ := col_mix KY_symm hC hc'
            cases hb : colM S c' i with
            | true => exact n2 _ m1 m2 hb
            | false => exact n4 _ m1 m2 hb))] at h0
          simp +decide only [qX11_isPair_0, qX11_isPair_1, qX11_isPair_2, qX11_isPair_3, am_w1_i, am_w1_r, am_w1_x, am_w1_l, am_w1_w, va_rf_s, am_push_n, am_push_s, am_cs_0, am_cs_i, am_cs_l, am_cs_r, m_uI_K, m_uI_N, m_uI_R, m_uI_L, m_uI_I, m_uL_K, m_uL_N, m_uL_R, m_uL_I, m_uL_L, m_uR_K, m_uR_N, m_uR_I, m_uR_L, m_uR_R, true_and, and_true, true_implies, false_implies, not_true_eq_false, not_false_eq_true, if_true, if_false, false_and, and_false]
          exact h0
        · have h0 := ih (i + 1) (by omega) M4 S4 v4 hv4 (gF_trans GG (gF_up g4 (fun a j q => Or.inl q) (fun _ _ q => q))) s4 c4 (fun hno k hk hgk hs => by
              by_cases e : k = i
              · subst e; exact absurd hgk (k2 hno)
              · rw [k4 hno k hk e] at hs ⊢; exact hN hno k hk hgk hs) (fun k hk q => by
              by_cases e : k = i
              · subst e; rw [f4] at q; cases q
              · cases hs : S k with
                | none => exact ht k (by omega) hs
                | some b' => rw [x4 k b' hs] at q; cases q)
          simp +decide only [qX11_isPair_0, qX11_isPair_1, qX11_isPair_2, qX11_isPair_3, ni_add1, jk_w hv4, am_w1_i, am_w1_r, am_w1_x, am_w1_l, am_w1_w, va_rf_s, am_push_n, am_push_s, am_cs_0, am_cs_i, am_cs_l, am_cs_r, m_uI_K, m_uI_N, m_uI_R, m_uI_L, m_uI_I, m_uL_K, m_uL_N, m_uL_R, m_uL_I, m_uL_L, m_uR_K, m_uR_N, m_uR_I, m_uR_L, m_uR_R, true_and, and_true, true_implies, false_implies, not_true_eq_false, not_false_eq_true, if_true, if_false, false_and, and_false]
          exact h0
      simp +decide (disch := omega) only [qX11_isPair_0, qX11_isPair_1, qX11_isPair_2, qX11_isPair_3, lm L1, hg, tI_01, tI_0, jk_w hv4, ni_in_t, ni_tn, am_w1_i, am_w1_r, am_w1_x, am_w1_l, am_w1_w, va_rf_s, am_push_n, am_push_s, am_cs_0, am_cs_i, am_cs_l, am_cs_r, m_uI_K, m_uI_N, m_uI_R, m_uI_L, m_uI_I, m_uL_K, m_uL_N, m_uL_R, m_uL_I, m_uL_L, m_uR_K, m_uR_N, m_uR_I, m_uR_L, m_uR_R, true_and, and_true, true_implies, false_implies, not_true_eq_false, not_false_eq_true, if_true, if_false, false_and, and_false]
      by_cases cg : goodY w v snd B y
      · first | rw [br_p (cg)] | rw [br_r (cg)] | rw [br_s (cg)]
        refine m_parts d w v snd B Y S i true M1 _ L1 P1 h48 hself (by omega) S1 c (fun M4 g4 n4 => ?_) (fun M4 S4 g4 s4 c4 x4 f4 k4 => ?_)
        · have h0 := try2 M4 g4 n4 (fun hno hgi => by
            refine n4 (fun k => if k = i then true else (S k).getD false) ⟨fun a b ha hb hk => absurd hk (hno a b ha hb), fun k hk q => ?_⟩ (fun k b' hk hb' => ?_) ?_
            · dsimp only at q
              by_cases e : k = i
              · rw [e]; exact hgi
              · rw [if_neg e] at q
                cases hs : S k with
                | none => rw [hs] at q; cases q
                | some b2 => rw [hs] at q; simp at q; subst q; exact hC.2 k hk hs
            · dsimp only
              by_cases e : k = i
              · rw [e, c] at hb'; cases hb'
              · rw [if_neg e, hb']; rfl
            · exact if_pos rfl)
          have L4 := gF_LayN g4 L1
          simp +decide only [qX11_isPair_0, qX11_isPair_1, qX11_isPair_2, qX11_isPair_3, lm L4, jk_w hv4, am_w1_i, am_w1_r, am_w1_x, am_w1_l, am_w1_w, va_rf_s, am_push_n, am_push_s, am_cs_0, am_cs_i, am_cs_l, am_cs_r, m_uI_K, m_uI_N, m_uI_R, m_uI_L, m_uI_I, m_uL_K, m_uL_N, m_uL_R, m_uL_I, m_uL_L, m_uR_K, m_uR_N, m_uR_I, m_uR_L, m_uR_R, true_and, and_true, true_implies, false_implies, not_true_eq_false, not_false_eq_true, if_true, if_false, false_and, and_false] at h0 ⊢
          exact h0
        · have h0 := ih (i + 1) (by omega) M4 S4 v4 hv4 (gF_trans G1 (gF_up g4 (fun a j q => Or.inl q) (fun _ _ q => q))) s4 c4 (fun hno k hk hgk hs => by
              by_cases e : k = i
              · subst e; exact f4
              · rw [k4 hno k hk e] at hs ⊢; exact hN hno k hk hgk hs) (fun k hk q => by
              by_cases e : k = i
              · subst e; rw [f4] at q; cases q
              · cases hs : S k with
                | none => exact ht k (by omega) hs
                | some b' => rw [x4 k b' hs] at q; cases q)
          simp +decide only [qX11_isPair_0, qX11_isPair_1, qX11_isPair_2, qX11_isPair_3, ni_add1, jk_w hv4, am_w1_i, am_w1_r, am_w1_x, am_w1_l, am_w1_w, va_rf_s, am_push_n, am_push_s, am_cs_0, am_cs_i, am_cs_l, am_cs_r, m_uI_K, m_uI_N, m_uI_R, m_uI_L, m_uI_I, m_uL_K, m_uL_N, m_uL_R, m_uL_I, m_uL_L, m_uR_K, m_uR_N, m_uR_I, m_uR_L, m_uR_R, true_and, and_true, true_implies, false_implies, not_true_eq_false, not_false_eq_true, if_true, if_false, false_and, and_false]
          exact h0
      · first | rw [br_n (cg)] | rw [br_q (cg)] | rw [br_u (cg)]
        have hng : ¬ gY w v snd B Y i := fun q => cg ((gY_y hy).mp q)
        have h0 := try2 M1 (gF_refl _ _ _) (fun c' hc' _ q => hng (hc'.2 i (by omega) q)) (fun _ => hng)
        simp +decide only [qX11_isPair_0, qX11_isPair_1, qX11_isPair_2, qX11_isPair_3, lm L1, jk_w hv4, am_w1_i, am_w1_r, am_w1_x, am_w1_l, am_w1_w, va_rf_s, am_push_n, am_push_s, am_cs_0, am_cs_i, am_cs_l, am_cs_r, m_uI_K, m_uI_N, m_uI_R, m_uI_L, m_uI_I, m_uL_K, m_uL_N, m_uL_R, m_uL_I, m_uL_L, m_uR_K, m_uR_N, m_uR_I, m_uR_L, m_uR_R, true_and, and_true, true_implies, false_implies, not_true_eq_false, not_false_eq_true, if_true, if_false, false_and, and_false] at h0 ⊢
        exact h0
    · first | rw [br_n (c)] | rw [br_q (c)] | rw [br_u (c)]
      exact ih (i + 1) (by omega) M S v4 hv4 hM hS hC hN (fun k hk => by
        by_cases e : k = i
        · subst e; exact c
        · exact ht k (by omega))
end
