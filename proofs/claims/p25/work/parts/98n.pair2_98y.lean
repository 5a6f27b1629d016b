/-! 98n.pair2 98o.pair3 98p.kind 98q.judge 98r.tale 98s.off 98t.sight 98u.doubt 98v.met 98w.met2 98x.met3 98y.chance -/
section
/-! the model: isPair -/
theorem l_m_keepsSets (d : Nat) (M0 : am_M) (Q : Option Value → am_M → Prop) (hL0 : Lay M0) (hQ : ∀ M', gF (fun a _ => a = 329) nT M0 M' → (∀ i, i < 48 → mI M' 329 i = mI M0 328 i) → Q none M') :
    ∀ (m i : Nat), i + m = 48 → ∀ (M : am_M), gF (fun a _ => a = 329) nT M0 M → (∀ k, k < i → mI M 329 k = mI M0 328 k) → am_P am_P0 d (am_look tX11_keepsSets) 2 [.ref 277, .int (nI i)] [] M Q := by
  intro m
  induction m with
  | zero =>
    intro i hi M hM hb
    have ei : i = 48 := by omega
    subst ei
    have h0 := hQ M hM hb
    rw [hX11_keepsSets_2]
    simp +decide only [qX11_keepsSets, show nI 48 = (48 : Int32) from rfl, am_w1_i, am_w1_r, am_w1_x, am_w1_l, am_w1_w, va_rf_s, am_push_n, am_push_s, am_cs_0, am_cs_i, am_cs_l, am_cs_r, m_uI_K, m_uI_N, m_uI_R, m_uI_L, m_uI_I, m_uL_K, m_uL_N, m_uL_R, m_uL_I, m_uL_L, m_uR_K, m_uR_N, m_uR_I, m_uR_L, m_uR_R, true_and, and_true, true_implies, false_implies, not_true_eq_false, not_false_eq_true, if_true, if_false, false_and, and_false]
    exact h0
  | succ m ih =>
    intro i hi M hM hb
    have hL := gF_LayN hM hL0
    have hlt : ¬ (48 : Int32) ≤ nI i := by rw [show (48 : Int32) = nI 48 from rfl, ni_le (by omega) (by omega)]; omega
    have w1 : gF (fun a _ => a = 329) nT M (uI M 329 i (mI M 328 i)) := gF_i _ rfl
    have h0 := ih (i + 1) (by omega) (uI M 329 i (mI M 328 i)) (gF_trans hM w1) (fun k hk => by
      rw [m_uI_I]
      by_cases e : k = i
      · rw [if_pos ⟨rfl, e⟩, e, hM.1 _ _ (by omega)]
      · rw [if_neg (by omega)]; exact hb k (by omega))
    rw [hX11_keepsSets_2]
    simp +decide (disch := omega) only [qX11_keepsSets, lm hL, ni_in_t, ni_tn, ni_add1, am_w1_i, am_w1_r, am_w1_x, am_w1_l, am_w1_w, va_rf_s, am_push_n, am_push_s, am_cs_0, am_cs_i, am_cs_l, am_cs_r, m_uI_K, m_uI_N, m_uI_R, m_uI_L, m_uI_I, m_uL_K, m_uL_N, m_uL_R, m_uL_I, m_uL_L, m_uR_K, m_uR_N, m_uR_I, m_uR_L, m_uR_R, true_and, and_true, true_implies, false_implies, not_true_eq_false, not_false_eq_true, if_true, if_false, false_and, and_false]
    first | rw [br_n (hlt)] | rw [br_q (hlt)] | rw [br_u (hlt)]
    exact h0
theorem m_keepsSets (d : Nat) (M : am_M) (Q : Option Value → am_M → Prop) (hL : Lay M) (hQ : ∀ M', gF (fun a _ => a = 329) nT M M' → (∀ i, i < 48 → mI M' 329 i = mI M 328 i) → Q none M') : am_E am_P0 d 263 [.ref 277] M Q := by
  have h0 := l_m_keepsSets d M Q hL hQ 48 0 (by omega) M (gF_refl _ _ _) (fun k hk => by omega)
  rw [eX11_keepsSets]
  simp +decide only [qX11_keepsSets, am_w1_i, am_w1_r, am_w1_x, am_w1_l, am_w1_w, va_rf_s, am_push_n, am_push_s, am_cs_0, am_cs_i, am_cs_l, am_cs_r, m_uI_K, m_uI_N, m_uI_R, m_uI_L, m_uI_I, m_uL_K, m_uL_N, m_uL_R, m_uL_I, m_uL_L, m_uR_K, m_uR_N, m_uR_I, m_uR_L, m_uR_R, true_and, and_true, true_implies, false_implies, not_true_eq_false, not_false_eq_true, if_true, if_false, false_and, and_false]
  exact h0
theorem l_m_bringsSets (d : Nat) (M0 : am_M) (Q : Option Value → am_M → Prop) (hL0 : Lay M0) (hQ : ∀ M', gF s328 nT M0 M' → (∀ i, i < 48 → mI M' 328 i = mI M0 329 i) → Q none M') :
    ∀ (m i : Nat), i + m = 48 → ∀ (M : am_M), gF s328 nT M0 M → (∀ k, k < i → mI M 328 k = mI M0 329 k) → am_P am_P0 d (am_look tX11_bringsSets) 2 [.ref 277, .int (nI i)] [] M Q := by
  intro m
  induction m with
  | zero =>
    intro i hi M hM hb
    have ei : i = 48 := by omega
    subst ei
    have h0 := hQ M hM hb
    rw [hX11_bringsSets_2]
    simp +decide only [qX11_bringsSets, show nI 48 = (48 : Int32) from rfl, am_w1_i, am_w1_r, am_w1_x, am_w1_l, am_w1_w, va_rf_s, am_push_n, am_push_s, am_cs_0, am_cs_i, am_cs_l, am_cs_r, m_uI_K, m_uI_N, m_uI_R, m_uI_L, m_uI_I, m_uL_K, m_uL_N, m_uL_R, m_uL_I, m_uL_L, m_uR_K, m_uR_N, m_uR_I, m_uR_L, m_uR_R, true_and, and_true, true_implies, false_implies, not_true_eq_false, not_false_eq_true, if_true, if_false, false_and, and_false]
    exact h0
  | succ m ih =>
    intro i hi M hM hb
    have hL := gF_LayN hM hL0
    have hlt : ¬ (48 : Int32) ≤ nI i := by rw [show (48 : Int32) = nI 48 from rfl, ni_le (by omega) (by omega)]; omega
    have w1 : gF s328 nT M (uI M 328 i (mI M 329 i)) := gF_i _ rfl
    have h0 := ih (i + 1) (by omega) (uI M 328 i (mI M 329 i)) (gF_trans hM w1) (fun k hk => by
      rw [m_uI_I]
      by_cases e : k = i
      · rw [if_pos ⟨rfl, e⟩, e, hM.1 _ _ (by unfold s328; omega)]
      · rw [if_neg (by omega)]; exact hb k (by omega))
    rw [hX11_bringsSets_2]
    simp +decide (disch := omega) only [qX11_bringsSets, lm hL, ni_in_t, ni_tn, ni_add1, am_w1_i, am_w1_r, am_w1_x, am_w1_l, am_w1_w, va_rf_s, am_push_n, am_push_s, am_cs_0, am_cs_i, am_cs_l, am_cs_r, m_uI_K, m_uI_N, m_uI_R, m_uI_L, m_uI_I, m_uL_K, m_uL_N, m_uL_R, m_uL_I, m_uL_L, m_uR_K, m_uR_N, m_uR_I, m_uR_L, m_uR_R, true_and, and_true, true_implies, false_implies, not_true_eq_false, not_false_eq_true, if_true, if_false, false_and, and_false]
    first | rw [br_n (hlt)] | rw [br_q (hlt)] | rw [br_u (hlt)]
    exact h0
theorem m_bringsSets (d : Nat) (M : am_M) (Q : Option Value → am_M → Prop) (hL : Lay M) (hQ : ∀ M', gF s328 nT M M' → (∀ i, i < 48 → mI M' 328 i = mI M 329 i) → Q none M') : am_E am_P0 d 264 [.ref 277] M Q := by
  have h0 := l_m_bringsSets d M Q hL hQ 48 0 (by omega) M (gF_refl _ _ _) (fun k hk => by omega)
  rw [eX11_bringsSets]
  simp +decide only [qX11_bringsSets, am_w1_i, am_w1_r, am_w1_x, am_w1_l, am_w1_w, va_rf_s, am_push_n, am_push_s, am_cs_0, am_cs_i, am_cs_l, am_cs_r, m_uI_K, m_uI_N, m_uI_R, m_uI_L, m_uI_I, m_uL_K, m_uL_N, m_uL_R, m_uL_I, m_uL_L, m_uR_K, m_uR_N, m_uR_I, m_uR_L, m_uR_R, true_and, and_true, true_implies, false_implies, not_true_eq_false, not_false_eq_true, if_true, if_false, false_and, and_false]
  exact h0
def s3289 (a _j : Nat) : Prop := a = 328 ∨ a = 329
section
variable (w : Nat → Prop) (v : Nat) (snd : Nat → Bool → Prop) (B : List Fct) (Y : List Sy)
/-- not all fit, but they can be parted -/
def prP : Prop := fitP w v B ∧ (∀ y, y ∈ Y → snd y.2.1 y.2.2) ∧ ((∃ i, i < Y.length ∧ ¬ gY w v snd B Y i) ∨ ∃ i j, i < Y.length ∧ j < Y.length ∧ KY w v Y i j) ∧ pairX Y.length (KY w v Y) (gY w v snd B Y)
def noX (S : Nat → Option Bool) : Prop := (∀ i j, i < Y.length → j < Y.length → ¬ KY w v Y i j) → ∀ i, i < Y.length → gY w v snd B Y i → ¬ S i = none → S i = some true
variable (d : Nat) (M0 : am_M) (Q : Option Value → am_M → Prop) (x1 x2 : Int32)
/-- how many are by themselves -/
theorem l_m_ones (M : am_M) (hL : Lay M) (hP : PrM w v snd B Y M Y.length) (h48 : Y.length ≤ 48) (S : Nat → Option Bool) (hS : SeM M Y.length S) (ht : ∀ i, i < Y.length → ¬ S i = none)
    (hQ : Q (some (.int (tI ((∃ i, i < Y.length ∧ S i = some true) ∧ ∃ i, i < Y.length ∧ S i = some false)))) M) :
    ∀ (m i : Nat), i + m = Y.length → am_P am_P0 d (am_look tX11_isPair) 214 [.ref 277, .int x1, .int x2, .int (nI (cnt (fun k => S k == some false) i)), .int (nI i)] [] M Q := by
  intro m
  induction m with
  | zero =>
    intro i hi
    have ei : i = Y.length := by omega
    subst ei
    have hle : nI Y.length ≤ nI Y.length := (ni_le (by omega) (by omega)).mpr (by omega)
    have hcl := cnt_le (fun k => S k == some false) Y.length
    rw [hX11_isPair_214]
    simp +decide only [qX11_isPair_0, qX11_isPair_1, qX11_isPair_2, qX11_isPair_3, lm hL, hP.1.1, am_w1_i, am_w1_r, am_w1_x, am_w1_l, am_w1_w, va_rf_s, am_push_n, am_push_s, am_cs_0, am_cs_i, am_cs_l, am_cs_r, m_uI_K, m_uI_N, m_uI_R, m_uI_L, m_uI_I, m_uL_K, m_uL_N, m_uL_R, m_uL_I, m_uL_L, m_uR_K, m_uR_N, m_uR_I, m_uR_L, m_uR_R, true_and, and_true, true_implies, false_implies, not_true_eq_false, not_false_eq_true, if_true, if_false, false_and, and_false]
    first | rw [br_p (hle)] | rw [br_r (hle)] | rw [br_s (hle)]
    rw [ni_pos (by omega), ni_le (by omega) (by omega)]
    by_cases c0 : cnt (fun k => S k == some false) Y.length = 0
    · first | rw [br_p (c0)] | rw [br_r (c0)] | rw [br_s (c0)]
      rw [tI_f (fun q => by
        obtain ⟨-, i, hi, hf⟩ := q
        have := cnt_in (g := fun k => S k == some false) hi (by simp [hf])
        omega)] at hQ
      exact hQ
    · first | rw [br_n (c0)] | rw [br_q (c0)] | rw [br_u (c0)]
      have hf : ∃ i, i < Y.length ∧ S i = some false := by
        apply Classical.byContradiction
        intro q
        apply c0
        have := cnt_stay (g := fun k => S k == some false) (Nat.zero_le Y.length) (fun t _ h2 h3 => q ⟨t, h2, by simpa using h3⟩)
        rw [this]
        rfl
      by_cases c1 : Y.length ≤ cnt (fun k => S k == some false) Y.length
      · first | rw [br_p (c1)] | rw [br_r (c1)] | rw [br_s (c1)]
        rw [tI_f (fun q => by
          obtain ⟨⟨i, hi, htt⟩, -⟩ := q
          have h1 := cnt_sub_lt (g := fun k => S k == some false) (g' := fun _ => true) (n := Y.length) (i := i) (fun _ _ _ => rfl) hi (by simp [htt]) rfl
          have h2 := cnt_le (fun _ : Nat => true) Y.length
          omega)] at hQ
        exact hQ
      · first | rw [br_n (c1)] | rw [br_q (c1)] | rw [br_u (c1)]
        have htt : ∃ i, i < Y.length ∧ S i = some true := by
          apply Classical.byContradiction
          intro q
          apply c1
          have h1 := cnt_ext (g := fun k => S k == some false) (g' := fun _ => true) (n := Y.length) (fun t h2 => by
            cases hs : S t with
            | none => exact absurd hs (ht t h2)
            | some x => cases x with
              | true => exact absurd ⟨t, h2, hs⟩ q
              | false => rfl)
          have h2 : ∀ n, cnt (fun _ : Nat => true) n = n := fun n => by
            induction n with
            | zero => rfl
            | succ n ih => rw [cnt_t rfl, ih]
          rw [h1, h2]
          exact Nat.le_refl _
        rw [tI_t ⟨htt, hf⟩] at hQ
        exact hQ
  | succ m ih =>
    intro i hi
    have hlt : ¬ nI Y.length ≤ nI i := by rw [ni_le (by omega) (by omega)]; omega
    have hsi := hS i (by omega)
    have h0 := ih (i + 1) (by omega)
    rw [hX11_isPair_214]
    simp +decide (disch := omega) only [qX11_isPair_0, qX11_isPair_1, qX11_isPair_2, qX11_isPair_3, lm hL, hP.1.1, hsi, ni_in_t, ni_tn, ni_add1, am_w1_i, am_w1_r, am_w1_x, am_w1_l, am_w1_w, va_rf_s, am_push_n, am_push_s, am_cs_0, am_cs_i, am_cs_l, am_cs_r, m_uI_K, m_uI_N, m_uI_R, m_uI_L, m_uI_I, m_uL_K, m_uL_N, m_uL_R, m_uL_I, m_uL_L, m_uR_K, m_uR_N, m_uR_I, m_uR_L, m_uR_R, true_and, and_true, true_implies, false_implies, not_true_eq_false, not_false_eq_true, if_true, if_false, false_and, and_false]
    first | rw [br_n (hlt)] | rw [br_q (hlt)] | rw [br_u (hlt)]
    cases hs : S i with
    | none => exact absurd hs (ht i (by omega))
    | some x =>
      cases x with
      | true =>
        rw [cnt_f (by simp [hs])] at h0
        rw [show sI (some true) = nI 0 from rfl, ni_add]
        exact h0
      | false =>
        rw [cnt_t (by simp [hs])] at h0
        rw [show sI (some false) = nI 1 from rfl, ni_add]
        exact h0
theorem l_m_pair2 (hL0 : Lay M0) (hP0 : PrM w v snd B Y M0 Y.length) (h48 : Y.length ≤ 48) (hself : ∀ y, y ∈ Y → gowY w v y y) (hna : (∃ i, i < Y.length ∧ ¬ gY w v snd B Y i) ∨ ∃ i j, i < Y.length ∧ j < Y.length ∧ KY w v Y i j)
    (hQ : ∀ M', gF s3289 nT M0 M' → Q (some (.int (tI (pairX Y.length (KY w v Y) (gY w v snd B Y))))) M') :
    ∀ (m i : Nat), i + m = Y.length → ∀ (M : am_M) (S : Nat → Option Bool) (v4 : Value), jk v4 → gF s3289 nT M0 M → SeM M Y.length S → colC Y.length (KY w v Y) (gY w v snd B Y) S → noX w v snd B Y S → (∀ k, k < i → ¬ S k = none) → am_P am_P0 (d + 1) (am_look tX11_isPair) 142 [.ref 277, .int x1, .int x2, .int (nI i), v4] [] M Q := by
  intro m
  induction m with
  | zero =>
    intro i hi M S v4 hv4 hM hS hC hN ht
    have hL := gF_LayN hM hL0
    have hP := PrM_g hP0 hM (fun a j q z => by unfold s3289 at z; omega)
    have hle : nI Y.length ≤ nI i := (ni_le (by omega) (by omega)).mpr (by omega)
    have h0 := hQ M hM
    have ht' : ∀ k, k < Y.length → ¬ S k = none := fun k hk => ht k (by omega)
    rw [← tI_i (col_pair hC ht' (fun hno k hk hg => hN hno k hk hg (ht' k hk)) hna)] at h0
    have h9 := l_m_ones w v snd B Y (d + 1) Q x1 x2 M hL hP h48 S hS ht' h0 Y.length 0 (by omega)
    rw [hX11_isPair_142]
    simp +decide only [qX11_isPair_0, qX11_isPair_1, qX11_isPair_2, qX11_isPair_3, lm hL, hP.1.1, jk_w hv4, am_w1_i, am_w1_r, am_w1_x, am_w1_l, am_w1_w, va_rf_s, am_push_n, am_push_s, am_cs_0, am_cs_i, am_cs_l, am_cs_r, m_uI_K, m_uI_N, m_uI_R, m_uI_L, m_uI_I, m_uL_K, m_uL_N, m_uL_R, m_uL_I, m_uL_L, m_uR_K, m_uR_N, m_uR_I, m_uR_L, m_uR_R, true_and, and_true, true_implies, false_implies, not_true_eq_false, not_false_eq_true, if_true, if_false, false_and, and_false]
    first | rw [br_p (hle)] | rw [br_r (hle)] | rw [br_s (hle)]
    exact h9
  | succ m ih =>
    intro i hi M S v4 hv4 hM hS hC hN ht
    have hL := gF_LayN hM hL0
    have hP := PrM_g hP0 hM (fun a j q z => by unfold s3289 at z; omega)
    have hlt : ¬ nI Y.length ≤ nI i := by rw [ni_le (by omega) (by omega)]; omega
    have hsi := hS i (by omega)
    obtain ⟨y, hy⟩ : ∃ y, Y[i]? = some y := ⟨Y[i]'(by omega), List.getElem?_eq_getElem (by omega)⟩
    rw [hX11_isPair_142]
    simp +decide (disch := omega) only [qX11_isPair_0, qX11_isPair_1, qX11_isPair_2, qX11_isPair_3, lm hL, hP.1.1, hsi, sI_n, jk_w hv4, ni_in_t, ni_tn, ni_add1, am_w1_i, am_w1_r, am_w1_x, am_w1_l, am_w1_w, va_rf_s, am_push_n, am_push_s, am_cs_0, am_cs_i, am_cs_l, am_cs_r, m_uI_K, m_uI_N, m_uI_R, m_uI_L, m_uI_I, m_uL_K, m_uL_N, m_uL_R, m_uL_I, m_uL_L, m_uR_K, m_uR_N, m_uR_I, m_uR_L, m_uR_R, true_and, and_true, true_implies, false_implies, not_true_eq_false, not_false_eq_true, if_true, if_false, false_and, and_false]
    first | rw [br_n (hlt)] | rw [br_q (hlt)] | rw [br_u (hlt)]
    by_cases c : S i = none
    · first | rw [br_p (c)] | rw [br_r (c)] | rw [br_s (c)]
      refine m_keepsSets d M _ hL (fun M1 g1 e1 => ?_)
      have G1 : gF s3289 nT M0 M1 := gF_trans hM (gF_up g1 (fun a j q => Or.inr q) (fun _ _ q => q))
      have L1 := gF_LayN G1 hL0
      have P1 := PrM_g hP0 G1 (fun a j q z => by unfold s3289 at z; omega)
      have S1 : SeM M1 Y.length S := fun k hk => by rw [g1.1 _ _ (by omega)]; exact hS k hk
      have O1 : ∀ k, k < Y.length → mI M1 329 k = sI (S k) := fun k hk => by rw [e1 k (by omega)]; exact hS k hk
      have hg := P1.2.1 i y (by omega) hy
      -- the second try
      have try2 : ∀ M2, gF s328 nT M1 M2 → (∀ c, colV Y.length (KY w v Y) (gY w v snd B Y) c → colX Y.length S c → ¬ c i = true) → ((∀ i j, i < Y.length → j < Y.length → ¬ KY w v Y i j) → ¬ gY w v snd B Y i) → am_P am_P0 (d + 1) (am_look tX11_isPair) 188 [.ref 277, .int x1, .int x2, .int (nI i), v4] [] M2 Q := fun M2 g2 n2 k2 => by
        have L2 := gF_LayN g2 L1
        simp +decide only [qX11_isPair_0, qX11_isPair_1, qX11_isPair_2, qX11_isPair_3, lm L2, jk_w hv4, am_w1_i, am_w1_r, am_w1_x, am_w1_l, am_w1_w, va_rf_s, am_push_n, am_push_s, am_cs_0, am_cs_i, am_cs_l, am_cs_r, m_uI_K, m_uI_N, m_uI_R, m_uI_L, m_uI_I, m_uL_K, m_uL_N, m_uL_R, m_uL_I, m_uL_L, m_uR_K, m_uR_N, m_uR_I, m_uR_L, m_uR_R, true_and, and_true, true_implies, false_implies, not_true_eq_false, not_false_eq_true, if_true, if_false, false_and, and_false]
        refine m_bringsSets d M2 _ L2 (fun M3 g3 e3 => ?_)
        have G3 : gF s328 nT M1 M3 := gF_trans g2 g3
        have L3 := gF_LayN g3 L2
        have GG : gF s3289 nT M0 M3 := gF_trans G1 (gF_up G3 (fun a j q => Or.inl q) (fun _ _ q => q))
        have P3 := PrM_g hP0 GG (fun a j q z => by unfold s3289 at z; omega)
        have S3 : SeM M3 Y.length S := fun k hk => by rw [e3 k (by omega), g2.1 _ _ (by unfold s328; omega)]; exact O1 k hk
        simp +decide only [qX11_isPair_0, qX11_isPair_1, qX11_isPair_2, qX11_isPair_3, lm L3, jk_w hv4, am_w1_i, am_w1_r, am_w1_x, am_w1_l, am_w1_w, va_rf_s, am_push_n, am_push_s, am_cs_0, am_cs_i, am_cs_l, am_cs_r, m_uI_K, m_uI_N, m_uI_R, m_uI_L, m_uI_I, m_uL_K, m_uL_N, m_uL_R, m_uL_I, m_uL_L, m_uR_K, m_uR_N, m_uR_I, m_uR_L, m_uR_R, true_and, and_true, true_implies, false_implies, not_true_eq_false, not_false_eq_true, if_true, if_false, false_and, and_false]
        refine m_parts d w v snd B Y S i false M3 _ L3 P3 h48 hself (by omega) S3 c (fun M4 g4 n4 => ?_) (fun M4 S4 g4 s4 c4 x4 f4 k4 => ?_)
        · have h0 := hQ M4 (gF_trans GG (gF_up g4 (fun a j q => Or.inl q) (fun _ _ q => q)))
          rw [tI_f (pairX_no (fun c' hc' => by
            obtain ⟨m1, m2⟩ := col_mix KY_symm hC hc'
            cases hb : colM S c' i with
            | true => exact n2 _ m1 m2 hb
            | false => exact n4 _ m1 m2 hb))] at h0
          simp +decide only [qX11_isPair_0, qX11_isPair_1, qX11_isPair_2, qX11_isPair_3, am_w1_i, am_w1_r, am_w1_x, am_w1_l, am_w1_w, va_rf_s, am_push_n, am_push_s, am_cs_0, am_cs_i, am_cs_l, am_cs_r, m_uI_K, m_uI_N, m_uI_R, m_uI_L, m_uI_I, m_uL_K, m_uL_N, m_uL_R, m_uL_I, m_uL_L, m_uR_K, m_uR_N, m_uR_I, m_uR_L, m_uR_R, true_and, and_true, true_implies, false_implies, not_true_eq_false, not_false_eq_true, if_true, if_false, false_and, and_false]
          exact h0
        · have h0 := ih (i + 1) (by omega) M4 S4 v4 hv4 (gF_trans GG (gF_up g4 (fun a j q => Or.inl q) (fun _ _ q => q))) s4 c4 (fun hno k hk hgk hs => by
              by_cases e : k = i
              · subst e; exact absurd hgk (k2 hno)
              · rw [k4 hno k hk e] at hs ⊢; exact hN hno k hk hgk hs) (fun k hk q => by
              by_cases e : k = i
              · subst e; rw [f4] at q; cases q
              · cases hs : S k with
                | none => exact ht k (by omega) hs
                | some b' => rw [x4 k b' hs] at q; cases q)
          simp +decide only [qX11_isPair_0, qX11_isPair_1, qX11_isPair_2, qX11_isPair_3, ni_add1, jk_w hv4, am_w1_i, am_w1_r, am_w1_x, am_w1_l, am_w1_w, va_rf_s, am_push_n, am_push_s, am_cs_0, am_cs_i, am_cs_l, am_cs_r, m_uI_K, m_uI_N, m_uI_R, m_uI_L, m_uI_I, m_uL_K, m_uL_N, m_uL_R, m_uL_I, m_uL_L, m_uR_K, m_uR_N, m_uR_I, m_uR_L, m_uR_R, true_and, and_true, true_implies, false_implies, not_true_eq_false, not_false_eq_true, if_true, if_false, false_and, and_false]
          exact h0
      simp +decide (disch := omega) only [qX11_isPair_0, qX11_isPair_1, qX11_isPair_2, qX11_isPair_3, lm L1, hg, tI_01, tI_0, jk_w hv4, ni_in_t, ni_tn, am_w1_i, am_w1_r, am_w1_x, am_w1_l, am_w1_w, va_rf_s, am_push_n, am_push_s, am_cs_0, am_cs_i, am_cs_l, am_cs_r, m_uI_K, m_uI_N, m_uI_R, m_uI_L, m_uI_I, m_uL_K, m_uL_N, m_uL_R, m_uL_I, m_uL_L, m_uR_K, m_uR_N, m_uR_I, m_uR_L, m_uR_R, true_and, and_true, true_implies, false_implies, not_true_eq_false, not_false_eq_true, if_true, if_false, false_and, and_false]
      by_cases cg : goodY w v snd B y
      · first | rw [br_p (cg)] | rw [br_r (cg)] | rw [br_s (cg)]
        refine m_parts d w v snd B Y S i true M1 _ L1 P1 h48 hself (by omega) S1 c (fun M4 g4 n4 => ?_) (fun M4 S4 g4 s4 c4 x4 f4 k4 => ?_)
        · have h0 := try2 M4 g4 n4 (fun hno hgi => by
            refine n4 (fun k => if k = i then true else (S k).getD false) ⟨fun a b ha hb hk => absurd hk (hno a b ha hb), fun k hk q => ?_⟩ (fun k b' hk hb' => ?_) ?_
            · dsimp only at q
              by_cases e : k = i
              · rw [e]; exact hgi
              · rw [if_neg e] at q
                cases hs : S k with
                | none => rw [hs] at q; cases q
                | some b2 => rw [hs] at q; simp at q; subst q; exact hC.2 k hk hs
            · dsimp only
              by_cases e : k = i
              · rw [e, c] at hb'; cases hb'
              · rw [if_neg e, hb']; rfl
            · exact if_pos rfl)
          have L4 := gF_LayN g4 L1
          simp +decide only [qX11_isPair_0, qX11_isPair_1, qX11_isPair_2, qX11_isPair_3, lm L4, jk_w hv4, am_w1_i, am_w1_r, am_w1_x, am_w1_l, am_w1_w, va_rf_s, am_push_n, am_push_s, am_cs_0, am_cs_i, am_cs_l, am_cs_r, m_uI_K, m_uI_N, m_uI_R, m_uI_L, m_uI_I, m_uL_K, m_uL_N, m_uL_R, m_uL_I, m_uL_L, m_uR_K, m_uR_N, m_uR_I, m_uR_L, m_uR_R, true_and, and_true, true_implies, false_implies, not_true_eq_false, not_false_eq_true, if_true, if_false, false_and, and_false] at h0 ⊢
          exact h0
        · have h0 := ih (i + 1) (by omega) M4 S4 v4 hv4 (gF_trans G1 (gF_up g4 (fun a j q => Or.inl q) (fun _ _ q => q))) s4 c4 (fun hno k hk hgk hs => by
              by_cases e : k = i
              · subst e; exact f4
              · rw [k4 hno k hk e] at hs ⊢; exact hN hno k hk hgk hs) (fun k hk q => by
              by_cases e : k = i
              · subst e; rw [f4] at q; cases q
              · cases hs : S k with
                | none => exact ht k (by omega) hs
                | some b' => rw [x4 k b' hs] at q; cases q)
          simp +decide only [qX11_isPair_0, qX11_isPair_1, qX11_isPair_2, qX11_isPair_3, ni_add1, jk_w hv4, am_w1_i, am_w1_r, am_w1_x, am_w1_l, am_w1_w, va_rf_s, am_push_n, am_push_s, am_cs_0, am_cs_i, am_cs_l, am_cs_r, m_uI_K, m_uI_N, m_uI_R, m_uI_L, m_uI_I, m_uL_K, m_uL_N, m_uL_R, m_uL_I, m_uL_L, m_uR_K, m_uR_N, m_uR_I, m_uR_L, m_uR_R, true_and, and_true, true_implies, false_implies, not_true_eq_false, not_false_eq_true, if_true, if_false, false_and, and_false]
          exact h0
      · first | rw [br_n (cg)] | rw [br_q (cg)] | rw [br_u (cg)]
        have hng : ¬ gY w v snd B Y i := fun q => cg ((gY_y hy).mp q)
        have h0 := try2 M1 (gF_refl _ _ _) (fun c' hc' _ q => hng (hc'.2 i (by omega) q)) (fun _ => hng)
        simp +decide only [qX11_isPair_0, qX11_isPair_1, qX11_isPair_2, qX11_isPair_3, lm L1, jk_w hv4, am_w1_i, am_w1_r, am_w1_x, am_w1_l, am_w1_w, va_rf_s, am_push_n, am_push_s, am_cs_0, am_cs_i, am_cs_l, am_cs_r, m_uI_K, m_uI_N, m_uI_R, m_uI_L, m_uI_I, m_uL_K, m_uL_N, m_uL_R, m_uL_I, m_uL_L, m_uR_K, m_uR_N, m_uR_I, m_uR_L, m_uR_R, true_and, and_true, true_implies, false_implies, not_true_eq_false, not_false_eq_true, if_true, if_false, false_and, and_false] at h0 ⊢
        exact h0
    · first | rw [br_n (c)] | rw [br_q (c)] | rw [br_u (c)]
      exact ih (i + 1) (by omega) M S v4 hv4 hM hS hC hN (fun k hk => by
        by_cases e : k = i
        · subst e; exact c
        · exact ht k (by omega))
end
end
section
/-! the model: isPair, the beginning; gaps -/
section
variable (w : Nat → Prop) (v : Nat) (snd : Nat → Bool → Prop) (B : List Fct) (Y : List Sy)
def alP (i : Nat) : Prop := ∀ k, k < i → gdF w v snd B Y k = true ∧ ∀ j, j < Y.length → goF w v Y k j = true
variable (d : Nat) (M : am_M) (Q : Option Value → am_M → Prop) (x1 : Int32)
theorem l_m_pair4 (hL : Lay M) (hP : PrM w v snd B Y M Y.length) (h48 : Y.length ≤ 48) (i : Nat) (hi : i < Y.length)
    (hN : ∀ p : Prop, (p ↔ alP w v snd B Y (i + 1)) → am_P am_P0 d (am_look tX11_isPair) 121 [.ref 277, .int x1, .int (tI p), .int (nI i), .int (nI Y.length)] [] M Q) :
    ∀ (m j : Nat), j + m = Y.length → ∀ p : Prop, (p ↔ (alP w v snd B Y i ∧ gdF w v snd B Y i = true ∧ ∀ k, k < j → goF w v Y i k = true)) → am_P am_P0 d (am_look tX11_isPair) 81 [.ref 277, .int x1, .int (tI p), .int (nI i), .int (nI j)] [] M Q := by
  intro m
  induction m with
  | zero =>
    intro j hj p hp
    have ej : j = Y.length := by omega
    subst ej
    have hle : nI Y.length ≤ nI Y.length := (ni_le (by omega) (by omega)).mpr (by omega)
    have h0 := hN p (by
      rw [hp]
      constructor
      · rintro ⟨a2, b1, b2⟩ k hk
        by_cases c : k = i
        · subst c; exact ⟨b1, b2⟩
        · exact a2 k (by omega)
      · intro a2
        exact ⟨fun k hk => a2 k (by omega), (a2 i (by omega)).1, (a2 i (by omega)).2⟩)
    rw [hX11_isPair_81]
    simp +decide only [qX11_isPair_0, qX11_isPair_1, qX11_isPair_2, qX11_isPair_3, lm hL, hP.1.1, am_w1_i, am_w1_r, am_w1_x, am_w1_l, am_w1_w, va_rf_s, am_push_n, am_push_s, am_cs_0, am_cs_i, am_cs_l, am_cs_r, m_uI_K, m_uI_N, m_uI_R, m_uI_L, m_uI_I, m_uL_K, m_uL_N, m_uL_R, m_uL_I, m_uL_L, m_uR_K, m_uR_N, m_uR_I, m_uR_L, m_uR_R, true_and, and_true, true_implies, false_implies, not_true_eq_false, not_false_eq_true, if_true, if_false, false_and, and_false] at h0 ⊢
    first | rw [br_p (hle)] | rw [br_r (hle)] | rw [br_s (hle)]
    exact h0
  | succ m ih =>
    intro j hj p hp
    have hlt : ¬ nI Y.length ≤ nI j := by rw [ni_le (by omega) (by omega)]; omega
    have e48 : (48 : Int32) * nI i + nI j = nI (48 * i + j) := by rw [show (48 : Int32) = nI 48 from rfl, ni_mul, ni_add]
    obtain ⟨y, hy⟩ : ∃ y, Y[i]? = some y := ⟨Y[i]'hi, List.getElem?_eq_getElem hi⟩
    obtain ⟨y', hy'⟩ : ∃ y, Y[j]? = some y := ⟨Y[j]'(by omega), List.getElem?_eq_getElem (by omega)⟩
    have hg := hP.2.2 i j y y' hi hy hy'
    rw [hX11_isPair_81]
    simp +decide (disch := omega) only [qX11_isPair_0, qX11_isPair_1, qX11_isPair_2, qX11_isPair_3, lm hL, hP.1.1, e48, hg, tI_01, tI_0, ni_in_t, ni_tn, ni_add1, am_w1_i, am_w1_r, am_w1_x, am_w1_l, am_w1_w, va_rf_s, am_push_n, am_push_s, am_cs_0, am_cs_i, am_cs_l, am_cs_r, m_uI_K, m_uI_N, m_uI_R, m_uI_L, m_uI_I, m_uL_K, m_uL_N, m_uL_R, m_uL_I, m_uL_L, m_uR_K, m_uR_N, m_uR_I, m_uR_L, m_uR_R, true_and, and_true, true_implies, false_implies, not_true_eq_false, not_false_eq_true, if_true, if_false, false_and, and_false]
    first | rw [br_n (hlt)] | rw [br_q (hlt)] | rw [br_u (hlt)]
    by_cases c : p
    · first | rw [br_p (c)] | rw [br_r (c)] | rw [br_s (c)]
      by_cases c2 : gowY w v y y'
      · first | rw [br_p (c2)] | rw [br_r (c2)] | rw [br_s (c2)]
        have h0 := ih (j + 1) (by omega) True (by
          rw [hp] at c
          refine ⟨fun _ => ⟨c.1, c.2.1, fun k hk => ?_⟩, fun _ => trivial⟩
          by_cases e : k = j
          · subst e; exact (goF_y hy hy').mpr c2
          · exact c.2.2 k (by omega))
        rw [tI_t trivial] at h0
        exact h0
      · first | rw [br_n (c2)] | rw [br_q (c2)] | rw [br_u (c2)]
        have h0 := ih (j + 1) (by omega) False ⟨fun q => q.elim, fun q => c2 ((goF_y hy hy').mp (q.2.2 j (by omega)))⟩
        rw [tI_f (fun q => q)] at h0
        exact h0
    · first | rw [br_n (c)] | rw [br_q (c)] | rw [br_u (c)]
      have h0 := ih (j + 1) (by omega) False ⟨fun q => q.elim, fun q => c (hp.mpr ⟨q.1, q.2.1, fun k hk => q.2.2 k (by omega)⟩)⟩
      rw [tI_f (fun q => q)] at h0
      exact h0
end
theorem l_m_pair3 (d b s : Nat) (D : Dat) (M0 : am_M) (Q : Option Value → am_M → Prop) (hD : dOK D) (hL0 : Lay M0) (h0' : MdM M0 b D) (hs : s < dN D) (hP0 : PrM (dWt D s) (dV D s) (dSn D s) (dBs D s) (dY D s) M0 (dY D s).length)
    (hF : ∀ M', gF s328 nT M0 M' → ¬ (∀ y, y ∈ dY D s → dSn D s y.2.1 y.2.2) → Q (some (.int 0)) M')
    (hN : ∀ M' v4, gF s328 nT M0 M' → jk v4 → (∀ y, y ∈ dY D s → dSn D s y.2.1 y.2.2) → SeM M' (dY D s).length (fun _ => none) → am_P am_P0 (d + 1) (am_look tX11_isPair) 134 [.ref 277, .int (nI s), .int (tI (alP (dWt D s) (dV D s) (dSn D s) (dBs D s) (dY D s) (dY D s).length)), .int (nI (dY D s).length), v4] [] M' Q) :
    ∀ (m i : Nat), i + m = (dY D s).length → ∀ (M : am_M) (v4 : Value), jk v4 → gF s328 nT M0 M → (∀ k y, k < i → (dY D s)[k]? = some y → dSn D s y.2.1 y.2.2) → SeM M i (fun _ => none) → am_P am_P0 (d + 1) (am_look tX11_isPair) 19 [.ref 277, .int (nI s), .int (tI (alP (dWt D s) (dV D s) (dSn D s) (dBs D s) (dY D s) i)), .int (nI i), v4] [] M Q := by
  have n8 := dN_8 hD
  have h48 := dY_len hD s
  intro m
  induction m with
  | zero =>
    intro i hi M v4 hv4 hM hb hS
    have hL := gF_LayN hM hL0
    have hP := PrM_g hP0 hM (fun a j q z => by unfold s328 at z; omega)
    have ei : i = (dY D s).length := by omega
    subst ei
    have hle : nI (dY D s).length ≤ nI (dY D s).length := (ni_le (by omega) (by omega)).mpr (by omega)
    have h0 := hN M v4 hM hv4 (fun y hy => by
      obtain ⟨k, hk, e⟩ := List.mem_iff_getElem.mp hy
      exact hb k y hk (by rw [List.getElem?_eq_getElem hk, e])) hS
    rw [hX11_isPair_19]
    simp +decide only [qX11_isPair_0, qX11_isPair_1, qX11_isPair_2, qX11_isPair_3, lm hL, hP.1.1, jk_w hv4, am_w1_i, am_w1_r, am_w1_x, am_w1_l, am_w1_w, va_rf_s, am_push_n, am_push_s, am_cs_0, am_cs_i, am_cs_l, am_cs_r, m_uI_K, m_uI_N, m_uI_R, m_uI_L, m_uI_I, m_uL_K, m_uL_N, m_uL_R, m_uL_I, m_uL_L, m_uR_K, m_uR_N, m_uR_I, m_uR_L, m_uR_R, true_and, and_true, true_implies, false_implies, not_true_eq_false, not_false_eq_true, if_true, if_false, false_and, and_false] at h0 ⊢
    first | rw [br_p (hle)] | rw [br_r (hle)] | rw [br_s (hle)]
    exact h0
  | succ m ih =>
    intro i hi M v4 hv4 hM hb hS
    have hL := gF_LayN hM hL0
    have h := MdM_g h0' hM (fun a j q z => by unfold s328 at z; unfold tlM at q; omega)
    have hP := PrM_g hP0 hM (fun a j q z => by unfold s328 at z; omega)
    have hlt : ¬ nI (dY D s).length ≤ nI i := by rw [ni_le (by omega) (by omega)]; omega
    obtain ⟨y, hy⟩ : ∃ y, (dY D s)[i]? = some y := ⟨(dY D s)[i]'(by omega), List.getElem?_eq_getElem (by omega)⟩
    have ym := List.mem_of_getElem? hy
    have yv := hD.1.2.2.2.1 s y ym
    have hg := hP.2.1 i y (by omega) hy
    have hhr := hP.1.2 i y hy
    have esd := fun Q => (m_said hL h (s := s) (by omega) ym yv.1 d Q).1
    have eld := fun Q => (m_said hL h (s := s) (by omega) ym yv.1 d Q).2
    have hc := (cel_lt hD.1.1.1 hD.1.1.2 yv.2).2.1
    have eso := fun Q => c_m_isSound d s (cel (dC D) y.2.1) (b01 y.2.2) M Q hL b h.1.1 h.1.2 (by omega) hc
    have hsn := m_snd (mh hD h hs).2.1.2.2.2.1 yv.2 y.2.2
    rw [hX11_isPair_19]
    simp +decide (disch := omega) only [qX11_isPair_0, qX11_isPair_1, qX11_isPair_2, qX11_isPair_3, lm hL, hP.1.1, hhr, esd, eld, eso, hg, tI_01, tI_0, bI_0, jk_w hv4, ni_in_t, ni_tn, Classical.not_not, am_w1_i, am_w1_r, am_w1_x, am_w1_l, am_w1_w, va_rf_s, am_push_n, am_push_s, am_cs_0, am_cs_i, am_cs_l, am_cs_r, m_uI_K, m_uI_N, m_uI_R, m_uI_L, m_uI_I, m_uL_K, m_uL_N, m_uL_R, m_uL_I, m_uL_L, m_uR_K, m_uR_N, m_uR_I, m_uR_L, m_uR_R, true_and, and_true, true_implies, false_implies, not_true_eq_false, not_false_eq_true, if_true, if_false, false_and, and_false]
    first | rw [br_n (hlt)] | rw [br_q (hlt)] | rw [br_u (hlt)]
    rw [hsn]
    by_cases cs : sndP (dDp D) (dDr D s) (dLd D s) y.2.1 y.2.2
    · first | rw [br_p (cs)] | rw [br_r (cs)] | rw [br_s (cs)]
      have key : ∀ p : Prop, (p ↔ alP (dWt D s) (dV D s) (dSn D s) (dBs D s) (dY D s) i ∧ gdF (dWt D s) (dV D s) (dSn D s) (dBs D s) (dY D s) i = true ∧ ∀ k, k < 0 → goF (dWt D s) (dV D s) (dY D s) i k = true) → am_P am_P0 (d + 1) (am_look tX11_isPair) 81 [.ref 277, .int (nI s), .int (tI p), .int (nI i), .int (nI 0)] [] M Q := fun p hp => by
        refine l_m_pair4 _ _ _ _ _ (d + 1) M Q (nI s) hL hP h48 i (by omega) (fun p2 hp2 => ?_) (dY D s).length 0 (by omega) p hp
        have w1 : gF s328 nT M (uI M 328 i (-1)) := gF_i _ rfl
        have h0 := ih (i + 1) (by omega) (uI M 328 i (-1)) (.int (nI (dY D s).length)) (Or.inr ⟨_, rfl⟩) (gF_trans hM w1) (fun k y' hk hy' => by
          by_cases e : k = i
          · subst e; rw [hy] at hy'; cases hy'; exact cs
          · exact hb k y' (by omega) hy') (fun k hk => by
          rw [m_uI_I]
          by_cases e : k = i
          · rw [if_pos ⟨rfl, e⟩]; rfl
          · rw [if_neg (by omega)]; exact hS k (by omega))
        rw [← tI_i hp2] at h0
        simp +decide (disch := omega) only [qX11_isPair_0, qX11_isPair_1, qX11_isPair_2, qX11_isPair_3, lm hL, ni_in_t, ni_tn, ni_add1, am_w1_i, am_w1_r, am_w1_x, am_w1_l, am_w1_w, va_rf_s, am_push_n, am_push_s, am_cs_0, am_cs_i, am_cs_l, am_cs_r, m_uI_K, m_uI_N, m_uI_R, m_uI_L, m_uI_I, m_uL_K, m_uL_N, m_uL_R, m_uL_I, m_uL_L, m_uR_K, m_uR_N, m_uR_I, m_uR_L, m_uR_R, true_and, and_true, true_implies, false_implies, not_true_eq_false, not_false_eq_true, if_true, if_false, false_and, and_false]
        exact h0
      by_cases c : alP (dWt D s) (dV D s) (dSn D s) (dBs D s) (dY D s) i
      · first | rw [br_p (c)] | rw [br_r (c)] | rw [br_s (c)]
        by_cases c2 : goodY (dWt D s) (dV D s) (dSn D s) (dBs D s) y
        · first | rw [br_p (c2)] | rw [br_r (c2)] | rw [br_s (c2)]
          have h0 := key True ⟨fun _ => ⟨c, (gdF_y hy).mpr c2, fun k hk => by omega⟩, fun _ => trivial⟩
          rw [tI_t trivial] at h0
          exact h0
        · first | rw [br_n (c2)] | rw [br_q (c2)] | rw [br_u (c2)]
          have h0 := key False ⟨fun q => q.elim, fun q => c2 ((gdF_y hy).mp q.2.1)⟩
          rw [tI_f (fun q => q)] at h0
          exact h0
      · first | rw [br_n (c)] | rw [br_q (c)] | rw [br_u (c)]
        have h0 := key False ⟨fun q => q.elim, fun q => c q.1⟩
        rw [tI_f (fun q => q)] at h0
        exact h0
    · first | rw [br_n (cs)] | rw [br_q (cs)] | rw [br_u (cs)]
      exact hF M hM (fun q => cs (q y ym))
theorem al_no {w : Nat → Prop} {v : Nat} {snd : Nat → Bool → Prop} {B : List Fct} {Y : List Sy} (hself : ∀ y, y ∈ Y → gowY w v y y) : ¬ alP w v snd B Y Y.length ↔ ((∃ i, i < Y.length ∧ ¬ gY w v snd B Y i) ∨ ∃ i j, i < Y.length ∧ j < Y.length ∧ KY w v Y i j) := by
  have hex : ∀ k, k < Y.length → ∃ y, Y[k]? = some y := fun k hk => ⟨Y[k], List.getElem?_eq_getElem hk⟩
  constructor
  · intro h
    apply Classical.byContradiction
    intro q
    apply h
    intro k hk
    obtain ⟨y, hy⟩ := hex k hk
    refine ⟨(gdF_y hy).mpr ?_, fun j hj => ?_⟩
    · apply Classical.byContradiction
      intro z
      exact q (Or.inl ⟨k, hk, fun z2 => z ((gY_y hy).mp z2)⟩)
    · obtain ⟨y', hy'⟩ := hex j hj
      apply (goF_y hy hy').mpr
      apply Classical.byContradiction
      intro z
      by_cases e : k = j
      · subst e
        rw [hy] at hy'
        cases hy'
        exact z (hself y (List.mem_of_getElem? hy))
      · exact q (Or.inr ⟨k, j, hk, hj, (KY_y hy hy').mpr ⟨e, z⟩⟩)
  · rintro (⟨i, hi, hg⟩ | ⟨i, j, hi, hj, hK⟩) h
    · obtain ⟨y, hy⟩ := hex i hi
      exact hg ((gY_y hy).mpr ((gdF_y hy).mp (h i hi).1))
    · obtain ⟨y, hy⟩ := hex i hi
      obtain ⟨y', hy'⟩ := hex j hj
      exact ((KY_y hy hy').mp hK).2 ((goF_y hy hy').mp ((h i hi).2 j hj))
theorem m_isPair {M : am_M} {b s : Nat} {D : Dat} (hD : dOK D) (hL : Lay M) (h : MdM M b D) (hs : s < dN D) (d : Nat) (Q : Option Value → am_M → Prop) (hQ : ∀ M', gF sMq nT M M' → Q (some (.int (tI (prP (dWt D s) (dV D s) (dSn D s) (dBs D s) (dY D s))))) M') : am_E am_P0 (d + 6) 262 [.ref 277, .int (nI s)] M Q := by
  have n8 := dN_8 hD
  rw [eX11_isPair]
  simp +decide only [qX11_isPair_0, qX11_isPair_1, qX11_isPair_2, qX11_isPair_3, lm hL, am_w1_i, am_w1_r, am_w1_x, am_w1_l, am_w1_w, va_rf_s, am_push_n, am_push_s, am_cs_0, am_cs_i, am_cs_l, am_cs_r, m_uI_K, m_uI_N, m_uI_R, m_uI_L, m_uI_I, m_uL_K, m_uL_N, m_uL_R, m_uL_I, m_uL_L, m_uR_K, m_uR_N, m_uR_I, m_uR_L, m_uR_R, true_and, and_true, true_implies, false_implies, not_true_eq_false, not_false_eq_true, if_true, if_false, false_and, and_false]
  refine m_booksFit hD hL h hs d _ (fun M1 g1 => ?_)
  by_cases cB : fitP (dWt D s) (dV D s) (dBs D s)
  · rw [tI_t cB]
    have L1 := gF_LayN g1 hL
    have h1 := MdM_q h g1
    simp +decide only [qX11_isPair_0, qX11_isPair_1, qX11_isPair_2, qX11_isPair_3, lm L1, am_w1_i, am_w1_r, am_w1_x, am_w1_l, am_w1_w, va_rf_s, am_push_n, am_push_s, am_cs_0, am_cs_i, am_cs_l, am_cs_r, m_uI_K, m_uI_N, m_uI_R, m_uI_L, m_uI_I, m_uL_K, m_uL_N, m_uL_R, m_uL_I, m_uL_L, m_uR_K, m_uR_N, m_uR_I, m_uR_L, m_uR_R, true_and, and_true, true_implies, false_implies, not_true_eq_false, not_false_eq_true, if_true, if_false, false_and, and_false]
    refine m_pairs hD L1 h1 hs d _ (fun M2 g2 p2 => ?_)
    have L2 := gF_LayN g2 L1
    have h2 := MdM_q h1 g2
    have u1 : ∀ {M'}, gF s328 nT M2 M' → gF sMq nT M M' := fun q => gF_trans (gF_trans g1 g2) (gF_up q (fun a j z => by unfold s328 at z; unfold sMq; omega) (fun _ _ q => q))
    have h9 := l_m_pair3 (d + 5) b s D M2 Q hD L2 h2 hs p2 (fun M' g' n' => by
      have h0 := hQ M' (u1 g')
      rw [tI_f (fun q => n' q.2.1)] at h0
      exact h0) (fun M' v4 g' hv4 sn' se' => by
      have L' := gF_LayN g' L2
      have hself : ∀ y, y ∈ dY D s → gowY (dWt D s) (dV D s) y y := fun y hy => by
        unfold gowY hd_
        rw [if_neg (by omega), Nat.sub_self]
        exact wit_0.mpr ⟨rfl, dSn_w hD s y hy (sn' y hy)⟩
      by_cases ca : alP (dWt D s) (dV D s) (dSn D s) (dBs D s) (dY D s) (dY D s).length
      · have h0 := hQ M' (u1 g')
        rw [tI_f (fun q => (al_no hself).mpr q.2.2.1 ca)] at h0
        rw [tI_t ca]
        simp +decide only [qX11_isPair_0, qX11_isPair_1, qX11_isPair_2, qX11_isPair_3, am_w1_i, am_w1_r, am_w1_x, am_w1_l, am_w1_w, va_rf_s, am_push_n, am_push_s, am_cs_0, am_cs_i, am_cs_l, am_cs_r, m_uI_K, m_uI_N, m_uI_R, m_uI_L, m_uI_I, m_uL_K, m_uL_N, m_uL_R, m_uL_I, m_uL_L, m_uR_K, m_uR_N, m_uR_I, m_uR_L, m_uR_R, true_and, and_true, true_implies, false_implies, not_true_eq_false, not_false_eq_true, if_true, if_false, false_and, and_false]
        exact h0
      · rw [tI_f ca]
        have hna := (al_no hself).mp ca
        have P' := PrM_g p2 g' (fun a j q z => by unfold s328 at z; omega)
        have h8 := l_m_pair2 (dWt D s) (dV D s) (dSn D s) (dBs D s) (dY D s) (d + 5) M' Q (nI s) 0 L' P' (dY_len hD s) hself hna (fun M3 g3 => by
          have h0 := hQ M3 (gF_trans (u1 g') (gF_up g3 (fun a j z => by unfold s3289 at z; unfold sMq; omega) (fun _ _ q => q)))
          rw [tI_i (q := pairX (dY D s).length (KY (dWt D s) (dV D s) (dY D s)) (gY (dWt D s) (dV D s) (dSn D s) (dBs D s) (dY D s))) ⟨fun q => q.2.2.2, fun q => ⟨cB, sn', hna, q⟩⟩] at h0
          exact h0) (dY D s).length 0 (by omega) M' (fun _ => none) v4 hv4 (gF_refl _ _ _) se' ⟨fun i j b _ _ _ q => (by cases q), fun i _ q => (by cases q)⟩ (fun _ i _ _ q => absurd rfl q) (fun k hk => by omega)
        simp +decide only [qX11_isPair_0, qX11_isPair_1, qX11_isPair_2, qX11_isPair_3, jk_w hv4, am_w1_i, am_w1_r, am_w1_x, am_w1_l, am_w1_w, va_rf_s, am_push_n, am_push_s, am_cs_0, am_cs_i, am_cs_l, am_cs_r, m_uI_K, m_uI_N, m_uI_R, m_uI_L, m_uI_I, m_uL_K, m_uL_N, m_uL_R, m_uL_I, m_uL_L, m_uR_K, m_uR_N, m_uR_I, m_uR_L, m_uR_R, true_and, and_true, true_implies, false_implies, not_true_eq_false, not_false_eq_true, if_true, if_false, false_and, and_false]
        exact h8) (dY D s).length 0 (by omega) M2 am_x (Or.inl rfl) (gF_refl _ _ _) (fun k y hk => by omega) (fun k hk => by omega)
    rw [tI_t (show alP (dWt D s) (dV D s) (dSn D s) (dBs D s) (dY D s) 0 from fun k hk => by omega)] at h9
    simp +decide only [qX11_isPair_0, qX11_isPair_1, qX11_isPair_2, qX11_isPair_3, am_w1_i, am_w1_r, am_w1_x, am_w1_l, am_w1_w, va_rf_s, am_push_n, am_push_s, am_cs_0, am_cs_i, am_cs_l, am_cs_r, m_uI_K, m_uI_N, m_uI_R, m_uI_L, m_uI_I, m_uL_K, m_uL_N, m_uL_R, m_uL_I, m_uL_L, m_uR_K, m_uR_N, m_uR_I, m_uR_L, m_uR_R, true_and, and_true, true_implies, false_implies, not_true_eq_false, not_false_eq_true, if_true, if_false, false_and, and_false]
    exact h9
  · have h0 := hQ M1 g1
    rw [tI_f (fun q => cB q.1)] at h0
    rw [tI_f cB]
    simp +decide only [qX11_isPair_0, qX11_isPair_1, qX11_isPair_2, qX11_isPair_3, am_w1_i, am_w1_r, am_w1_x, am_w1_l, am_w1_w, va_rf_s, am_push_n, am_push_s, am_cs_0, am_cs_i, am_cs_l, am_cs_r, m_uI_K, m_uI_N, m_uI_R, m_uI_L, m_uI_I, m_uL_K, m_uL_N, m_uL_R, m_uL_I, m_uL_L, m_uR_K, m_uR_N, m_uR_I, m_uR_L, m_uR_R, true_and, and_true, true_implies, false_implies, not_true_eq_false, not_false_eq_true, if_true, if_false, false_and, and_false]
    exact h0
theorem k3_pr {D : Dat} {s : Nat} (hD : dOK D) (h0 : 0 < (dY D s).length) : k3Y (dWt D s) (dV D s) (dSn D s) (dBs D s) (dY D s) ↔ prP (dWt D s) (dV D s) (dSn D s) (dBs D s) (dY D s) := by
  have hsr := hD.1.2.2.2.2.1 s
  have hm := most_all (wt := dWt D s) (v := dV D s) (snd := dSn D s) (B := dBs D s) hsr h0
  constructor
  · rintro ⟨-, hk, hf, hs, hp⟩
    refine ⟨hf, hs, ?_, hp⟩
    rw [kcY_t hf, hm] at hk
    apply Classical.byContradiction
    intro q
    apply hk
    refine ⟨fun i hi => ?_, fun i j hi hj hK => q (Or.inr ⟨i, j, hi, hj, hK⟩)⟩
    apply Classical.byContradiction
    intro z
    exact q (Or.inl ⟨i, hi, z⟩)
  · rintro ⟨hf, hs, hn, hp⟩
    refine ⟨h0, ?_, hf, hs, hp⟩
    rw [kcY_t hf, hm]
    rintro ⟨a1, a2⟩
    rcases hn with ⟨i, hi, hg⟩ | ⟨i, j, hi, hj, hK⟩
    · exact hg (a1 i hi)
    · exact a2 i j hi hj hK
end
section
/-! the model: honest hours, gaps, kinds; the class: kindsOf -/
theorem l_m_honest (d b s t : Nat) (D : Dat) (M0 : am_M) (Q : Option Value → am_M → Prop) (hD : dOK D) (hL0 : Lay M0) (h0' : MdM M0 b D) (hs : s < dN D) (ht : t < 48) (hY0 : LyM M0 (dC D) (dR D) (dWt D s) (dV D s) (dSn D s) (dBs D s) (dY D s))
    (hQ : ∀ M', gF sWk nT M0 M' → Q (some (.int (tI (hnY (dWt D s) (dV D s) (dSn D s) (dBs D s) (dY D s) (dQt D) t)))) M') :
    ∀ (m c : Nat), c + m = dC D * dR D → ∀ (M : am_M), gF sWk nT M0 M → (∀ q, vld (dC D) (dR D) q → cel (dC D) q < c → dMy D s t q → ¬ dQt D q t) → am_P am_P0 (d + 5) (am_look tX11_isHonest) 2 [.ref 277, .int (nI s), .int (nI t), .int (nI c)] [] M Q := by
  have n8 := dN_8 hD
  have hCR : dC D * dR D ≤ 16 * 16 := Nat.mul_le_mul hD.1.1.1 hD.1.1.2
  have hC1 := dOK_1 hD hs
  intro m
  induction m with
  | zero =>
    intro c hc M hM hb
    have hL := gF_LayN hM hL0
    have h := MdM_g h0' hM (fun a j q z => by unfold sWk at z; unfold tlM at q; omega)
    have ec := fun Q => c_m_cells (d + 4) M Q hL b (dC D) (dR D) h.1.1 h.1.2 h.2.1.1 h.2.1.2
    have hle : nI (dC D * dR D) ≤ nI c := (ni_le (by omega) (by omega)).mpr (by omega)
    have h0 := hQ M hM
    rw [tI_f (fun q => by
      obtain ⟨p, p1, p2⟩ := q
      have hv := dMy_v hD hs p1
      exact hb p hv (by have := (cel_lt hD.1.1.1 hD.1.1.2 hv).1; omega) p1 p2)] at h0
    rw [hX11_isHonest_2]
    simp +decide only [qX11_isHonest, lm hL, ec, am_w1_i, am_w1_r, am_w1_x, am_w1_l, am_w1_w, va_rf_s, am_push_n, am_push_s, am_cs_0, am_cs_i, am_cs_l, am_cs_r, m_uI_K, m_uI_N, m_uI_R, m_uI_L, m_uI_I, m_uL_K, m_uL_N, m_uL_R, m_uL_I, m_uL_L, m_uR_K, m_uR_N, m_uR_I, m_uR_L, m_uR_R, true_and, and_true, true_implies, false_implies, not_true_eq_false, not_false_eq_true, if_true, if_false, false_and, and_false]
    first | rw [br_p (hle)] | rw [br_r (hle)] | rw [br_s (hle)]
    exact h0
  | succ m ih =>
    intro c hc M hM hb
    have hL := gF_LayN hM hL0
    have h := MdM_g h0' hM (fun a j q z => by unfold sWk at z; unfold tlM at q; omega)
    have hY := LyM_g hY0 hM (fun a j q z => by unfold sWk at z; unfold sY sK sP sFG sF sG at q; omega)
    have ec := fun Q => c_m_cells (d + 4) M Q hL b (dC D) (dR D) h.1.1 h.1.2 h.2.1.1 h.2.1.2
    have hlt : ¬ nI (dC D * dR D) ≤ nI c := by rw [ni_le (by omega) (by omega)]; omega
    have hcl : c < dC D * dR D := by omega
    have hp := plc_v hD.1.1.1 hC1.1 hcl
    have em := fun Q => m_mayBe hD hL h hs (d + 3) Q hY hp.1 ht
    rw [hp.2] at em
    have hstep : ∀ (P : Prop), (dMy D s t (plc (dC D) c) → ¬ dQt D (plc (dC D) c) t) → ∀ q, vld (dC D) (dR D) q → cel (dC D) q < c + 1 → dMy D s t q → ¬ dQt D q t := fun _ hn q hv hq => by
      by_cases e : cel (dC D) q = c
      · have : q = plc (dC D) c := cel_inj hv hp.1 (by rw [e, hp.2])
        rw [this]; exact hn
      · exact hb q hv (by omega)
    rw [hX11_isHonest_2]
    simp +decide only [qX11_isHonest, lm hL, ec, em, tI_0, ni_add1, am_w1_i, am_w1_r, am_w1_x, am_w1_l, am_w1_w, va_rf_s, am_push_n, am_push_s, am_cs_0, am_cs_i, am_cs_l, am_cs_r, m_uI_K, m_uI_N, m_uI_R, m_uI_L, m_uI_I, m_uL_K, m_uL_N, m_uL_R, m_uL_I, m_uL_L, m_uR_K, m_uR_N, m_uR_I, m_uR_L, m_uR_R, true_and, and_true, true_implies, false_implies, not_true_eq_false, not_false_eq_true, if_true, if_false, false_and, and_false]
    first | rw [br_n (hlt)] | rw [br_q (hlt)] | rw [br_u (hlt)]
    by_cases cm : dMy D s t (plc (dC D) c)
    · first | rw [br_p (cm)] | rw [br_r (cm)] | rw [br_s (cm)]
      have hq := m_isQuiet d b (dC D) (dR D) (plc (dC D) c) t (dRd D) (dRc D) (dRq D) M (fun r M2 => am_P am_P0 (d + 5) (am_look tX11_isHonest) 26 [.ref 277, .int (nI s), .int (nI t), .int (nI c)] (am_push r []) M2 Q) hL (m_MB hD h hC1.1 hC1.2) h.2.2.2.2.2.2.2.2 h.2.2.2.2.2.2.2.1.2.2 hp.1 (by omega) (fun M1 g1 => by
        rw [show qtF (dC D) (dR D) (dRd D) (dRq D) (plc (dC D) c) t = dQt D (plc (dC D) c) t from rfl]
        by_cases cq : dQt D (plc (dC D) c) t
        · have h0 := hQ M1 (gF_trans hM g1)
          rw [tI_t ⟨_, cm, cq⟩] at h0
          rw [tI_t cq]
          simp +decide only [qX11_isHonest, am_w1_i, am_w1_r, am_w1_x, am_w1_l, am_w1_w, va_rf_s, am_push_n, am_push_s, am_cs_0, am_cs_i, am_cs_l, am_cs_r, m_uI_K, m_uI_N, m_uI_R, m_uI_L, m_uI_I, m_uL_K, m_uL_N, m_uL_R, m_uL_I, m_uL_L, m_uR_K, m_uR_N, m_uR_I, m_uR_L, m_uR_R, true_and, and_true, true_implies, false_implies, not_true_eq_false, not_false_eq_true, if_true, if_false, false_and, and_false]
          exact h0
        · have h0 := ih (c + 1) (by omega) M1 (gF_trans hM g1) (hstep True (fun _ => cq))
          rw [tI_f cq]
          simp +decide only [qX11_isHonest, ni_add1, am_w1_i, am_w1_r, am_w1_x, am_w1_l, am_w1_w, va_rf_s, am_push_n, am_push_s, am_cs_0, am_cs_i, am_cs_l, am_cs_r, m_uI_K, m_uI_N, m_uI_R, m_uI_L, m_uI_I, m_uL_K, m_uL_N, m_uL_R, m_uL_I, m_uL_L, m_uR_K, m_uR_N, m_uR_I, m_uR_L, m_uR_R, true_and, and_true, true_implies, false_implies, not_true_eq_false, not_false_eq_true, if_true, if_false, false_and, and_false]
          exact h0)
      rw [hp.2] at hq
      exact hq
    · first | rw [br_n (cm)] | rw [br_q (cm)] | rw [br_u (cm)]
      exact ih (c + 1) (by omega) M hM (hstep True (fun q => absurd q cm))
theorem m_isHonest {M : am_M} {b s t : Nat} {D : Dat} (hD : dOK D) (hL : Lay M) (h : MdM M b D) (hs : s < dN D) (ht : t < 48) (hY : LyM M (dC D) (dR D) (dWt D s) (dV D s) (dSn D s) (dBs D s) (dY D s)) (d : Nat) (Q : Option Value → am_M → Prop)
    (hQ : ∀ M', gF sWk nT M M' → Q (some (.int (tI (hnY (dWt D s) (dV D s) (dSn D s) (dBs D s) (dY D s) (dQt D) t)))) M') : am_E am_P0 (d + 5) 252 [.ref 277, .int (nI s), .int (nI t)] M Q := by
  have h0 := l_m_honest d b s t D M Q hD hL h hs ht hY hQ (dC D * dR D) 0 (by omega) M (gF_refl _ _ _) (fun q hv hq => by omega)
  rw [eX11_isHonest]
  simp +decide only [qX11_isHonest, am_w1_i, am_w1_r, am_w1_x, am_w1_l, am_w1_w, va_rf_s, am_push_n, am_push_s, am_cs_0, am_cs_i, am_cs_l, am_cs_r, m_uI_K, m_uI_N, m_uI_R, m_uI_L, m_uI_I, m_uL_K, m_uL_N, m_uL_R, m_uL_I, m_uL_L, m_uR_K, m_uR_N, m_uR_I, m_uR_L, m_uR_R, true_and, and_true, true_implies, false_implies, not_true_eq_false, not_false_eq_true, if_true, if_false, false_and, and_false]
  exact h0
def sGa (a j : Nat) : Prop := sWk a j ∨ (a = 277 ∧ j = 73)
section
variable (d b s : Nat) (D : Dat) (M0 : am_M) (Q : Option Value → am_M → Prop)
noncomputable abbrev gpD (D : Dat) (s t : Nat) : Nat := gpN (dWt D s) (dV D s) (dSn D s) (dBs D s) (dY D s) (dQt D) t
theorem l_m_gaps (hD : dOK D) (hL0 : Lay M0) (h0' : MdM M0 b D) (hs : s < dN D) (hY0 : LyM M0 (dC D) (dR D) (dWt D s) (dV D s) (dSn D s) (dBs D s) (dY D s)) (y0 yl : Sy) (k : Nat) (hk : k + 1 = (dY D s).length) (hy0 : (dY D s)[0]? = some y0) (hyl : (dY D s)[k]? = some yl)
    (hQ : ∀ M', gF sGa nT M0 M' → mI M' 277 73 = nI (unN (dY D s) 48) → Q (some (.int (nI (gpD D s 48)))) M') :
    ∀ (m t : Nat), t + m = yl.1 → y0.1 ≤ t → ∀ (M : am_M), gF sGa nT M0 M → mI M 277 73 = nI (unN (dY D s) t) → am_P am_P0 (d + 6) (am_look tX11_gapsOf) 31 [.ref 277, .int (nI s), .int (nI (gpD D s t)), .int (nI t)] [] M Q := by
  have n8 := dN_8 hD
  have hsr := hD.1.2.2.2.2.1 s
  have h48 := dY_len hD s
  have hyl48 := (hD.1.2.2.2.1 s yl (List.mem_of_getElem? hyl)).1
  intro m
  induction m with
  | zero =>
    intro t ht h1 M hM h73
    have hL := gF_LayN hM hL0
    have hY := LyM_g hY0 hM (fun a j q z => by unfold sGa sWk at z; unfold sY sK sP sFG sF sG at q; omega)
    obtain ⟨hn, hh⟩ := hY.1.1.1
    have hhl := hh k yl hyl
    have et : t = yl.1 := by omega
    have hle : nI yl.1 ≤ nI t := (ni_le (by omega) (by omega)).mpr (by omega)
    have hnp : ¬ nI (dY D s).length ≤ 0 := by rw [ni_pos (by omega)]; omega
    have eL : nI (dY D s).length - 1 = nI k := by rw [show (1 : Int32) = nI 1 from rfl, ni_sub (by omega)]; congr 1; omega
    have e1 : unN (dY D s) 48 = unN (dY D s) t := cnt_stay (by omega) (fun t' a1 a2 q => us_no2 hsr hk hyl (by omega) (dB_t.mp q))
    have e2 : gpD D s 48 = gpD D s t := cnt_stay (by omega) (fun t' a1 a2 q => us_no2 hsr hk hyl (by omega) (dB_t.mp q).1)
    have h0 := hQ M hM (by rw [e1]; exact h73)
    rw [e2] at h0
    rw [hX11_gapsOf_31]
    simp +decide (disch := omega) only [qX11_gapsOf_0, qX11_gapsOf_1, lm hL, hn, eL, hhl, ni_in_t, ni_tn, am_w1_i, am_w1_r, am_w1_x, am_w1_l, am_w1_w, va_rf_s, am_push_n, am_push_s, am_cs_0, am_cs_i, am_cs_l, am_cs_r, m_uI_K, m_uI_N, m_uI_R, m_uI_L, m_uI_I, m_uL_K, m_uL_N, m_uL_R, m_uL_I, m_uL_L, m_uR_K, m_uR_N, m_uR_I, m_uR_L, m_uR_R, true_and, and_true, true_implies, false_implies, not_true_eq_false, not_false_eq_true, if_true, if_false, false_and, and_false]
    first | rw [br_n (hnp)] | rw [br_q (hnp)] | rw [br_u (hnp)]
    first | rw [br_p (hle)] | rw [br_r (hle)] | rw [br_s (hle)]
    exact h0
  | succ m ih =>
    intro t ht h1 M hM h73
    have hL := gF_LayN hM hL0
    have h := MdM_g h0' hM (fun a j q z => by unfold sGa sWk at z; unfold tlM at q; omega)
    have hY := LyM_g hY0 hM (fun a j q z => by unfold sGa sWk at z; unfold sY sK sP sFG sF sG at q; omega)
    obtain ⟨hn, hh⟩ := hY.1.1.1
    have hhl := hh k yl hyl
    have hlt : ¬ nI yl.1 ≤ nI t := by rw [ni_le (by omega) (by omega)]; omega
    have hnp : ¬ nI (dY D s).length ≤ 0 := by rw [ni_pos (by omega)]; omega
    have eL : nI (dY D s).length - 1 = nI k := by rw [show (1 : Int32) = nI 1 from rfl, ni_sub (by omega)]; congr 1; omega
    have esd := fun Q => c_m_said (d + 5) s t M Q hL b h.1.1 h.1.2 (by omega) (by omega)
    rw [hX11_gapsOf_31]
    simp +decide (disch := omega) only [qX11_gapsOf_0, qX11_gapsOf_1, lm hL, hn, eL, hhl, esd, ni_in_t, ni_tn, am_w1_i, am_w1_r, am_w1_x, am_w1_l, am_w1_w, va_rf_s, am_push_n, am_push_s, am_cs_0, am_cs_i, am_cs_l, am_cs_r, m_uI_K, m_uI_N, m_uI_R, m_uI_L, m_uI_I, m_uL_K, m_uL_N, m_uL_R, m_uL_I, m_uL_L, m_uR_K, m_uR_N, m_uR_I, m_uR_L, m_uR_R, true_and, and_true, true_implies, false_implies, not_true_eq_false, not_false_eq_true, if_true, if_false, false_and, and_false]
    first | rw [br_n (hnp)] | rw [br_q (hnp)] | rw [br_u (hnp)]
    first | rw [br_n (hlt)] | rw [br_q (hlt)] | rw [br_u (hlt)]
    rcases (h.2.2.2.2.1.2 s (by omega)).2.2 t (by omega) with ⟨y, y1, y2, y3, y4⟩ | ⟨y1, y2⟩
    · have hv := (hD.1.2.2.2.1 s y y1).2
      have hne : ¬ mI M 292 (384 * b + 48 * s + t) = -1 := by rw [y3]; exact nI_m1 (by have := (cel_lt hD.1.1.1 hD.1.1.2 hv).2.1; omega)
      have hnu : ¬ usY (dY D s) t := fun q => q.2.2 y y1 y2
      have e1 : unN (dY D s) (t + 1) = unN (dY D s) t := cnt_f (fun q => hnu (dB_t.mp q))
      have e2 : gpD D s (t + 1) = gpD D s t := cnt_f (fun q => hnu (dB_t.mp q).1)
      have h0 := ih (t + 1) (by omega) (by omega) M hM (by rw [e1]; exact h73)
      rw [e2] at h0
      first | rw [br_n (hne)] | rw [br_q (hne)] | rw [br_u (hne)]
      simp +decide only [qX11_gapsOf_0, qX11_gapsOf_1, ni_add1, am_w1_i, am_w1_r, am_w1_x, am_w1_l, am_w1_w, va_rf_s, am_push_n, am_push_s, am_cs_0, am_cs_i, am_cs_l, am_cs_r, m_uI_K, m_uI_N, m_uI_R, m_uI_L, m_uI_I, m_uL_K, m_uL_N, m_uL_R, m_uL_I, m_uL_L, m_uR_K, m_uR_N, m_uR_I, m_uR_L, m_uR_R, true_and, and_true, true_implies, false_implies, not_true_eq_false, not_false_eq_true, if_true, if_false, false_and, and_false]
      exact h0
    · first | rw [br_p (y2)] | rw [br_r (y2)] | rw [br_s (y2)]
      have hu : usY (dY D s) t := by
        refine ⟨⟨y0, List.mem_of_getElem? hy0, ?_⟩, ⟨yl, List.mem_of_getElem? hyl, by omega⟩, y1⟩
        have := y1 y0 (List.mem_of_getElem? hy0)
        omega
      have e1 : unN (dY D s) (t + 1) = unN (dY D s) t + 1 := cnt_t (dB_t.mpr hu)
      obtain ⟨A, hA⟩ : ∃ A, A = uI M 277 73 (nI (unN (dY D s) t + 1)) := ⟨_, rfl⟩
      have w1 : gF sGa nT M A := by rw [hA]; exact gF_i _ (Or.inr ⟨rfl, rfl⟩)
      have LA := gF_LayN w1 hL
      have hAd := MdM_g h w1 (fun a j q z => by unfold sGa sWk at z; unfold tlM at q; omega)
      have hAY := LyM_g hY w1 (fun a j q z => by unfold sGa sWk at z; unfold sY sK sP sFG sF sG at q; omega)
      simp +decide only [qX11_gapsOf_0, qX11_gapsOf_1, lm hL, h73, ni_add1, ← hA, am_w1_i, am_w1_r, am_w1_x, am_w1_l, am_w1_w, va_rf_s, am_push_n, am_push_s, am_cs_0, am_cs_i, am_cs_l, am_cs_r, m_uI_K, m_uI_N, m_uI_R, m_uI_L, m_uI_I, m_uL_K, m_uL_N, m_uL_R, m_uL_I, m_uL_L, m_uR_K, m_uR_N, m_uR_I, m_uR_L, m_uR_R, true_and, and_true, true_implies, false_implies, not_true_eq_false, not_false_eq_true, if_true, if_false, false_and, and_false]
      refine m_isHonest hD LA hAd hs (by omega) hAY d _ (fun M1 g1 => ?_)
      have G1 : gF sGa nT M0 M1 := gF_trans (gF_trans hM w1) (gF_up g1 (fun a j q => Or.inl q) (fun _ _ q => q))
      have f73 : mI M1 277 73 = nI (unN (dY D s) (t + 1)) := by rw [g1.1 _ _ (by unfold sWk; omega), hA, m_uI_I, if_pos ⟨rfl, rfl⟩, e1]
      have h0 := ih (t + 1) (by omega) (by omega) M1 G1 f73
      by_cases c : hnY (dWt D s) (dV D s) (dSn D s) (dBs D s) (dY D s) (dQt D) t
      · have e2 : gpD D s (t + 1) = gpD D s t := cnt_f (fun q => (dB_t.mp q).2 c)
        rw [e2] at h0
        rw [tI_t c]
        simp +decide only [qX11_gapsOf_0, qX11_gapsOf_1, ni_add1, show (0 : Int32) = nI 0 from rfl, ni_add, Nat.add_zero, am_w1_i, am_w1_r, am_w1_x, am_w1_l, am_w1_w, va_rf_s, am_push_n, am_push_s, am_cs_0, am_cs_i, am_cs_l, am_cs_r, m_uI_K, m_uI_N, m_uI_R, m_uI_L, m_uI_I, m_uL_K, m_uL_N, m_uL_R, m_uL_I, m_uL_L, m_uR_K, m_uR_N, m_uR_I, m_uR_L, m_uR_R, true_and, and_true, true_implies, false_implies, not_true_eq_false, not_false_eq_true, if_true, if_false, false_and, and_false]
        exact h0
      · have e2 : gpD D s (t + 1) = gpD D s t + 1 := cnt_t (dB_t.mpr ⟨hu, c⟩)
        rw [e2] at h0
        rw [tI_f c]
        simp +decide only [qX11_gapsOf_0, qX11_gapsOf_1, ni_add1, am_w1_i, am_w1_r, am_w1_x, am_w1_l, am_w1_w, va_rf_s, am_push_n, am_push_s, am_cs_0, am_cs_i, am_cs_l, am_cs_r, m_uI_K, m_uI_N, m_uI_R, m_uI_L, m_uI_I, m_uL_K, m_uL_N, m_uL_R, m_uL_I, m_uL_L, m_uR_K, m_uR_N, m_uR_I, m_uR_L, m_uR_R, true_and, and_true, true_implies, false_implies, not_true_eq_false, not_false_eq_true, if_true, if_false, false_and, and_false]
        exact h0
end
theorem m_gapsOf {M : am_M} {b s : Nat} {D : Dat} (hD : dOK D) (hL : Lay M) (h : MdM M b D) (hs : s < dN D) (d : Nat) (Q : Option Value → am_M → Prop)
    (hQ : ∀ M', gF sMq nT M M' → KpM (dWt D s) (dV D s) (dSn D s) (dBs D s) (dY D s) M' → mI M' 277 73 = nI (unN (dY D s) 48) → Q (some (.int (nI (gpD D s 48)))) M') : am_E am_P0 (d + 8) 258 [.ref 277, .int (nI s)] M Q := by
  have n8 := dN_8 hD
  have hsr := hD.1.2.2.2.2.1 s
  have h48 := dY_len hD s
  rw [eX11_gapsOf]
  simp +decide only [qX11_gapsOf_0, qX11_gapsOf_1, lm hL, am_w1_i, am_w1_r, am_w1_x, am_w1_l, am_w1_w, va_rf_s, am_push_n, am_push_s, am_cs_0, am_cs_i, am_cs_l, am_cs_r, m_uI_K, m_uI_N, m_uI_R, m_uI_L, m_uI_I, m_uL_K, m_uL_N, m_uL_R, m_uL_I, m_uL_L, m_uR_K, m_uR_N, m_uR_I, m_uR_L, m_uR_R, true_and, and_true, true_implies, false_implies, not_true_eq_false, not_false_eq_true, if_true, if_false, false_and, and_false]
  refine m_laysS hD hL h hs d _ (fun M1 g1 y1 => ?_)
  have L1 := gF_LayN g1 hL
  have h1 := MdM_q h g1
  obtain ⟨A, hA⟩ : ∃ A, A = uI M1 277 73 0 := ⟨_, rfl⟩
  have w1 : gF sGa nT M1 A := by rw [hA]; exact gF_i _ (Or.inr ⟨rfl, rfl⟩)
  have LA := gF_LayN w1 L1
  have hAd := MdM_g h1 w1 (fun a j q z => by unfold sGa sWk at z; unfold tlM at q; omega)
  have hAY := LyM_g y1 w1 (fun a j q z => by unfold sGa sWk at z; unfold sY sK sP sFG sF sG at q; omega)
  have f73 : mI A 277 73 = 0 := by rw [hA, m_uI_I, if_pos ⟨rfl, rfl⟩]
  have u1 : ∀ {M'}, gF sGa nT A M' → gF sMq nT M M' := fun q => gF_trans g1 (gF_up (gF_trans w1 q) (fun a j z => by unfold sGa sWk at z; unfold sMq; omega) (fun _ _ q => q))
  obtain ⟨hn, hh⟩ := hAY.1.1.1
  have hn1 := y1.1.1.1.1
  simp +decide only [qX11_gapsOf_0, qX11_gapsOf_1, lm L1, hn1, ← hA, Classical.not_not, am_w1_i, am_w1_r, am_w1_x, am_w1_l, am_w1_w, va_rf_s, am_push_n, am_push_s, am_cs_0, am_cs_i, am_cs_l, am_cs_r, m_uI_K, m_uI_N, m_uI_R, m_uI_L, m_uI_I, m_uL_K, m_uL_N, m_uL_R, m_uL_I, m_uL_L, m_uR_K, m_uR_N, m_uR_I, m_uR_L, m_uR_R, true_and, and_true, true_implies, false_implies, not_true_eq_false, not_false_eq_true, if_true, if_false, false_and, and_false]
  by_cases c : (dY D s).length = 0
  · have e0 : dY D s = [] := List.length_eq_zero_iff.mp c
    have hu : ∀ t, ¬ usY (dY D s) t := fun t q => by obtain ⟨⟨y, y1, -⟩, -⟩ := q; rw [e0] at y1; cases y1
    have e1 : unN (dY D s) 48 = 0 := cnt_stay (a := 0) (by omega) (fun t _ _ q => hu t (dB_t.mp q))
    have e2 : gpD D s 48 = 0 := cnt_stay (a := 0) (by omega) (fun t _ _ q => hu t (dB_t.mp q).1)
    have h0 := hQ A (u1 (gF_refl _ _ _)) hAY.1 (by rw [f73, e1]; rfl)
    rw [e2] at h0
    have hz : nI (dY D s).length = 0 := by rw [c]; rfl
    first | rw [br_p (hz)] | rw [br_r (hz)] | rw [br_s (hz)]
    rw [hX11_gapsOf_31]
    simp +decide only [qX11_gapsOf_0, qX11_gapsOf_1, lm LA, hn, hz, am_w1_i, am_w1_r, am_w1_x, am_w1_l, am_w1_w, va_rf_s, am_push_n, am_push_s, am_cs_0, am_cs_i, am_cs_l, am_cs_r, m_uI_K, m_uI_N, m_uI_R, m_uI_L, m_uI_I, m_uL_K, m_uL_N, m_uL_R, m_uL_I, m_uL_L, m_uR_K, m_uR_N, m_uR_I, m_uR_L, m_uR_R, true_and, and_true, true_implies, false_implies, not_true_eq_false, not_false_eq_true, if_true, if_false, false_and, and_false]
    exact h0
  · have hz : ¬ nI (dY D s).length = 0 := by rw [show (0 : Int32) = nI 0 from rfl, ni_eq (by omega) (by omega)]; exact c
    first | rw [br_n (hz)] | rw [br_q (hz)] | rw [br_u (hz)]
    obtain ⟨y0, hy0⟩ : ∃ y, (dY D s)[0]? = some y := ⟨(dY D s)[0]'(by omega), List.getElem?_eq_getElem (by omega)⟩
    obtain ⟨yl, hyl⟩ : ∃ y, (dY D s)[(dY D s).length - 1]? = some y := ⟨(dY D s)[(dY D s).length - 1]'(by omega), List.getElem?_eq_getElem (by omega)⟩
    have hh0 := hh 0 y0 hy0
    have y048 := (hD.1.2.2.2.1 s y0 (List.mem_of_getElem? hy0)).1
    have hle : y0.1 ≤ yl.1 := by
      by_cases e : (dY D s).length - 1 = 0
      · rw [e, hy0] at hyl; cases hyl; exact Nat.le_refl _
      · have := srtY_lt hsr hy0 hyl (by omega); omega
    have e1 : unN (dY D s) y0.1 = 0 := cnt_stay (a := 0) (by omega) (fun t _ a2 q => us_no1 hsr hy0 (by omega) (dB_t.mp q))
    have e2 : gpD D s y0.1 = 0 := cnt_stay (a := 0) (by omega) (fun t _ a2 q => us_no1 hsr hy0 (by omega) (dB_t.mp q).1)
    have h9 := l_m_gaps (d + 2) b s D A Q hD LA hAd hs hAY y0 yl ((dY D s).length - 1) (by omega) hy0 hyl (fun M' g' f' => hQ M' (u1 g') (LyM_g hAY g' (fun a j q z => by unfold sGa sWk at z; unfold sY sK sP sFG sF sG at q; omega)).1 f') (yl.1 - y0.1) y0.1 (by omega) (by omega) A (gF_refl _ _ _) (by rw [f73, e1]; rfl)
    rw [e2] at h9
    rw [show (0 : Int32) = nI 0 from rfl]
    simp +decide (disch := omega) only [qX11_gapsOf_0, qX11_gapsOf_1, lm LA, hh0, ni_in_t, ni_tn, am_w1_i, am_w1_r, am_w1_x, am_w1_l, am_w1_w, va_rf_s, am_push_n, am_push_s, am_cs_0, am_cs_i, am_cs_l, am_cs_r, m_uI_K, m_uI_N, m_uI_R, m_uI_L, m_uI_I, m_uL_K, m_uL_N, m_uL_R, m_uL_I, m_uL_L, m_uR_K, m_uR_N, m_uR_I, m_uR_L, m_uR_R, true_and, and_true, true_implies, false_implies, not_true_eq_false, not_false_eq_true, if_true, if_false, false_and, and_false]
    exact h9
def kdP (D : Dat) (s k : Nat) : Prop := if k = 0 then k0Y (dWt D s) (dV D s) (dSn D s) (dBs D s) (dY D s) (dQt D) else if k = 1 then k1Y (dWt D s) (dV D s) (dSn D s) (dBs D s) (dY D s) (dQt D) else if k = 2 then ¬ whI D s = 0 else if k = 3 then k3Y (dWt D s) (dV D s) (dSn D s) (dBs D s) (dY D s) else k4Y (dWt D s) (dV D s) (dSn D s) (dBs D s) (dY D s)
theorem whI_0 {D : Dat} {s : Nat} (h : (dY D s).length = 0) : whI D s = 0 := by
  have : ∀ n, btI (whP D s) n = 0 := fun n => by
    induction n with
    | zero => rfl
    | succ n ih => rw [btI_f (fun q => by have := q.2.1; omega), ih]
  exact this _
theorem kdP_0 {D : Dat} {s k : Nat} (h : (dY D s).length = 0) (hk : k < 5) : ¬ kdP D s k := by
  unfold kdP
  rcases (by omega : k = 0 ∨ k = 1 ∨ k = 2 ∨ k = 3 ∨ k = 4) with e | e | e | e | e <;> subst e
  · intro q; have := q.1; omega
  · intro q; have := q.1; omega
  · intro q; exact q (whI_0 h)
  · intro q; have := q.1; omega
  · intro q; have := q.1; omega
theorem m_isKind {M : am_M} {b s k : Nat} {D : Dat} (hD : dOK D) (hL : Lay M) (h : MdM M b D) (hs : s < dN D) (hk : k < 5) (d : Nat) (Q : Option Value → am_M → Prop)
    (hQ : ∀ M', gF sMq nT M M' → Q (some (.int (tI (kdP D s k)))) M') : am_E am_P0 (d + 9) 265 [.ref 277, .int (nI s), .int (nI k)] M Q := by
  have n8 := dN_8 hD
  have h48 := dY_len hD s
  have hsay := fun Q => m_sayN hD hL h (s := s) (by omega) (d + 7) Q
  rw [eX11_isKind]
  simp +decide only [qX11_isKind_0, qX11_isKind_1, lm hL, hsay, Classical.not_not, am_w1_i, am_w1_r, am_w1_x, am_w1_l, am_w1_w, va_rf_s, am_push_n, am_push_s, am_cs_0, am_cs_i, am_cs_l, am_cs_r, m_uI_K, m_uI_N, m_uI_R, m_uI_L, m_uI_I, m_uL_K, m_uL_N, m_uL_R, m_uL_I, m_uL_L, m_uR_K, m_uR_N, m_uR_I, m_uR_L, m_uR_R, true_and, and_true, true_implies, false_implies, not_true_eq_false, not_false_eq_true, if_true, if_false, false_and, and_false]
  by_cases c0 : (dY D s).length = 0
  · have h0 := hQ M (gF_refl _ _ _)
    rw [tI_f (kdP_0 c0 hk)] at h0
    have hz : nI (dY D s).length = 0 := by rw [c0]; rfl
    first | rw [br_p (hz)] | rw [br_r (hz)] | rw [br_s (hz)]
    exact h0
  · have hz : ¬ nI (dY D s).length = 0 := by rw [show (0 : Int32) = nI 0 from rfl, ni_eq (by omega) (by omega)]; exact c0
    first | rw [br_n (hz)] | rw [br_q (hz)] | rw [br_u (hz)]
    have hle := kc_le (wt := dWt D s) (v := dV D s) (snd := dSn D s) (B := dBs D s) (Y := dY D s)
    have hgl : gpD D s 48 ≤ 48 := cnt_le _ _
    rcases (by omega : k = 0 ∨ k = 1 ∨ k = 2 ∨ k = 3 ∨ k = 4) with e | e | e | e | e <;> subst e
    · simp +decide only [show nI 0 = (0 : Int32) from rfl, qX11_isKind_0, qX11_isKind_1, lm hL, am_w1_i, am_w1_r, am_w1_x, am_w1_l, am_w1_w, va_rf_s, am_push_n, am_push_s, am_cs_0, am_cs_i, am_cs_l, am_cs_r, m_uI_K, m_uI_N, m_uI_R, m_uI_L, m_uI_I, m_uL_K, m_uL_N, m_uL_R, m_uL_I, m_uL_L, m_uR_K, m_uR_N, m_uR_I, m_uR_L, m_uR_R, true_and, and_true, true_implies, false_implies, not_true_eq_false, not_false_eq_true, if_true, if_false, false_and, and_false]
      refine m_gapsOf hD hL h hs d _ (fun M1 g1 k1 _ => ?_)
      have h0 := hQ M1 g1
      have L1 := gF_LayN g1 hL
      have eg : nI (gpD D s 48) = 0 ↔ gpD D s 48 = 0 := by rw [show (0 : Int32) = nI 0 from rfl, ni_eq (by omega) (by omega)]
      have ek : nI (kcY (dWt D s) (dV D s) (dSn D s) (dBs D s) (dY D s)) = nI (dY D s).length ↔ kcY (dWt D s) (dV D s) (dSn D s) (dBs D s) (dY D s) = (dY D s).length := by rw [ni_eq (by omega) (by omega)]
      simp +decide only [qX11_isKind_0, qX11_isKind_1, lm L1, (KpM_kc k1).1, (KpM_kc k1).2, eg, ek, Classical.not_not, am_w1_i, am_w1_r, am_w1_x, am_w1_l, am_w1_w, va_rf_s, am_push_n, am_push_s, am_cs_0, am_cs_i, am_cs_l, am_cs_r, m_uI_K, m_uI_N, m_uI_R, m_uI_L, m_uI_I, m_uL_K, m_uL_N, m_uL_R, m_uL_I, m_uL_L, m_uR_K, m_uR_N, m_uR_I, m_uR_L, m_uR_R, true_and, and_true, true_implies, false_implies, not_true_eq_false, not_false_eq_true, if_true, if_false, false_and, and_false]
      have hkd : kdP D s 0 ↔ kcY (dWt D s) (dV D s) (dSn D s) (dBs D s) (dY D s) = (dY D s).length ∧ gpD D s 48 = 0 := by
        show k0Y _ _ _ _ _ _ ↔ _
        exact ⟨fun q => q.2, fun q => ⟨by omega, q⟩⟩
      rw [tI_i hkd] at h0
      by_cases c1 : kcY (dWt D s) (dV D s) (dSn D s) (dBs D s) (dY D s) = (dY D s).length
      · first | rw [br_p (c1)] | rw [br_r (c1)] | rw [br_s (c1)]
        by_cases c2 : gpD D s 48 = 0
        · rw [tI_t ⟨c1, c2⟩] at h0
          first | rw [br_p (c2)] | rw [br_r (c2)] | rw [br_s (c2)]
          exact h0
        · rw [tI_f (fun q => c2 q.2)] at h0
          first | rw [br_n (c2)] | rw [br_q (c2)] | rw [br_u (c2)]
          exact h0
      · rw [tI_f (fun q => c1 q.1)] at h0
        first | rw [br_n (c1)] | rw [br_q (c1)] | rw [br_u (c1)]
        exact h0
    · simp +decide only [show nI 1 = (1 : Int32) from rfl, qX11_isKind_0, qX11_isKind_1, lm hL, am_w1_i, am_w1_r, am_w1_x, am_w1_l, am_w1_w, va_rf_s, am_push_n, am_push_s, am_cs_0, am_cs_i, am_cs_l, am_cs_r, m_uI_K, m_uI_N, m_uI_R, m_uI_L, m_uI_I, m_uL_K, m_uL_N, m_uL_R, m_uL_I, m_uL_L, m_uR_K, m_uR_N, m_uR_I, m_uR_L, m_uR_R, true_and, and_true, true_implies, false_implies, not_true_eq_false, not_false_eq_true, if_true, if_false, false_and, and_false]
      refine m_gapsOf hD hL h hs d _ (fun M1 g1 k1 _ => ?_)
      have h0 := hQ M1 g1
      have L1 := gF_LayN g1 hL
      have eg : nI (gpD D s 48) = 0 ↔ gpD D s 48 = 0 := by rw [show (0 : Int32) = nI 0 from rfl, ni_eq (by omega) (by omega)]
      have ek : nI (kcY (dWt D s) (dV D s) (dSn D s) (dBs D s) (dY D s)) = nI (dY D s).length ↔ kcY (dWt D s) (dV D s) (dSn D s) (dBs D s) (dY D s) = (dY D s).length := by rw [ni_eq (by omega) (by omega)]
      simp +decide only [qX11_isKind_0, qX11_isKind_1, lm L1, (KpM_kc k1).1, (KpM_kc k1).2, eg, ek, Classical.not_not, am_w1_i, am_w1_r, am_w1_x, am_w1_l, am_w1_w, va_rf_s, am_push_n, am_push_s, am_cs_0, am_cs_i, am_cs_l, am_cs_r, m_uI_K, m_uI_N, m_uI_R, m_uI_L, m_uI_I, m_uL_K, m_uL_N, m_uL_R, m_uL_I, m_uL_L, m_uR_K, m_uR_N, m_uR_I, m_uR_L, m_uR_R, true_and, and_true, true_implies, false_implies, not_true_eq_false, not_false_eq_true, if_true, if_false, false_and, and_false]
      have hkd : kdP D s 1 ↔ kcY (dWt D s) (dV D s) (dSn D s) (dBs D s) (dY D s) = (dY D s).length ∧ ¬ gpD D s 48 = 0 := by
        show k1Y _ _ _ _ _ _ ↔ _
        exact ⟨fun q => q.2, fun q => ⟨by omega, q⟩⟩
      rw [tI_i hkd] at h0
      by_cases c1 : kcY (dWt D s) (dV D s) (dSn D s) (dBs D s) (dY D s) = (dY D s).length
      · first | rw [br_p (c1)] | rw [br_r (c1)] | rw [br_s (c1)]
        by_cases c2 : gpD D s 48 = 0
        · rw [tI_f (fun q => q.2 c2)] at h0
          first | rw [br_p (c2)] | rw [br_r (c2)] | rw [br_s (c2)]
          exact h0
        · rw [tI_t ⟨c1, c2⟩] at h0
          first | rw [br_n (c2)] | rw [br_q (c2)] | rw [br_u (c2)]
          exact h0
      · rw [tI_f (fun q => c1 q.1)] at h0
        first | rw [br_n (c1)] | rw [br_q (c1)] | rw [br_u (c1)]
        exact h0
    · simp +decide only [show nI 2 = (2 : Int32) from rfl, qX11_isKind_0, qX11_isKind_1, lm hL, am_w1_i, am_w1_r, am_w1_x, am_w1_l, am_w1_w, va_rf_s, am_push_n, am_push_s, am_cs_0, am_cs_i, am_cs_l, am_cs_r, m_uI_K, m_uI_N, m_uI_R, m_uI_L, m_uI_I, m_uL_K, m_uL_N, m_uL_R, m_uL_I, m_uL_L, m_uR_K, m_uR_N, m_uR_I, m_uR_L, m_uR_R, true_and, and_true, true_implies, false_implies, not_true_eq_false, not_false_eq_true, if_true, if_false, false_and, and_false]
      refine m_whoOf hD hL h hs (d + 2) _ (fun M1 g1 => ?_)
      have h0 := hQ M1 g1
      simp +decide only [qX11_isKind_0, qX11_isKind_1, am_w1_i, am_w1_r, am_w1_x, am_w1_l, am_w1_w, va_rf_s, am_push_n, am_push_s, am_cs_0, am_cs_i, am_cs_l, am_cs_r, m_uI_K, m_uI_N, m_uI_R, m_uI_L, m_uI_I, m_uL_K, m_uL_N, m_uL_R, m_uL_I, m_uL_L, m_uR_K, m_uR_N, m_uR_I, m_uR_L, m_uR_R, true_and, and_true, true_implies, false_implies, not_true_eq_false, not_false_eq_true, if_true, if_false, false_and, and_false]
      have hkd : kdP D s 2 ↔ ¬ whI D s = 0 := Iff.rfl
      rw [tI_i hkd] at h0
      by_cases c1 : whI D s = 0
      · rw [tI_f (fun q => q c1)] at h0
        first | rw [br_p (c1)] | rw [br_r (c1)] | rw [br_s (c1)]
        exact h0
      · rw [tI_t c1] at h0
        first | rw [br_n (c1)] | rw [br_q (c1)] | rw [br_u (c1)]
        exact h0
    · simp +decide only [show nI 3 = (3 : Int32) from rfl, qX11_isKind_0, qX11_isKind_1, lm hL, am_w1_i, am_w1_r, am_w1_x, am_w1_l, am_w1_w, va_rf_s, am_push_n, am_push_s, am_cs_0, am_cs_i, am_cs_l, am_cs_r, m_uI_K, m_uI_N, m_uI_R, m_uI_L, m_uI_I, m_uL_K, m_uL_N, m_uL_R, m_uL_I, m_uL_L, m_uR_K, m_uR_N, m_uR_I, m_uR_L, m_uR_R, true_and, and_true, true_implies, false_implies, not_true_eq_false, not_false_eq_true, if_true, if_false, false_and, and_false]
      refine m_isPair hD hL h hs (d + 2) _ (fun M1 g1 => ?_)
      have h0 := hQ M1 g1
      have hkd : kdP D s 3 ↔ prP (dWt D s) (dV D s) (dSn D s) (dBs D s) (dY D s) := k3_pr hD (by omega)
      rw [tI_i hkd] at h0
      simp +decide only [qX11_isKind_0, qX11_isKind_1, tI_01, am_w1_i, am_w1_r, am_w1_x, am_w1_l, am_w1_w, va_rf_s, am_push_n, am_push_s, am_cs_0, am_cs_i, am_cs_l, am_cs_r, m_uI_K, m_uI_N, m_uI_R, m_uI_L, m_uI_I, m_uL_K, m_uL_N, m_uL_R, m_uL_I, m_uL_L, m_uR_K, m_uR_N, m_uR_I, m_uR_L, m_uR_R, true_and, and_true, true_implies, false_implies, not_true_eq_false, not_false_eq_true, if_true, if_false, false_and, and_false]
      exact h0
    · simp +decide only [show nI 4 = (4 : Int32) from rfl, qX11_isKind_0, qX11_isKind_1, lm hL, am_w1_i, am_w1_r, am_w1_x, am_w1_l, am_w1_w, va_rf_s, am_push_n, am_push_s, am_cs_0, am_cs_i, am_cs_l, am_cs_r, m_uI_K, m_uI_N, m_uI_R, m_uI_L, m_uI_I, m_uL_K, m_uL_N, m_uL_R, m_uL_I, m_uL_L, m_uR_K, m_uR_N, m_uR_I, m_uR_L, m_uR_R, true_and, and_true, true_implies, false_implies, not_true_eq_false, not_false_eq_true, if_true, if_false, false_and, and_false]
      refine m_gapsOf hD hL h hs d _ (fun M1 g1 k1 _ => ?_)
      have h0 := hQ M1 g1
      have L1 := gF_LayN g1 hL
      simp +decide only [qX11_isKind_0, qX11_isKind_1, lm L1, (KpM_kc k1).1, (KpM_kc k1).2, ni_pos (show kcY (dWt D s) (dV D s) (dSn D s) (dBs D s) (dY D s) < 2147483648 by omega), ni_le (show (dY D s).length < 2147483648 by omega) (show kcY (dWt D s) (dV D s) (dSn D s) (dBs D s) (dY D s) < 2147483648 by omega), am_w1_i, am_w1_r, am_w1_x, am_w1_l, am_w1_w, va_rf_s, am_push_n, am_push_s, am_cs_0, am_cs_i, am_cs_l, am_cs_r, m_uI_K, m_uI_N, m_uI_R, m_uI_L, m_uI_I, m_uL_K, m_uL_N, m_uL_R, m_uL_I, m_uL_L, m_uR_K, m_uR_N, m_uR_I, m_uR_L, m_uR_R, true_and, and_true, true_implies, false_implies, not_true_eq_false, not_false_eq_true, if_true, if_false, false_and, and_false]
      have hkd : kdP D s 4 ↔ ¬ kcY (dWt D s) (dV D s) (dSn D s) (dBs D s) (dY D s) = 0 ∧ ¬ (dY D s).length ≤ kcY (dWt D s) (dV D s) (dSn D s) (dBs D s) (dY D s) := by
        show k4Y _ _ _ _ _ ↔ _
        exact ⟨fun q => ⟨by have := q.2.2; omega, by have := q.2.1; omega⟩, fun q => ⟨by omega, by omega, by omega⟩⟩
      rw [tI_i hkd] at h0
      by_cases c1 : kcY (dWt D s) (dV D s) (dSn D s) (dBs D s) (dY D s) = 0
      · rw [tI_f (fun q => q.1 c1)] at h0
        first | rw [br_p (c1)] | rw [br_r (c1)] | rw [br_s (c1)]
        exact h0
      · first | rw [br_n (c1)] | rw [br_q (c1)] | rw [br_u (c1)]
        by_cases c2 : (dY D s).length ≤ kcY (dWt D s) (dV D s) (dSn D s) (dBs D s) (dY D s)
        · rw [tI_f (fun q => q.2 c2)] at h0
          first | rw [br_p (c2)] | rw [br_r (c2)] | rw [br_s (c2)]
          exact h0
        · rw [tI_t ⟨c1, c2⟩] at h0
          first | rw [br_n (c2)] | rw [br_q (c2)] | rw [br_u (c2)]
          exact h0
end
section
/-! the class's kindsOf; judge, tale, kinds, lies, gaps -/
theorem XR_kd {M M' : am_M} {z s : Nat} {D : Dat} (hD : dOK D) (hs : s < dN D) (h : XR M z D) (hf : zF (fun a j => a = 173 + 13 * s ∧ (j = 6 ∨ j = 7)) M M') (h6 : mI M' (173 + 13 * s) 6 = 1) (h7 : mI M' (173 + 13 * s) 7 = kdI D s) : XR M' z D := by
  have h0 := h
  obtain ⟨⟨hL, hI, hz, r2, r3, hO⟩, ⟨c, hP⟩, hS1, hTk, hLk⟩ := h0
  have n8 := dN_8 hD
  have k : ∀ j, ¬ j = 6 → ¬ j = 7 → mI M' (173 + 13 * s) j = mI M (173 + 13 * s) j := fun j h1 h2 => hf.2.2.2.1 _ _ (by omega) (fun s' q w => by omega) (fun w => by omega)
  refine XR_z (s0 := s) hD h hf (fun a j q => Or.inl (by unfold sQ1; omega)) (fun _ => ?_) (SqX_z hz hS1 hf (fun a j q1 q2 q3 w => by omega)) (LkX_z hLk hf (fun j hj w => by omega))
  obtain ⟨t1, t2, t3, t4⟩ := hTk s hs
  have kS : ∀ {v wt snd B Y}, SetX M s v wt snd B Y → SetX M' s v wt snd B Y := fun q => SetX_z (by omega) q hf (fun a j w q => by omega)
  refine ⟨TkX_zz (by omega) (isSh_z hz (by omega)) hz t1 hf (fun a j w q => by omega), ?_, ?_, Or.inr ⟨h6, h7⟩⟩
  · rcases t2 with q | q
    · exact Or.inl (by rw [k 4 (by omega) (by omega)]; exact q)
    · exact Or.inr ⟨by rw [k 4 (by omega) (by omega)]; exact q.1, kS q.2⟩
  · rcases t3 with q | q
    · exact Or.inl (by rw [k 5 (by omega) (by omega)]; exact q)
    · exact Or.inr ⟨by rw [k 5 (by omega) (by omega)]; exact q.1, by rw [k 4 (by omega) (by omega)]; exact q.2.1, kS q.2.2.1, by rw [k 13 (by omega) (by omega)]; exact q.2.2.2.1, by rw [k 14 (by omega) (by omega)]; exact q.2.2.2.2⟩
theorem x_countGaps {M : am_M} {z s : Nat} {D : Dat} (hD : dOK D) (h : XR M z D) (hs : s < dN D) (d : Nat) (Q : Option Value → am_M → Prop) (hQ : ∀ M', zF (sXq z) M M' → XR M' z D → GpX (dWt D s) (dV D s) (dSn D s) (dBs D s) (dY D s) (dQt D) M' s → Q none M') : am_E am_P0 (d + 6) 98 [.ref (173 + 13 * s)] M Q := by
  obtain ⟨⟨hL, hI, hz, r2, r3, hO⟩, -, hS1, hTk, hLk⟩ := id h
  have n8 := dN_8 hD
  obtain ⟨t1, t2, t3, t4⟩ := hTk s hs
  refine c_x_countGaps d s (z + 25 + 7 * s) z (dV D s) (dWt D s) (dDp D) (dCs D) (dQt D) (dDr D s) (dLd D s) (dBs D s) (dY D s) M Q hL hI (by omega) (isSh_z hz (by omega)) hz (hD.1.2.2.2.2.1 s) (dSn_w hD s) t1 hS1 t2 t3 (fun M1 f1 q1 h5 hG => ?_)
  exact hQ M1 (zq_up (s := s) (by omega) f1 (fun a j q => by unfold sGp sSt sMm at q; unfold sQ1 sMm; omega)) (XR_gap hD hs h f1 q1 h5 hG) hG
theorem x_kindsOf {M : am_M} {z s : Nat} {D : Dat} (hD : dOK D) (h : XR M z D) (hs : s < dN D) (d : Nat) (Q : Option Value → am_M → Prop) (hQ : ∀ M', zF (sXq z) M M' → XR M' z D → Q (some (.int (kdI D s))) M') : am_E am_P0 (d + 7) 156 [.ref 0, .int (nI s)] M Q := by
  obtain ⟨⟨hL, hI, hz, r2, r3, hO⟩, -, hS1, hTk, hLk⟩ := id h
  have n8 := dN_8 hD
  have htr := ltr hL (show s < 8 by omega)
  have hst := lt_ hL (isTr_of (show s < 8 by omega))
  obtain ⟨t1, t2, t3, t4⟩ := hTk s hs
  rw [eX10_kindsOf]
  simp +decide (disch := omega) only [qX10_kindsOf, lx hL, htr, hst, ni_in_t, ni_tn, Classical.not_not, am_w1_i, am_w1_r, am_w1_x, am_w1_l, am_w1_w, va_rf_s, am_push_n, am_push_s, am_cs_0, am_cs_i, am_cs_l, am_cs_r, m_uI_K, m_uI_N, m_uI_R, m_uI_L, m_uI_I, m_uL_K, m_uL_N, m_uL_R, m_uL_I, m_uL_L, m_uR_K, m_uR_N, m_uR_I, m_uR_L, m_uR_R, true_and, and_true, true_implies, false_implies, not_true_eq_false, not_false_eq_true, if_true, if_false, false_and, and_false]
  rcases t4 with q | q
  · first | rw [br_p (q)] | rw [br_r (q)] | rw [br_s (q)]
    refine x_countGaps hD h hs d _ (fun M1 f1 X1 G1 => ?_)
    have L1 := X1.1.1
    have hst1 := lt_ L1 (isTr_of (show s < 8 by omega))
    simp +decide only [qX10_kindsOf, hst1, am_w1_i, am_w1_r, am_w1_x, am_w1_l, am_w1_w, va_rf_s, am_push_n, am_push_s, am_cs_0, am_cs_i, am_cs_l, am_cs_r, m_uI_K, m_uI_N, m_uI_R, m_uI_L, m_uI_I, m_uL_K, m_uL_N, m_uL_R, m_uL_I, m_uL_L, m_uR_K, m_uR_N, m_uR_I, m_uR_L, m_uR_R, true_and, and_true, true_implies, false_implies, not_true_eq_false, not_false_eq_true, if_true, if_false, false_and, and_false]
    refine c_x_ownKinds (d + 1) s (z + 25 + 7 * s) z (dV D s) (dWt D s) (dDp D) (dQt D) (dDr D s) (dLd D s) (dBs D s) (dY D s) M1 _ L1 X1.1.2.1 (by omega) (isSh_z hz (by omega)) hz (hD.1.2.2.2.2.1 s) (X1.2.2.2.1 s hs).1 G1 (fun M2 f2 => ?_)
    have X2 := XR_k (s0 := s) hD (by omega) X1 f2 (fun a j q => by unfold sCo at q; omega)
    have L2 := X2.1.1
    simp +decide only [qX10_kindsOf, lx L2, am_w1_i, am_w1_r, am_w1_x, am_w1_l, am_w1_w, va_rf_s, am_push_n, am_push_s, am_cs_0, am_cs_i, am_cs_l, am_cs_r, m_uI_K, m_uI_N, m_uI_R, m_uI_L, m_uI_I, m_uL_K, m_uL_N, m_uL_R, m_uL_I, m_uL_L, m_uR_K, m_uR_N, m_uR_I, m_uR_L, m_uR_R, true_and, and_true, true_implies, false_implies, not_true_eq_false, not_false_eq_true, if_true, if_false, false_and, and_false]
    refine x_sayersOf hD X2 hs (d + 1) _ (fun M3 f3 X3 => ?_)
    have L3 := X3.1.1
    have hst3 := lt_ L3 (isTr_of (show s < 8 by omega))
    have eb := fun M Q => c_x_bit (d + 6) 0 M Q (Or.inl rfl)
    have eb1 := fun M Q => c_x_bit (d + 6) 1 M Q (Or.inr rfl)
    obtain ⟨A, hA⟩ : ∃ A, A = uI (uI M3 (173 + 13 * s) 7 (kdI D s)) (173 + 13 * s) 6 1 := ⟨_, rfl⟩
    have gA : gF (fun a j => a = 173 + 13 * s ∧ (j = 6 ∨ j = 7)) nT M3 A := by rw [hA]; exact gF_trans (gF_i _ ⟨rfl, by omega⟩) (gF_i _ ⟨rfl, by omega⟩)
    have zA := zF_g L3 X3.1.2.1 gA (fun a j s' q w => by omega) (fun a j w => by omega)
    have a6 : mI A (173 + 13 * s) 6 = 1 := by rw [hA, m_uI_I, if_pos ⟨rfl, rfl⟩]
    have a7 : mI A (173 + 13 * s) 7 = kdI D s := by rw [hA, m_uI_I, if_neg (by omega), m_uI_I, if_pos ⟨rfl, rfl⟩]
    have XA := XR_kd hD hs X3 zA a6 a7
    have hstA := lt_ XA.1.1 (isTr_of (show s < 8 by omega))
    have h0 := hQ A (zF_trans f1 (zF_trans (zq_up (s := s) (z := z) (by omega) f2 (fun a j q => by unfold sCo at q; unfold sQ1; omega)) (zF_trans (zF_up f3 (fun a j q => sLn_q q)) (zq_up (s := s) (by omega) zA (fun a j q => by unfold sQ1; omega))))) XA
    by_cases c : whI D s = 0
    · have e : kdI D s = okI (dWt D s) (dV D s) (dSn D s) (dBs D s) (dY D s) (dQt D) ||| 0 := by unfold kdI; rw [if_pos c]
      have e4 : (0 : Int32) <<< ((2 : Int32) &&& 31) = 0 := by decide
      rw [c]
      simp +decide only [qX10_kindsOf, eb, hst3, e4, show okI (dWt D s) (dV D s) (sndP (dDp D) (dDr D s) (dLd D s)) (dBs D s) (dY D s) (dQt D) ||| 0 = kdI D s from e.symm, ← hA, am_w1_i, am_w1_r, am_w1_x, am_w1_l, am_w1_w, va_rf_s, am_push_n, am_push_s, am_cs_0, am_cs_i, am_cs_l, am_cs_r, m_uI_K, m_uI_N, m_uI_R, m_uI_L, m_uI_I, m_uL_K, m_uL_N, m_uL_R, m_uL_I, m_uL_L, m_uR_K, m_uR_N, m_uR_I, m_uR_L, m_uR_R, true_and, and_true, true_implies, false_implies, not_true_eq_false, not_false_eq_true, if_true, if_false, false_and, and_false]
      simp +decide only [qX10_kindsOf, hstA, a7, am_w1_i, am_w1_r, am_w1_x, am_w1_l, am_w1_w, va_rf_s, am_push_n, am_push_s, am_cs_0, am_cs_i, am_cs_l, am_cs_r, m_uI_K, m_uI_N, m_uI_R, m_uI_L, m_uI_I, m_uL_K, m_uL_N, m_uL_R, m_uL_I, m_uL_L, m_uR_K, m_uR_N, m_uR_I, m_uR_L, m_uR_R, true_and, and_true, true_implies, false_implies, not_true_eq_false, not_false_eq_true, if_true, if_false, false_and, and_false]
      exact h0
    · have e : kdI D s = okI (dWt D s) (dV D s) (dSn D s) (dBs D s) (dY D s) (dQt D) ||| 4 := by unfold kdI; rw [if_neg c]
      have e4 : (1 : Int32) <<< ((2 : Int32) &&& 31) = 4 := by decide
      simp +decide only [qX10_kindsOf, eb1, hst3, e4, show okI (dWt D s) (dV D s) (sndP (dDp D) (dDr D s) (dLd D s)) (dBs D s) (dY D s) (dQt D) ||| 4 = kdI D s from e.symm, ← hA, am_w1_i, am_w1_r, am_w1_x, am_w1_l, am_w1_w, va_rf_s, am_push_n, am_push_s, am_cs_0, am_cs_i, am_cs_l, am_cs_r, m_uI_K, m_uI_N, m_uI_R, m_uI_L, m_uI_I, m_uL_K, m_uL_N, m_uL_R, m_uL_I, m_uL_L, m_uR_K, m_uR_N, m_uR_I, m_uR_L, m_uR_R, true_and, and_true, true_implies, false_implies, not_true_eq_false, not_false_eq_true, if_true, if_false, false_and, and_false]
      first | rw [br_n (c)] | rw [br_q (c)] | rw [br_u (c)]
      simp +decide only [qX10_kindsOf, hstA, a7, am_w1_i, am_w1_r, am_w1_x, am_w1_l, am_w1_w, va_rf_s, am_push_n, am_push_s, am_cs_0, am_cs_i, am_cs_l, am_cs_r, m_uI_K, m_uI_N, m_uI_R, m_uI_L, m_uI_I, m_uL_K, m_uL_N, m_uL_R, m_uL_I, m_uL_L, m_uR_K, m_uR_N, m_uR_I, m_uR_L, m_uR_R, true_and, and_true, true_implies, false_implies, not_true_eq_false, not_false_eq_true, if_true, if_false, false_and, and_false]
      exact h0
  · have h0 := hQ M (XR_2 h) h
    have hne : ¬ mI M (173 + 13 * s) 6 = 0 := by rw [q.1]; decide
    have h01 : mI M (173 + 13 * s) 6 = 0 ∨ mI M (173 + 13 * s) 6 = 1 := Or.inr q.1
    rw [q.2]
    first | rw [br_n (hne)] | rw [br_q (hne)] | rw [br_u (hne)]
    exact h0
theorem kd_bit {D : Dat} {s k : Nat} (hk : k < 5) : (kdI D s >>> (nI k &&& 31)) &&& 1 = tI (kdP D s k) := by
  have hx1 : k0Y (dWt D s) (dV D s) (dSn D s) (dBs D s) (dY D s) (dQt D) → ¬ k1Y (dWt D s) (dV D s) (dSn D s) (dBs D s) (dY D s) (dQt D) ∧ ¬ k3Y (dWt D s) (dV D s) (dSn D s) (dBs D s) (dY D s) ∧ ¬ k4Y (dWt D s) (dV D s) (dSn D s) (dBs D s) (dY D s) := fun q => ⟨fun w => w.2.2 q.2.2, fun w => w.2.1 q.2.1, fun w => w.2.1 q.2.1⟩
  have hx2 : k1Y (dWt D s) (dV D s) (dSn D s) (dBs D s) (dY D s) (dQt D) → ¬ k3Y (dWt D s) (dV D s) (dSn D s) (dBs D s) (dY D s) ∧ ¬ k4Y (dWt D s) (dV D s) (dSn D s) (dBs D s) (dY D s) := fun q => ⟨fun w => w.2.1 q.2.1, fun w => w.2.1 q.2.1⟩
  unfold kdI okI kdP
  generalize k0Y (dWt D s) (dV D s) (dSn D s) (dBs D s) (dY D s) (dQt D) = p0 at *
  generalize k1Y (dWt D s) (dV D s) (dSn D s) (dBs D s) (dY D s) (dQt D) = p1 at *
  generalize k3Y (dWt D s) (dV D s) (dSn D s) (dBs D s) (dY D s) = p3 at *
  generalize k4Y (dWt D s) (dV D s) (dSn D s) (dBs D s) (dY D s) = p4 at *
  generalize (whI D s = 0) = p2 at *
  have tT : tI True = 1 := tI_t trivial
  have tF : tI False = 0 := tI_f (fun q => q)
  have nT' : tI (¬ True) = 0 := tI_f (fun q => q trivial)
  have nF' : tI (¬ False) = 1 := tI_t (fun q => q)
  by_cases c0 : p0
  · obtain ⟨n1, n3, n4⟩ := hx1 c0
    have e0 : p0 = True := eq_true c0
    have e1 : p1 = False := eq_false n1
    have e3 : p3 = False := eq_false n3
    have e4 : p4 = False := eq_false n4
    subst e0 e1 e3 e4
    by_cases c2 : p2
    · have e2 : p2 = True := eq_true c2
      subst e2
      rcases (by omega : k = 0 ∨ k = 1 ∨ k = 2 ∨ k = 3 ∨ k = 4) with e | e | e | e | e <;> subst e <;> simp +decide only [if_true, if_false, tT, tF, nT', nF'] <;> decide
    · have e2 : p2 = False := eq_false c2
      subst e2
      rcases (by omega : k = 0 ∨ k = 1 ∨ k = 2 ∨ k = 3 ∨ k = 4) with e | e | e | e | e <;> subst e <;> simp +decide only [if_true, if_false, tT, tF, nT', nF'] <;> decide
  · have e0 : p0 = False := eq_false c0
    subst e0
    by_cases c1 : p1
    · obtain ⟨n3, n4⟩ := hx2 c1
      have e1 : p1 = True := eq_true c1
      have e3 : p3 = False := eq_false n3
      have e4 : p4 = False := eq_false n4
      subst e1 e3 e4
      by_cases c2 : p2
      · have e2 : p2 = True := eq_true c2
        subst e2
        rcases (by omega : k = 0 ∨ k = 1 ∨ k = 2 ∨ k = 3 ∨ k = 4) with e | e | e | e | e <;> subst e <;> simp +decide only [if_true, if_false, tT, tF, nT', nF'] <;> decide
      · have e2 : p2 = False := eq_false c2
        subst e2
        rcases (by omega : k = 0 ∨ k = 1 ∨ k = 2 ∨ k = 3 ∨ k = 4) with e | e | e | e | e <;> subst e <;> simp +decide only [if_true, if_false, tT, tF, nT', nF'] <;> decide
    · have e1 : p1 = False := eq_false c1
      subst e1
      by_cases c2 : p2 <;> by_cases c3 : p3 <;> by_cases c4 : p4 <;> simp only [c2, c3, c4] <;> (rcases (by omega : k = 0 ∨ k = 1 ∨ k = 2 ∨ k = 3 ∨ k = 4) with e | e | e | e | e <;> subst e <;> simp +decide only [if_true, if_false, tT, tF, nT', nF'] <;> decide)
noncomputable def aJud (v k : Int32) (D : Dat) : Value := .int (if (0 ≤ v.toInt ∧ v.toInt < dN D) ∧ 0 ≤ k.toInt ∧ k.toInt < 5 then tI (kdP D v.toInt.toNat k.toInt.toNat) else -1)
theorem x_judge (v k : Int32) : XqO 122 [.int v, .int k] (aJud v k) := by
  intro d M z D Q hD h hQ
  have hL := h.1.1
  have n8 := dN_8 hD
  have eS := fun v Q => x_isShip hD h (d + 19) v Q
  have e5 : (5 : Int32).toInt = 5 := rfl
  unfold aJud at hQ
  rw [eX10_judge]
  simp +decide only [qX10_judge, lx hL, eS, bI_0, Classical.not_not, am_w1_i, am_w1_r, am_w1_x, am_w1_l, am_w1_w, va_rf_s, am_push_n, am_push_s, am_cs_0, am_cs_i, am_cs_l, am_cs_r, m_uI_K, m_uI_N, m_uI_R, m_uI_L, m_uI_I, m_uL_K, m_uL_N, m_uL_R, m_uL_I, m_uL_L, m_uR_K, m_uR_N, m_uR_I, m_uR_L, m_uR_R, true_and, and_true, true_implies, false_implies, not_true_eq_false, not_false_eq_true, if_true, if_false, false_and, and_false]
  by_cases hv : 0 ≤ v.toInt ∧ v.toInt < dN D
  · first | rw [br_p (hv)] | rw [br_r (hv)] | rw [br_s (hv)]
    by_cases k0 : k < 0
    · have h0 := hQ M (XR_2 h) h
      rw [if_neg (fun q => by rw [lt32, z32] at k0; omega)] at h0
      first | rw [br_p (k0)] | rw [br_r (k0)] | rw [br_s (k0)]
      exact h0
    · first | rw [br_n (k0)] | rw [br_q (k0)] | rw [br_u (k0)]
      rw [lt32, z32] at k0
      by_cases k5 : k < 5
      · first | rw [br_p (k5)] | rw [br_r (k5)] | rw [br_s (k5)]
        rw [lt32, e5] at k5
        rw [if_pos ⟨hv, by omega, by omega⟩] at hQ
        obtain ⟨s, s1, s2, s3⟩ := sh_of (by omega) hv
        have ek : k = nI k.toInt.toNat := i32_of (by omega) (by omega)
        rw [s3] at hQ
        rw [s2]
        refine x_kindsOf hD h s1 (d + 12) _ (fun M1 f1 X1 => ?_)
        have h0 := hQ M1 f1 X1
        rw [← kd_bit (by omega), ← ek] at h0
        simp +decide only [qX10_judge, am_w1_i, am_w1_r, am_w1_x, am_w1_l, am_w1_w, va_rf_s, am_push_n, am_push_s, am_cs_0, am_cs_i, am_cs_l, am_cs_r, m_uI_K, m_uI_N, m_uI_R, m_uI_L, m_uI_I, m_uL_K, m_uL_N, m_uL_R, m_uL_I, m_uL_L, m_uR_K, m_uR_N, m_uR_I, m_uR_L, m_uR_R, true_and, and_true, true_implies, false_implies, not_true_eq_false, not_false_eq_true, if_true, if_false, false_and, and_false]
        exact h0
      · have h0 := hQ M (XR_2 h) h
        rw [if_neg (fun q => k5 (by rw [lt32, e5]; omega))] at h0
        first | rw [br_n (k5)] | rw [br_q (k5)] | rw [br_u (k5)]
        exact h0
  · have h0 := hQ M (XR_2 h) h
    rw [if_neg (fun q => hv q.1)] at h0
    first | rw [br_n (hv)] | rw [br_q (hv)] | rw [br_u (hv)]
    exact h0
theorem m_judge (v k : Int32) : MqO 266 [.int v, .int k] (aJud v k) := by
  intro d M b D Q hD hL h hQ
  have n8 := dN_8 hD
  have eS := fun v Q => m_isShip hD hL h (d + 18) v Q
  have e4 : (4 : Int32).toInt = 4 := rfl
  unfold aJud at hQ
  rw [eX11_judge]
  simp +decide only [qX11_judge, lm hL, eS, c_m_is, bI_0, Classical.not_not, am_w1_i, am_w1_r, am_w1_x, am_w1_l, am_w1_w, va_rf_s, am_push_n, am_push_s, am_cs_0, am_cs_i, am_cs_l, am_cs_r, m_uI_K, m_uI_N, m_uI_R, m_uI_L, m_uI_I, m_uL_K, m_uL_N, m_uL_R, m_uL_I, m_uL_L, m_uR_K, m_uR_N, m_uR_I, m_uR_L, m_uR_R, true_and, and_true, true_implies, false_implies, not_true_eq_false, not_false_eq_true, if_true, if_false, false_and, and_false]
  by_cases hv : 0 ≤ v.toInt ∧ v.toInt < dN D
  · first | rw [br_p (hv)] | rw [br_r (hv)] | rw [br_s (hv)]
    by_cases k5 : 0 ≤ k ∧ k ≤ 4
    · first | rw [br_p (k5)] | rw [br_r (k5)] | rw [br_s (k5)]
      rw [le32, le32, z32, e4] at k5
      rw [if_pos ⟨hv, by omega, by omega⟩] at hQ
      obtain ⟨s, s1, s2, s3⟩ := sh_of (by omega) hv
      have ek : k = nI k.toInt.toNat := i32_of (by omega) (by omega)
      rw [s3] at hQ
      rw [s2, ek]
      refine m_isKind hD hL h s1 (by omega) (d + 10) _ (fun M1 g1 => ?_)
      have h0 := hQ M1 g1
      by_cases c : kdP D s k.toInt.toNat
      · rw [tI_t c] at h0 ⊢; simp +decide only [qX11_judge, am_w1_i, am_w1_r, am_w1_x, am_w1_l, am_w1_w, va_rf_s, am_push_n, am_push_s, am_cs_0, am_cs_i, am_cs_l, am_cs_r, m_uI_K, m_uI_N, m_uI_R, m_uI_L, m_uI_I, m_uL_K, m_uL_N, m_uL_R, m_uL_I, m_uL_L, m_uR_K, m_uR_N, m_uR_I, m_uR_L, m_uR_R, true_and, and_true, true_implies, false_implies, not_true_eq_false, not_false_eq_true, if_true, if_false, false_and, and_false]; exact h0
      · rw [tI_f c] at h0 ⊢; simp +decide only [qX11_judge, am_w1_i, am_w1_r, am_w1_x, am_w1_l, am_w1_w, va_rf_s, am_push_n, am_push_s, am_cs_0, am_cs_i, am_cs_l, am_cs_r, m_uI_K, m_uI_N, m_uI_R, m_uI_L, m_uI_I, m_uL_K, m_uL_N, m_uL_R, m_uL_I, m_uL_L, m_uR_K, m_uR_N, m_uR_I, m_uR_L, m_uR_R, true_and, and_true, true_implies, false_implies, not_true_eq_false, not_false_eq_true, if_true, if_false, false_and, and_false]; exact h0
    · have h0 := hQ M (gF_refl _ _ _)
      rw [if_neg (fun q => k5 (by rw [le32, le32, z32, e4]; omega))] at h0
      first | rw [br_n (k5)] | rw [br_q (k5)] | rw [br_u (k5)]
      exact h0
  · have h0 := hQ M (gF_refl _ _ _)
    rw [if_neg (fun q => hv q.1)] at h0
    first | rw [br_n (hv)] | rw [br_q (hv)] | rw [br_u (hv)]
    exact h0
theorem op_judge (v k : Int32) : OpI 122 266 [.int v, .int k] isI := op_q (fun D => ⟨_, rfl⟩) (x_judge v k) (m_judge v k)
end
section
/-! tale, kinds, lies, gaps -/
def taQ (D : Dat) (s r : Nat) (x : Int32) : Prop := (∃ k, k < 5 ∧ kdP D s k ∧ cnt (fun k => dB (kdP D s k)) k = r ∧ x = nI k) ∨ ((∀ k, k < 5 → kdP D s k → ¬ cnt (fun k => dB (kdP D s k)) k = r) ∧ x = -1)
theorem taQ_1 {D : Dat} {s r : Nat} : ∀ x y, taQ D s r x → taQ D s r y → x = y := by
  rintro x y (⟨p, p1, p2, p3, rfl⟩ | ⟨h1, rfl⟩) (⟨q, q1, q2, q3, rfl⟩ | ⟨h2, rfl⟩)
  · have : p = q := by
      rcases Nat.lt_trichotomy p q with c | c | c
      · have := cnt_in (g := fun k => dB (kdP D s k)) c (dB_t.mpr p2); omega
      · exact c
      · have := cnt_in (g := fun k => dB (kdP D s k)) c (dB_t.mpr q2); omega
    rw [this]
  · exact absurd p3 (h2 p p1 p2)
  · exact absurd q3 (h1 q q1 q2)
  · rfl
noncomputable def aTal (v r : Int32) (D : Dat) : Value := .int (if (0 ≤ v.toInt ∧ v.toInt < dN D) ∧ 0 ≤ r.toInt then theI (taQ D v.toInt.toNat r.toInt.toNat) else -1)
theorem l_x_tale (d s r : Nat) (D : Dat) (M : am_M) (Q : Option Value → am_M → Prop) (x1 x2 : Int32) (hr : r < 2147483648) (hQ : ∀ x, taQ D s r x → Q (some (.int x)) M) :
    ∀ (m k : Nat), k + m = 5 → ∀ l, cnt (fun k => dB (kdP D s k)) k + l = r → am_P am_P0 d (am_look tX10_tale) 26 [.ref 0, .int x1, .int x2, .int (kdI D s), .int (nI l), .int (nI k)] [] M Q := by
  intro m
  induction m with
  | zero =>
    intro k hk l hl
    have ek : k = 5 := by omega
    subst ek
    have h0 := hQ (-1) (Or.inr ⟨fun p hp hm => by have := cnt_in (g := fun k => dB (kdP D s k)) hp (dB_t.mpr hm); omega, rfl⟩)
    rw [hX10_tale_26]
    simp +decide only [qX10_tale, show nI 5 = (5 : Int32) from rfl, am_w1_i, am_w1_r, am_w1_x, am_w1_l, am_w1_w, va_rf_s, am_push_n, am_push_s, am_cs_0, am_cs_i, am_cs_l, am_cs_r, m_uI_K, m_uI_N, m_uI_R, m_uI_L, m_uI_I, m_uL_K, m_uL_N, m_uL_R, m_uL_I, m_uL_L, m_uR_K, m_uR_N, m_uR_I, m_uR_L, m_uR_R, true_and, and_true, true_implies, false_implies, not_true_eq_false, not_false_eq_true, if_true, if_false, false_and, and_false]
    exact h0
  | succ m ih =>
    intro k hk l hl
    have hlt : ¬ (5 : Int32) ≤ nI k := by rw [show (5 : Int32) = nI 5 from rfl, ni_le (by omega) (by omega)]; omega
    rw [hX10_tale_26]
    simp +decide only [qX10_tale, kd_bit (show k < 5 by omega), tI_0, Classical.not_not, am_w1_i, am_w1_r, am_w1_x, am_w1_l, am_w1_w, va_rf_s, am_push_n, am_push_s, am_cs_0, am_cs_i, am_cs_l, am_cs_r, m_uI_K, m_uI_N, m_uI_R, m_uI_L, m_uI_I, m_uL_K, m_uL_N, m_uL_R, m_uL_I, m_uL_L, m_uR_K, m_uR_N, m_uR_I, m_uR_L, m_uR_R, true_and, and_true, true_implies, false_implies, not_true_eq_false, not_false_eq_true, if_true, if_false, false_and, and_false]
    first | rw [br_n (hlt)] | rw [br_q (hlt)] | rw [br_u (hlt)]
    by_cases c : kdP D s k
    · first | rw [br_p (c)] | rw [br_r (c)] | rw [br_s (c)]
      by_cases l0 : l = 0
      · subst l0
        have h0 := hQ _ (Or.inl ⟨k, by omega, c, by omega, rfl⟩)
        simp +decide only [show nI 0 = (0 : Int32) from rfl, qX10_tale, am_w1_i, am_w1_r, am_w1_x, am_w1_l, am_w1_w, va_rf_s, am_push_n, am_push_s, am_cs_0, am_cs_i, am_cs_l, am_cs_r, m_uI_K, m_uI_N, m_uI_R, m_uI_L, m_uI_I, m_uL_K, m_uL_N, m_uL_R, m_uL_I, m_uL_L, m_uR_K, m_uR_N, m_uR_I, m_uR_L, m_uR_R, true_and, and_true, true_implies, false_implies, not_true_eq_false, not_false_eq_true, if_true, if_false, false_and, and_false]
        exact h0
      · obtain ⟨l', rfl⟩ : ∃ l', l = l' + 1 := ⟨l - 1, by omega⟩
        have hne : ¬ nI (l' + 1) = 0 := by rw [show (0 : Int32) = nI 0 from rfl, ni_eq (by omega) (by omega)]; omega
        have h0 := ih (k + 1) (by omega) l' (by rw [cnt_t (dB_t.mpr c)]; omega)
        first | rw [br_n (hne)] | rw [br_q (hne)] | rw [br_u (hne)]
        simp +decide only [qX10_tale, ni_dec, ni_add1, am_w1_i, am_w1_r, am_w1_x, am_w1_l, am_w1_w, va_rf_s, am_push_n, am_push_s, am_cs_0, am_cs_i, am_cs_l, am_cs_r, m_uI_K, m_uI_N, m_uI_R, m_uI_L, m_uI_I, m_uL_K, m_uL_N, m_uL_R, m_uL_I, m_uL_L, m_uR_K, m_uR_N, m_uR_I, m_uR_L, m_uR_R, true_and, and_true, true_implies, false_implies, not_true_eq_false, not_false_eq_true, if_true, if_false, false_and, and_false]
        exact h0
    · have h0 := ih (k + 1) (by omega) l (by rw [cnt_f (fun w => c (dB_t.mp w))]; exact hl)
      first | rw [br_n (c)] | rw [br_q (c)] | rw [br_u (c)]
      simp +decide only [qX10_tale, ni_add1, am_w1_i, am_w1_r, am_w1_x, am_w1_l, am_w1_w, va_rf_s, am_push_n, am_push_s, am_cs_0, am_cs_i, am_cs_l, am_cs_r, m_uI_K, m_uI_N, m_uI_R, m_uI_L, m_uI_I, m_uL_K, m_uL_N, m_uL_R, m_uL_I, m_uL_L, m_uR_K, m_uR_N, m_uR_I, m_uR_L, m_uR_R, true_and, and_true, true_implies, false_implies, not_true_eq_false, not_false_eq_true, if_true, if_false, false_and, and_false]
      exact h0
theorem x_tale (v r : Int32) : XqO 123 [.int v, .int r] (aTal v r) := by
  intro d M z D Q hD h hQ
  have hL := h.1.1
  have n8 := dN_8 hD
  have eS := fun v Q => x_isShip hD h (d + 19) v Q
  unfold aTal at hQ
  rw [eX10_tale]
  simp +decide only [qX10_tale, lx hL, eS, bI_0, Classical.not_not, am_w1_i, am_w1_r, am_w1_x, am_w1_l, am_w1_w, va_rf_s, am_push_n, am_push_s, am_cs_0, am_cs_i, am_cs_l, am_cs_r, m_uI_K, m_uI_N, m_uI_R, m_uI_L, m_uI_I, m_uL_K, m_uL_N, m_uL_R, m_uL_I, m_uL_L, m_uR_K, m_uR_N, m_uR_I, m_uR_L, m_uR_R, true_and, and_true, true_implies, false_implies, not_true_eq_false, not_false_eq_true, if_true, if_false, false_and, and_false]
  by_cases hv : 0 ≤ v.toInt ∧ v.toInt < dN D
  · first | rw [br_p (hv)] | rw [br_r (hv)] | rw [br_s (hv)]
    by_cases k0 : 0 ≤ r
    · first | rw [br_p (k0)] | rw [br_r (k0)] | rw [br_s (k0)]
      rw [le32, z32] at k0
      rw [if_pos ⟨hv, k0⟩] at hQ
      obtain ⟨s, s1, s2, s3⟩ := sh_of (by omega) hv
      have er : r = nI r.toInt.toNat := i32_of (by omega) (by have := Int32.toInt_lt r; omega)
      rw [s3] at hQ
      rw [s2]
      refine x_kindsOf hD h s1 (d + 12) _ (fun M1 f1 X1 => ?_)
      have h0 := hQ M1 f1 X1
      have h9 := l_x_tale (d + 20) s r.toInt.toNat D M1 Q (nI s) r (by have := Int32.toInt_lt r; omega) (fun x hx => by rw [the_e taQ_1 hx] at h0; exact h0) 5 0 (by omega) r.toInt.toNat (by simp [cnt])
      rw [← er] at h9
      simp +decide only [qX10_tale, am_w1_i, am_w1_r, am_w1_x, am_w1_l, am_w1_w, va_rf_s, am_push_n, am_push_s, am_cs_0, am_cs_i, am_cs_l, am_cs_r, m_uI_K, m_uI_N, m_uI_R, m_uI_L, m_uI_I, m_uL_K, m_uL_N, m_uL_R, m_uL_I, m_uL_L, m_uR_K, m_uR_N, m_uR_I, m_uR_L, m_uR_R, true_and, and_true, true_implies, false_implies, not_true_eq_false, not_false_eq_true, if_true, if_false, false_and, and_false]
      exact h9
    · have h0 := hQ M (XR_2 h) h
      rw [if_neg (fun q => k0 (by rw [le32, z32]; exact q.2))] at h0
      first | rw [br_n (k0)] | rw [br_q (k0)] | rw [br_u (k0)]
      exact h0
  · have h0 := hQ M (XR_2 h) h
    rw [if_neg (fun q => hv q.1)] at h0
    first | rw [br_n (hv)] | rw [br_q (hv)] | rw [br_u (hv)]
    exact h0
theorem l_m_taleOf (d b s r : Nat) (D : Dat) (M0 : am_M) (Q : Option Value → am_M → Prop) (x2 : Int32) (hD : dOK D) (hL0 : Lay M0) (h0' : MdM M0 b D) (hs : s < dN D) (hr : r < 2147483648) (hQ : ∀ x M', taQ D s r x → gF sMq nT M0 M' → Q (some (.int x)) M') :
    ∀ (m k : Nat), k + m = 5 → ∀ (l : Nat) (M : am_M), gF sMq nT M0 M → cnt (fun k => dB (kdP D s k)) k + l = r → am_P am_P0 (d + 10) (am_look tX11_taleOf) 5 [.ref 277, .int (nI s), .int x2, .int (nI l), .int (nI k)] [] M Q := by
  intro m
  induction m with
  | zero =>
    intro k hk l M hM hl
    have ek : k = 5 := by omega
    subst ek
    have h0 := hQ (-1) M (Or.inr ⟨fun p hp hm => by have := cnt_in (g := fun k => dB (kdP D s k)) hp (dB_t.mpr hm); omega, rfl⟩) hM
    rw [hX11_taleOf_5]
    simp +decide only [qX11_taleOf, show nI 5 = (5 : Int32) from rfl, am_w1_i, am_w1_r, am_w1_x, am_w1_l, am_w1_w, va_rf_s, am_push_n, am_push_s, am_cs_0, am_cs_i, am_cs_l, am_cs_r, m_uI_K, m_uI_N, m_uI_R, m_uI_L, m_uI_I, m_uL_K, m_uL_N, m_uL_R, m_uL_I, m_uL_L, m_uR_K, m_uR_N, m_uR_I, m_uR_L, m_uR_R, true_and, and_true, true_implies, false_implies, not_true_eq_false, not_false_eq_true, if_true, if_false, false_and, and_false]
    exact h0
  | succ m ih =>
    intro k hk l M hM hl
    have hL := gF_LayN hM hL0
    have h := MdM_q h0' hM
    have hlt : ¬ (4 : Int32) < nI k := by rw [show (4 : Int32) = nI 4 from rfl, ni_lt (by omega) (by omega)]; omega
    have hl0 : ¬ nI l < 0 := by rw [lt32, z32, ni_ti (by omega)]; omega
    rw [hX11_taleOf_5]
    simp +decide only [qX11_taleOf, lm hL, am_w1_i, am_w1_r, am_w1_x, am_w1_l, am_w1_w, va_rf_s, am_push_n, am_push_s, am_cs_0, am_cs_i, am_cs_l, am_cs_r, m_uI_K, m_uI_N, m_uI_R, m_uI_L, m_uI_I, m_uL_K, m_uL_N, m_uL_R, m_uL_I, m_uL_L, m_uR_K, m_uR_N, m_uR_I, m_uR_L, m_uR_R, true_and, and_true, true_implies, false_implies, not_true_eq_false, not_false_eq_true, if_true, if_false, false_and, and_false]
    first | rw [br_n (hlt)] | rw [br_q (hlt)] | rw [br_u (hlt)]
    first | rw [br_n (hl0)] | rw [br_q (hl0)] | rw [br_u (hl0)]
    refine m_isKind hD hL h hs (by omega) d _ (fun M1 g1 => ?_)
    simp +decide only [qX11_taleOf, tI_0, Classical.not_not, am_w1_i, am_w1_r, am_w1_x, am_w1_l, am_w1_w, va_rf_s, am_push_n, am_push_s, am_cs_0, am_cs_i, am_cs_l, am_cs_r, m_uI_K, m_uI_N, m_uI_R, m_uI_L, m_uI_I, m_uL_K, m_uL_N, m_uL_R, m_uL_I, m_uL_L, m_uR_K, m_uR_N, m_uR_I, m_uR_L, m_uR_R, true_and, and_true, true_implies, false_implies, not_true_eq_false, not_false_eq_true, if_true, if_false, false_and, and_false]
    by_cases c : kdP D s k
    · first | rw [br_p (c)] | rw [br_r (c)] | rw [br_s (c)]
      by_cases l0 : l = 0
      · subst l0
        have h0 := hQ _ M1 (Or.inl ⟨k, by omega, c, by omega, rfl⟩) (gF_trans hM g1)
        simp +decide only [show nI 0 = (0 : Int32) from rfl, qX11_taleOf, am_w1_i, am_w1_r, am_w1_x, am_w1_l, am_w1_w, va_rf_s, am_push_n, am_push_s, am_cs_0, am_cs_i, am_cs_l, am_cs_r, m_uI_K, m_uI_N, m_uI_R, m_uI_L, m_uI_I, m_uL_K, m_uL_N, m_uL_R, m_uL_I, m_uL_L, m_uR_K, m_uR_N, m_uR_I, m_uR_L, m_uR_R, true_and, and_true, true_implies, false_implies, not_true_eq_false, not_false_eq_true, if_true, if_false, false_and, and_false]
        exact h0
      · obtain ⟨l', rfl⟩ : ∃ l', l = l' + 1 := ⟨l - 1, by omega⟩
        have hne : ¬ nI (l' + 1) = 0 := by rw [show (0 : Int32) = nI 0 from rfl, ni_eq (by omega) (by omega)]; omega
        have h0 := ih (k + 1) (by omega) l' M1 (gF_trans hM g1) (by rw [cnt_t (dB_t.mpr c)]; omega)
        first | rw [br_n (hne)] | rw [br_q (hne)] | rw [br_u (hne)]
        simp +decide only [qX11_taleOf, ni_dec, ni_add1, am_w1_i, am_w1_r, am_w1_x, am_w1_l, am_w1_w, va_rf_s, am_push_n, am_push_s, am_cs_0, am_cs_i, am_cs_l, am_cs_r, m_uI_K, m_uI_N, m_uI_R, m_uI_L, m_uI_I, m_uL_K, m_uL_N, m_uL_R, m_uL_I, m_uL_L, m_uR_K, m_uR_N, m_uR_I, m_uR_L, m_uR_R, true_and, and_true, true_implies, false_implies, not_true_eq_false, not_false_eq_true, if_true, if_false, false_and, and_false]
        exact h0
    · have h0 := ih (k + 1) (by omega) l M1 (gF_trans hM g1) (by rw [cnt_f (fun w => c (dB_t.mp w))]; exact hl)
      first | rw [br_n (c)] | rw [br_q (c)] | rw [br_u (c)]
      simp +decide only [qX11_taleOf, ni_add1, am_w1_i, am_w1_r, am_w1_x, am_w1_l, am_w1_w, va_rf_s, am_push_n, am_push_s, am_cs_0, am_cs_i, am_cs_l, am_cs_r, m_uI_K, m_uI_N, m_uI_R, m_uI_L, m_uI_I, m_uL_K, m_uL_N, m_uL_R, m_uL_I, m_uL_L, m_uR_K, m_uR_N, m_uR_I, m_uR_L, m_uR_R, true_and, and_true, true_implies, false_implies, not_true_eq_false, not_false_eq_true, if_true, if_false, false_and, and_false]
      exact h0
theorem m_taleOf {M : am_M} {b s r : Nat} {D : Dat} (hD : dOK D) (hL : Lay M) (h : MdM M b D) (hs : s < dN D) (hr : r < 2147483648) (d : Nat) (Q : Option Value → am_M → Prop) (hQ : ∀ M', gF sMq nT M M' → Q (some (.int (theI (taQ D s r)))) M') : am_E am_P0 (d + 10) 267 [.ref 277, .int (nI s), .int (nI r)] M Q := by
  have h0 := l_m_taleOf d b s r D M Q (nI r) hD hL h hs hr (fun x M' hx g' => by have := hQ M' g'; rw [the_e taQ_1 hx] at this; exact this) 5 0 (by omega) r M (gF_refl _ _ _) (by simp [cnt])
  rw [eX11_taleOf]
  simp +decide only [qX11_taleOf, am_w1_i, am_w1_r, am_w1_x, am_w1_l, am_w1_w, va_rf_s, am_push_n, am_push_s, am_cs_0, am_cs_i, am_cs_l, am_cs_r, m_uI_K, m_uI_N, m_uI_R, m_uI_L, m_uI_I, m_uL_K, m_uL_N, m_uL_R, m_uL_I, m_uL_L, m_uR_K, m_uR_N, m_uR_I, m_uR_L, m_uR_R, true_and, and_true, true_implies, false_implies, not_true_eq_false, not_false_eq_true, if_true, if_false, false_and, and_false]
  exact h0
theorem m_tale (v r : Int32) : MqO 268 [.int v, .int r] (aTal v r) := by
  intro d M b D Q hD hL h hQ
  have n8 := dN_8 hD
  have eS := fun v Q => m_isShip hD hL h (d + 18) v Q
  unfold aTal at hQ
  rw [eX11_tale]
  simp +decide only [qX11_tale, lm hL, eS, bI_0, Classical.not_not, am_w1_i, am_w1_r, am_w1_x, am_w1_l, am_w1_w, va_rf_s, am_push_n, am_push_s, am_cs_0, am_cs_i, am_cs_l, am_cs_r, m_uI_K, m_uI_N, m_uI_R, m_uI_L, m_uI_I, m_uL_K, m_uL_N, m_uL_R, m_uL_I, m_uL_L, m_uR_K, m_uR_N, m_uR_I, m_uR_L, m_uR_R, true_and, and_true, true_implies, false_implies, not_true_eq_false, not_false_eq_true, if_true, if_false, false_and, and_false]
  by_cases hv : 0 ≤ v.toInt ∧ v.toInt < dN D
  · first | rw [br_p (hv)] | rw [br_r (hv)] | rw [br_s (hv)]
    obtain ⟨s, s1, s2, s3⟩ := sh_of (by omega) hv
    rw [s3] at hQ
    rw [s2]
    by_cases k0 : 0 ≤ r.toInt
    · rw [if_pos ⟨hv, k0⟩] at hQ
      have er : r = nI r.toInt.toNat := i32_of (by omega) (by have := Int32.toInt_lt r; omega)
      rw [er]
      refine m_taleOf hD hL h s1 (by have := Int32.toInt_lt r; omega) (d + 9) _ (fun M1 g1 => ?_)
      have h0 := hQ M1 g1
      simp +decide only [qX11_tale, am_w1_i, am_w1_r, am_w1_x, am_w1_l, am_w1_w, va_rf_s, am_push_n, am_push_s, am_cs_0, am_cs_i, am_cs_l, am_cs_r, m_uI_K, m_uI_N, m_uI_R, m_uI_L, m_uI_I, m_uL_K, m_uL_N, m_uL_R, m_uL_I, m_uL_L, m_uR_K, m_uR_N, m_uR_I, m_uR_L, m_uR_R, true_and, and_true, true_implies, false_implies, not_true_eq_false, not_false_eq_true, if_true, if_false, false_and, and_false]
      exact h0
    · have h0 := hQ M (gF_refl _ _ _)
      rw [if_neg (fun q => k0 q.2)] at h0
      have kl : r < 0 := by rw [lt32, z32]; omega
      rw [eX11_taleOf]
      simp +decide only [qX11_taleOf, am_w1_i, am_w1_r, am_w1_x, am_w1_l, am_w1_w, va_rf_s, am_push_n, am_push_s, am_cs_0, am_cs_i, am_cs_l, am_cs_r, m_uI_K, m_uI_N, m_uI_R, m_uI_L, m_uI_I, m_uL_K, m_uL_N, m_uL_R, m_uL_I, m_uL_L, m_uR_K, m_uR_N, m_uR_I, m_uR_L, m_uR_R, true_and, and_true, true_implies, false_implies, not_true_eq_false, not_false_eq_true, if_true, if_false, false_and, and_false]
      rw [hX11_taleOf_5]
      simp +decide only [qX11_taleOf, am_w1_i, am_w1_r, am_w1_x, am_w1_l, am_w1_w, va_rf_s, am_push_n, am_push_s, am_cs_0, am_cs_i, am_cs_l, am_cs_r, m_uI_K, m_uI_N, m_uI_R, m_uI_L, m_uI_I, m_uL_K, m_uL_N, m_uL_R, m_uL_I, m_uL_L, m_uR_K, m_uR_N, m_uR_I, m_uR_L, m_uR_R, true_and, and_true, true_implies, false_implies, not_true_eq_false, not_false_eq_true, if_true, if_false, false_and, and_false]
      first | rw [br_p (kl)] | rw [br_r (kl)] | rw [br_s (kl)]
      simp +decide only [qX11_tale, am_w1_i, am_w1_r, am_w1_x, am_w1_l, am_w1_w, va_rf_s, am_push_n, am_push_s, am_cs_0, am_cs_i, am_cs_l, am_cs_r, m_uI_K, m_uI_N, m_uI_R, m_uI_L, m_uI_I, m_uL_K, m_uL_N, m_uL_R, m_uL_I, m_uL_L, m_uR_K, m_uR_N, m_uR_I, m_uR_L, m_uR_R, true_and, and_true, true_implies, false_implies, not_true_eq_false, not_false_eq_true, if_true, if_false, false_and, and_false]
      exact h0
  · have h0 := hQ M (gF_refl _ _ _)
    rw [if_neg (fun q => hv q.1)] at h0
    first | rw [br_n (hv)] | rw [br_q (hv)] | rw [br_u (hv)]
    exact h0
theorem op_tale (v r : Int32) : OpI 123 268 [.int v, .int r] isI := op_q (fun D => ⟨_, rfl⟩) (x_tale v r) (m_tale v r)
/-! kinds -/
theorem l_x_plainest (d s : Nat) (D : Dat) (M : am_M) (Q : Option Value → am_M → Prop) (hQ : ∀ x, taQ D s 0 x → Q (some (.int x)) M) :
    ∀ (m k : Nat), k + m = 5 → (∀ j, j < k → ¬ kdP D s j) → am_P am_P0 d (am_look tX10_plainestOf) 2 [.int (kdI D s), .int (nI k)] [] M Q := by
  intro m
  induction m with
  | zero =>
    intro k hk hb
    have ek : k = 5 := by omega
    subst ek
    have h0 := hQ (-1) (Or.inr ⟨fun p hp hm => absurd hm (hb p hp), rfl⟩)
    rw [hX10_plainestOf_2]
    simp +decide only [qX10_plainestOf, show nI 5 = (5 : Int32) from rfl, am_w1_i, am_w1_r, am_w1_x, am_w1_l, am_w1_w, va_rf_s, am_push_n, am_push_s, am_cs_0, am_cs_i, am_cs_l, am_cs_r, m_uI_K, m_uI_N, m_uI_R, m_uI_L, m_uI_I, m_uL_K, m_uL_N, m_uL_R, m_uL_I, m_uL_L, m_uR_K, m_uR_N, m_uR_I, m_uR_L, m_uR_R, true_and, and_true, true_implies, false_implies, not_true_eq_false, not_false_eq_true, if_true, if_false, false_and, and_false]
    exact h0
  | succ m ih =>
    intro k hk hb
    have hlt : ¬ (5 : Int32) ≤ nI k := by rw [show (5 : Int32) = nI 5 from rfl, ni_le (by omega) (by omega)]; omega
    rw [hX10_plainestOf_2]
    simp +decide only [qX10_plainestOf, kd_bit (show k < 5 by omega), tI_0, ni_add1, am_w1_i, am_w1_r, am_w1_x, am_w1_l, am_w1_w, va_rf_s, am_push_n, am_push_s, am_cs_0, am_cs_i, am_cs_l, am_cs_r, m_uI_K, m_uI_N, m_uI_R, m_uI_L, m_uI_I, m_uL_K, m_uL_N, m_uL_R, m_uL_I, m_uL_L, m_uR_K, m_uR_N, m_uR_I, m_uR_L, m_uR_R, true_and, and_true, true_implies, false_implies, not_true_eq_false, not_false_eq_true, if_true, if_false, false_and, and_false]
    first | rw [br_n (hlt)] | rw [br_q (hlt)] | rw [br_u (hlt)]
    by_cases c : kdP D s k
    · have e0 : cnt (fun k => dB (kdP D s k)) k = 0 := cnt_stay (a := 0) (by omega) (fun t _ a2 q => hb t a2 (dB_t.mp q))
      have h0 := hQ _ (Or.inl ⟨k, by omega, c, e0, rfl⟩)
      first | rw [br_p (c)] | rw [br_r (c)] | rw [br_s (c)]
      exact h0
    · first | rw [br_n (c)] | rw [br_q (c)] | rw [br_u (c)]
      exact ih (k + 1) (by omega) (fun j hj => by
        by_cases e : j = k
        · subst e; exact c
        · exact hb j (by omega))
theorem x_plainest (d s : Nat) (D : Dat) (M : am_M) (Q : Option Value → am_M → Prop) : am_E am_P0 d 157 [.int (kdI D s)] M Q ↔ Q (some (.int (theI (taQ D s 0)))) M := by
  have key : ∃ x, taQ D s 0 x := by
    by_cases c : ∃ k, k < 5 ∧ kdP D s k ∧ cnt (fun k => dB (kdP D s k)) k = 0
    · obtain ⟨k, k1, k2, k3⟩ := c
      exact ⟨nI k, Or.inl ⟨k, k1, k2, k3, rfl⟩⟩
    · exact ⟨-1, Or.inr ⟨fun k k1 k2 k3 => c ⟨k, k1, k2, k3⟩, rfl⟩⟩
  obtain ⟨x, hx⟩ := key
  rw [the_e taQ_1 hx]
  refine am_Edet (d := d) ?_ d (Nat.le_refl _)
  have h0 := l_x_plainest d s D M (fun r' M' => r' = some (.int x) ∧ M' = M) (fun y hy => ⟨by rw [taQ_1 y x hy hx], rfl⟩) 5 0 (by omega) (fun j hj => by omega)
  rw [eX10_plainestOf]
  simp +decide only [qX10_plainestOf, am_w1_i, am_w1_r, am_w1_x, am_w1_l, am_w1_w, va_rf_s, am_push_n, am_push_s, am_cs_0, am_cs_i, am_cs_l, am_cs_r, m_uI_K, m_uI_N, m_uI_R, m_uI_L, m_uI_I, m_uL_K, m_uL_N, m_uL_R, m_uL_I, m_uL_L, m_uR_K, m_uR_N, m_uR_I, m_uR_L, m_uR_R, true_and, and_true, true_implies, false_implies, not_true_eq_false, not_false_eq_true, if_true, if_false, false_and, and_false]
  exact h0
noncomputable def kiN (D : Dat) (k : Int32) : Nat → Nat := cnt (fun s => dB (0 < (dY D s).length ∧ theI (taQ D s 0) = k))
noncomputable def aKin (k : Int32) (D : Dat) : Value := .int (if -1 ≤ k.toInt ∧ k.toInt < 5 then nI (kiN D k (dN D)) else -1)
theorem l_x_kinds (d z : Nat) (k : Int32) (D : Dat) (M0 : am_M) (Q : Option Value → am_M → Prop) (hD : dOK D) (hQ : ∀ M', zF (sXq z) M0 M' → XR M' z D → Q (some (.int (nI (kiN D k (dN D))))) M') :
    ∀ (m s : Nat), s + m = dN D → ∀ (M : am_M), zF (sXq z) M0 M → XR M z D → am_P am_P0 (d + 8) (am_look tX10_kinds) 16 [.ref 0, .int k, .int (nI (kiN D k s)), .int (nI s)] [] M Q := by
  have n8 := dN_8 hD
  intro m
  induction m with
  | zero =>
    intro s hs M hM h
    have hz := h.1.2.2.1
    have hL := h.1.1
    have hr := h.1.2.2.2.1
    have hle : nI (dN D) ≤ nI s := (ni_le (by omega) (by omega)).mpr (by omega)
    have h0 := hQ M hM h
    rw [hX10_kinds_16]
    simp +decide only [qX10_kinds, lx hL, lz hL hz, hr, (x_n h).1, am_w1_i, am_w1_r, am_w1_x, am_w1_l, am_w1_w, va_rf_s, am_push_n, am_push_s, am_cs_0, am_cs_i, am_cs_l, am_cs_r, m_uI_K, m_uI_N, m_uI_R, m_uI_L, m_uI_I, m_uL_K, m_uL_N, m_uL_R, m_uL_I, m_uL_L, m_uR_K, m_uR_N, m_uR_I, m_uR_L, m_uR_R, true_and, and_true, true_implies, false_implies, not_true_eq_false, not_false_eq_true, if_true, if_false, false_and, and_false]
    first | rw [br_p (hle)] | rw [br_r (hle)] | rw [br_s (hle)]
    rw [show s = dN D by omega]
    exact h0
  | succ m ih =>
    intro s hs M hM h
    have hz := h.1.2.2.1
    have hL := h.1.1
    have hr := h.1.2.2.2.1
    have hlt : ¬ nI (dN D) ≤ nI s := by rw [ni_le (by omega) (by omega)]; omega
    have h48 := dY_len hD s
    have hsh := lsh hL hz (s := s) (by omega)
    have hw_ := lw_ hL (isSh_z (z := z) (s := s) hz (by omega))
    have hc := (x_ship h (s := s) (by omega)).2.1.1
    rw [hX10_kinds_16]
    simp +decide (disch := omega) only [qX10_kinds, lx hL, lz hL hz, hr, (x_n h).1, hsh, hw_, hc, ni_in_t, ni_tn, ni_add1, am_w1_i, am_w1_r, am_w1_x, am_w1_l, am_w1_w, va_rf_s, am_push_n, am_push_s, am_cs_0, am_cs_i, am_cs_l, am_cs_r, m_uI_K, m_uI_N, m_uI_R, m_uI_L, m_uI_I, m_uL_K, m_uL_N, m_uL_R, m_uL_I, m_uL_L, m_uR_K, m_uR_N, m_uR_I, m_uR_L, m_uR_R, true_and, and_true, true_implies, false_implies, not_true_eq_false, not_false_eq_true, if_true, if_false, false_and, and_false]
    first | rw [br_n (hlt)] | rw [br_q (hlt)] | rw [br_u (hlt)]
    rw [ni_pos (by omega)]
    by_cases l0 : (dY D s).length = 0
    · have h0 := ih (s + 1) (by omega) M hM h
      rw [show kiN D k (s + 1) = kiN D k s from cnt_f (fun q => by have := (dB_t.mp q).1; omega)] at h0
      first | rw [br_p (l0)] | rw [br_r (l0)] | rw [br_s (l0)]
      exact h0
    · first | rw [br_n (l0)] | rw [br_q (l0)] | rw [br_u (l0)]
      refine x_kindsOf hD h (by omega) d _ (fun M1 f1 X1 => ?_)
      have ep := fun Q => x_plainest (d + 7) s D M1 Q
      have h0 := ih (s + 1) (by omega) M1 (zF_trans hM f1) X1
      simp +decide only [qX10_kinds, ep, ni_add1, Classical.not_not, am_w1_i, am_w1_r, am_w1_x, am_w1_l, am_w1_w, va_rf_s, am_push_n, am_push_s, am_cs_0, am_cs_i, am_cs_l, am_cs_r, m_uI_K, m_uI_N, m_uI_R, m_uI_L, m_uI_I, m_uL_K, m_uL_N, m_uL_R, m_uL_I, m_uL_L, m_uR_K, m_uR_N, m_uR_I, m_uR_L, m_uR_R, true_and, and_true, true_implies, false_implies, not_true_eq_false, not_false_eq_true, if_true, if_false, false_and, and_false]
      by_cases c : theI (taQ D s 0) = k
      · rw [show kiN D k (s + 1) = kiN D k s + 1 from cnt_t (dB_t.mpr ⟨by omega, c⟩)] at h0
        first | rw [br_p (c)] | rw [br_r (c)] | rw [br_s (c)]
        exact h0
      · rw [show kiN D k (s + 1) = kiN D k s from cnt_f (fun q => c (dB_t.mp q).2)] at h0
        first | rw [br_n (c)] | rw [br_q (c)] | rw [br_u (c)]
        exact h0
theorem x_kinds (k : Int32) : XqO 128 [.int k] (aKin k) := by
  intro d M z D Q hD h hQ
  have hL := h.1.1
  have e5 : (5 : Int32).toInt = 5 := rfl
  have em1 : (-1 : Int32).toInt = -1 := rfl
  unfold aKin at hQ
  rw [eX10_kinds]
  simp +decide only [qX10_kinds, Classical.not_not, am_w1_i, am_w1_r, am_w1_x, am_w1_l, am_w1_w, va_rf_s, am_push_n, am_push_s, am_cs_0, am_cs_i, am_cs_l, am_cs_r, m_uI_K, m_uI_N, m_uI_R, m_uI_L, m_uI_I, m_uL_K, m_uL_N, m_uL_R, m_uL_I, m_uL_L, m_uR_K, m_uR_N, m_uR_I, m_uR_L, m_uR_R, true_and, and_true, true_implies, false_implies, not_true_eq_false, not_false_eq_true, if_true, if_false, false_and, and_false]
  by_cases k0 : k < -1
  · have h0 := hQ M (XR_2 h) h
    rw [if_neg (fun q => by rw [lt32, em1] at k0; omega)] at h0
    first | rw [br_p (k0)] | rw [br_r (k0)] | rw [br_s (k0)]
    exact h0
  · first | rw [br_n (k0)] | rw [br_q (k0)] | rw [br_u (k0)]
    rw [lt32, em1] at k0
    by_cases k5 : k < 5
    · first | rw [br_p (k5)] | rw [br_r (k5)] | rw [br_s (k5)]
      rw [lt32, e5] at k5
      rw [if_pos ⟨by omega, by omega⟩] at hQ
      exact l_x_kinds (d + 12) z k D M Q hD hQ (dN D) 0 (by omega) M (XR_2 h) h
    · have h0 := hQ M (XR_2 h) h
      rw [if_neg (fun q => k5 (by rw [lt32, e5]; omega))] at h0
      first | rw [br_n (k5)] | rw [br_q (k5)] | rw [br_u (k5)]
      exact h0
theorem l_m_kinds (d b : Nat) (k : Int32) (D : Dat) (M0 : am_M) (Q : Option Value → am_M → Prop) (hD : dOK D) (hL0 : Lay M0) (h0' : MdM M0 b D) (hQ : ∀ M', gF sMq nT M0 M' → Q (some (.int (nI (kiN D k (dN D))))) M') :
    ∀ (m s : Nat), s + m = dN D → ∀ (M : am_M), gF sMq nT M0 M → am_P am_P0 (d + 11) (am_look tX11_kinds) 15 [.ref 277, .int k, .int (nI (kiN D k s)), .int (nI s)] [] M Q := by
  have n8 := dN_8 hD
  intro m
  induction m with
  | zero =>
    intro s hs M hM
    have hL := gF_LayN hM hL0
    have h := MdM_q h0' hM
    have hb2 := h.1.2
    have hle : nI (dN D) ≤ nI s := (ni_le (by omega) (by omega)).mpr (by omega)
    have h0 := hQ M hM
    rw [hX11_kinds_15]
    simp +decide (disch := omega) only [qX11_kinds, lm hL, h.1.1, h.2.2.2.1.1, ni_in_t, ni_tn, am_w1_i, am_w1_r, am_w1_x, am_w1_l, am_w1_w, va_rf_s, am_push_n, am_push_s, am_cs_0, am_cs_i, am_cs_l, am_cs_r, m_uI_K, m_uI_N, m_uI_R, m_uI_L, m_uI_I, m_uL_K, m_uL_N, m_uL_R, m_uL_I, m_uL_L, m_uR_K, m_uR_N, m_uR_I, m_uR_L, m_uR_R, true_and, and_true, true_implies, false_implies, not_true_eq_false, not_false_eq_true, if_true, if_false, false_and, and_false]
    first | rw [br_p (hle)] | rw [br_r (hle)] | rw [br_s (hle)]
    rw [show s = dN D by omega]
    exact h0
  | succ m ih =>
    intro s hs M hM
    have hL := gF_LayN hM hL0
    have h := MdM_q h0' hM
    have hb2 := h.1.2
    have hlt : ¬ nI (dN D) ≤ nI s := by rw [ni_le (by omega) (by omega)]; omega
    have h48 := dY_len hD s
    have hsay := fun Q => m_sayN hD hL h (s := s) (by omega) (d + 9) Q
    rw [hX11_kinds_15]
    simp +decide (disch := omega) only [qX11_kinds, lm hL, h.1.1, h.2.2.2.1.1, hsay, ni_in_t, ni_tn, ni_add1, am_w1_i, am_w1_r, am_w1_x, am_w1_l, am_w1_w, va_rf_s, am_push_n, am_push_s, am_cs_0, am_cs_i, am_cs_l, am_cs_r, m_uI_K, m_uI_N, m_uI_R, m_uI_L, m_uI_I, m_uL_K, m_uL_N, m_uL_R, m_uL_I, m_uL_L, m_uR_K, m_uR_N, m_uR_I, m_uR_L, m_uR_R, true_and, and_true, true_implies, false_implies, not_true_eq_false, not_false_eq_true, if_true, if_false, false_and, and_false]
    first | rw [br_n (hlt)] | rw [br_q (hlt)] | rw [br_u (hlt)]
    rw [ni_pos (by omega)]
    by_cases l0 : (dY D s).length = 0
    · have h0 := ih (s + 1) (by omega) M hM
      rw [show kiN D k (s + 1) = kiN D k s from cnt_f (fun q => by have := (dB_t.mp q).1; omega)] at h0
      first | rw [br_p (l0)] | rw [br_r (l0)] | rw [br_s (l0)]
      rw [show (0 : Int32) = nI 0 from rfl, ni_add]
      exact h0
    · first | rw [br_n (l0)] | rw [br_q (l0)] | rw [br_u (l0)]
      rw [show (0 : Int32) = nI 0 from rfl]
      refine m_taleOf hD hL h (by omega) (by omega) d _ (fun M1 g1 => ?_)
      have h0 := ih (s + 1) (by omega) M1 (gF_trans hM g1)
      simp +decide only [qX11_kinds, ni_add1, Classical.not_not, am_w1_i, am_w1_r, am_w1_x, am_w1_l, am_w1_w, va_rf_s, am_push_n, am_push_s, am_cs_0, am_cs_i, am_cs_l, am_cs_r, m_uI_K, m_uI_N, m_uI_R, m_uI_L, m_uI_I, m_uL_K, m_uL_N, m_uL_R, m_uL_I, m_uL_L, m_uR_K, m_uR_N, m_uR_I, m_uR_L, m_uR_R, true_and, and_true, true_implies, false_implies, not_true_eq_false, not_false_eq_true, if_true, if_false, false_and, and_false]
      by_cases c : theI (taQ D s 0) = k
      · rw [show kiN D k (s + 1) = kiN D k s + 1 from cnt_t (dB_t.mpr ⟨by omega, c⟩)] at h0
        first | rw [br_p (c)] | rw [br_r (c)] | rw [br_s (c)]
        exact h0
      · rw [show kiN D k (s + 1) = kiN D k s from cnt_f (fun q => c (dB_t.mp q).2)] at h0
        first | rw [br_n (c)] | rw [br_q (c)] | rw [br_u (c)]
        rw [show (0 : Int32) = nI 0 from rfl, ni_add]
        exact h0
theorem m_kinds (k : Int32) : MqO 274 [.int k] (aKin k) := by
  intro d M b D Q hD hL h hQ
  have e4 : (4 : Int32).toInt = 4 := rfl
  have em1 : (-1 : Int32).toInt = -1 := rfl
  unfold aKin at hQ
  rw [eX11_kinds]
  simp +decide only [qX11_kinds, c_m_is, bI_0, Classical.not_not, am_w1_i, am_w1_r, am_w1_x, am_w1_l, am_w1_w, va_rf_s, am_push_n, am_push_s, am_cs_0, am_cs_i, am_cs_l, am_cs_r, m_uI_K, m_uI_N, m_uI_R, m_uI_L, m_uI_I, m_uL_K, m_uL_N, m_uL_R, m_uL_I, m_uL_L, m_uR_K, m_uR_N, m_uR_I, m_uR_L, m_uR_R, true_and, and_true, true_implies, false_implies, not_true_eq_false, not_false_eq_true, if_true, if_false, false_and, and_false]
  by_cases k5 : -1 ≤ k ∧ k ≤ 4
  · first | rw [br_p (k5)] | rw [br_r (k5)] | rw [br_s (k5)]
    rw [le32, le32, em1, e4] at k5
    rw [if_pos ⟨by omega, by omega⟩] at hQ
    exact l_m_kinds (d + 9) b k D M Q hD hL h hQ (dN D) 0 (by omega) M (gF_refl _ _ _)
  · have h0 := hQ M (gF_refl _ _ _)
    rw [if_neg (fun q => k5 (by rw [le32, le32, em1, e4]; omega))] at h0
    first | rw [br_n (k5)] | rw [br_q (k5)] | rw [br_u (k5)]
    exact h0
theorem op_kinds (k : Int32) : OpI 128 274 [.int k] isI := op_q (fun D => ⟨_, rfl⟩) (x_kinds k) (m_kinds k)
/-! lies -/
noncomputable def liN (D : Dat) (s : Nat) : Nat := (dY D s).length - kcY (dWt D s) (dV D s) (dSn D s) (dBs D s) (dY D s)
noncomputable def aLie (D : Dat) : Value := .int (nI (sumF (liN D) (dN D)))
theorem l_x_lies (d z : Nat) (D : Dat) (M0 : am_M) (Q : Option Value → am_M → Prop) (hD : dOK D) (hQ : ∀ M', zF (sXq z) M0 M' → XR M' z D → Q (some (.int (nI (sumF (liN D) (dN D))))) M') :
    ∀ (m s : Nat), s + m = dN D → ∀ (M : am_M), zF (sXq z) M0 M → XR M z D → am_P am_P0 (d + 6) (am_look tX10_lies) 4 [.ref 0, .int (nI (sumF (liN D) s)), .int (nI s)] [] M Q := by
  have n8 := dN_8 hD
  intro m
  induction m with
  | zero =>
    intro s hs M hM h
    have hz := h.1.2.2.1
    have hL := h.1.1
    have hr := h.1.2.2.2.1
    have hle : nI (dN D) ≤ nI s := (ni_le (by omega) (by omega)).mpr (by omega)
    have h0 := hQ M hM h
    rw [hX10_lies_4]
    simp +decide only [qX10_lies, lx hL, lz hL hz, hr, (x_n h).1, am_w1_i, am_w1_r, am_w1_x, am_w1_l, am_w1_w, va_rf_s, am_push_n, am_push_s, am_cs_0, am_cs_i, am_cs_l, am_cs_r, m_uI_K, m_uI_N, m_uI_R, m_uI_L, m_uI_I, m_uL_K, m_uL_N, m_uL_R, m_uL_I, m_uL_L, m_uR_K, m_uR_N, m_uR_I, m_uR_L, m_uR_R, true_and, and_true, true_implies, false_implies, not_true_eq_false, not_false_eq_true, if_true, if_false, false_and, and_false]
    first | rw [br_p (hle)] | rw [br_r (hle)] | rw [br_s (hle)]
    rw [show s = dN D by omega]
    exact h0
  | succ m ih =>
    intro s hs M hM h
    have hz := h.1.2.2.1
    have hL := h.1.1
    have hr := h.1.2.2.2.1
    have hlt : ¬ nI (dN D) ≤ nI s := by rw [ni_le (by omega) (by omega)]; omega
    have hsh := lsh hL hz (s := s) (by omega)
    have hw_ := lw_ hL (isSh_z (z := z) (s := s) hz (by omega))
    have hc := (x_ship h (s := s) (by omega)).2.1.1
    rw [hX10_lies_4]
    simp +decide (disch := omega) only [qX10_lies, lx hL, lz hL hz, hr, (x_n h).1, hsh, hw_, hc, ni_in_t, ni_tn, am_w1_i, am_w1_r, am_w1_x, am_w1_l, am_w1_w, va_rf_s, am_push_n, am_push_s, am_cs_0, am_cs_i, am_cs_l, am_cs_r, m_uI_K, m_uI_N, m_uI_R, m_uI_L, m_uI_I, m_uL_K, m_uL_N, m_uL_R, m_uL_I, m_uL_L, m_uR_K, m_uR_N, m_uR_I, m_uR_L, m_uR_R, true_and, and_true, true_implies, false_implies, not_true_eq_false, not_false_eq_true, if_true, if_false, false_and, and_false]
    first | rw [br_n (hlt)] | rw [br_q (hlt)] | rw [br_u (hlt)]
    refine x_settled hD h d (by omega) _ (fun M1 f1 X1 _ S1 => ?_)
    have h0 := ih (s + 1) (by omega) M1 (zF_trans hM f1) X1
    have ht := lt_ X1.1.1 (isTr_of (show s < 8 by omega))
    simp +decide only [qX10_lies, ht, S1.2.2.1, ni_sub kc_le, ni_add, ni_add1, am_w1_i, am_w1_r, am_w1_x, am_w1_l, am_w1_w, va_rf_s, am_push_n, am_push_s, am_cs_0, am_cs_i, am_cs_l, am_cs_r, m_uI_K, m_uI_N, m_uI_R, m_uI_L, m_uI_I, m_uL_K, m_uL_N, m_uL_R, m_uL_I, m_uL_L, m_uR_K, m_uR_N, m_uR_I, m_uR_L, m_uR_R, true_and, and_true, true_implies, false_implies, not_true_eq_false, not_false_eq_true, if_true, if_false, false_and, and_false]
    exact h0
theorem x_lies : XqO 129 [] aLie := by
  intro d M z D Q hD h hQ
  have h0 := l_x_lies (d + 14) z D M Q hD hQ (dN D) 0 (by omega) M (XR_2 h) h
  rw [eX10_lies]
  simp +decide only [qX10_lies, am_w1_i, am_w1_r, am_w1_x, am_w1_l, am_w1_w, va_rf_s, am_push_n, am_push_s, am_cs_0, am_cs_i, am_cs_l, am_cs_r, m_uI_K, m_uI_N, m_uI_R, m_uI_L, m_uI_I, m_uL_K, m_uL_N, m_uL_R, m_uL_I, m_uL_L, m_uR_K, m_uR_N, m_uR_I, m_uR_L, m_uR_R, true_and, and_true, true_implies, false_implies, not_true_eq_false, not_false_eq_true, if_true, if_false, false_and, and_false]
  exact h0
theorem m_liesOf {M : am_M} {b s : Nat} {D : Dat} (hD : dOK D) (hL : Lay M) (h : MdM M b D) (hs : s < dN D) (d : Nat) (Q : Option Value → am_M → Prop) (hQ : ∀ M', gF sMq nT M M' → Q (some (.int (nI (liN D s)))) M') : am_E am_P0 (d + 7) 275 [.ref 277, .int (nI s)] M Q := by
  rw [eX11_liesOf]
  simp +decide only [qX11_liesOf, lm hL, am_w1_i, am_w1_r, am_w1_x, am_w1_l, am_w1_w, va_rf_s, am_push_n, am_push_s, am_cs_0, am_cs_i, am_cs_l, am_cs_r, m_uI_K, m_uI_N, m_uI_R, m_uI_L, m_uI_I, m_uL_K, m_uL_N, m_uL_R, m_uL_I, m_uL_L, m_uR_K, m_uR_N, m_uR_I, m_uR_L, m_uR_R, true_and, and_true, true_implies, false_implies, not_true_eq_false, not_false_eq_true, if_true, if_false, false_and, and_false]
  refine m_keeps hD hL h hs d _ (fun M1 g1 k1 => ?_)
  have h0 := hQ M1 g1
  have L1 := gF_LayN g1 hL
  simp +decide only [qX11_liesOf, lm L1, (KpM_kc k1).1, (KpM_kc k1).2, ni_sub kc_le, am_w1_i, am_w1_r, am_w1_x, am_w1_l, am_w1_w, va_rf_s, am_push_n, am_push_s, am_cs_0, am_cs_i, am_cs_l, am_cs_r, m_uI_K, m_uI_N, m_uI_R, m_uI_L, m_uI_I, m_uL_K, m_uL_N, m_uL_R, m_uL_I, m_uL_L, m_uR_K, m_uR_N, m_uR_I, m_uR_L, m_uR_R, true_and, and_true, true_implies, false_implies, not_true_eq_false, not_false_eq_true, if_true, if_false, false_and, and_false]
  exact h0
theorem l_m_lies (d b : Nat) (D : Dat) (M0 : am_M) (Q : Option Value → am_M → Prop) (hD : dOK D) (hL0 : Lay M0) (h0' : MdM M0 b D) (hQ : ∀ M', gF sMq nT M0 M' → Q (some (.int (nI (sumF (liN D) (dN D))))) M') :
    ∀ (m s : Nat), s + m = dN D → ∀ (M : am_M), gF sMq nT M0 M → am_P am_P0 (d + 8) (am_look tX11_lies) 4 [.ref 277, .int (nI (sumF (liN D) s)), .int (nI s)] [] M Q := by
  have n8 := dN_8 hD
  intro m
  induction m with
  | zero =>
    intro s hs M hM
    have hL := gF_LayN hM hL0
    have h := MdM_q h0' hM
    have hb2 := h.1.2
    have hle : nI (dN D) ≤ nI s := (ni_le (by omega) (by omega)).mpr (by omega)
    have h0 := hQ M hM
    rw [hX11_lies_4]
    simp +decide (disch := omega) only [qX11_lies, lm hL, h.1.1, h.2.2.2.1.1, ni_in_t, ni_tn, am_w1_i, am_w1_r, am_w1_x, am_w1_l, am_w1_w, va_rf_s, am_push_n, am_push_s, am_cs_0, am_cs_i, am_cs_l, am_cs_r, m_uI_K, m_uI_N, m_uI_R, m_uI_L, m_uI_I, m_uL_K, m_uL_N, m_uL_R, m_uL_I, m_uL_L, m_uR_K, m_uR_N, m_uR_I, m_uR_L, m_uR_R, true_and, and_true, true_implies, false_implies, not_true_eq_false, not_false_eq_true, if_true, if_false, false_and, and_false]
    first | rw [br_p (hle)] | rw [br_r (hle)] | rw [br_s (hle)]
    rw [show s = dN D by omega]
    exact h0
  | succ m ih =>
    intro s hs M hM
    have hL := gF_LayN hM hL0
    have h := MdM_q h0' hM
    have hb2 := h.1.2
    have hlt : ¬ nI (dN D) ≤ nI s := by rw [ni_le (by omega) (by omega)]; omega
    rw [hX11_lies_4]
    simp +decide (disch := omega) only [qX11_lies, lm hL, h.1.1, h.2.2.2.1.1, ni_in_t, ni_tn, am_w1_i, am_w1_r, am_w1_x, am_w1_l, am_w1_w, va_rf_s, am_push_n, am_push_s, am_cs_0, am_cs_i, am_cs_l, am_cs_r, m_uI_K, m_uI_N, m_uI_R, m_uI_L, m_uI_I, m_uL_K, m_uL_N, m_uL_R, m_uL_I, m_uL_L, m_uR_K, m_uR_N, m_uR_I, m_uR_L, m_uR_R, true_and, and_true, true_implies, false_implies, not_true_eq_false, not_false_eq_true, if_true, if_false, false_and, and_false]
    first | rw [br_n (hlt)] | rw [br_q (hlt)] | rw [br_u (hlt)]
    refine m_liesOf hD hL h (by omega) d _ (fun M1 g1 => ?_)
    have h0 := ih (s + 1) (by omega) M1 (gF_trans hM g1)
    simp +decide only [qX11_lies, ni_add, ni_add1, am_w1_i, am_w1_r, am_w1_x, am_w1_l, am_w1_w, va_rf_s, am_push_n, am_push_s, am_cs_0, am_cs_i, am_cs_l, am_cs_r, m_uI_K, m_uI_N, m_uI_R, m_uI_L, m_uI_I, m_uL_K, m_uL_N, m_uL_R, m_uL_I, m_uL_L, m_uR_K, m_uR_N, m_uR_I, m_uR_L, m_uR_R, true_and, and_true, true_implies, false_implies, not_true_eq_false, not_false_eq_true, if_true, if_false, false_and, and_false]
    exact h0
theorem m_lies : MqO 276 [] aLie := by
  intro d M b D Q hD hL h hQ
  have h0 := l_m_lies (d + 12) b D M Q hD hL h hQ (dN D) 0 (by omega) M (gF_refl _ _ _)
  rw [eX11_lies]
  simp +decide only [qX11_lies, am_w1_i, am_w1_r, am_w1_x, am_w1_l, am_w1_w, va_rf_s, am_push_n, am_push_s, am_cs_0, am_cs_i, am_cs_l, am_cs_r, m_uI_K, m_uI_N, m_uI_R, m_uI_L, m_uI_I, m_uL_K, m_uL_N, m_uL_R, m_uL_I, m_uL_L, m_uR_K, m_uR_N, m_uR_I, m_uR_L, m_uR_R, true_and, and_true, true_implies, false_implies, not_true_eq_false, not_false_eq_true, if_true, if_false, false_and, and_false]
  exact h0
theorem op_lies : OpI 129 276 [] isI := op_q (fun D => ⟨_, rfl⟩) x_lies m_lies
end
section
/-! gaps, off, whose -/
noncomputable def aGap (v w : Int32) (D : Dat) : Value := .int (if (0 ≤ v.toInt ∧ v.toInt < dN D) ∧ 0 ≤ w.toInt ∧ w.toInt ≤ 1 then (if w.toInt = 0 then nI (unN (dY D v.toInt.toNat) 48) else nI (gpD D v.toInt.toNat 48)) else -1)
theorem x_gaps (v w : Int32) : XqO 134 [.int v, .int w] (aGap v w) := by
  intro d M z D Q hD h hQ
  have hL := h.1.1
  have n8 := dN_8 hD
  have eS := fun v Q => x_isShip hD h (d + 19) v Q
  have e1 : (1 : Int32).toInt = 1 := rfl
  unfold aGap at hQ
  rw [eX10_gaps]
  simp +decide only [qX10_gaps, lx hL, eS, bI_0, Classical.not_not, am_w1_i, am_w1_r, am_w1_x, am_w1_l, am_w1_w, va_rf_s, am_push_n, am_push_s, am_cs_0, am_cs_i, am_cs_l, am_cs_r, m_uI_K, m_uI_N, m_uI_R, m_uI_L, m_uI_I, m_uL_K, m_uL_N, m_uL_R, m_uL_I, m_uL_L, m_uR_K, m_uR_N, m_uR_I, m_uR_L, m_uR_R, true_and, and_true, true_implies, false_implies, not_true_eq_false, not_false_eq_true, if_true, if_false, false_and, and_false]
  by_cases hv : 0 ≤ v.toInt ∧ v.toInt < dN D
  · first | rw [br_p (hv)] | rw [br_r (hv)] | rw [br_s (hv)]
    by_cases w0 : w < 0
    · have h0 := hQ M (XR_2 h) h
      rw [if_neg (fun q => by rw [lt32, z32] at w0; omega)] at h0
      first | rw [br_p (w0)] | rw [br_r (w0)] | rw [br_s (w0)]
      exact h0
    · first | rw [br_n (w0)] | rw [br_q (w0)] | rw [br_u (w0)]
      rw [lt32, z32] at w0
      by_cases w1 : w ≤ 1
      · first | rw [br_p (w1)] | rw [br_r (w1)] | rw [br_s (w1)]
        rw [le32, e1] at w1
        rw [if_pos ⟨hv, by omega, by omega⟩] at hQ
        obtain ⟨s, s1, s2, s3⟩ := sh_of (by omega) hv
        rw [s3] at hQ
        have htr := ltr hL (show s < 8 by omega)
        have hst := lt_ hL (isTr_of (show s < 8 by omega))
        rw [s2]
        simp +decide (disch := omega) only [qX10_gaps, lx hL, htr, hst, ni_in_t, ni_tn, am_w1_i, am_w1_r, am_w1_x, am_w1_l, am_w1_w, va_rf_s, am_push_n, am_push_s, am_cs_0, am_cs_i, am_cs_l, am_cs_r, m_uI_K, m_uI_N, m_uI_R, m_uI_L, m_uI_I, m_uL_K, m_uL_N, m_uL_R, m_uL_I, m_uL_L, m_uR_K, m_uR_N, m_uR_I, m_uR_L, m_uR_R, true_and, and_true, true_implies, false_implies, not_true_eq_false, not_false_eq_true, if_true, if_false, false_and, and_false]
        refine x_countGaps hD h s1 (d + 13) _ (fun M1 f1 X1 G1 => ?_)
        have h0 := hQ M1 f1 X1
        have ht := lt_ X1.1.1 (isTr_of (show s < 8 by omega))
        simp +decide only [qX10_gaps, ht, G1.2.2.1, G1.2.2.2, Classical.not_not, am_w1_i, am_w1_r, am_w1_x, am_w1_l, am_w1_w, va_rf_s, am_push_n, am_push_s, am_cs_0, am_cs_i, am_cs_l, am_cs_r, m_uI_K, m_uI_N, m_uI_R, m_uI_L, m_uI_I, m_uL_K, m_uL_N, m_uL_R, m_uL_I, m_uL_L, m_uR_K, m_uR_N, m_uR_I, m_uR_L, m_uR_R, true_and, and_true, true_implies, false_implies, not_true_eq_false, not_false_eq_true, if_true, if_false, false_and, and_false]
        by_cases c : w = 0
        · rw [if_pos (by rw [c]; rfl)] at h0
          first | rw [br_p (c)] | rw [br_r (c)] | rw [br_s (c)]
          exact h0
        · have nc : ¬ w.toInt = 0 := fun q => c (Int32.toInt_inj.mp q)
          rw [if_neg nc] at h0
          first | rw [br_n (c)] | rw [br_q (c)] | rw [br_u (c)]
          exact h0
      · have h0 := hQ M (XR_2 h) h
        rw [if_neg (fun q => w1 (by rw [le32, e1]; omega))] at h0
        first | rw [br_n (w1)] | rw [br_q (w1)] | rw [br_u (w1)]
        exact h0
  · have h0 := hQ M (XR_2 h) h
    rw [if_neg (fun q => hv q.1)] at h0
    first | rw [br_n (hv)] | rw [br_q (hv)] | rw [br_u (hv)]
    exact h0
theorem m_gaps (v w : Int32) : MqO 283 [.int v, .int w] (aGap v w) := by
  intro d M b D Q hD hL h hQ
  have n8 := dN_8 hD
  have eS := fun v Q => m_isShip hD hL h (d + 18) v Q
  unfold aGap at hQ
  rw [eX11_gaps]
  simp +decide only [qX11_gaps, lm hL, eS, bI_0, Classical.not_not, am_w1_i, am_w1_r, am_w1_x, am_w1_l, am_w1_w, va_rf_s, am_push_n, am_push_s, am_cs_0, am_cs_i, am_cs_l, am_cs_r, m_uI_K, m_uI_N, m_uI_R, m_uI_L, m_uI_I, m_uL_K, m_uL_N, m_uL_R, m_uL_I, m_uL_L, m_uR_K, m_uR_N, m_uR_I, m_uR_L, m_uR_R, true_and, and_true, true_implies, false_implies, not_true_eq_false, not_false_eq_true, if_true, if_false, false_and, and_false]
  by_cases hv : 0 ≤ v.toInt ∧ v.toInt < dN D
  · first | rw [br_p (hv)] | rw [br_r (hv)] | rw [br_s (hv)]
    obtain ⟨s, s1, s2, s3⟩ := sh_of (by omega) hv
    rw [s3] at hQ
    rw [s2]
    by_cases c : w = 0
    · rw [if_pos ⟨hv, by rw [c]; decide, by rw [c]; decide⟩, if_pos (by rw [c]; rfl)] at hQ
      first | rw [br_p (c)] | rw [br_r (c)] | rw [br_s (c)]
      refine m_gapsOf hD hL h s1 (d + 11) _ (fun M1 g1 k1 u1 => ?_)
      have h0 := hQ M1 g1
      have L1 := gF_LayN g1 hL
      simp +decide only [qX11_gaps, lm L1, c, u1, am_w1_i, am_w1_r, am_w1_x, am_w1_l, am_w1_w, va_rf_s, am_push_n, am_push_s, am_cs_0, am_cs_i, am_cs_l, am_cs_r, m_uI_K, m_uI_N, m_uI_R, m_uI_L, m_uI_I, m_uL_K, m_uL_N, m_uL_R, m_uL_I, m_uL_L, m_uR_K, m_uR_N, m_uR_I, m_uR_L, m_uR_R, true_and, and_true, true_implies, false_implies, not_true_eq_false, not_false_eq_true, if_true, if_false, false_and, and_false]
      exact h0
    · first | rw [br_n (c)] | rw [br_q (c)] | rw [br_u (c)]
      by_cases c1 : w = 1
      · rw [if_pos ⟨hv, by rw [c1]; decide, by rw [c1]; decide⟩, if_neg (by rw [c1]; decide)] at hQ
        first | rw [br_p (c1)] | rw [br_r (c1)] | rw [br_s (c1)]
        refine m_gapsOf hD hL h s1 (d + 11) _ (fun M1 g1 k1 u1 => ?_)
        have h0 := hQ M1 g1
        have L1 := gF_LayN g1 hL
        simp +decide only [qX11_gaps, lm L1, c1, am_w1_i, am_w1_r, am_w1_x, am_w1_l, am_w1_w, va_rf_s, am_push_n, am_push_s, am_cs_0, am_cs_i, am_cs_l, am_cs_r, m_uI_K, m_uI_N, m_uI_R, m_uI_L, m_uI_I, m_uL_K, m_uL_N, m_uL_R, m_uL_I, m_uL_L, m_uR_K, m_uR_N, m_uR_I, m_uR_L, m_uR_R, true_and, and_true, true_implies, false_implies, not_true_eq_false, not_false_eq_true, if_true, if_false, false_and, and_false]
        exact h0
      · have h0 := hQ M (gF_refl _ _ _)
        have n0 : ¬ w.toInt = 0 := fun q => c (Int32.toInt_inj.mp q)
        have n1 : ¬ w.toInt = 1 := fun q => c1 (Int32.toInt_inj.mp q)
        rw [if_neg (fun q => by omega)] at h0
        first | rw [br_n (c1)] | rw [br_q (c1)] | rw [br_u (c1)]
        exact h0
  · have h0 := hQ M (gF_refl _ _ _)
    rw [if_neg (fun q => hv q.1)] at h0
    first | rw [br_n (hv)] | rw [br_q (hv)] | rw [br_u (hv)]
    exact h0
theorem op_gaps (v w : Int32) : OpI 134 283 [.int v, .int w] isI := op_q (fun D => ⟨_, rfl⟩) (x_gaps v w) (m_gaps v w)
/-! off -/
noncomputable def ckD (D : Dat) (s : Nat) : Int32 := ckY (dWt D s) (dV D s) (dSn D s) (dBs D s) (dY D s)
noncomputable def aOff (v : Int32) (D : Dat) : Value := .int (if 0 ≤ v.toInt ∧ v.toInt < dN D then ckD D v.toInt.toNat else 100)
theorem x_clock {M : am_M} {z s : Nat} {D : Dat} (hD : dOK D) (h : XR M z D) (hs : s < dN D) (d : Nat) (Q : Option Value → am_M → Prop) (hQ : ∀ M', zF (sXq z) M M' → XR M' z D → Q (some (.int (ckD D s))) M') : am_E am_P0 (d + 6) 81 [.ref (173 + 13 * s)] M Q := by
  have hz := h.1.2.2.1
  have n8 := dN_8 hD
  refine c_x_findClock d s (z + 25 + 7 * s) z (dV D s) (dWt D s) (dDp D) (dDr D s) (dLd D s) (dBs D s) (dY D s) M Q h.1.1 h.1.2.1 (by omega) (isSh_z hz (by omega)) hz (hD.1.2.2.2.2.1 s) (h.2.2.2.1 s hs).1 (fun M1 f1 => ?_)
  exact hQ M1 (zF_up (zF_x f1) (fun a j q => sLn_q ⟨s, by omega, q⟩)) (XR_x hD (by omega) h f1)
theorem x_off (v : Int32) : XqO 139 [.int v] (aOff v) := by
  intro d M z D Q hD h hQ
  have hL := h.1.1
  have n8 := dN_8 hD
  have eS := fun v Q => x_isShip hD h (d + 19) v Q
  unfold aOff at hQ
  rw [eX10_off]
  simp +decide only [qX10_off, lx hL, eS, bI_0, Classical.not_not, am_w1_i, am_w1_r, am_w1_x, am_w1_l, am_w1_w, va_rf_s, am_push_n, am_push_s, am_cs_0, am_cs_i, am_cs_l, am_cs_r, m_uI_K, m_uI_N, m_uI_R, m_uI_L, m_uI_I, m_uL_K, m_uL_N, m_uL_R, m_uL_I, m_uL_L, m_uR_K, m_uR_N, m_uR_I, m_uR_L, m_uR_R, true_and, and_true, true_implies, false_implies, not_true_eq_false, not_false_eq_true, if_true, if_false, false_and, and_false]
  by_cases hv : 0 ≤ v.toInt ∧ v.toInt < dN D
  · first | rw [br_p (hv)] | rw [br_r (hv)] | rw [br_s (hv)]
    rw [if_pos hv] at hQ
    obtain ⟨s, s1, s2, s3⟩ := sh_of (by omega) hv
    rw [s3] at hQ
    have htr := ltr hL (show s < 8 by omega)
    have hst := lt_ hL (isTr_of (show s < 8 by omega))
    rw [s2]
    simp +decide (disch := omega) only [qX10_off, lx hL, htr, hst, ni_in_t, ni_tn, am_w1_i, am_w1_r, am_w1_x, am_w1_l, am_w1_w, va_rf_s, am_push_n, am_push_s, am_cs_0, am_cs_i, am_cs_l, am_cs_r, m_uI_K, m_uI_N, m_uI_R, m_uI_L, m_uI_I, m_uL_K, m_uL_N, m_uL_R, m_uL_I, m_uL_L, m_uR_K, m_uR_N, m_uR_I, m_uR_L, m_uR_R, true_and, and_true, true_implies, false_implies, not_true_eq_false, not_false_eq_true, if_true, if_false, false_and, and_false]
    refine x_clock hD h s1 (d + 13) _ (fun M1 f1 X1 => ?_)
    have h0 := hQ M1 f1 X1
    simp +decide only [qX10_off, am_w1_i, am_w1_r, am_w1_x, am_w1_l, am_w1_w, va_rf_s, am_push_n, am_push_s, am_cs_0, am_cs_i, am_cs_l, am_cs_r, m_uI_K, m_uI_N, m_uI_R, m_uI_L, m_uI_I, m_uL_K, m_uL_N, m_uL_R, m_uL_I, m_uL_L, m_uR_K, m_uR_N, m_uR_I, m_uR_L, m_uR_R, true_and, and_true, true_implies, false_implies, not_true_eq_false, not_false_eq_true, if_true, if_false, false_and, and_false]
    exact h0
  · have h0 := hQ M (XR_2 h) h
    rw [if_neg hv] at h0
    first | rw [br_n (hv)] | rw [br_q (hv)] | rw [br_u (hv)]
    exact h0
theorem dI_e : ∀ k, k < 13 → (if nI k - nI k / 2 * 2 = 0 then nI k / 2 else -(nI k + 1) / 2) = dI k := by decide
theorem dI_b2 {k : Nat} (h : k < 13) : -100 ≤ (dI k).toInt ∧ (dI k).toInt ≤ 100 := by have := dI_b k h; omega
theorem l_m_off (d b s : Nat) (D : Dat) (M0 : am_M) (Q : Option Value → am_M → Prop) (hD : dOK D) (hL0 : Lay M0) (h0' : MdM M0 b D) (hs : s < dN D) (hQ : ∀ M', gF sMq nT M0 M' → Q (some (.int (ckD D s))) M') :
    ∀ (m k : Nat), k + m = 13 → ∀ (M : am_M) (v3 v4 v5 : Value), jk v3 → jk v4 → jk v5 → gF sMq nT M0 M → (∀ j, j < k → dB (stP (dWt D s) (dV D s) (dSn D s) (dBs D s) (dY D s) (dI j).toInt) = false) → am_P am_P0 (d + 5) (am_look tX11_offOf) 2 [.ref 277, .int (nI s), .int (nI k), v3, v4, v5] [] M Q := by
  have n8 := dN_8 hD
  intro m
  induction m with
  | zero =>
    intro k hk M v3 v4 v5 h3 h4 h5 hM hb
    have ek : k = 13 := by omega
    subst ek
    have h0 := hQ M hM
    unfold ckD ckY ckN at h0
    rw [fs_all hb, if_neg (by omega)] at h0
    rw [hX11_offOf_2]
    simp +decide only [qX11_offOf_0, qX11_offOf_1, show nI 13 = (13 : Int32) from rfl, am_w1_i, am_w1_r, am_w1_x, am_w1_l, am_w1_w, va_rf_s, am_push_n, am_push_s, am_cs_0, am_cs_i, am_cs_l, am_cs_r, m_uI_K, m_uI_N, m_uI_R, m_uI_L, m_uI_I, m_uL_K, m_uL_N, m_uL_R, m_uL_I, m_uL_L, m_uR_K, m_uR_N, m_uR_I, m_uR_L, m_uR_R, true_and, and_true, true_implies, false_implies, not_true_eq_false, not_false_eq_true, if_true, if_false, false_and, and_false]
    exact h0
  | succ m ih =>
    intro k hk M v3 v4 v5 h3 h4 h5 hM hb
    have hL := gF_LayN hM hL0
    have h := MdM_q h0' hM
    have hlt : ¬ (12 : Int32) < nI k := by rw [show (12 : Int32) = nI 12 from rfl, ni_lt (by omega) (by omega)]; omega
    have hde := dI_e k (by omega)
    obtain ⟨b1, b2⟩ := dI_b2 (show k < 13 by omega)
    obtain ⟨q1, q2, q3, q4, q5⟩ := mh hD h hs
    obtain ⟨A, hA⟩ : ∃ A, A = uI M 277 60 0 := ⟨_, rfl⟩
    obtain ⟨fc0, oA⟩ := Fc0 M (dC D) (dR D)
    rw [← hA] at fc0 oA
    have gA : gF sMq nT M A := gF_up (gF_o oA) (fun a j q => by unfold sF at q; unfold sMq; omega) (fun _ _ q => q)
    have LA := gF_LayN gA hL
    have hAd := MdM_q h gA
    obtain ⟨r1, r2, r3, r4, r5⟩ := mh hD hAd hs
    -- behind the shift
    have key : am_P am_P0 (d + 5) (am_look tX11_offOf) 27 [.ref 277, .int (nI s), .int (nI k), .int (dI k), v4, v5] [] M Q := by
      simp +decide only [qX11_offOf_0, qX11_offOf_1, lm hL, jk_w h4, jk_w h5, ← hA, am_w1_i, am_w1_r, am_w1_x, am_w1_l, am_w1_w, va_rf_s, am_push_n, am_push_s, am_cs_0, am_cs_i, am_cs_l, am_cs_r, m_uI_K, m_uI_N, m_uI_R, m_uI_L, m_uI_I, m_uL_K, m_uL_N, m_uL_R, m_uL_I, m_uL_L, m_uR_K, m_uR_N, m_uR_I, m_uR_L, m_uR_R, true_and, and_true, true_implies, false_implies, not_true_eq_false, not_false_eq_true, if_true, if_false, false_and, and_false]
      refine ⟨(lm LA).1, ?_⟩
      refine c_m_addSayings (d + 2) s s b (dC D) (dR D) (dDp D) (dDr D s) (dLd D s) [] (dY D s) (dI k) A _ LA hAd.1.1 hAd.1.2 hD.1.1.1 hD.1.1.2 (by omega) (by omega) b1 b2 r2.2.2.2.1 r2.2.2.2.2 (by simp) fc0 (fun M1 o1 f1 => ?_)
      have g1 : gF sMq nT A M1 := gF_up (gF_o o1) (fun a j q => by unfold sF at q; unfold sMq; omega) (fun _ _ q => q)
      have L1 := gF_LayN g1 LA
      have h1 := MdM_q hAd g1
      rw [List.nil_append] at f1
      have hlen := syF_len (dY D s) (dI k).toInt
      have h48 := dY_len hD s
      simp +decide only [qX11_offOf_0, qX11_offOf_1, lm L1, f1.1, am_w1_i, am_w1_r, am_w1_x, am_w1_l, am_w1_w, va_rf_s, am_push_n, am_push_s, am_cs_0, am_cs_i, am_cs_l, am_cs_r, m_uI_K, m_uI_N, m_uI_R, m_uI_L, m_uI_I, m_uL_K, m_uL_N, m_uL_R, m_uL_I, m_uL_L, m_uR_K, m_uR_N, m_uR_I, m_uR_L, m_uR_R, true_and, and_true, true_implies, false_implies, not_true_eq_false, not_false_eq_true, if_true, if_false, false_and, and_false]
      refine c_m_addBooks (d + 3) s b (dC D) (dR D) (dBk D) (syF (dY D s) (dI k).toInt) M1 _ L1 h1.1.1 h1.1.2 (by omega) h1.2.2.2.2.2.1 hD.1.2.2.2.2.2.2.1.1 (by omega) f1 (fun M2 o2 f2 => ?_)
      have g2 : gF sMq nT M1 M2 := gF_up (gF_o o2) (fun a j q => by unfold sF at q; unfold sMq; omega) (fun _ _ q => q)
      have L2 := gF_LayN g2 L1
      have h2 := MdM_q h1 g2
      obtain ⟨p1, p2, p3, p4, p5⟩ := mh hD h2 hs
      have G2 : gF sMq nT M0 M2 := gF_trans hM (gF_trans gA (gF_trans g1 g2))
      simp +decide only [qX11_offOf_0, qX11_offOf_1, lm L2, ni_pos (show (syF (dY D s) (dI k).toInt).length < 2147483648 by omega), tI_0, am_w1_i, am_w1_r, am_w1_x, am_w1_l, am_w1_w, va_rf_s, am_push_n, am_push_s, am_cs_0, am_cs_i, am_cs_l, am_cs_r, m_uI_K, m_uI_N, m_uI_R, m_uI_L, m_uI_I, m_uL_K, m_uL_N, m_uL_R, m_uL_I, m_uL_L, m_uR_K, m_uR_N, m_uR_I, m_uR_L, m_uR_R, true_and, and_true, true_implies, false_implies, not_true_eq_false, not_false_eq_true, if_true, if_false, false_and, and_false]
      have hsome : (syF (dY D s) (dI k).toInt).length = 0 ↔ ¬ ∃ y, y ∈ dY D s ∧ ¬ hrOf y.1 (dI k).toInt = none := by
        constructor
        · rintro q ⟨y, y1, y2⟩
          have e := List.length_eq_zero_iff.mp q
          cases hh : hrOf y.1 (dI k).toInt with
          | none => exact y2 hh
          | some t =>
            have : (y.2.1, t, t) ∈ syF (dY D s) (dI k).toInt := by
              unfold syF
              rw [List.mem_filterMap]
              exact ⟨y, y1, by rw [hh]; rfl⟩
            rw [e] at this
            cases this
        · intro q
          apply List.length_eq_zero_iff.mpr
          apply List.eq_nil_iff_forall_not_mem.mpr
          intro a ha
          unfold syF at ha
          rw [List.mem_filterMap] at ha
          obtain ⟨y, y1, y2⟩ := ha
          apply q
          refine ⟨y, y1, fun z => ?_⟩
          rw [z] at y2
          cases y2
      have next : ∀ M', gF sMq nT M0 M' → ¬ stP (dWt D s) (dV D s) (dSn D s) (dBs D s) (dY D s) (dI k).toInt → am_P am_P0 (d + 5) (am_look tX11_offOf) 2 [.ref 277, .int (nI s), .int (nI (k + 1)), .int (dI k), .int (tI (syS (dY D s) (dI k).toInt (sndP (dDp D) (dDr D s) (dLd D s)))), .int (nI (syF (dY D s) (dI k).toInt).length)] [] M' Q := fun M' g' n' => ih (k + 1) (by omega) M' _ _ _ (Or.inr ⟨_, rfl⟩) (Or.inr ⟨_, rfl⟩) (Or.inr ⟨_, rfl⟩) g' (fun j hj => by
        by_cases e : j = k
        · subst e; exact dB_f.mpr n'
        · exact hb j (by omega))
      by_cases c0 : (syF (dY D s) (dI k).toInt).length = 0
      · first | rw [br_p (c0)] | rw [br_r (c0)] | rw [br_s (c0)]
        simp +decide only [qX11_offOf_0, qX11_offOf_1, ni_add1, am_w1_i, am_w1_r, am_w1_x, am_w1_l, am_w1_w, va_rf_s, am_push_n, am_push_s, am_cs_0, am_cs_i, am_cs_l, am_cs_r, m_uI_K, m_uI_N, m_uI_R, m_uI_L, m_uI_I, m_uL_K, m_uL_N, m_uL_R, m_uL_I, m_uL_L, m_uR_K, m_uR_N, m_uR_I, m_uR_L, m_uR_R, true_and, and_true, true_implies, false_implies, not_true_eq_false, not_false_eq_true, if_true, if_false, false_and, and_false]
        exact next M2 G2 (fun q => (hsome.mp c0) q.1)
      · first | rw [br_n (c0)] | rw [br_q (c0)] | rw [br_u (c0)]
        have hse : ∃ y, y ∈ dY D s ∧ ¬ hrOf y.1 (dI k).toInt = none := Classical.byContradiction (fun q => c0 (hsome.mpr q))
        by_cases c1 : syS (dY D s) (dI k).toInt (sndP (dDp D) (dDr D s) (dLd D s))
        · first | rw [br_p (c1)] | rw [br_r (c1)] | rw [br_s (c1)]
          refine c_m_fit d s b (dC D) (dR D) (dV D s) (syF (dY D s) (dI k).toInt ++ bkOf (dBk D) s) M2 _ L2 p1 (by omega) p2.1 p2.2.1 p2.2.2.1 f2 (fun M3 o3 => ?_)
          have g3 : gF sMq nT M2 M3 := gF_up (gF_o (onlyG_S o3)) (fun a j q => by unfold sG at q; unfold sMq; omega) (fun _ _ q => q)
          have e : fitP (dWt D s) (dV D s) (syF (dY D s) (dI k).toInt ++ bkOf (dBk D) s) ↔ fitP (dWt D s) (dV D s) (dBs D s ++ syF (dY D s) (dI k).toInt) := fit_mem (fun a => by
            unfold dBs
            simp only [List.mem_append]
            constructor <;> (intro q; rcases q with q | q <;> simp [q]))
          rw [p5, tI_i e]
          by_cases c2 : fitP (dWt D s) (dV D s) (dBs D s ++ syF (dY D s) (dI k).toInt)
          · have h0 := hQ M3 (gF_trans G2 g3)
            unfold ckD ckY ckN at h0
            rw [fs_is (i := k) hb (by omega) (dB_t.mpr ⟨hse, c1, c2⟩), if_pos (by omega)] at h0
            rw [tI_t c2]
            simp +decide only [qX11_offOf_0, qX11_offOf_1, am_w1_i, am_w1_r, am_w1_x, am_w1_l, am_w1_w, va_rf_s, am_push_n, am_push_s, am_cs_0, am_cs_i, am_cs_l, am_cs_r, m_uI_K, m_uI_N, m_uI_R, m_uI_L, m_uI_I, m_uL_K, m_uL_N, m_uL_R, m_uL_I, m_uL_L, m_uR_K, m_uR_N, m_uR_I, m_uR_L, m_uR_R, true_and, and_true, true_implies, false_implies, not_true_eq_false, not_false_eq_true, if_true, if_false, false_and, and_false]
            exact h0
          · have h0 := next M3 (gF_trans G2 g3) (fun q => c2 q.2.2)
            rw [tI_f c2]
            simp +decide only [qX11_offOf_0, qX11_offOf_1, ni_add1, am_w1_i, am_w1_r, am_w1_x, am_w1_l, am_w1_w, va_rf_s, am_push_n, am_push_s, am_cs_0, am_cs_i, am_cs_l, am_cs_r, m_uI_K, m_uI_N, m_uI_R, m_uI_L, m_uI_I, m_uL_K, m_uL_N, m_uL_R, m_uL_I, m_uL_L, m_uR_K, m_uR_N, m_uR_I, m_uR_L, m_uR_R, true_and, and_true, true_implies, false_implies, not_true_eq_false, not_false_eq_true, if_true, if_false, false_and, and_false]
            exact h0
        · first | rw [br_n (c1)] | rw [br_q (c1)] | rw [br_u (c1)]
          simp +decide only [qX11_offOf_0, qX11_offOf_1, ni_add1, am_w1_i, am_w1_r, am_w1_x, am_w1_l, am_w1_w, va_rf_s, am_push_n, am_push_s, am_cs_0, am_cs_i, am_cs_l, am_cs_r, m_uI_K, m_uI_N, m_uI_R, m_uI_L, m_uI_I, m_uL_K, m_uL_N, m_uL_R, m_uL_I, m_uL_L, m_uR_K, m_uR_N, m_uR_I, m_uR_L, m_uR_R, true_and, and_true, true_implies, false_implies, not_true_eq_false, not_false_eq_true, if_true, if_false, false_and, and_false]
          exact next M2 G2 (fun q => c1 q.2.1)
    rw [hX11_offOf_2]
    simp +decide only [qX11_offOf_0, qX11_offOf_1, jk_w h3, jk_w h4, jk_w h5, Classical.not_not, am_w1_i, am_w1_r, am_w1_x, am_w1_l, am_w1_w, va_rf_s, am_push_n, am_push_s, am_cs_0, am_cs_i, am_cs_l, am_cs_r, m_uI_K, m_uI_N, m_uI_R, m_uI_L, m_uI_I, m_uL_K, m_uL_N, m_uL_R, m_uL_I, m_uL_L, m_uR_K, m_uR_N, m_uR_I, m_uR_L, m_uR_R, true_and, and_true, true_implies, false_implies, not_true_eq_false, not_false_eq_true, if_true, if_false, false_and, and_false]
    first | rw [br_n (hlt)] | rw [br_q (hlt)] | rw [br_u (hlt)]
    by_cases c : nI k - nI k / 2 * 2 = 0
    · rw [if_pos c] at hde
      first | rw [br_p (c)] | rw [br_r (c)] | rw [br_s (c)]
      rw [hde]
      simp +decide only [qX11_offOf_0, qX11_offOf_1, jk_w h4, jk_w h5, am_w1_i, am_w1_r, am_w1_x, am_w1_l, am_w1_w, va_rf_s, am_push_n, am_push_s, am_cs_0, am_cs_i, am_cs_l, am_cs_r, m_uI_K, m_uI_N, m_uI_R, m_uI_L, m_uI_I, m_uL_K, m_uL_N, m_uL_R, m_uL_I, m_uL_L, m_uR_K, m_uR_N, m_uR_I, m_uR_L, m_uR_R, true_and, and_true, true_implies, false_implies, not_true_eq_false, not_false_eq_true, if_true, if_false, false_and, and_false] at key ⊢
      exact key
    · rw [if_neg c] at hde
      first | rw [br_n (c)] | rw [br_q (c)] | rw [br_u (c)]
      rw [hde]
      simp +decide only [qX11_offOf_0, qX11_offOf_1, jk_w h4, jk_w h5, am_w1_i, am_w1_r, am_w1_x, am_w1_l, am_w1_w, va_rf_s, am_push_n, am_push_s, am_cs_0, am_cs_i, am_cs_l, am_cs_r, m_uI_K, m_uI_N, m_uI_R, m_uI_L, m_uI_I, m_uL_K, m_uL_N, m_uL_R, m_uL_I, m_uL_L, m_uR_K, m_uR_N, m_uR_I, m_uR_L, m_uR_R, true_and, and_true, true_implies, false_implies, not_true_eq_false, not_false_eq_true, if_true, if_false, false_and, and_false] at key ⊢
      exact key
theorem m_offOf {M : am_M} {b s : Nat} {D : Dat} (hD : dOK D) (hL : Lay M) (h : MdM M b D) (hs : s < dN D) (d : Nat) (Q : Option Value → am_M → Prop) (hQ : ∀ M', gF sMq nT M M' → Q (some (.int (ckD D s))) M') : am_E am_P0 (d + 5) 290 [.ref 277, .int (nI s)] M Q := by
  have h0 := l_m_off d b s D M Q hD hL h hs hQ 13 0 (by omega) M am_x am_x am_x (Or.inl rfl) (Or.inl rfl) (Or.inl rfl) (gF_refl _ _ _) (fun j hj => by omega)
  rw [eX11_offOf]
  simp +decide only [qX11_offOf_0, qX11_offOf_1, am_w1_i, am_w1_r, am_w1_x, am_w1_l, am_w1_w, va_rf_s, am_push_n, am_push_s, am_cs_0, am_cs_i, am_cs_l, am_cs_r, m_uI_K, m_uI_N, m_uI_R, m_uI_L, m_uI_I, m_uL_K, m_uL_N, m_uL_R, m_uL_I, m_uL_L, m_uR_K, m_uR_N, m_uR_I, m_uR_L, m_uR_R, true_and, and_true, true_implies, false_implies, not_true_eq_false, not_false_eq_true, if_true, if_false, false_and, and_false]
  exact h0
theorem m_off (v : Int32) : MqO 291 [.int v] (aOff v) := by
  intro d M b D Q hD hL h hQ
  have n8 := dN_8 hD
  have eS := fun v Q => m_isShip hD hL h (d + 18) v Q
  unfold aOff at hQ
  rw [eX11_off]
  simp +decide only [qX11_off, lm hL, eS, bI_0, Classical.not_not, am_w1_i, am_w1_r, am_w1_x, am_w1_l, am_w1_w, va_rf_s, am_push_n, am_push_s, am_cs_0, am_cs_i, am_cs_l, am_cs_r, m_uI_K, m_uI_N, m_uI_R, m_uI_L, m_uI_I, m_uL_K, m_uL_N, m_uL_R, m_uL_I, m_uL_L, m_uR_K, m_uR_N, m_uR_I, m_uR_L, m_uR_R, true_and, and_true, true_implies, false_implies, not_true_eq_false, not_false_eq_true, if_true, if_false, false_and, and_false]
  by_cases hv : 0 ≤ v.toInt ∧ v.toInt < dN D
  · first | rw [br_p (hv)] | rw [br_r (hv)] | rw [br_s (hv)]
    rw [if_pos hv] at hQ
    obtain ⟨s, s1, s2, s3⟩ := sh_of (by omega) hv
    rw [s3] at hQ
    rw [s2]
    refine m_offOf hD hL h s1 (d + 14) _ (fun M1 g1 => ?_)
    have h0 := hQ M1 g1
    simp +decide only [qX11_off, am_w1_i, am_w1_r, am_w1_x, am_w1_l, am_w1_w, va_rf_s, am_push_n, am_push_s, am_cs_0, am_cs_i, am_cs_l, am_cs_r, m_uI_K, m_uI_N, m_uI_R, m_uI_L, m_uI_I, m_uL_K, m_uL_N, m_uL_R, m_uL_I, m_uL_L, m_uR_K, m_uR_N, m_uR_I, m_uR_L, m_uR_R, true_and, and_true, true_implies, false_implies, not_true_eq_false, not_false_eq_true, if_true, if_false, false_and, and_false]
    exact h0
  · have h0 := hQ M (gF_refl _ _ _)
    rw [if_neg hv] at h0
    first | rw [br_n (hv)] | rw [br_q (hv)] | rw [br_u (hv)]
    exact h0
theorem op_off (v : Int32) : OpI 139 291 [.int v] isI := op_q (fun D => ⟨_, rfl⟩) (x_off v) (m_off v)
/-! whose -/
def wsP (D : Dat) (s : Nat) : Prop := ¬ liN D s = 0 ∧ ¬ ckD D s = 100 ∧ ¬ ckD D s = 0
noncomputable def aWhs (D : Dat) : Value := .int (btI (wsP D) (dN D))
theorem l_x_whose (d z : Nat) (D : Dat) (M0 : am_M) (Q : Option Value → am_M → Prop) (hD : dOK D) (hQ : ∀ M', zF (sXq z) M0 M' → XR M' z D → Q (some (.int (btI (wsP D) (dN D)))) M') :
    ∀ (m s : Nat), s + m = dN D → ∀ (M : am_M) (v3 : Value), jk v3 → zF (sXq z) M0 M → XR M z D → am_P am_P0 (d + 7) (am_look tX10_whose) 4 [.ref 0, .int (btI (wsP D) s), .int (nI s), v3] [] M Q := by
  have n8 := dN_8 hD
  intro m
  induction m with
  | zero =>
    intro s hs M v3 hv3 hM h
    have hz := h.1.2.2.1
    have hL := h.1.1
    have hr := h.1.2.2.2.1
    have hle : nI (dN D) ≤ nI s := (ni_le (by omega) (by omega)).mpr (by omega)
    have h0 := hQ M hM h
    rw [hX10_whose_4]
    simp +decide only [qX10_whose, lx hL, lz hL hz, hr, (x_n h).1, am_w1_i, am_w1_r, am_w1_x, am_w1_l, am_w1_w, va_rf_s, am_push_n, am_push_s, am_cs_0, am_cs_i, am_cs_l, am_cs_r, m_uI_K, m_uI_N, m_uI_R, m_uI_L, m_uI_I, m_uL_K, m_uL_N, m_uL_R, m_uL_I, m_uL_L, m_uR_K, m_uR_N, m_uR_I, m_uR_L, m_uR_R, true_and, and_true, true_implies, false_implies, not_true_eq_false, not_false_eq_true, if_true, if_false, false_and, and_false]
    first | rw [br_p (hle)] | rw [br_r (hle)] | rw [br_s (hle)]
    rw [show s = dN D by omega]
    exact h0
  | succ m ih =>
    intro s hs M v3 hv3 hM h
    have hz := h.1.2.2.1
    have hL := h.1.1
    have hr := h.1.2.2.2.1
    have hlt : ¬ nI (dN D) ≤ nI s := by rw [ni_le (by omega) (by omega)]; omega
    have h48 := dY_len hD s
    have hkl := kc_le (wt := dWt D s) (v := dV D s) (snd := dSn D s) (B := dBs D s) (Y := dY D s)
    rw [hX10_whose_4]
    simp +decide (disch := omega) only [qX10_whose, lx hL, lz hL hz, hr, (x_n h).1, jk_w hv3, am_w1_i, am_w1_r, am_w1_x, am_w1_l, am_w1_w, va_rf_s, am_push_n, am_push_s, am_cs_0, am_cs_i, am_cs_l, am_cs_r, m_uI_K, m_uI_N, m_uI_R, m_uI_L, m_uI_I, m_uL_K, m_uL_N, m_uL_R, m_uL_I, m_uL_L, m_uR_K, m_uR_N, m_uR_I, m_uR_L, m_uR_R, true_and, and_true, true_implies, false_implies, not_true_eq_false, not_false_eq_true, if_true, if_false, false_and, and_false]
    first | rw [br_n (hlt)] | rw [br_q (hlt)] | rw [br_u (hlt)]
    refine x_settled hD h (d + 1) (by omega) _ (fun M1 f1 X1 _ S1 => ?_)
    have L1 := X1.1.1
    have hr1 := X1.1.2.2.2.1
    have ht := lt_ L1 (isTr_of (show s < 8 by omega))
    have htr := ltr L1 (show s < 8 by omega)
    have hsh := lsh L1 hz (s := s) (by omega)
    have hw_ := lw_ L1 (isSh_z (z := z) (s := s) hz (by omega))
    have hc := (x_ship X1 (s := s) (by omega)).2.1.1
    simp +decide (disch := omega) only [qX10_whose, lx L1, lz L1 hz, hr1, ht, htr, hsh, hw_, hc, S1.2.2.1, jk_w hv3, ni_in_t, ni_tn, ni_add1, am_w1_i, am_w1_r, am_w1_x, am_w1_l, am_w1_w, va_rf_s, am_push_n, am_push_s, am_cs_0, am_cs_i, am_cs_l, am_cs_r, m_uI_K, m_uI_N, m_uI_R, m_uI_L, m_uI_I, m_uL_K, m_uL_N, m_uL_R, m_uL_I, m_uL_L, m_uR_K, m_uR_N, m_uR_I, m_uR_L, m_uR_R, true_and, and_true, true_implies, false_implies, not_true_eq_false, not_false_eq_true, if_true, if_false, false_and, and_false]
    rw [ni_le (by omega) (by omega)]
    by_cases c : (dY D s).length ≤ kcY (dWt D s) (dV D s) (dSn D s) (dBs D s) (dY D s)
    · have h0 := ih (s + 1) (by omega) M1 v3 hv3 (zF_trans hM f1) X1
      rw [btI_f (fun q => q.1 (by unfold liN; omega))] at h0
      first | rw [br_p (c)] | rw [br_r (c)] | rw [br_s (c)]
      exact h0
    · first | rw [br_n (c)] | rw [br_q (c)] | rw [br_u (c)]
      refine x_clock hD X1 (by omega) d _ (fun M2 f2 X2 => ?_)
      have h0 := ih (s + 1) (by omega) M2 (.int (ckD D s)) (Or.inr ⟨_, rfl⟩) (zF_trans hM (zF_trans f1 f2)) X2
      simp +decide only [qX10_whose, ni_add1, am_w1_i, am_w1_r, am_w1_x, am_w1_l, am_w1_w, va_rf_s, am_push_n, am_push_s, am_cs_0, am_cs_i, am_cs_l, am_cs_r, m_uI_K, m_uI_N, m_uI_R, m_uI_L, m_uI_I, m_uL_K, m_uL_N, m_uL_R, m_uL_I, m_uL_L, m_uR_K, m_uR_N, m_uR_I, m_uR_L, m_uR_R, true_and, and_true, true_implies, false_implies, not_true_eq_false, not_false_eq_true, if_true, if_false, false_and, and_false]
      by_cases c1 : ckD D s = 100
      · rw [btI_f (fun q => q.2.1 c1)] at h0
        first | rw [br_p (c1)] | rw [br_r (c1)] | rw [br_s (c1)]
        exact h0
      · first | rw [br_n (c1)] | rw [br_q (c1)] | rw [br_u (c1)]
        by_cases c2 : ckD D s = 0
        · rw [btI_f (fun q => q.2.2 c2)] at h0
          first | rw [br_p (c2)] | rw [br_r (c2)] | rw [br_s (c2)]
          exact h0
        · rw [btI_t ⟨by unfold liN; omega, c1, c2⟩] at h0
          first | rw [br_n (c2)] | rw [br_q (c2)] | rw [br_u (c2)]
          exact h0
theorem x_whose : XqO 140 [] aWhs := by
  intro d M z D Q hD h hQ
  have h0 := l_x_whose (d + 13) z D M Q hD hQ (dN D) 0 (by omega) M am_x (Or.inl rfl) (XR_2 h) h
  rw [eX10_whose]
  simp +decide only [qX10_whose, am_w1_i, am_w1_r, am_w1_x, am_w1_l, am_w1_w, va_rf_s, am_push_n, am_push_s, am_cs_0, am_cs_i, am_cs_l, am_cs_r, m_uI_K, m_uI_N, m_uI_R, m_uI_L, m_uI_I, m_uL_K, m_uL_N, m_uL_R, m_uL_I, m_uL_L, m_uR_K, m_uR_N, m_uR_I, m_uR_L, m_uR_R, true_and, and_true, true_implies, false_implies, not_true_eq_false, not_false_eq_true, if_true, if_false, false_and, and_false]
  exact h0
theorem l_m_whose (d b : Nat) (D : Dat) (M0 : am_M) (Q : Option Value → am_M → Prop) (hD : dOK D) (hL0 : Lay M0) (h0' : MdM M0 b D) (hQ : ∀ M', gF sMq nT M0 M' → Q (some (.int (btI (wsP D) (dN D)))) M') :
    ∀ (m s : Nat), s + m = dN D → ∀ (M : am_M) (v3 : Value), jk v3 → gF sMq nT M0 M → am_P am_P0 (d + 8) (am_look tX11_whose) 4 [.ref 277, .int (btI (wsP D) s), .int (nI s), v3] [] M Q := by
  have n8 := dN_8 hD
  intro m
  induction m with
  | zero =>
    intro s hs M v3 hv3 hM
    have hL := gF_LayN hM hL0
    have h := MdM_q h0' hM
    have hb2 := h.1.2
    have hle : nI (dN D) ≤ nI s := (ni_le (by omega) (by omega)).mpr (by omega)
    have h0 := hQ M hM
    rw [hX11_whose_4]
    simp +decide (disch := omega) only [qX11_whose, lm hL, h.1.1, h.2.2.2.1.1, ni_in_t, ni_tn, am_w1_i, am_w1_r, am_w1_x, am_w1_l, am_w1_w, va_rf_s, am_push_n, am_push_s, am_cs_0, am_cs_i, am_cs_l, am_cs_r, m_uI_K, m_uI_N, m_uI_R, m_uI_L, m_uI_I, m_uL_K, m_uL_N, m_uL_R, m_uL_I, m_uL_L, m_uR_K, m_uR_N, m_uR_I, m_uR_L, m_uR_R, true_and, and_true, true_implies, false_implies, not_true_eq_false, not_false_eq_true, if_true, if_false, false_and, and_false]
    first | rw [br_p (hle)] | rw [br_r (hle)] | rw [br_s (hle)]
    rw [show s = dN D by omega]
    exact h0
  | succ m ih =>
    intro s hs M v3 hv3 hM
    have hL := gF_LayN hM hL0
    have h := MdM_q h0' hM
    have hb2 := h.1.2
    have hlt : ¬ nI (dN D) ≤ nI s := by rw [ni_le (by omega) (by omega)]; omega
    have h48 := dY_len hD s
    have hll : liN D s ≤ 48 := by unfold liN; omega
    rw [hX11_whose_4]
    simp +decide (disch := omega) only [qX11_whose, lm hL, h.1.1, h.2.2.2.1.1, jk_w hv3, ni_in_t, ni_tn, am_w1_i, am_w1_r, am_w1_x, am_w1_l, am_w1_w, va_rf_s, am_push_n, am_push_s, am_cs_0, am_cs_i, am_cs_l, am_cs_r, m_uI_K, m_uI_N, m_uI_R, m_uI_L, m_uI_I, m_uL_K, m_uL_N, m_uL_R, m_uL_I, m_uL_L, m_uR_K, m_uR_N, m_uR_I, m_uR_L, m_uR_R, true_and, and_true, true_implies, false_implies, not_true_eq_false, not_false_eq_true, if_true, if_false, false_and, and_false]
    first | rw [br_n (hlt)] | rw [br_q (hlt)] | rw [br_u (hlt)]
    refine m_liesOf hD hL h (by omega) d _ (fun M1 g1 => ?_)
    have L1 := gF_LayN g1 hL
    have h1 := MdM_q h g1
    simp +decide only [qX11_whose, lm L1, jk_w hv3, am_w1_i, am_w1_r, am_w1_x, am_w1_l, am_w1_w, va_rf_s, am_push_n, am_push_s, am_cs_0, am_cs_i, am_cs_l, am_cs_r, m_uI_K, m_uI_N, m_uI_R, m_uI_L, m_uI_I, m_uL_K, m_uL_N, m_uL_R, m_uL_I, m_uL_L, m_uR_K, m_uR_N, m_uR_I, m_uR_L, m_uR_R, true_and, and_true, true_implies, false_implies, not_true_eq_false, not_false_eq_true, if_true, if_false, false_and, and_false]
    rw [ni_pos (by omega)]
    by_cases c : liN D s = 0
    · have h0 := ih (s + 1) (by omega) M1 (.int 100) (Or.inr ⟨_, rfl⟩) (gF_trans hM g1)
      rw [btI_f (fun q => q.1 c)] at h0
      first | rw [br_p (c)] | rw [br_r (c)] | rw [br_s (c)]
      simp +decide only [qX11_whose, or_z, ni_add1, am_w1_i, am_w1_r, am_w1_x, am_w1_l, am_w1_w, va_rf_s, am_push_n, am_push_s, am_cs_0, am_cs_i, am_cs_l, am_cs_r, m_uI_K, m_uI_N, m_uI_R, m_uI_L, m_uI_I, m_uL_K, m_uL_N, m_uL_R, m_uL_I, m_uL_L, m_uR_K, m_uR_N, m_uR_I, m_uR_L, m_uR_R, true_and, and_true, true_implies, false_implies, not_true_eq_false, not_false_eq_true, if_true, if_false, false_and, and_false]
      exact h0
    · first | rw [br_n (c)] | rw [br_q (c)] | rw [br_u (c)]
      refine m_offOf hD L1 h1 (by omega) (d + 2) _ (fun M2 g2 => ?_)
      have h0 := ih (s + 1) (by omega) M2 (.int (ckD D s)) (Or.inr ⟨_, rfl⟩) (gF_trans hM (gF_trans g1 g2))
      simp +decide only [qX11_whose, or_z, ni_add1, jk_w hv3, am_w1_i, am_w1_r, am_w1_x, am_w1_l, am_w1_w, va_rf_s, am_push_n, am_push_s, am_cs_0, am_cs_i, am_cs_l, am_cs_r, m_uI_K, m_uI_N, m_uI_R, m_uI_L, m_uI_I, m_uL_K, m_uL_N, m_uL_R, m_uL_I, m_uL_L, m_uR_K, m_uR_N, m_uR_I, m_uR_L, m_uR_R, true_and, and_true, true_implies, false_implies, not_true_eq_false, not_false_eq_true, if_true, if_false, false_and, and_false]
      by_cases c1 : ckD D s = 100
      · rw [btI_f (fun q => q.2.1 c1)] at h0
        first | rw [br_p (c1)] | rw [br_r (c1)] | rw [br_s (c1)]
        exact h0
      · first | rw [br_n (c1)] | rw [br_q (c1)] | rw [br_u (c1)]
        by_cases c2 : ckD D s = 0
        · rw [btI_f (fun q => q.2.2 c2)] at h0
          first | rw [br_p (c2)] | rw [br_r (c2)] | rw [br_s (c2)]
          exact h0
        · rw [btI_t ⟨c, c1, c2⟩] at h0
          first | rw [br_n (c2)] | rw [br_q (c2)] | rw [br_u (c2)]
          exact h0
theorem m_whose : MqO 292 [] aWhs := by
  intro d M b D Q hD hL h hQ
  have h0 := l_m_whose (d + 12) b D M Q hD hL h hQ (dN D) 0 (by omega) M am_x (Or.inl rfl) (gF_refl _ _ _)
  rw [eX11_whose]
  simp +decide only [qX11_whose, am_w1_i, am_w1_r, am_w1_x, am_w1_l, am_w1_w, va_rf_s, am_push_n, am_push_s, am_cs_0, am_cs_i, am_cs_l, am_cs_r, m_uI_K, m_uI_N, m_uI_R, m_uI_L, m_uI_I, m_uL_K, m_uL_N, m_uL_R, m_uL_I, m_uL_L, m_uR_K, m_uR_N, m_uR_I, m_uR_L, m_uR_R, true_and, and_true, true_implies, false_implies, not_true_eq_false, not_false_eq_true, if_true, if_false, false_and, and_false]
  exact h0
theorem op_whose : OpI 140 292 [] isI := op_q (fun D => ⟨_, rfl⟩) x_whose m_whose
end
section
/-! sighting, strange, doubted -/
def exP (D : Dat) (g : Nat × Nat × Nat) (s : Nat) : Prop := (dSp D s).2.1 = g.1 ∧ dMy D s g.2.2 g.2.1
noncomputable def exI (D : Dat) (g : Nat × Nat × Nat) : Int32 := btI (exP D g) (dN D)
theorem x_sg {M : am_M} {z : Nat} {D : Dat} (h : XR M z D) : SgX M z (dSg D) := by
  obtain ⟨-, ⟨c, hP⟩, -⟩ := h
  exact hP.2.2.1
theorem sg_ok {D : Dat} (hD : dOK D) {i : Nat} {g : Nat × Nat × Nat} (hg : (dSg D)[i]? = some g) : i < 40 ∧ g.1 ≤ 3 ∧ vld (dC D) (dR D) g.2.1 ∧ g.2.1 < 256 ∧ g.2.2 < 48 := by
  have h1 := hD.1.2.2.2.2.2.2.2.1
  have h2 := h1.2 g (List.mem_of_getElem? hg)
  have h3 := (List.getElem?_eq_some_iff.mp hg).1
  exact ⟨by omega, h2.1, h2.2.1, (cel_lt hD.1.1.1 hD.1.1.2 h2.2.1).2.2, h2.2.2⟩
theorem l_x_expl (d z i : Nat) (g : Nat × Nat × Nat) (D : Dat) (M0 : am_M) (Q : Option Value → am_M → Prop) (hD : dOK D) (hg : (dSg D)[i]? = some g) (hQ : ∀ M', zF (sXq z) M0 M' → XR M' z D → Q (some (.int (exI D g))) M') :
    ∀ (m s : Nat), s + m = dN D → ∀ (M : am_M), zF (sXq z) M0 M → XR M z D → am_P am_P0 (d + 6) (am_look tX10_explainersOf) 13 [.ref 0, .int (nI i), .ref (z + 2), .int (btI (exP D g) s), .int (nI s)] [] M Q := by
  have n8 := dN_8 hD
  obtain ⟨i40, o1, o2, o3, o4⟩ := sg_ok hD hg
  intro m
  induction m with
  | zero =>
    intro s hs M hM h
    have hz := h.1.2.2.1
    have hL := h.1.1
    have hr := h.1.2.2.2.1
    have hle : nI (dN D) ≤ nI s := (ni_le (by omega) (by omega)).mpr (by omega)
    have h0 := hQ M hM h
    rw [hX10_explainersOf_13]
    simp +decide only [qX10_explainersOf_0, qX10_explainersOf_1, lx hL, lz hL hz, hr, (x_n h).1, am_w1_i, am_w1_r, am_w1_x, am_w1_l, am_w1_w, va_rf_s, am_push_n, am_push_s, am_cs_0, am_cs_i, am_cs_l, am_cs_r, m_uI_K, m_uI_N, m_uI_R, m_uI_L, m_uI_I, m_uL_K, m_uL_N, m_uL_R, m_uL_I, m_uL_L, m_uR_K, m_uR_N, m_uR_I, m_uR_L, m_uR_R, true_and, and_true, true_implies, false_implies, not_true_eq_false, not_false_eq_true, if_true, if_false, false_and, and_false]
    first | rw [br_p (hle)] | rw [br_r (hle)] | rw [br_s (hle)]
    rw [show s = dN D by omega]
    exact h0
  | succ m ih =>
    intro s hs M hM h
    have hz := h.1.2.2.1
    have hL := h.1.1
    have hr := h.1.2.2.2.1
    have hlt : ¬ nI (dN D) ≤ nI s := by rw [ni_le (by omega) (by omega)]; omega
    have hsh := lsh hL hz (s := s) (by omega)
    have hw_ := lw_ hL (isSh_z (z := z) (s := s) hz (by omega))
    have hlk := (x_ship h (s := s) (by omega)).1.2.1
    obtain ⟨q1, q2, q3⟩ := (x_sg h).2 i g hg
    have hok := dSp_ok hD.1 (s := s) (by omega)
    have hl3 := hok.2.2.2.1
    rw [hX10_explainersOf_13]
    simp +decide (disch := omega) only [qX10_explainersOf_0, qX10_explainersOf_1, lx hL, lz hL hz, hr, (x_n h).1, hsh, hw_, hlk, q1, ni_in_t, ni_tn, ni_add1, Classical.not_not, am_w1_i, am_w1_r, am_w1_x, am_w1_l, am_w1_w, va_rf_s, am_push_n, am_push_s, am_cs_0, am_cs_i, am_cs_l, am_cs_r, m_uI_K, m_uI_N, m_uI_R, m_uI_L, m_uI_I, m_uL_K, m_uL_N, m_uL_R, m_uL_I, m_uL_L, m_uR_K, m_uR_N, m_uR_I, m_uR_L, m_uR_R, true_and, and_true, true_implies, false_implies, not_true_eq_false, not_false_eq_true, if_true, if_false, false_and, and_false]
    first | rw [br_n (hlt)] | rw [br_q (hlt)] | rw [br_u (hlt)]
    rw [ni_eq (by omega) (by omega)]
    by_cases c : (dSp D s).2.1 = g.1
    · first | rw [br_p (c)] | rw [br_r (c)] | rw [br_s (c)]
      refine x_settled hD h (d + 0) (by omega) _ (fun M1 f1 X1 _ S1 => ?_)
      have L1 := X1.1.1
      have hst := lt_ L1 (isTr_of (show s < 8 by omega))
      obtain ⟨p1, p2, p3⟩ := (x_sg X1).2 i g hg
      have em := fun Q => x_mayBe (D := D) (t := g.2.2) (p := g.2.1) L1 (show s < 8 by omega) o4 o3 S1 (d + 5) Q
      have h0 := ih (s + 1) (by omega) M1 (zF_trans hM f1) X1
      simp +decide (disch := omega) only [qX10_explainersOf_0, qX10_explainersOf_1, lz L1 hz, hst, p2, p3, em, tI_0, ni_in_t, ni_tn, ni_add1, am_w1_i, am_w1_r, am_w1_x, am_w1_l, am_w1_w, va_rf_s, am_push_n, am_push_s, am_cs_0, am_cs_i, am_cs_l, am_cs_r, m_uI_K, m_uI_N, m_uI_R, m_uI_L, m_uI_I, m_uL_K, m_uL_N, m_uL_R, m_uL_I, m_uL_L, m_uR_K, m_uR_N, m_uR_I, m_uR_L, m_uR_R, true_and, and_true, true_implies, false_implies, not_true_eq_false, not_false_eq_true, if_true, if_false, false_and, and_false]
      by_cases c2 : dMy D s g.2.2 g.2.1
      · rw [btI_t ⟨c, c2⟩] at h0
        first | rw [br_p (c2)] | rw [br_r (c2)] | rw [br_s (c2)]
        exact h0
      · rw [btI_f (fun q => c2 q.2)] at h0
        first | rw [br_n (c2)] | rw [br_q (c2)] | rw [br_u (c2)]
        exact h0
    · have h0 := ih (s + 1) (by omega) M hM h
      rw [btI_f (fun q => c q.1)] at h0
      first | rw [br_n (c)] | rw [br_q (c)] | rw [br_u (c)]
      exact h0
theorem x_expl {M : am_M} {z i : Nat} {g : Nat × Nat × Nat} {D : Dat} (hD : dOK D) (h : XR M z D) (hg : (dSg D)[i]? = some g) (d : Nat) (Q : Option Value → am_M → Prop) (hQ : ∀ M', zF (sXq z) M M' → XR M' z D → Q (some (.int (exI D g))) M') : am_E am_P0 (d + 6) 158 [.ref 0, .int (nI i)] M Q := by
  have hz := h.1.2.2.1
  have hL := h.1.1
  have hr := h.1.2.2.2.1
  have h0 := l_x_expl d z i g D M Q hD hg hQ (dN D) 0 (by omega) M (XR_2 h) h
  rw [eX10_explainersOf]
  simp +decide only [qX10_explainersOf_0, qX10_explainersOf_1, lx hL, lz hL hz, hr, am_w1_i, am_w1_r, am_w1_x, am_w1_l, am_w1_w, va_rf_s, am_push_n, am_push_s, am_cs_0, am_cs_i, am_cs_l, am_cs_r, m_uI_K, m_uI_N, m_uI_R, m_uI_L, m_uI_I, m_uL_K, m_uL_N, m_uL_R, m_uL_I, m_uL_L, m_uR_K, m_uR_N, m_uR_I, m_uR_L, m_uR_R, true_and, and_true, true_implies, false_implies, not_true_eq_false, not_false_eq_true, if_true, if_false, false_and, and_false]
  exact h0
noncomputable def sgA (D : Dat) (i : Nat) (w : Int32) : Int32 := match (dSg D)[i]? with
  | none => -1
  | some g => if w.toInt = 0 then nI g.1 else if w.toInt = 1 then nI (cel (dC D) g.2.1) else if w.toInt = 2 then nI g.2.2 else if w.toInt = 3 then exI D g else -1
noncomputable def aSgt (i w : Int32) (D : Dat) : Value := .int (if 0 ≤ i.toInt then sgA D i.toInt.toNat w else -1)
theorem x_sighting (i w : Int32) : XqO 131 [.int i, .int w] (aSgt i w) := by
  intro d M z D Q hD h hQ
  have hz := h.1.2.2.1
  have hL := h.1.1
  have hr := h.1.2.2.2.1
  have hn := (x_sg h).1
  have h40 := hD.1.2.2.2.2.2.2.2.1.1
  unfold aSgt at hQ
  rw [eX10_sighting]
  simp +decide only [qX10_sighting_0, qX10_sighting_1, lx hL, lz hL hz, hr, hn, am_w1_i, am_w1_r, am_w1_x, am_w1_l, am_w1_w, va_rf_s, am_push_n, am_push_s, am_cs_0, am_cs_i, am_cs_l, am_cs_r, m_uI_K, m_uI_N, m_uI_R, m_uI_L, m_uI_I, m_uL_K, m_uL_N, m_uL_R, m_uL_I, m_uL_L, m_uR_K, m_uR_N, m_uR_I, m_uR_L, m_uR_R, true_and, and_true, true_implies, false_implies, not_true_eq_false, not_false_eq_true, if_true, if_false, false_and, and_false]
  by_cases i0 : i < 0
  · have h0 := hQ M (XR_2 h) h
    rw [if_neg (by rw [lt32, z32] at i0; omega)] at h0
    first | rw [br_p (i0)] | rw [br_r (i0)] | rw [br_s (i0)]
    exact h0
  · first | rw [br_n (i0)] | rw [br_q (i0)] | rw [br_u (i0)]
    rw [lt32, z32] at i0
    rw [if_pos (by omega)] at hQ
    unfold sgA at hQ
    obtain ⟨k, hk⟩ : ∃ k, i.toInt.toNat = k := ⟨_, rfl⟩
    rw [hk] at hQ
    by_cases il : i < nI (dSg D).length
    · first | rw [br_p (il)] | rw [br_r (il)] | rw [br_s (il)]
      rw [lt32, ni_ti (by omega)] at il
      have hkl : k < (dSg D).length := by omega
      have ei : i = nI k := i32_of (by omega) (by omega)
      obtain ⟨g, hg⟩ : ∃ g, (dSg D)[k]? = some g := ⟨(dSg D)[k], List.getElem?_eq_getElem hkl⟩
      rw [hg] at hQ
      dsimp only at hQ
      obtain ⟨q1, q2, q3⟩ := (x_sg h).2 k g hg
      obtain ⟨i40, o1, o2, o3, o4⟩ := sg_ok hD hg
      have en := fun Q => x_numberOf h (d + 19) g.2.1 Q o3
      rw [ei]
      rcases sw_of w 4 (by omega) with ⟨n, n1, n2, n3⟩ | c1
      · rw [n3] at hQ
        rw [n2]
        rcases (by omega : n = 0 ∨ n = 1 ∨ n = 2 ∨ n = 3) with e | e | e | e <;> subst e
        · have h0 := hQ M (XR_2 h) h
          rw [show am_tab 0 [52, 65, 85, 98] 104 (nI 0) = 52 from rfl]
          simp +decide (disch := omega) only [qX10_sighting_0, qX10_sighting_1, lx hL, lz hL hz, hr, q1, ni_in_t, ni_tn, if_true, if_false, am_w1_i, am_w1_r, am_w1_x, am_w1_l, am_w1_w, va_rf_s, am_push_n, am_push_s, am_cs_0, am_cs_i, am_cs_l, am_cs_r, m_uI_K, m_uI_N, m_uI_R, m_uI_L, m_uI_I, m_uL_K, m_uL_N, m_uL_R, m_uL_I, m_uL_L, m_uR_K, m_uR_N, m_uR_I, m_uR_L, m_uR_R, true_and, and_true, true_implies, false_implies, not_true_eq_false, not_false_eq_true, if_true, if_false, false_and, and_false] at h0 ⊢
          exact h0
        · have h0 := hQ M (XR_2 h) h
          rw [show am_tab 0 [52, 65, 85, 98] 104 (nI 1) = 65 from rfl]
          simp +decide (disch := omega) only [qX10_sighting_0, qX10_sighting_1, lx hL, lz hL hz, hr, q2, en, ni_in_t, ni_tn, if_true, if_false, am_w1_i, am_w1_r, am_w1_x, am_w1_l, am_w1_w, va_rf_s, am_push_n, am_push_s, am_cs_0, am_cs_i, am_cs_l, am_cs_r, m_uI_K, m_uI_N, m_uI_R, m_uI_L, m_uI_I, m_uL_K, m_uL_N, m_uL_R, m_uL_I, m_uL_L, m_uR_K, m_uR_N, m_uR_I, m_uR_L, m_uR_R, true_and, and_true, true_implies, false_implies, not_true_eq_false, not_false_eq_true, if_true, if_false, false_and, and_false] at h0 ⊢
          exact h0
        · have h0 := hQ M (XR_2 h) h
          rw [show am_tab 0 [52, 65, 85, 98] 104 (nI 2) = 85 from rfl]
          simp +decide (disch := omega) only [qX10_sighting_0, qX10_sighting_1, lx hL, lz hL hz, hr, q3, ni_in_t, ni_tn, if_true, if_false, am_w1_i, am_w1_r, am_w1_x, am_w1_l, am_w1_w, va_rf_s, am_push_n, am_push_s, am_cs_0, am_cs_i, am_cs_l, am_cs_r, m_uI_K, m_uI_N, m_uI_R, m_uI_L, m_uI_I, m_uL_K, m_uL_N, m_uL_R, m_uL_I, m_uL_L, m_uR_K, m_uR_N, m_uR_I, m_uR_L, m_uR_R, true_and, and_true, true_implies, false_implies, not_true_eq_false, not_false_eq_true, if_true, if_false, false_and, and_false] at h0 ⊢
          exact h0
        · rw [show am_tab 0 [52, 65, 85, 98] 104 (nI 3) = 98 from rfl]
          simp +decide only [qX10_sighting_0, qX10_sighting_1, lx hL, am_w1_i, am_w1_r, am_w1_x, am_w1_l, am_w1_w, va_rf_s, am_push_n, am_push_s, am_cs_0, am_cs_i, am_cs_l, am_cs_r, m_uI_K, m_uI_N, m_uI_R, m_uI_L, m_uI_I, m_uL_K, m_uL_N, m_uL_R, m_uL_I, m_uL_L, m_uR_K, m_uR_N, m_uR_I, m_uR_L, m_uR_R, true_and, and_true, true_implies, false_implies, not_true_eq_false, not_false_eq_true, if_true, if_false, false_and, and_false]
          refine x_expl hD h hg (d + 13) _ (fun M1 f1 X1 => ?_)
          have h0 := hQ M1 f1 X1
          simp +decide only [qX10_sighting_0, qX10_sighting_1, if_true, if_false, am_w1_i, am_w1_r, am_w1_x, am_w1_l, am_w1_w, va_rf_s, am_push_n, am_push_s, am_cs_0, am_cs_i, am_cs_l, am_cs_r, m_uI_K, m_uI_N, m_uI_R, m_uI_L, m_uI_I, m_uL_K, m_uL_N, m_uL_R, m_uL_I, m_uL_L, m_uR_K, m_uR_N, m_uR_I, m_uR_L, m_uR_R, true_and, and_true, true_implies, false_implies, not_true_eq_false, not_false_eq_true, if_true, if_false, false_and, and_false] at h0 ⊢
          exact h0
      · have h0 := hQ M (XR_2 h) h
        rw [if_neg (by omega), if_neg (by omega), if_neg (by omega), if_neg (by omega)] at h0
        rw [am_tab_out (by simp; omega)]
        simp +decide only [qX10_sighting_0, qX10_sighting_1, am_w1_i, am_w1_r, am_w1_x, am_w1_l, am_w1_w, va_rf_s, am_push_n, am_push_s, am_cs_0, am_cs_i, am_cs_l, am_cs_r, m_uI_K, m_uI_N, m_uI_R, m_uI_L, m_uI_I, m_uL_K, m_uL_N, m_uL_R, m_uL_I, m_uL_L, m_uR_K, m_uR_N, m_uR_I, m_uR_L, m_uR_R, true_and, and_true, true_implies, false_implies, not_true_eq_false, not_false_eq_true, if_true, if_false, false_and, and_false]
        exact h0
    · first | rw [br_n (il)] | rw [br_q (il)] | rw [br_u (il)]
      rw [lt32, ni_ti (by omega)] at il
      have h0 := hQ M (XR_2 h) h
      rw [List.getElem?_eq_none (by omega)] at h0
      exact h0
/-- the model: who explains which -/
def ExM (M : am_M) (D : Dat) : Prop := ∀ i g, (dSg D)[i]? = some g → mI M 332 i = exI D g
def s332 (a _j : Nat) : Prop := a = 332
theorem l_m_ex0 (d : Nat) (M0 : am_M) (Q : Option Value → am_M → Prop) (hL0 : Lay M0) (v2 v3 : Value) (h2 : jk v2) (h3 : jk v3) (hN : ∀ M', gF s332 nT M0 M' → (∀ i, i < 40 → mI M' 332 i = 0) → am_P am_P0 d (am_look tX11_explains) 23 [.ref 277, .int 0, v2, v3] [] M' Q) :
    ∀ (m i : Nat), i + m = 40 → ∀ (M : am_M), gF s332 nT M0 M → (∀ k, k < i → mI M 332 k = 0) → am_P am_P0 d (am_look tX11_explains) 2 [.ref 277, .int (nI i), v2, v3] [] M Q := by
  intro m
  induction m with
  | zero =>
    intro i hi M hM hb
    have ei : i = 40 := by omega
    subst ei
    have h0 := hN M hM hb
    rw [hX11_explains_2]
    simp +decide only [qX11_explains_0, qX11_explains_1, show nI 40 = (40 : Int32) from rfl, jk_w h2, jk_w h3, am_w1_i, am_w1_r, am_w1_x, am_w1_l, am_w1_w, va_rf_s, am_push_n, am_push_s, am_cs_0, am_cs_i, am_cs_l, am_cs_r, m_uI_K, m_uI_N, m_uI_R, m_uI_L, m_uI_I, m_uL_K, m_uL_N, m_uL_R, m_uL_I, m_uL_L, m_uR_K, m_uR_N, m_uR_I, m_uR_L, m_uR_R, true_and, and_true, true_implies, false_implies, not_true_eq_false, not_false_eq_true, if_true, if_false, false_and, and_false] at h0 ⊢
    exact h0
  | succ m ih =>
    intro i hi M hM hb
    have hL := gF_LayN hM hL0
    have hlt : ¬ (40 : Int32) ≤ nI i := by rw [show (40 : Int32) = nI 40 from rfl, ni_le (by omega) (by omega)]; omega
    have w1 : gF s332 nT M (uI M 332 i 0) := gF_i _ rfl
    have h0 := ih (i + 1) (by omega) (uI M 332 i 0) (gF_trans hM w1) (fun k hk => by
      rw [m_uI_I]
      by_cases e : k = i
      · rw [if_pos ⟨rfl, e⟩]
      · rw [if_neg (by omega)]; exact hb k (by omega))
    rw [hX11_explains_2]
    simp +decide (disch := omega) only [qX11_explains_0, qX11_explains_1, lm hL, ni_in_t, ni_tn, ni_add1, jk_w h2, jk_w h3, am_w1_i, am_w1_r, am_w1_x, am_w1_l, am_w1_w, va_rf_s, am_push_n, am_push_s, am_cs_0, am_cs_i, am_cs_l, am_cs_r, m_uI_K, m_uI_N, m_uI_R, m_uI_L, m_uI_I, m_uL_K, m_uL_N, m_uL_R, m_uL_I, m_uL_L, m_uR_K, m_uR_N, m_uR_I, m_uR_L, m_uR_R, true_and, and_true, true_implies, false_implies, not_true_eq_false, not_false_eq_true, if_true, if_false, false_and, and_false]
    first | rw [br_n (hlt)] | rw [br_q (hlt)] | rw [br_u (hlt)]
    exact h0
theorem l_m_ex2 (d b s : Nat) (D : Dat) (M0 : am_M) (Q : Option Value → am_M → Prop) (hD : dOK D) (hL0 : Lay M0) (h0' : MdM M0 b D) (hs : s < dN D) (hY0 : LyM M0 (dC D) (dR D) (dWt D s) (dV D s) (dSn D s) (dBs D s) (dY D s))
    (hN : ∀ M' v2 v3, gF s332 nT M0 M' → jk v2 → jk v3 → (∀ i g, (dSg D)[i]? = some g → mI M' 332 i = btI (exP D g) (s + 1)) → am_P am_P0 (d + 2) (am_look tX11_explains) 23 [.ref 277, .int (nI (s + 1)), v2, v3] [] M' Q) :
    ∀ (m i : Nat), i + m = (dSg D).length → ∀ (M : am_M) (v3 : Value), jk v3 → gF s332 nT M0 M → (∀ k g, k < i → (dSg D)[k]? = some g → mI M 332 k = btI (exP D g) (s + 1)) → (∀ k g, i ≤ k → (dSg D)[k]? = some g → mI M 332 k = btI (exP D g) s) → am_P am_P0 (d + 2) (am_look tX11_explains) 43 [.ref 277, .int (nI s), .int (nI i), v3] [] M Q := by
  have n8 := dN_8 hD
  have h40 := hD.1.2.2.2.2.2.2.2.1.1
  intro m
  induction m with
  | zero =>
    intro i hi M v3 h3 hM hb hc
    have hL := gF_LayN hM hL0
    have h := MdM_g h0' hM (fun a j q z => by unfold s332 at z; unfold tlM at q; omega)
    have hb2 := h.1.2
    have hle : nI (dSg D).length ≤ nI i := (ni_le (by omega) (by omega)).mpr (by omega)
    have h0 := hN M (.int (nI i)) v3 hM (Or.inr ⟨_, rfl⟩) h3 (fun k g hk => hb k g (by have := (List.getElem?_eq_some_iff.mp hk).1; omega) hk)
    rw [hX11_explains_43]
    simp +decide (disch := omega) only [qX11_explains_0, qX11_explains_1, lm hL, h.1.1, h.2.2.2.2.2.2.1.1, ni_in_t, ni_tn, ni_add1, jk_w h3, am_w1_i, am_w1_r, am_w1_x, am_w1_l, am_w1_w, va_rf_s, am_push_n, am_push_s, am_cs_0, am_cs_i, am_cs_l, am_cs_r, m_uI_K, m_uI_N, m_uI_R, m_uI_L, m_uI_I, m_uL_K, m_uL_N, m_uL_R, m_uL_I, m_uL_L, m_uR_K, m_uR_N, m_uR_I, m_uR_L, m_uR_R, true_and, and_true, true_implies, false_implies, not_true_eq_false, not_false_eq_true, if_true, if_false, false_and, and_false] at h0 ⊢
    first | rw [br_p (hle)] | rw [br_r (hle)] | rw [br_s (hle)]
    exact h0
  | succ m ih =>
    intro i hi M v3 h3 hM hb hc
    have hL := gF_LayN hM hL0
    have h := MdM_g h0' hM (fun a j q z => by unfold s332 at z; unfold tlM at q; omega)
    have hY := LyM_g hY0 hM (fun a j q z => by unfold s332 at z; unfold sY sK sP sFG sF sG at q; omega)
    have hb2 := h.1.2
    have hlt : ¬ nI (dSg D).length ≤ nI i := by rw [ni_le (by omega) (by omega)]; omega
    obtain ⟨g, hg⟩ : ∃ g, (dSg D)[i]? = some g := ⟨(dSg D)[i]'(by omega), List.getElem?_eq_getElem (by omega)⟩
    obtain ⟨i40, o1, o2, o3, o4⟩ := sg_ok hD hg
    obtain ⟨q1, q2, q3⟩ := h.2.2.2.2.2.2.1.2 i g hg
    obtain ⟨-, r1, -⟩ := h.2.2.2.1.2 s _ (dSp_at hs)
    have hok := dSp_ok hD.1 hs
    have hl3 := hok.2.2.2.1
    have e40 : (40 : Int32) * nI b + nI i = nI (40 * b + i) := by rw [show (40 : Int32) = nI 40 from rfl, ni_mul, ni_add]
    have e8 : (8 : Int32) * nI b + nI s = nI (8 * b + s) := by rw [show (8 : Int32) = nI 8 from rfl, ni_mul, ni_add]
    have em := fun Q => m_mayBe hD hL h hs d Q hY o2 o4
    have hci := hc i g (by omega) hg
    rw [hX11_explains_43]
    simp +decide (disch := omega) only [qX11_explains_0, qX11_explains_1, lm hL, h.1.1, h.2.2.2.2.2.2.1.1, e40, e8, q1, q2, q3, r1, em, hci, tI_0, ni_in_t, ni_tn, ni_add1, jk_w h3, Classical.not_not, am_w1_i, am_w1_r, am_w1_x, am_w1_l, am_w1_w, va_rf_s, am_push_n, am_push_s, am_cs_0, am_cs_i, am_cs_l, am_cs_r, m_uI_K, m_uI_N, m_uI_R, m_uI_L, m_uI_I, m_uL_K, m_uL_N, m_uL_R, m_uL_I, m_uL_L, m_uR_K, m_uR_N, m_uR_I, m_uR_L, m_uR_R, true_and, and_true, true_implies, false_implies, not_true_eq_false, not_false_eq_true, if_true, if_false, false_and, and_false]
    first | rw [br_n (hlt)] | rw [br_q (hlt)] | rw [br_u (hlt)]
    rw [ni_eq (by omega) (by omega)]
    have stay : ¬ exP D g s → am_P am_P0 (d + 2) (am_look tX11_explains) 43 [.ref 277, .int (nI s), .int (nI (i + 1)), .int (nI (40 * b + i))] [] M Q := fun hn => ih (i + 1) (by omega) M _ (Or.inr ⟨_, rfl⟩) hM (fun k g' hk hg' => by
      by_cases e : k = i
      · subst e; rw [hg] at hg'; cases hg'; rw [btI_f hn]; exact hci
      · exact hb k g' (by omega) hg') (fun k g' hk hg' => hc k g' (by omega) hg')
    by_cases c : g.1 = (dSp D s).2.1
    · first | rw [br_p (c)] | rw [br_r (c)] | rw [br_s (c)]
      by_cases c2 : dMy D s g.2.2 g.2.1
      · first | rw [br_p (c2)] | rw [br_r (c2)] | rw [br_s (c2)]
        have w1 : gF s332 nT M (uI M 332 i (btI (exP D g) s ||| ((1 : Int32) <<< (nI s &&& 31)))) := gF_i _ rfl
        exact ih (i + 1) (by omega) _ _ (Or.inr ⟨_, rfl⟩) (gF_trans hM w1) (fun k g' hk hg' => by
          rw [m_uI_I]
          by_cases e : k = i
          · subst e; rw [hg] at hg'; cases hg'; rw [if_pos ⟨rfl, rfl⟩, btI_t ⟨c.symm, c2⟩]
          · rw [if_neg (by omega)]; exact hb k g' (by omega) hg') (fun k g' hk hg' => by rw [m_uI_I, if_neg (by omega)]; exact hc k g' (by omega) hg')
      · first | rw [br_n (c2)] | rw [br_q (c2)] | rw [br_u (c2)]
        exact stay (fun q => c2 q.2)
    · first | rw [br_n (c)] | rw [br_q (c)] | rw [br_u (c)]
      exact stay (fun q => c q.1.symm)
theorem MdM_z {M M' : am_M} {b : Nat} {D : Dat} (h : MdM M b D) (hg : gF sMz nT M M') : MdM M' b D := MdM_g h hg (fun a j q w => by unfold tlM at q; unfold sMz sMq at w; omega)
theorem l_m_ex1 (d b : Nat) (D : Dat) (M0 : am_M) (Q : Option Value → am_M → Prop) (hD : dOK D) (hL0 : Lay M0) (h0' : MdM M0 b D) (hQ : ∀ M', gF sMz nT M0 M' → ExM M' D → Q none M') :
    ∀ (m s : Nat), s + m = dN D → ∀ (M : am_M) (v2 v3 : Value), jk v2 → jk v3 → gF sMz nT M0 M → (∀ i g, (dSg D)[i]? = some g → mI M 332 i = btI (exP D g) s) → am_P am_P0 (d + 8) (am_look tX11_explains) 23 [.ref 277, .int (nI s), v2, v3] [] M Q := by
  have n8 := dN_8 hD
  intro m
  induction m with
  | zero =>
    intro s hs M v2 v3 h2 h3 hM hb
    have hL := gF_LayN hM hL0
    have h := MdM_z h0' hM
    have hb2 := h.1.2
    have hle : nI (dN D) ≤ nI s := (ni_le (by omega) (by omega)).mpr (by omega)
    have h0 := hQ M hM (fun i g hg => by rw [hb i g hg, show s = dN D by omega]; rfl)
    rw [hX11_explains_23]
    simp +decide (disch := omega) only [qX11_explains_0, qX11_explains_1, lm hL, h.1.1, h.2.2.2.1.1, ni_in_t, ni_tn, am_w1_i, am_w1_r, am_w1_x, am_w1_l, am_w1_w, va_rf_s, am_push_n, am_push_s, am_cs_0, am_cs_i, am_cs_l, am_cs_r, m_uI_K, m_uI_N, m_uI_R, m_uI_L, m_uI_I, m_uL_K, m_uL_N, m_uL_R, m_uL_I, m_uL_L, m_uR_K, m_uR_N, m_uR_I, m_uR_L, m_uR_R, true_and, and_true, true_implies, false_implies, not_true_eq_false, not_false_eq_true, if_true, if_false, false_and, and_false]
    first | rw [br_p (hle)] | rw [br_r (hle)] | rw [br_s (hle)]
    exact h0
  | succ m ih =>
    intro s hs M v2 v3 h2 h3 hM hb
    have hL := gF_LayN hM hL0
    have h := MdM_z h0' hM
    have hb2 := h.1.2
    have hlt : ¬ nI (dN D) ≤ nI s := by rw [ni_le (by omega) (by omega)]; omega
    rw [hX11_explains_23]
    simp +decide (disch := omega) only [qX11_explains_0, qX11_explains_1, lm hL, h.1.1, h.2.2.2.1.1, jk_w h2, jk_w h3, ni_in_t, ni_tn, am_w1_i, am_w1_r, am_w1_x, am_w1_l, am_w1_w, va_rf_s, am_push_n, am_push_s, am_cs_0, am_cs_i, am_cs_l, am_cs_r, m_uI_K, m_uI_N, m_uI_R, m_uI_L, m_uI_I, m_uL_K, m_uL_N, m_uL_R, m_uL_I, m_uL_L, m_uR_K, m_uR_N, m_uR_I, m_uR_L, m_uR_R, true_and, and_true, true_implies, false_implies, not_true_eq_false, not_false_eq_true, if_true, if_false, false_and, and_false]
    first | rw [br_n (hlt)] | rw [br_q (hlt)] | rw [br_u (hlt)]
    obtain ⟨-, u2, -⟩ := mh hD h (s := s) (by omega)
    obtain ⟨w1, w2, w3, w4, w5⟩ := mh hD h (s := s) (by omega)
    refine c_m_lays d s b (dC D) (dR D) (dV D s) (dDp D) (dDr D s) (dLd D s) (dBk D) (dY D s) M _ hL w1 (by omega) w2 w3 w4 (dY_len hD s) (fun M1 o1 y1 => ?_)
    rw [w5] at y1
    have g1 : gF sMz nT M M1 := gF_up (gF_o o1) (fun a j q => Or.inl (sMq_Y q)) (fun _ _ q => q)
    have L1 := gF_LayN g1 hL
    have h1 := MdM_z h g1
    have h9 := l_m_ex2 (d + 6) b s D M1 Q hD L1 h1 (by omega) y1 (fun M' v2' v3' g' q2 q3 e' => ih (s + 1) (by omega) M' v2' v3' q2 q3 (gF_trans hM (gF_trans g1 (gF_up g' (fun a j q => by unfold s332 at q; unfold sMz sMq; omega) (fun _ _ q => q)))) e') (dSg D).length 0 (by omega) M1 v3 h3 (gF_refl _ _ _) (fun k g hk => by omega) (fun k g _ hg => by rw [o1.1 _ _ (by unfold sY sK sP sFG sF sG; omega)]; exact hb k g hg)
    simp +decide only [qX11_explains_0, qX11_explains_1, jk_w h3, am_w1_i, am_w1_r, am_w1_x, am_w1_l, am_w1_w, va_rf_s, am_push_n, am_push_s, am_cs_0, am_cs_i, am_cs_l, am_cs_r, m_uI_K, m_uI_N, m_uI_R, m_uI_L, m_uI_I, m_uL_K, m_uL_N, m_uL_R, m_uL_I, m_uL_L, m_uR_K, m_uR_N, m_uR_I, m_uR_L, m_uR_R, true_and, and_true, true_implies, false_implies, not_true_eq_false, not_false_eq_true, if_true, if_false, false_and, and_false]
    exact h9
theorem m_explains {M : am_M} {b : Nat} {D : Dat} (hD : dOK D) (hL : Lay M) (h : MdM M b D) (d : Nat) (Q : Option Value → am_M → Prop) (hQ : ∀ M', gF sMz nT M M' → ExM M' D → Q none M') : am_E am_P0 (d + 8) 279 [.ref 277] M Q := by
  have h40 := hD.1.2.2.2.2.2.2.2.1.1
  have h0 := l_m_ex0 (d + 8) M Q hL am_x am_x (Or.inl rfl) (Or.inl rfl) (fun M' g' e' => by
    have g2 : gF sMz nT M M' := gF_up g' (fun a j q => by unfold s332 at q; unfold sMz sMq; omega) (fun _ _ q => q)
    exact l_m_ex1 d b D M' Q hD (gF_LayN g' hL) (MdM_z h g2) (fun M2 q2 => hQ M2 (gF_trans g2 q2)) (dN D) 0 (by omega) M' am_x am_x (Or.inl rfl) (Or.inl rfl) (gF_refl _ _ _) (fun i g hg => e' i (by have := (List.getElem?_eq_some_iff.mp hg).1; omega))) 40 0 (by omega) M (gF_refl _ _ _) (fun k hk => by omega)
  rw [eX11_explains]
  simp +decide only [qX11_explains_0, qX11_explains_1, am_w1_i, am_w1_r, am_w1_x, am_w1_l, am_w1_w, va_rf_s, am_push_n, am_push_s, am_cs_0, am_cs_i, am_cs_l, am_cs_r, m_uI_K, m_uI_N, m_uI_R, m_uI_L, m_uI_I, m_uL_K, m_uL_N, m_uL_R, m_uL_I, m_uL_L, m_uR_K, m_uR_N, m_uR_I, m_uR_L, m_uR_R, true_and, and_true, true_implies, false_implies, not_true_eq_false, not_false_eq_true, if_true, if_false, false_and, and_false]
  exact h0
theorem m_sighting (i w : Int32) : MzO 280 [.int i, .int w] (aSgt i w) := by
  intro d M b D Q hD hL h hQ
  have hb2 := h.1.2
  have hn := h.2.2.2.2.2.2.1.1
  have h40 := hD.1.2.2.2.2.2.2.2.1.1
  have e3 : (3 : Int32).toInt = 3 := rfl
  unfold aSgt at hQ
  rw [eX11_sighting]
  simp +decide (disch := omega) only [qX11_sighting_0, qX11_sighting_1, lm hL, h.1.1, hn, c_m_is, bI_0, ni_in_t, ni_tn, Classical.not_not, am_w1_i, am_w1_r, am_w1_x, am_w1_l, am_w1_w, va_rf_s, am_push_n, am_push_s, am_cs_0, am_cs_i, am_cs_l, am_cs_r, m_uI_K, m_uI_N, m_uI_R, m_uI_L, m_uI_I, m_uL_K, m_uL_N, m_uL_R, m_uL_I, m_uL_L, m_uR_K, m_uR_N, m_uR_I, m_uR_L, m_uR_R, true_and, and_true, true_implies, false_implies, not_true_eq_false, not_false_eq_true, if_true, if_false, false_and, and_false]
  rw [is_lt (v := i) (n := (dSg D).length) (by omega)]
  by_cases hi : 0 ≤ i.toInt ∧ i.toInt < (dSg D).length
  · first | rw [br_p (hi)] | rw [br_r (hi)] | rw [br_s (hi)]
    rw [if_pos hi.1] at hQ
    unfold sgA at hQ
    obtain ⟨k, hk⟩ : ∃ k, i.toInt.toNat = k := ⟨_, rfl⟩
    rw [hk] at hQ
    have hkl : k < (dSg D).length := by omega
    have ei : i = nI k := i32_of (by omega) (by omega)
    obtain ⟨g, hg⟩ : ∃ g, (dSg D)[k]? = some g := ⟨(dSg D)[k], List.getElem?_eq_getElem hkl⟩
    rw [hg] at hQ
    dsimp only at hQ
    obtain ⟨q1, q2, q3⟩ := h.2.2.2.2.2.2.1.2 k g hg
    have e40 : (40 : Int32) * nI b + nI k = nI (40 * b + k) := by rw [show (40 : Int32) = nI 40 from rfl, ni_mul, ni_add]
    rw [ei]
    by_cases w3 : 0 ≤ w ∧ w ≤ 3
    · first | rw [br_p (w3)] | rw [br_r (w3)] | rw [br_s (w3)]
      rw [le32, le32, z32, e3] at w3
      obtain ⟨n, n2⟩ : ∃ n, w.toInt.toNat = n := ⟨_, rfl⟩
      have ew : w = nI n := i32_of (by omega) (by omega)
      rw [show w.toInt = n by omega] at hQ
      rw [ew]
      rcases (by omega : n = 0 ∨ n = 1 ∨ n = 2 ∨ n = 3) with e | e | e | e <;> subst e
      · have h0 := hQ M (gF_refl _ _ _)
        simp +decide (disch := omega) only [show nI 0 = (0 : Int32) from rfl, qX11_sighting_0, qX11_sighting_1, lm hL, h.1.1, e40, q1, ni_in_t, ni_tn, if_true, if_false, am_w1_i, am_w1_r, am_w1_x, am_w1_l, am_w1_w, va_rf_s, am_push_n, am_push_s, am_cs_0, am_cs_i, am_cs_l, am_cs_r, m_uI_K, m_uI_N, m_uI_R, m_uI_L, m_uI_I, m_uL_K, m_uL_N, m_uL_R, m_uL_I, m_uL_L, m_uR_K, m_uR_N, m_uR_I, m_uR_L, m_uR_R, true_and, and_true, true_implies, false_implies, not_true_eq_false, not_false_eq_true, if_true, if_false, false_and, and_false] at h0 ⊢
        exact h0
      · have h0 := hQ M (gF_refl _ _ _)
        simp +decide (disch := omega) only [show nI 1 = (1 : Int32) from rfl, qX11_sighting_0, qX11_sighting_1, lm hL, h.1.1, e40, q2, ni_in_t, ni_tn, if_true, if_false, am_w1_i, am_w1_r, am_w1_x, am_w1_l, am_w1_w, va_rf_s, am_push_n, am_push_s, am_cs_0, am_cs_i, am_cs_l, am_cs_r, m_uI_K, m_uI_N, m_uI_R, m_uI_L, m_uI_I, m_uL_K, m_uL_N, m_uL_R, m_uL_I, m_uL_L, m_uR_K, m_uR_N, m_uR_I, m_uR_L, m_uR_R, true_and, and_true, true_implies, false_implies, not_true_eq_false, not_false_eq_true, if_true, if_false, false_and, and_false] at h0 ⊢
        exact h0
      · have h0 := hQ M (gF_refl _ _ _)
        simp +decide (disch := omega) only [show nI 2 = (2 : Int32) from rfl, qX11_sighting_0, qX11_sighting_1, lm hL, h.1.1, e40, q3, ni_in_t, ni_tn, if_true, if_false, am_w1_i, am_w1_r, am_w1_x, am_w1_l, am_w1_w, va_rf_s, am_push_n, am_push_s, am_cs_0, am_cs_i, am_cs_l, am_cs_r, m_uI_K, m_uI_N, m_uI_R, m_uI_L, m_uI_I, m_uL_K, m_uL_N, m_uL_R, m_uL_I, m_uL_L, m_uR_K, m_uR_N, m_uR_I, m_uR_L, m_uR_R, true_and, and_true, true_implies, false_implies, not_true_eq_false, not_false_eq_true, if_true, if_false, false_and, and_false] at h0 ⊢
        exact h0
      · simp +decide (disch := omega) only [show nI 3 = (3 : Int32) from rfl, qX11_sighting_0, qX11_sighting_1, lm hL, am_w1_i, am_w1_r, am_w1_x, am_w1_l, am_w1_w, va_rf_s, am_push_n, am_push_s, am_cs_0, am_cs_i, am_cs_l, am_cs_r, m_uI_K, m_uI_N, m_uI_R, m_uI_L, m_uI_I, m_uL_K, m_uL_N, m_uL_R, m_uL_I, m_uL_L, m_uR_K, m_uR_N, m_uR_I, m_uR_L, m_uR_R, true_and, and_true, true_implies, false_implies, not_true_eq_false, not_false_eq_true, if_true, if_false, false_and, and_false]
        refine m_explains hD hL h (d + 11) _ (fun M1 g1 x1 => ?_)
        have h0 := hQ M1 g1
        have L1 := gF_LayN g1 hL
        simp +decide (disch := omega) only [qX11_sighting_0, qX11_sighting_1, lm L1, x1 k g hg, ni_in_t, ni_tn, if_true, if_false, am_w1_i, am_w1_r, am_w1_x, am_w1_l, am_w1_w, va_rf_s, am_push_n, am_push_s, am_cs_0, am_cs_i, am_cs_l, am_cs_r, m_uI_K, m_uI_N, m_uI_R, m_uI_L, m_uI_I, m_uL_K, m_uL_N, m_uL_R, m_uL_I, m_uL_L, m_uR_K, m_uR_N, m_uR_I, m_uR_L, m_uR_R, true_and, and_true, true_implies, false_implies, not_true_eq_false, not_false_eq_true, if_true, if_false, false_and, and_false] at h0 ⊢
        exact h0
    · first | rw [br_n (w3)] | rw [br_q (w3)] | rw [br_u (w3)]
      rw [le32, le32, z32, e3] at w3
      have h0 := hQ M (gF_refl _ _ _)
      rw [if_neg (by omega), if_neg (by omega), if_neg (by omega), if_neg (by omega)] at h0
      exact h0
  · first | rw [br_n (hi)] | rw [br_q (hi)] | rw [br_u (hi)]
    have h0 := hQ M (gF_refl _ _ _)
    by_cases i0 : 0 ≤ i.toInt
    · rw [if_pos i0] at h0
      unfold sgA at h0
      rw [List.getElem?_eq_none (by omega)] at h0
      exact h0
    · rw [if_neg i0] at h0
      exact h0
theorem op_sighting (i w : Int32) : OpI 131 280 [.int i, .int w] isI := op_z (fun D => ⟨_, rfl⟩) (x_sighting i w) (m_sighting i w)
end
section
/-! strange, doubted -/
def d0 : Nat × Nat × Nat := (0, 0, 0)
def sgD (D : Dat) (i : Nat) : Nat × Nat × Nat := (dSg D).getD i d0
theorem sgD_at {D : Dat} {i : Nat} (h : i < (dSg D).length) : (dSg D)[i]? = some (sgD D i) := by
  unfold sgD
  rw [List.getD_eq_getElem?_getD, List.getElem?_eq_getElem h]
  rfl
noncomputable def snN (D : Dat) : Nat → Nat := cnt (fun i => dB (exI D (sgD D i) = 0))
noncomputable def aStr (D : Dat) : Value := .int (nI (snN D (dSg D).length))
theorem l_x_strange (d z : Nat) (D : Dat) (M0 : am_M) (Q : Option Value → am_M → Prop) (hD : dOK D) (hQ : ∀ M', zF (sXq z) M0 M' → XR M' z D → Q (some (.int (nI (snN D (dSg D).length)))) M') :
    ∀ (m i : Nat), i + m = (dSg D).length → ∀ (M : am_M), zF (sXq z) M0 M → XR M z D → am_P am_P0 (d + 7) (am_look tX10_strange) 4 [.ref 0, .int (nI (snN D i)), .int (nI i)] [] M Q := by
  have h40 := hD.1.2.2.2.2.2.2.2.1.1
  intro m
  induction m with
  | zero =>
    intro i hi M hM h
    have hz := h.1.2.2.1
    have hL := h.1.1
    have hr := h.1.2.2.2.1
    have hle : nI (dSg D).length ≤ nI i := (ni_le (by omega) (by omega)).mpr (by omega)
    have h0 := hQ M hM h
    rw [hX10_strange_4]
    simp +decide only [qX10_strange, lx hL, lz hL hz, hr, (x_sg h).1, am_w1_i, am_w1_r, am_w1_x, am_w1_l, am_w1_w, va_rf_s, am_push_n, am_push_s, am_cs_0, am_cs_i, am_cs_l, am_cs_r, m_uI_K, m_uI_N, m_uI_R, m_uI_L, m_uI_I, m_uL_K, m_uL_N, m_uL_R, m_uL_I, m_uL_L, m_uR_K, m_uR_N, m_uR_I, m_uR_L, m_uR_R, true_and, and_true, true_implies, false_implies, not_true_eq_false, not_false_eq_true, if_true, if_false, false_and, and_false]
    first | rw [br_p (hle)] | rw [br_r (hle)] | rw [br_s (hle)]
    rw [show i = (dSg D).length by omega]
    exact h0
  | succ m ih =>
    intro i hi M hM h
    have hz := h.1.2.2.1
    have hL := h.1.1
    have hr := h.1.2.2.2.1
    have hlt : ¬ nI (dSg D).length ≤ nI i := by rw [ni_le (by omega) (by omega)]; omega
    rw [hX10_strange_4]
    simp +decide only [qX10_strange, lx hL, lz hL hz, hr, (x_sg h).1, am_w1_i, am_w1_r, am_w1_x, am_w1_l, am_w1_w, va_rf_s, am_push_n, am_push_s, am_cs_0, am_cs_i, am_cs_l, am_cs_r, m_uI_K, m_uI_N, m_uI_R, m_uI_L, m_uI_I, m_uL_K, m_uL_N, m_uL_R, m_uL_I, m_uL_L, m_uR_K, m_uR_N, m_uR_I, m_uR_L, m_uR_R, true_and, and_true, true_implies, false_implies, not_true_eq_false, not_false_eq_true, if_true, if_false, false_and, and_false]
    first | rw [br_n (hlt)] | rw [br_q (hlt)] | rw [br_u (hlt)]
    refine x_expl hD h (sgD_at (by omega)) d _ (fun M1 f1 X1 => ?_)
    have h0 := ih (i + 1) (by omega) M1 (zF_trans hM f1) X1
    simp +decide only [qX10_strange, ni_add1, Classical.not_not, am_w1_i, am_w1_r, am_w1_x, am_w1_l, am_w1_w, va_rf_s, am_push_n, am_push_s, am_cs_0, am_cs_i, am_cs_l, am_cs_r, m_uI_K, m_uI_N, m_uI_R, m_uI_L, m_uI_I, m_uL_K, m_uL_N, m_uL_R, m_uL_I, m_uL_L, m_uR_K, m_uR_N, m_uR_I, m_uR_L, m_uR_R, true_and, and_true, true_implies, false_implies, not_true_eq_false, not_false_eq_true, if_true, if_false, false_and, and_false]
    by_cases c : exI D (sgD D i) = 0
    · rw [show snN D (i + 1) = snN D i + 1 from cnt_t (dB_t.mpr c)] at h0
      first | rw [br_p (c)] | rw [br_r (c)] | rw [br_s (c)]
      exact h0
    · rw [show snN D (i + 1) = snN D i from cnt_f (fun q => c (dB_t.mp q))] at h0
      first | rw [br_n (c)] | rw [br_q (c)] | rw [br_u (c)]
      exact h0
theorem x_strange : XqO 132 [] aStr := by
  intro d M z D Q hD h hQ
  have h0 := l_x_strange (d + 13) z D M Q hD hQ (dSg D).length 0 (by omega) M (XR_2 h) h
  rw [eX10_strange]
  simp +decide only [qX10_strange, am_w1_i, am_w1_r, am_w1_x, am_w1_l, am_w1_w, va_rf_s, am_push_n, am_push_s, am_cs_0, am_cs_i, am_cs_l, am_cs_r, m_uI_K, m_uI_N, m_uI_R, m_uI_L, m_uI_I, m_uL_K, m_uL_N, m_uL_R, m_uL_I, m_uL_L, m_uR_K, m_uR_N, m_uR_I, m_uR_L, m_uR_R, true_and, and_true, true_implies, false_implies, not_true_eq_false, not_false_eq_true, if_true, if_false, false_and, and_false]
  exact h0
theorem l_m_strange (d b : Nat) (D : Dat) (M : am_M) (Q : Option Value → am_M → Prop) (hD : dOK D) (hL : Lay M) (h : MdM M b D) (hE : ExM M D) (hQ : Q (some (.int (nI (snN D (dSg D).length)))) M) :
    ∀ (m i : Nat), i + m = (dSg D).length → am_P am_P0 d (am_look tX11_strange) 8 [.ref 277, .int (nI (snN D i)), .int (nI i)] [] M Q := by
  have h40 := hD.1.2.2.2.2.2.2.2.1.1
  have hb2 := h.1.2
  intro m
  induction m with
  | zero =>
    intro i hi
    have hle : nI (dSg D).length ≤ nI i := (ni_le (by omega) (by omega)).mpr (by omega)
    rw [hX11_strange_8]
    simp +decide (disch := omega) only [qX11_strange, lm hL, h.1.1, h.2.2.2.2.2.2.1.1, ni_in_t, ni_tn, am_w1_i, am_w1_r, am_w1_x, am_w1_l, am_w1_w, va_rf_s, am_push_n, am_push_s, am_cs_0, am_cs_i, am_cs_l, am_cs_r, m_uI_K, m_uI_N, m_uI_R, m_uI_L, m_uI_I, m_uL_K, m_uL_N, m_uL_R, m_uL_I, m_uL_L, m_uR_K, m_uR_N, m_uR_I, m_uR_L, m_uR_R, true_and, and_true, true_implies, false_implies, not_true_eq_false, not_false_eq_true, if_true, if_false, false_and, and_false]
    first | rw [br_p (hle)] | rw [br_r (hle)] | rw [br_s (hle)]
    rw [show i = (dSg D).length by omega]
    exact hQ
  | succ m ih =>
    intro i hi
    have hlt : ¬ nI (dSg D).length ≤ nI i := by rw [ni_le (by omega) (by omega)]; omega
    have he := hE i _ (sgD_at (by omega))
    have h0 := ih (i + 1) (by omega)
    rw [hX11_strange_8]
    simp +decide (disch := omega) only [qX11_strange, lm hL, h.1.1, h.2.2.2.2.2.2.1.1, he, ni_in_t, ni_tn, ni_add1, Classical.not_not, am_w1_i, am_w1_r, am_w1_x, am_w1_l, am_w1_w, va_rf_s, am_push_n, am_push_s, am_cs_0, am_cs_i, am_cs_l, am_cs_r, m_uI_K, m_uI_N, m_uI_R, m_uI_L, m_uI_I, m_uL_K, m_uL_N, m_uL_R, m_uL_I, m_uL_L, m_uR_K, m_uR_N, m_uR_I, m_uR_L, m_uR_R, true_and, and_true, true_implies, false_implies, not_true_eq_false, not_false_eq_true, if_true, if_false, false_and, and_false]
    first | rw [br_n (hlt)] | rw [br_q (hlt)] | rw [br_u (hlt)]
    by_cases c : exI D (sgD D i) = 0
    · rw [show snN D (i + 1) = snN D i + 1 from cnt_t (dB_t.mpr c)] at h0
      first | rw [br_p (c)] | rw [br_r (c)] | rw [br_s (c)]
      exact h0
    · rw [show snN D (i + 1) = snN D i from cnt_f (fun q => c (dB_t.mp q))] at h0
      first | rw [br_n (c)] | rw [br_q (c)] | rw [br_u (c)]
      rw [show (0 : Int32) = nI 0 from rfl, ni_add]
      exact h0
theorem m_strange : MzO 281 [] aStr := by
  intro d M b D Q hD hL h hQ
  rw [eX11_strange]
  simp +decide only [qX11_strange, lm hL, am_w1_i, am_w1_r, am_w1_x, am_w1_l, am_w1_w, va_rf_s, am_push_n, am_push_s, am_cs_0, am_cs_i, am_cs_l, am_cs_r, m_uI_K, m_uI_N, m_uI_R, m_uI_L, m_uI_I, m_uL_K, m_uL_N, m_uL_R, m_uL_I, m_uL_L, m_uR_K, m_uR_N, m_uR_I, m_uR_L, m_uR_R, true_and, and_true, true_implies, false_implies, not_true_eq_false, not_false_eq_true, if_true, if_false, false_and, and_false]
  refine m_explains hD hL h (d + 11) _ (fun M1 g1 x1 => ?_)
  have L1 := gF_LayN g1 hL
  have h0 := l_m_strange (d + 20) b D M1 Q hD L1 (MdM_z h g1) x1 (hQ M1 g1) (dSg D).length 0 (by omega)
  simp +decide only [qX11_strange, am_w1_i, am_w1_r, am_w1_x, am_w1_l, am_w1_w, va_rf_s, am_push_n, am_push_s, am_cs_0, am_cs_i, am_cs_l, am_cs_r, m_uI_K, m_uI_N, m_uI_R, m_uI_L, m_uI_I, m_uL_K, m_uL_N, m_uL_R, m_uL_I, m_uL_L, m_uR_K, m_uR_N, m_uR_I, m_uR_L, m_uR_R, true_and, and_true, true_implies, false_implies, not_true_eq_false, not_false_eq_true, if_true, if_false, false_and, and_false]
  exact h0
theorem op_strange : OpI 132 281 [] isI := op_z (fun D => ⟨_, rfl⟩) x_strange m_strange
/-! doubted -/
theorem lk_or : ∀ m, m < 16 → ∀ a, a < 4 → (nI m ||| ((1 : Int32) <<< (nI a &&& 31))) = nI (m ||| 2 ^ a) ∧ m ||| 2 ^ a < 16 := by decide
theorem lk_bit : ∀ m, m < 16 → ∀ l, l < 4 → (nI m >>> (nI l &&& 31)) &&& 1 = if m.testBit l = true then 1 else 0 := by decide
/-- looks that nobody explains -/
noncomputable def lkN (D : Dat) : Nat → Nat
  | 0 => 0
  | k + 1 => if dB (exI D (sgD D k) = 0) = true then lkN D k ||| 2 ^ (sgD D k).1 else lkN D k
theorem lkN_b {D : Dat} (hD : dOK D) : ∀ k, k ≤ (dSg D).length → lkN D k < 16 ∧ ∀ l, l < 4 → ((lkN D k).testBit l = true ↔ ∃ i, i < k ∧ exI D (sgD D i) = 0 ∧ (sgD D i).1 = l) := by
  intro k
  induction k with
  | zero => intro _; exact ⟨by show 0 < 16; omega, fun l _ => by show (0 : Nat).testBit l = true ↔ _; simp⟩
  | succ k ih =>
    intro hk
    obtain ⟨i1, i2⟩ := ih (by omega)
    have ho := (sg_ok hD (sgD_at (D := D) (i := k) (by omega))).2.1
    show (if dB (exI D (sgD D k) = 0) = true then lkN D k ||| 2 ^ (sgD D k).1 else lkN D k) < 16 ∧ ∀ l, l < 4 → ((if dB (exI D (sgD D k) = 0) = true then lkN D k ||| 2 ^ (sgD D k).1 else lkN D k).testBit l = true ↔ _)
    by_cases c : exI D (sgD D k) = 0
    · rw [if_pos (dB_t.mpr c)]
      refine ⟨(lk_or _ i1 _ (by omega)).2, fun l hl => ?_⟩
      rw [Nat.testBit_or, Bool.or_eq_true, i2 l hl, Nat.testBit_two_pow]
      constructor
      · rintro (⟨i, q1, q2⟩ | q)
        · exact ⟨i, by omega, q2⟩
        · exact ⟨k, by omega, c, of_decide_eq_true q⟩
      · rintro ⟨i, q1, q2, q3⟩
        by_cases e : i = k
        · subst e; exact Or.inr (decide_eq_true q3)
        · exact Or.inl ⟨i, by omega, q2, q3⟩
    · rw [if_neg (fun q => c (dB_t.mp q))]
      refine ⟨i1, fun l hl => ?_⟩
      rw [i2 l hl]
      constructor
      · rintro ⟨i, q1, q2⟩; exact ⟨i, by omega, q2⟩
      · rintro ⟨i, q1, q2, q3⟩
        by_cases e : i = k
        · subst e; exact absurd q2 c
        · exact ⟨i, by omega, q2, q3⟩
def stG (D : Dat) (s n : Nat) : Prop := ∃ i, i < n ∧ exI D (sgD D i) = 0 ∧ (sgD D i).1 = (dSp D s).2.1
def dbP (D : Dat) (s : Nat) : Prop := stG D s (dSg D).length ∧ kdP D s 0
noncomputable def aDou (D : Dat) : Value := .int (btI (dbP D) (dN D))
theorem l_x_doubt1 (d z : Nat) (D : Dat) (M0 : am_M) (Q : Option Value → am_M → Prop) (hD : dOK D) (hN : ∀ M' v3, zF (sXq z) M0 M' → XR M' z D → jk v3 → am_P am_P0 (d + 7) (am_look tX10_doubted) 53 [.ref 0, .int (nI (lkN D (dSg D).length)), .int 0, .int 0] [] M' Q) :
    ∀ (m i : Nat), i + m = (dSg D).length → ∀ (M : am_M), zF (sXq z) M0 M → XR M z D → am_P am_P0 (d + 7) (am_look tX10_doubted) 4 [.ref 0, .int (nI (lkN D i)), .int (nI i), am_x] [] M Q := by
  have h40 := hD.1.2.2.2.2.2.2.2.1.1
  intro m
  induction m with
  | zero =>
    intro i hi M hM h
    have hz := h.1.2.2.1
    have hL := h.1.1
    have hr := h.1.2.2.2.1
    have hle : nI (dSg D).length ≤ nI i := (ni_le (by omega) (by omega)).mpr (by omega)
    have h0 := hN M am_x hM h (Or.inl rfl)
    rw [hX10_doubted_4]
    simp +decide only [qX10_doubted_0, qX10_doubted_1, lx hL, lz hL hz, hr, (x_sg h).1, am_w1_i, am_w1_r, am_w1_x, am_w1_l, am_w1_w, va_rf_s, am_push_n, am_push_s, am_cs_0, am_cs_i, am_cs_l, am_cs_r, m_uI_K, m_uI_N, m_uI_R, m_uI_L, m_uI_I, m_uL_K, m_uL_N, m_uL_R, m_uL_I, m_uL_L, m_uR_K, m_uR_N, m_uR_I, m_uR_L, m_uR_R, true_and, and_true, true_implies, false_implies, not_true_eq_false, not_false_eq_true, if_true, if_false, false_and, and_false]
    first | rw [br_p (hle)] | rw [br_r (hle)] | rw [br_s (hle)]
    rw [show i = (dSg D).length by omega]
    exact h0
  | succ m ih =>
    intro i hi M hM h
    have hz := h.1.2.2.1
    have hL := h.1.1
    have hr := h.1.2.2.2.1
    have hlt : ¬ nI (dSg D).length ≤ nI i := by rw [ni_le (by omega) (by omega)]; omega
    rw [hX10_doubted_4]
    simp +decide only [qX10_doubted_0, qX10_doubted_1, lx hL, lz hL hz, hr, (x_sg h).1, am_w1_i, am_w1_r, am_w1_x, am_w1_l, am_w1_w, va_rf_s, am_push_n, am_push_s, am_cs_0, am_cs_i, am_cs_l, am_cs_r, m_uI_K, m_uI_N, m_uI_R, m_uI_L, m_uI_I, m_uL_K, m_uL_N, m_uL_R, m_uL_I, m_uL_L, m_uR_K, m_uR_N, m_uR_I, m_uR_L, m_uR_R, true_and, and_true, true_implies, false_implies, not_true_eq_false, not_false_eq_true, if_true, if_false, false_and, and_false]
    first | rw [br_n (hlt)] | rw [br_q (hlt)] | rw [br_u (hlt)]
    have hat := sgD_at (D := D) (i := i) (by omega)
    refine x_expl hD h hat d _ (fun M1 f1 X1 => ?_)
    have L1 := X1.1.1
    have hr1 := X1.1.2.2.2.1
    obtain ⟨q1, q2, q3⟩ := (x_sg X1).2 i _ hat
    have ho := (sg_ok hD hat).2.1
    have h0 := ih (i + 1) (by omega) M1 (zF_trans hM f1) X1
    have el : lkN D (i + 1) = if dB (exI D (sgD D i) = 0) = true then lkN D i ||| 2 ^ (sgD D i).1 else lkN D i := rfl
    rw [el] at h0
    simp +decide (disch := omega) only [qX10_doubted_0, qX10_doubted_1, lx L1, lz L1 hz, hr1, q1, ni_in_t, ni_tn, ni_add1, Classical.not_not, am_w1_i, am_w1_r, am_w1_x, am_w1_l, am_w1_w, va_rf_s, am_push_n, am_push_s, am_cs_0, am_cs_i, am_cs_l, am_cs_r, m_uI_K, m_uI_N, m_uI_R, m_uI_L, m_uI_I, m_uL_K, m_uL_N, m_uL_R, m_uL_I, m_uL_L, m_uR_K, m_uR_N, m_uR_I, m_uR_L, m_uR_R, true_and, and_true, true_implies, false_implies, not_true_eq_false, not_false_eq_true, if_true, if_false, false_and, and_false]
    by_cases c : exI D (sgD D i) = 0
    · rw [if_pos (dB_t.mpr c)] at h0
      first | rw [br_p (c)] | rw [br_r (c)] | rw [br_s (c)]
      rw [(lk_or _ (lkN_b hD i (by omega)).1 _ (by omega)).1]
      exact h0
    · rw [if_neg (fun q => c (dB_t.mp q))] at h0
      first | rw [br_n (c)] | rw [br_q (c)] | rw [br_u (c)]
      exact h0
theorem l_x_doubt2 (d z : Nat) (D : Dat) (M0 : am_M) (Q : Option Value → am_M → Prop) (hD : dOK D) (hQ : ∀ M', zF (sXq z) M0 M' → XR M' z D → Q (some (.int (btI (dbP D) (dN D)))) M') :
    ∀ (m s : Nat), s + m = dN D → ∀ (M : am_M), zF (sXq z) M0 M → XR M z D → am_P am_P0 (d + 8) (am_look tX10_doubted) 53 [.ref 0, .int (nI (lkN D (dSg D).length)), .int (btI (dbP D) s), .int (nI s)] [] M Q := by
  have n8 := dN_8 hD
  intro m
  induction m with
  | zero =>
    intro s hs M hM h
    have hz := h.1.2.2.1
    have hL := h.1.1
    have hr := h.1.2.2.2.1
    have hle : nI (dN D) ≤ nI s := (ni_le (by omega) (by omega)).mpr (by omega)
    have h0 := hQ M hM h
    rw [hX10_doubted_53]
    simp +decide only [qX10_doubted_0, qX10_doubted_1, lx hL, lz hL hz, hr, (x_n h).1, am_w1_i, am_w1_r, am_w1_x, am_w1_l, am_w1_w, va_rf_s, am_push_n, am_push_s, am_cs_0, am_cs_i, am_cs_l, am_cs_r, m_uI_K, m_uI_N, m_uI_R, m_uI_L, m_uI_I, m_uL_K, m_uL_N, m_uL_R, m_uL_I, m_uL_L, m_uR_K, m_uR_N, m_uR_I, m_uR_L, m_uR_R, true_and, and_true, true_implies, false_implies, not_true_eq_false, not_false_eq_true, if_true, if_false, false_and, and_false]
    first | rw [br_p (hle)] | rw [br_r (hle)] | rw [br_s (hle)]
    rw [show s = dN D by omega]
    exact h0
  | succ m ih =>
    intro s hs M hM h
    have hz := h.1.2.2.1
    have hL := h.1.1
    have hr := h.1.2.2.2.1
    have hlt : ¬ nI (dN D) ≤ nI s := by rw [ni_le (by omega) (by omega)]; omega
    have hsh := lsh hL hz (s := s) (by omega)
    have hw_ := lw_ hL (isSh_z (z := z) (s := s) hz (by omega))
    have hlk := (x_ship h (s := s) (by omega)).1.2.1
    have hl3 := (dSp_ok hD.1 (s := s) (by omega)).2.2.2.1
    obtain ⟨b1, b2⟩ := lkN_b hD (dSg D).length (Nat.le_refl _)
    have eb := lk_bit _ b1 (dSp D s).2.1 (by omega)
    rw [hX10_doubted_53]
    simp +decide (disch := omega) only [qX10_doubted_0, qX10_doubted_1, lx hL, lz hL hz, hr, (x_n h).1, hsh, hw_, hlk, eb, ni_in_t, ni_tn, ni_add1, am_w1_i, am_w1_r, am_w1_x, am_w1_l, am_w1_w, va_rf_s, am_push_n, am_push_s, am_cs_0, am_cs_i, am_cs_l, am_cs_r, m_uI_K, m_uI_N, m_uI_R, m_uI_L, m_uI_I, m_uL_K, m_uL_N, m_uL_R, m_uL_I, m_uL_L, m_uR_K, m_uR_N, m_uR_I, m_uR_L, m_uR_R, true_and, and_true, true_implies, false_implies, not_true_eq_false, not_false_eq_true, if_true, if_false, false_and, and_false]
    first | rw [br_n (hlt)] | rw [br_q (hlt)] | rw [br_u (hlt)]
    by_cases c : (lkN D (dSg D).length).testBit (dSp D s).2.1 = true
    · have hst : stG D s (dSg D).length := (b2 _ (by omega)).mp c
      rw [if_pos c]
      simp +decide only [am_w1_i, am_w1_r, am_w1_x, am_w1_l, am_w1_w, va_rf_s, am_push_n, am_push_s, am_cs_0, am_cs_i, am_cs_l, am_cs_r, m_uI_K, m_uI_N, m_uI_R, m_uI_L, m_uI_I, m_uL_K, m_uL_N, m_uL_R, m_uL_I, m_uL_L, m_uR_K, m_uR_N, m_uR_I, m_uR_L, m_uR_R, true_and, and_true, true_implies, false_implies, not_true_eq_false, not_false_eq_true, if_true, if_false, false_and, and_false]
      refine x_kindsOf hD h (by omega) d _ (fun M1 f1 X1 => ?_)
      have h0 := ih (s + 1) (by omega) M1 (zF_trans hM f1) X1
      have ek := kd_bit (D := D) (s := s) (k := 0) (by omega)
      rw [show nI 0 = (0 : Int32) from rfl] at ek
      simp +decide only [qX10_doubted_0, qX10_doubted_1, ek, tI_0, ni_add1, am_w1_i, am_w1_r, am_w1_x, am_w1_l, am_w1_w, va_rf_s, am_push_n, am_push_s, am_cs_0, am_cs_i, am_cs_l, am_cs_r, m_uI_K, m_uI_N, m_uI_R, m_uI_L, m_uI_I, m_uL_K, m_uL_N, m_uL_R, m_uL_I, m_uL_L, m_uR_K, m_uR_N, m_uR_I, m_uR_L, m_uR_R, true_and, and_true, true_implies, false_implies, not_true_eq_false, not_false_eq_true, if_true, if_false, false_and, and_false]
      by_cases c2 : kdP D s 0
      · rw [btI_t ⟨hst, c2⟩] at h0
        first | rw [br_p (c2)] | rw [br_r (c2)] | rw [br_s (c2)]
        exact h0
      · rw [btI_f (fun q => c2 q.2)] at h0
        first | rw [br_n (c2)] | rw [br_q (c2)] | rw [br_u (c2)]
        exact h0
    · have hst : ¬ stG D s (dSg D).length := fun q => c ((b2 _ (by omega)).mpr q)
      have h0 := ih (s + 1) (by omega) M hM h
      rw [btI_f (fun q => hst q.1)] at h0
      rw [if_neg c]
      simp +decide only [am_w1_i, am_w1_r, am_w1_x, am_w1_l, am_w1_w, va_rf_s, am_push_n, am_push_s, am_cs_0, am_cs_i, am_cs_l, am_cs_r, m_uI_K, m_uI_N, m_uI_R, m_uI_L, m_uI_I, m_uL_K, m_uL_N, m_uL_R, m_uL_I, m_uL_L, m_uR_K, m_uR_N, m_uR_I, m_uR_L, m_uR_R, true_and, and_true, true_implies, false_implies, not_true_eq_false, not_false_eq_true, if_true, if_false, false_and, and_false]
      exact h0
theorem x_doubted : XqO 133 [] aDou := by
  intro d M z D Q hD h hQ
  have h0 := l_x_doubt1 (d + 13) z D M Q hD (fun M' v3 f' X' _ => l_x_doubt2 (d + 12) z D M Q hD hQ (dN D) 0 (by omega) M' f' X') (dSg D).length 0 (by omega) M (XR_2 h) h
  rw [eX10_doubted]
  simp +decide only [qX10_doubted_0, qX10_doubted_1, am_w1_i, am_w1_r, am_w1_x, am_w1_l, am_w1_w, va_rf_s, am_push_n, am_push_s, am_cs_0, am_cs_i, am_cs_l, am_cs_r, m_uI_K, m_uI_N, m_uI_R, m_uI_L, m_uI_I, m_uL_K, m_uL_N, m_uL_R, m_uL_I, m_uL_L, m_uR_K, m_uR_N, m_uR_I, m_uR_L, m_uR_R, true_and, and_true, true_implies, false_implies, not_true_eq_false, not_false_eq_true, if_true, if_false, false_and, and_false]
  exact h0
theorem l_m_doubt2 (d b s : Nat) (D : Dat) (M : am_M) (Q : Option Value → am_M → Prop) (hD : dOK D) (hL : Lay M) (h : MdM M b D) (hE : ExM M D) (hs : s < dN D) (x1 : Int32)
    (hN : am_P am_P0 d (am_look tX11_doubted) 98 [.ref 277, .int x1, .int (nI s), .int (tI (stG D s (dSg D).length)), .int (nI (dSg D).length)] [] M Q) :
    ∀ (m i : Nat), i + m = (dSg D).length → am_P am_P0 d (am_look tX11_doubted) 26 [.ref 277, .int x1, .int (nI s), .int (tI (stG D s i)), .int (nI i)] [] M Q := by
  have h40 := hD.1.2.2.2.2.2.2.2.1.1
  have n8 := dN_8 hD
  have hb2 := h.1.2
  obtain ⟨-, r1, -⟩ := h.2.2.2.1.2 s _ (dSp_at hs)
  have hl3 := (dSp_ok hD.1 hs).2.2.2.1
  have e8 : (8 : Int32) * nI b + nI s = nI (8 * b + s) := by rw [show (8 : Int32) = nI 8 from rfl, ni_mul, ni_add]
  intro m
  induction m with
  | zero =>
    intro i hi
    have ei : i = (dSg D).length := by omega
    subst ei
    have hle : nI (dSg D).length ≤ nI (dSg D).length := (ni_le (by omega) (by omega)).mpr (by omega)
    rw [hX11_doubted_26]
    simp +decide (disch := omega) only [qX11_doubted_0, qX11_doubted_1, lm hL, h.1.1, h.2.2.2.2.2.2.1.1, ni_in_t, ni_tn, am_w1_i, am_w1_r, am_w1_x, am_w1_l, am_w1_w, va_rf_s, am_push_n, am_push_s, am_cs_0, am_cs_i, am_cs_l, am_cs_r, m_uI_K, m_uI_N, m_uI_R, m_uI_L, m_uI_I, m_uL_K, m_uL_N, m_uL_R, m_uL_I, m_uL_L, m_uR_K, m_uR_N, m_uR_I, m_uR_L, m_uR_R, true_and, and_true, true_implies, false_implies, not_true_eq_false, not_false_eq_true, if_true, if_false, false_and, and_false] at hN ⊢
    first | rw [br_p (hle)] | rw [br_r (hle)] | rw [br_s (hle)]
    exact hN
  | succ m ih =>
    intro i hi
    have hlt : ¬ nI (dSg D).length ≤ nI i := by rw [ni_le (by omega) (by omega)]; omega
    have hat := sgD_at (D := D) (i := i) (by omega)
    have he := hE i _ hat
    obtain ⟨q1, -, -⟩ := h.2.2.2.2.2.2.1.2 i _ hat
    have ho := (sg_ok hD hat).2.1
    have e40 : (40 : Int32) * nI b + nI i = nI (40 * b + i) := by rw [show (40 : Int32) = nI 40 from rfl, ni_mul, ni_add]
    have h0 := ih (i + 1) (by omega)
    rw [hX11_doubted_26]
    simp +decide (disch := omega) only [qX11_doubted_0, qX11_doubted_1, lm hL, h.1.1, h.2.2.2.2.2.2.1.1, he, q1, r1, e40, e8, tI_0, ni_in_t, ni_tn, ni_add1, Classical.not_not, am_w1_i, am_w1_r, am_w1_x, am_w1_l, am_w1_w, va_rf_s, am_push_n, am_push_s, am_cs_0, am_cs_i, am_cs_l, am_cs_r, m_uI_K, m_uI_N, m_uI_R, m_uI_L, m_uI_I, m_uL_K, m_uL_N, m_uL_R, m_uL_I, m_uL_L, m_uR_K, m_uR_N, m_uR_I, m_uR_L, m_uR_R, true_and, and_true, true_implies, false_implies, not_true_eq_false, not_false_eq_true, if_true, if_false, false_and, and_false]
    first | rw [br_n (hlt)] | rw [br_q (hlt)] | rw [br_u (hlt)]
    rw [ni_eq (by omega) (by omega)]
    by_cases c : stG D s i
    · rw [tI_t (show stG D s (i + 1) from by obtain ⟨k, k1, k2⟩ := c; exact ⟨k, by omega, k2⟩)] at h0
      first | rw [br_p (c)] | rw [br_r (c)] | rw [br_s (c)]
      exact h0
    · first | rw [br_n (c)] | rw [br_q (c)] | rw [br_u (c)]
      by_cases c1 : exI D (sgD D i) = 0
      · first | rw [br_p (c1)] | rw [br_r (c1)] | rw [br_s (c1)]
        by_cases c2 : (sgD D i).1 = (dSp D s).2.1
        · rw [tI_t (show stG D s (i + 1) from ⟨i, by omega, c1, c2⟩)] at h0
          first | rw [br_p (c2)] | rw [br_r (c2)] | rw [br_s (c2)]
          exact h0
        · rw [tI_f (fun q => by
            obtain ⟨k, k1, k2, k3⟩ := q
            by_cases e : k = i
            · subst e; exact c2 k3
            · exact c ⟨k, by omega, k2, k3⟩)] at h0
          first | rw [br_n (c2)] | rw [br_q (c2)] | rw [br_u (c2)]
          exact h0
      · rw [tI_f (fun q => by
          obtain ⟨k, k1, k2, k3⟩ := q
          by_cases e : k = i
          · subst e; exact c1 k2
          · exact c ⟨k, by omega, k2, k3⟩)] at h0
        first | rw [br_n (c1)] | rw [br_q (c1)] | rw [br_u (c1)]
        exact h0
theorem l_m_doubt1 (d b : Nat) (D : Dat) (M0 : am_M) (Q : Option Value → am_M → Prop) (hD : dOK D) (hL0 : Lay M0) (h0' : MdM M0 b D) (hE0 : ExM M0 D) (hQ : ∀ M', gF sMq nT M0 M' → Q (some (.int (btI (dbP D) (dN D)))) M') :
    ∀ (m s : Nat), s + m = dN D → ∀ (M : am_M) (v3 v4 : Value), jk v3 → jk v4 → gF sMq nT M0 M → am_P am_P0 (d + 10) (am_look tX11_doubted) 8 [.ref 277, .int (btI (dbP D) s), .int (nI s), v3, v4] [] M Q := by
  have n8 := dN_8 hD
  intro m
  induction m with
  | zero =>
    intro s hs M v3 v4 h3 h4 hM
    have hL := gF_LayN hM hL0
    have h := MdM_q h0' hM
    have hb2 := h.1.2
    have hle : nI (dN D) ≤ nI s := (ni_le (by omega) (by omega)).mpr (by omega)
    have h0 := hQ M hM
    rw [hX11_doubted_8]
    simp +decide (disch := omega) only [qX11_doubted_0, qX11_doubted_1, lm hL, h.1.1, h.2.2.2.1.1, ni_in_t, ni_tn, am_w1_i, am_w1_r, am_w1_x, am_w1_l, am_w1_w, va_rf_s, am_push_n, am_push_s, am_cs_0, am_cs_i, am_cs_l, am_cs_r, m_uI_K, m_uI_N, m_uI_R, m_uI_L, m_uI_I, m_uL_K, m_uL_N, m_uL_R, m_uL_I, m_uL_L, m_uR_K, m_uR_N, m_uR_I, m_uR_L, m_uR_R, true_and, and_true, true_implies, false_implies, not_true_eq_false, not_false_eq_true, if_true, if_false, false_and, and_false]
    first | rw [br_p (hle)] | rw [br_r (hle)] | rw [br_s (hle)]
    rw [show s = dN D by omega]
    exact h0
  | succ m ih =>
    intro s hs M v3 v4 h3 h4 hM
    have hL := gF_LayN hM hL0
    have h := MdM_q h0' hM
    have hE : ExM M D := fun i g hg => by rw [hM.1 _ _ (by unfold sMq; omega)]; exact hE0 i g hg
    have hb2 := h.1.2
    have hlt : ¬ nI (dN D) ≤ nI s := by rw [ni_le (by omega) (by omega)]; omega
    have h9 := l_m_doubt2 (d + 10) b s D M Q hD hL h hE (by omega) (btI (dbP D) s) (by
      by_cases c : stG D s (dSg D).length
      · rw [tI_t c]
        simp +decide only [qX11_doubted_0, qX11_doubted_1, lm hL, am_w1_i, am_w1_r, am_w1_x, am_w1_l, am_w1_w, va_rf_s, am_push_n, am_push_s, am_cs_0, am_cs_i, am_cs_l, am_cs_r, m_uI_K, m_uI_N, m_uI_R, m_uI_L, m_uI_I, m_uL_K, m_uL_N, m_uL_R, m_uL_I, m_uL_L, m_uR_K, m_uR_N, m_uR_I, m_uR_L, m_uR_R, true_and, and_true, true_implies, false_implies, not_true_eq_false, not_false_eq_true, if_true, if_false, false_and, and_false]
        rw [show (0 : Int32) = nI 0 from rfl]
        refine m_isKind hD hL h (show s < dN D by omega) (show 0 < 5 by omega) d _ (fun M1 g1 => ?_)
        have h0 := ih (s + 1) (by omega) M1 (.int 1) (.int (nI (dSg D).length)) (Or.inr ⟨_, rfl⟩) (Or.inr ⟨_, rfl⟩) (gF_trans hM g1)
        simp +decide only [qX11_doubted_0, qX11_doubted_1, tI_0, or_z, ni_add1, am_w1_i, am_w1_r, am_w1_x, am_w1_l, am_w1_w, va_rf_s, am_push_n, am_push_s, am_cs_0, am_cs_i, am_cs_l, am_cs_r, m_uI_K, m_uI_N, m_uI_R, m_uI_L, m_uI_I, m_uL_K, m_uL_N, m_uL_R, m_uL_I, m_uL_L, m_uR_K, m_uR_N, m_uR_I, m_uR_L, m_uR_R, true_and, and_true, true_implies, false_implies, not_true_eq_false, not_false_eq_true, if_true, if_false, false_and, and_false]
        by_cases c2 : kdP D s 0
        · rw [btI_t ⟨c, c2⟩] at h0
          first | rw [br_p (c2)] | rw [br_r (c2)] | rw [br_s (c2)]
          exact h0
        · rw [btI_f (fun q => c2 q.2)] at h0
          first | rw [br_n (c2)] | rw [br_q (c2)] | rw [br_u (c2)]
          exact h0
      · rw [tI_f c]
        simp +decide only [qX11_doubted_0, qX11_doubted_1, lm hL, or_z, ni_add1, am_w1_i, am_w1_r, am_w1_x, am_w1_l, am_w1_w, va_rf_s, am_push_n, am_push_s, am_cs_0, am_cs_i, am_cs_l, am_cs_r, m_uI_K, m_uI_N, m_uI_R, m_uI_L, m_uI_I, m_uL_K, m_uL_N, m_uL_R, m_uL_I, m_uL_L, m_uR_K, m_uR_N, m_uR_I, m_uR_L, m_uR_R, true_and, and_true, true_implies, false_implies, not_true_eq_false, not_false_eq_true, if_true, if_false, false_and, and_false]
        have h0 := ih (s + 1) (by omega) M (.int 0) (.int (nI (dSg D).length)) (Or.inr ⟨_, rfl⟩) (Or.inr ⟨_, rfl⟩) hM
        rw [btI_f (fun q => c q.1)] at h0
        exact h0) (dSg D).length 0 (by omega)
    rw [tI_f (fun q => by obtain ⟨k, k1, -⟩ := q; omega)] at h9
    rw [hX11_doubted_8]
    simp +decide (disch := omega) only [qX11_doubted_0, qX11_doubted_1, lm hL, h.1.1, h.2.2.2.1.1, jk_w h3, jk_w h4, ni_in_t, ni_tn, am_w1_i, am_w1_r, am_w1_x, am_w1_l, am_w1_w, va_rf_s, am_push_n, am_push_s, am_cs_0, am_cs_i, am_cs_l, am_cs_r, m_uI_K, m_uI_N, m_uI_R, m_uI_L, m_uI_I, m_uL_K, m_uL_N, m_uL_R, m_uL_I, m_uL_L, m_uR_K, m_uR_N, m_uR_I, m_uR_L, m_uR_R, true_and, and_true, true_implies, false_implies, not_true_eq_false, not_false_eq_true, if_true, if_false, false_and, and_false]
    first | rw [br_n (hlt)] | rw [br_q (hlt)] | rw [br_u (hlt)]
    exact h9
theorem m_doubted : MzO 282 [] aDou := by
  intro d M b D Q hD hL h hQ
  rw [eX11_doubted]
  simp +decide only [qX11_doubted_0, qX11_doubted_1, lm hL, am_w1_i, am_w1_r, am_w1_x, am_w1_l, am_w1_w, va_rf_s, am_push_n, am_push_s, am_cs_0, am_cs_i, am_cs_l, am_cs_r, m_uI_K, m_uI_N, m_uI_R, m_uI_L, m_uI_I, m_uL_K, m_uL_N, m_uL_R, m_uL_I, m_uL_L, m_uR_K, m_uR_N, m_uR_I, m_uR_L, m_uR_R, true_and, and_true, true_implies, false_implies, not_true_eq_false, not_false_eq_true, if_true, if_false, false_and, and_false]
  refine m_explains hD hL h (d + 11) _ (fun M1 g1 x1 => ?_)
  have L1 := gF_LayN g1 hL
  have h0 := l_m_doubt1 (d + 10) b D M1 Q hD L1 (MdM_z h g1) x1 (fun M' g' => hQ M' (gF_trans g1 (gF_up g' (fun a j q => Or.inl q) (fun _ _ q => q)))) (dN D) 0 (by omega) M1 am_x am_x (Or.inl rfl) (Or.inl rfl) (gF_refl _ _ _)
  simp +decide only [qX11_doubted_0, qX11_doubted_1, am_w1_i, am_w1_r, am_w1_x, am_w1_l, am_w1_w, va_rf_s, am_push_n, am_push_s, am_cs_0, am_cs_i, am_cs_l, am_cs_r, m_uI_K, m_uI_N, m_uI_R, m_uI_L, m_uI_I, m_uL_K, m_uL_N, m_uL_R, m_uL_I, m_uL_L, m_uR_K, m_uR_N, m_uR_I, m_uR_L, m_uR_R, true_and, and_true, true_implies, false_implies, not_true_eq_false, not_false_eq_true, if_true, if_false, false_and, and_false]
  exact h0
theorem op_doubted : OpI 133 282 [] isI := op_z (fun D => ⟨_, rfl⟩) x_doubted m_doubted
end
section
/-! met -/
theorem x_settledF {M : am_M} {z s : Nat} {D : Dat} (hD : dOK D) (h : XR M z D) (d : Nat) (hs : s < dN D) (Q : Option Value → am_M → Prop) (hQ : ∀ M', zF (sSt s) M M' → XR M' z D → mI M' (173 + 13 * s) 4 = 1 → SetX M' s (dV D s) (dWt D s) (dSn D s) (dBs D s) (dY D s) → Q none M') : am_E am_P0 (d + 4) 83 [.ref (173 + 13 * s)] M Q := by
  obtain ⟨⟨hL, hI, hz, r2, r3, hO⟩, -, hS1, hTk, hLk⟩ := id h
  have n8 := dN_8 hD
  obtain ⟨t1, t2, t3, t4⟩ := hTk s hs
  exact c_x_settle d s (z + 25 + 7 * s) z (dV D s) (dWt D s) (dDp D) (dDr D s) (dLd D s) (dBs D s) (dY D s) M Q hL hI (by omega) (isSh_z hz (by omega)) hz (hD.1.2.2.2.2.1 s) (dSn_w hD s) t1 t2 (fun M1 f1 h4 hS => hQ M1 f1 (XR_set hD hs h f1 h4 hS) h4 hS)
theorem sSt_q {s z a j : Nat} (hs : s < 8) (h : sSt s a j) : sXq z a j := by unfold sSt at h; unfold sXq; omega
abbrev dSX (M : am_M) (D : Dat) (s : Nat) : Prop := SetX M s (dV D s) (dWt D s) (dSn D s) (dBs D s) (dY D s)
theorem x_setT {M : am_M} {z s : Nat} {D : Dat} (hD : dOK D) (h : XR M z D) (d : Nat) (hs : s < dN D) (Q : Option Value → am_M → Prop) (hQ : ∀ M', zF (sSt s) M M' → XR M' z D → dSX M' D s → Q (some (.ref (173 + 13 * s))) M') : am_E am_P0 (d + 5) 154 [.ref 0, .int (nI s)] M Q := by
  have n8 := dN_8 hD
  have hL := h.1.1
  have hst := isTr_of (show s < 8 by omega)
  rw [eX10_settled]
  simp +decide (disch := omega) only [qX10_settled, lx hL, lt_ hL hst, ltr hL (show s < 8 by omega), ni_in_t, ni_tn, am_w1_i, am_w1_r, am_w1_x, am_w1_l, am_w1_w, va_rf_s, am_push_n, am_push_s, am_cs_0, am_cs_i, am_cs_l, am_cs_r, m_uI_K, m_uI_N, m_uI_R, m_uI_L, m_uI_I, m_uL_K, m_uL_N, m_uL_R, m_uL_I, m_uL_L, m_uR_K, m_uR_N, m_uR_I, m_uR_L, m_uR_R, true_and, and_true, true_implies, false_implies, not_true_eq_false, not_false_eq_true, if_true, if_false, false_and, and_false]
  refine x_settledF hD h d hs _ (fun M1 f1 X1 h4 hS => ?_)
  have h0 := hQ M1 f1 X1 hS
  simp +decide (disch := omega) only [qX10_settled, lx X1.1.1, ltr X1.1.1 (show s < 8 by omega), ni_in_t, ni_tn, am_w1_i, am_w1_r, am_w1_x, am_w1_l, am_w1_w, va_rf_s, am_push_n, am_push_s, am_cs_0, am_cs_i, am_cs_l, am_cs_r, m_uI_K, m_uI_N, m_uI_R, m_uI_L, m_uI_I, m_uL_K, m_uL_N, m_uL_R, m_uL_I, m_uL_L, m_uR_K, m_uR_N, m_uR_I, m_uR_L, m_uR_R, true_and, and_true, true_implies, false_implies, not_true_eq_false, not_false_eq_true, if_true, if_false, false_and, and_false]
  exact h0
def kpP (D : Dat) (s k : Nat) : Prop := fitP (dWt D s) (dV D s) (dBs D s) ∧ keptY (dWt D s) (dV D s) (dSn D s) (dBs D s) (dY D s) k
def chD (D : Dat) (s : Nat) (wl : Bool) (t : Nat) : Prop := chP (kpP D s) (dY D s) wl (dY D s).length t
noncomputable def mtN (D : Dat) (a b h : Nat) : Nat := cnt (fun p => dB (dMy D a h p ∧ dMy D b h p)) 256
noncomputable def mtH (D : Dat) (a b h : Nat) : Nat := @ite _ (chD D a true h ∧ chD D b false h) (Classical.propDecidable _) (mtN D a b h) 0
theorem mtH_t {D : Dat} {a b h : Nat} (c : chD D a true h ∧ chD D b false h) : mtH D a b h = mtN D a b h := if_pos c
theorem mtH_f {D : Dat} {a b h : Nat} (c : ¬ (chD D a true h ∧ chD D b false h)) : mtH D a b h = 0 := if_neg c
theorem mtH_le (D : Dat) (a b h : Nat) : mtH D a b h ≤ 256 := by
  by_cases c : chD D a true h ∧ chD D b false h
  · rw [mtH_t c]; exact cnt_le _ _
  · rw [mtH_f c]; omega
noncomputable def mtB (D : Dat) (a b h : Nat) : Bool := decide (0 < mtH D a b h)
noncomputable def mtA (D : Dat) (a b : Nat) (w : Int32) : Int32 := if w.toInt = 0 then nI (cnt (mtB D a b) 48) else if w.toInt = 1 then oI (fs (mtB D a b) 48) 48 else nI (sumF (mtH D a b) 48)
noncomputable def aMet (v u w : Int32) (D : Dat) : Value := .int (if ¬ v = u ∧ (0 ≤ v.toInt ∧ v.toInt < dN D) ∧ (0 ≤ u.toInt ∧ u.toInt < dN D) ∧ 0 ≤ w.toInt ∧ w.toInt ≤ 2 then mtA D v.toInt.toNat u.toInt.toNat w else -1)
theorem oI_s {c : Nat → Bool} {h : Nat} : oI (fs c (h + 1)) (h + 1) = if fs c h < h then oI (fs c h) h else if c h = true then nI h else -1 := by
  have e : fs c (h + 1) = if fs c h < h then fs c h else if c h = true then h else h + 1 := rfl
  rw [e]
  unfold oI
  by_cases q : fs c h < h
  · rw [if_pos q, if_pos q, if_pos q, if_pos (by omega)]
  · rw [if_neg q, if_neg q]
    by_cases r : c h = true
    · rw [if_pos r, if_pos r, if_pos (by omega)]
    · rw [if_neg r, if_neg r, if_neg (by omega)]
theorem mt_sum (D : Dat) (a b : Nat) : ∀ n, n ≤ 48 → sumF (mtH D a b) n ≤ n * 256 := fun n _ => sumF_le _ 256 (fun i => mtH_le D a b i) n
theorem l_x_met (d s o : Nat) (x : Int64) (w : Int32) (D : Dat) (M : am_M) (Q : Option Value → am_M → Prop) (hL : Lay M) (hs : s < 8) (ho : o < 8) (hS : dSX M D s) (hO : dSX M D o) (hx : ∀ t, t < 64 → (sbit x t = true ↔ chD D s true t ∧ chD D o false t)) (x1 x2 : Int32) (hw : 0 ≤ w.toInt ∧ w.toInt ≤ 2) (hQ : Q (some (.int (mtA D s o w))) M) :
    ∀ (m h : Nat), h + m = 48 → ∀ (v12 : Value), jk v12 → am_P am_P0 (d + 2) (am_look tX10_met) 73 [.ref 0, .int x1, .int x2, .int w, .ref (173 + 13 * s), .ref (173 + 13 * o), .long x, am_x, .int (nI (cnt (mtB D s o) h)), .int (oI (fs (mtB D s o) h) h), .int (nI (sumF (mtH D s o) h)), .int (nI h), v12] [] M Q := by
  intro m
  induction m with
  | zero =>
    intro h hh v12 hv
    have eh : h = 48 := by omega
    subst eh
    unfold mtA at hQ
    rw [hX10_met_73]
    simp +decide only [qX10_met_0, qX10_met_1, qX10_met_2, show nI 48 = (48 : Int32) from rfl, Classical.not_not, am_w1_i, am_w1_r, am_w1_x, am_w1_l, am_w1_w, va_rf_s, am_push_n, am_push_s, am_cs_0, am_cs_i, am_cs_l, am_cs_r, m_uI_K, m_uI_N, m_uI_R, m_uI_L, m_uI_I, m_uL_K, m_uL_N, m_uL_R, m_uL_I, m_uL_L, m_uR_K, m_uR_N, m_uR_I, m_uR_L, m_uR_R, true_and, and_true, true_implies, false_implies, not_true_eq_false, not_false_eq_true, if_true, if_false, false_and, and_false]
    by_cases c : w = 0
    · rw [if_pos (by rw [c]; rfl)] at hQ
      first | rw [br_p (c)] | rw [br_r (c)] | rw [br_s (c)]
      exact hQ
    · have c' : ¬ w.toInt = 0 := fun q => c (Int32.toInt_inj.mp q)
      rw [if_neg c'] at hQ
      first | rw [br_n (c)] | rw [br_q (c)] | rw [br_u (c)]
      by_cases c1 : w = 1
      · rw [if_pos (by rw [c1]; rfl)] at hQ
        first | rw [br_p (c1)] | rw [br_r (c1)] | rw [br_s (c1)]
        exact hQ
      · have c1' : ¬ w.toInt = 1 := fun q => c1 (Int32.toInt_inj.mp q)
        rw [if_neg c1'] at hQ
        first | rw [br_n (c1)] | rw [br_q (c1)] | rw [br_u (c1)]
        exact hQ
  | succ m ih =>
    intro h hh v12 hv
    have hlt : ¬ (48 : Int32) ≤ nI h := by rw [show (48 : Int32) = nI 48 from rfl, ni_le (by omega) (by omega)]; omega
    have hst := lt_ hL (isTr_of hs)
    have hso := lt_ hL (isTr_of ho)
    have ec := fun Q => c_x_countShared (d + 0) s o h M Q hL hs ho (by omega)
    have e1 : cnt (fun p => dB (inS (my4 M s h) p ∧ inS (my4 M o h) p)) 256 = mtN D s o h := by
      unfold mtN
      congr 1
      funext p
      exact congrArg dB (propext (and_congr (hS.2.2.2.2 h (by omega) p) (hO.2.2.2.2 h (by omega) p)))
    have hb := bt_test x (i := h) (by omega)
    have hle := mtH_le D s o h
    have hsm := mt_sum D s o h (by omega)
    have hcn := cnt_le (mtB D s o) h
    -- behind the count
    have key : am_P am_P0 (d + 2) (am_look tX10_met) 107 [.ref 0, .int x1, .int x2, .int w, .ref (173 + 13 * s), .ref (173 + 13 * o), .long x, am_x, .int (nI (cnt (mtB D s o) h)), .int (oI (fs (mtB D s o) h) h), .int (nI (sumF (mtH D s o) h)), .int (nI h), .int (nI (mtH D s o h))] [] M Q := by
      have h0 := ih (h + 1) (by omega) (.int (nI (mtH D s o h))) (Or.inr ⟨_, rfl⟩)
      rw [oI_s, show sumF (mtH D s o) (h + 1) = sumF (mtH D s o) h + mtH D s o h from rfl] at h0
      simp +decide only [qX10_met_0, qX10_met_1, qX10_met_2, ni_add1, ni_add, Classical.not_not, am_w1_i, am_w1_r, am_w1_x, am_w1_l, am_w1_w, va_rf_s, am_push_n, am_push_s, am_cs_0, am_cs_i, am_cs_l, am_cs_r, m_uI_K, m_uI_N, m_uI_R, m_uI_L, m_uI_I, m_uL_K, m_uL_N, m_uL_R, m_uL_I, m_uL_L, m_uR_K, m_uR_N, m_uR_I, m_uR_L, m_uR_R, true_and, and_true, true_implies, false_implies, not_true_eq_false, not_false_eq_true, if_true, if_false, false_and, and_false]
      rw [ni_pos (by omega)]
      by_cases c : mtH D s o h = 0
      · have hf : ¬ mtB D s o h = true := by unfold mtB; simp; omega
        rw [cnt_f hf, c, Nat.add_zero] at h0
        first | rw [br_p (c)] | rw [br_r (c)] | rw [br_s (c)]
        by_cases q : fs (mtB D s o) h < h
        · rw [if_pos q] at h0
          rw [c]
          exact h0
        · rw [if_neg q, if_neg hf] at h0
          rw [c, show oI (fs (mtB D s o) h) h = -1 from by unfold oI; rw [if_neg q]]
          exact h0
      · have hf : mtB D s o h = true := by unfold mtB; simp; omega
        rw [cnt_t hf] at h0
        first | rw [br_n (c)] | rw [br_q (c)] | rw [br_u (c)]
        by_cases q : fs (mtB D s o) h < h
        · rw [if_pos q] at h0
          have hne : ¬ oI (fs (mtB D s o) h) h = -1 := by unfold oI; rw [if_pos q]; exact nI_m1 (by omega)
          first | rw [br_n (hne)] | rw [br_q (hne)] | rw [br_u (hne)]
          exact h0
        · rw [if_neg q, if_pos hf] at h0
          have e : oI (fs (mtB D s o) h) h = -1 := by unfold oI; rw [if_neg q]
          first | rw [br_p (e)] | rw [br_r (e)] | rw [br_s (e)]
          exact h0
    rw [hX10_met_73]
    simp +decide only [qX10_met_0, qX10_met_1, qX10_met_2, hst, hso, ec, e1, lgc_0, hb, Classical.not_not, jk_w hv, am_w1_i, am_w1_r, am_w1_x, am_w1_l, am_w1_w, va_rf_s, am_push_n, am_push_s, am_cs_0, am_cs_i, am_cs_l, am_cs_r, m_uI_K, m_uI_N, m_uI_R, m_uI_L, m_uI_I, m_uL_K, m_uL_N, m_uL_R, m_uL_I, m_uL_L, m_uR_K, m_uR_N, m_uR_I, m_uR_L, m_uR_R, true_and, and_true, true_implies, false_implies, not_true_eq_false, not_false_eq_true, if_true, if_false, false_and, and_false]
    first | rw [br_n (hlt)] | rw [br_q (hlt)] | rw [br_u (hlt)]
    by_cases c : sbit x h = true
    · have k0 := key
      rw [mtH_t ((hx h (by omega)).mp c)] at k0
      first | rw [br_p (c)] | rw [br_r (c)] | rw [br_s (c)]
      simp +decide only [qX10_met_0, qX10_met_1, qX10_met_2, ni_add1, ni_add, Classical.not_not, am_w1_i, am_w1_r, am_w1_x, am_w1_l, am_w1_w, va_rf_s, am_push_n, am_push_s, am_cs_0, am_cs_i, am_cs_l, am_cs_r, m_uI_K, m_uI_N, m_uI_R, m_uI_L, m_uI_I, m_uL_K, m_uL_N, m_uL_R, m_uL_I, m_uL_L, m_uR_K, m_uR_N, m_uR_I, m_uR_L, m_uR_R, true_and, and_true, true_implies, false_implies, not_true_eq_false, not_false_eq_true, if_true, if_false, false_and, and_false] at k0 ⊢
      exact k0
    · have k0 := key
      rw [mtH_f (fun q => c ((hx h (by omega)).mpr q))] at k0
      first | rw [br_n (c)] | rw [br_q (c)] | rw [br_u (c)]
      simp +decide only [qX10_met_0, qX10_met_1, qX10_met_2, show nI 0 = (0 : Int32) from rfl, ni_add1, ni_add, Classical.not_not, am_w1_i, am_w1_r, am_w1_x, am_w1_l, am_w1_w, va_rf_s, am_push_n, am_push_s, am_cs_0, am_cs_i, am_cs_l, am_cs_r, m_uI_K, m_uI_N, m_uI_R, m_uI_L, m_uI_I, m_uL_K, m_uL_N, m_uL_R, m_uL_I, m_uL_L, m_uR_K, m_uR_N, m_uR_I, m_uR_L, m_uR_R, true_and, and_true, true_implies, false_implies, not_true_eq_false, not_false_eq_true, if_true, if_false, false_and, and_false] at k0 ⊢
      exact k0
theorem x_met (v u w : Int32) : XqO 130 [.int v, .int u, .int w] (aMet v u w) := by
  intro d M z D Q hD h hQ
  have hz := h.1.2.2.1
  have hL := h.1.1
  have n8 := dN_8 hD
  have eS := fun v Q => x_isShip hD h (d + 19) v Q
  have e2 : (2 : Int32).toInt = 2 := rfl
  unfold aMet at hQ
  rw [eX10_met]
  simp +decide only [qX10_met_0, qX10_met_1, qX10_met_2, lx hL, eS, bI_0, Classical.not_not, am_w1_i, am_w1_r, am_w1_x, am_w1_l, am_w1_w, va_rf_s, am_push_n, am_push_s, am_cs_0, am_cs_i, am_cs_l, am_cs_r, m_uI_K, m_uI_N, m_uI_R, m_uI_L, m_uI_I, m_uL_K, m_uL_N, m_uL_R, m_uL_I, m_uL_L, m_uR_K, m_uR_N, m_uR_I, m_uR_L, m_uR_R, true_and, and_true, true_implies, false_implies, not_true_eq_false, not_false_eq_true, if_true, if_false, false_and, and_false]
  by_cases e : v = u
  · have h0 := hQ M (XR_2 h) h
    rw [if_neg (fun q => q.1 e)] at h0
    first | rw [br_p (e)] | rw [br_r (e)] | rw [br_s (e)]
    exact h0
  · first | rw [br_n (e)] | rw [br_q (e)] | rw [br_u (e)]
    by_cases hv : 0 ≤ v.toInt ∧ v.toInt < dN D
    · first | rw [br_p (hv)] | rw [br_r (hv)] | rw [br_s (hv)]
      by_cases hu : 0 ≤ u.toInt ∧ u.toInt < dN D
      · first | rw [br_p (hu)] | rw [br_r (hu)] | rw [br_s (hu)]
        by_cases w0 : w < 0
        · have h0 := hQ M (XR_2 h) h
          rw [if_neg (fun q => by rw [lt32, z32] at w0; omega)] at h0
          first | rw [br_p (w0)] | rw [br_r (w0)] | rw [br_s (w0)]
          exact h0
        · first | rw [br_n (w0)] | rw [br_q (w0)] | rw [br_u (w0)]
          rw [lt32, z32] at w0
          by_cases w2 : w ≤ 2
          · first | rw [br_p (w2)] | rw [br_r (w2)] | rw [br_s (w2)]
            rw [le32, e2] at w2
            rw [if_pos ⟨e, hv, hu, by omega, by omega⟩] at hQ
            obtain ⟨s, s1, s2, s3⟩ := sh_of (by omega) hv
            obtain ⟨o, o1, o2, o3⟩ := sh_of (by omega) hu
            have hso : ¬ s = o := fun q => e (by rw [s2, o2, q])
            rw [s3, o3] at hQ
            rw [s2, o2]
            refine x_setT hD h (d + 14) s1 _ (fun M1 f1 X1 S1 => ?_)
            simp +decide only [qX10_met_0, qX10_met_1, qX10_met_2, lx X1.1.1, am_w1_i, am_w1_r, am_w1_x, am_w1_l, am_w1_w, va_rf_s, am_push_n, am_push_s, am_cs_0, am_cs_i, am_cs_l, am_cs_r, m_uI_K, m_uI_N, m_uI_R, m_uI_L, m_uI_I, m_uL_K, m_uL_N, m_uL_R, m_uL_I, m_uL_L, m_uR_K, m_uR_N, m_uR_I, m_uR_L, m_uR_R, true_and, and_true, true_implies, false_implies, not_true_eq_false, not_false_eq_true, if_true, if_false, false_and, and_false]
            refine x_setT hD X1 (d + 14) o1 _ (fun M2 f2 X2 S2 => ?_)
            have S1' : dSX M2 D s := SetX_z (by omega) S1 f2 (fun a j q w => by unfold sSt at w; omega)
            have L2 := X2.1.1
            have hst := lt_ L2 (isTr_of (show s < 8 by omega))
            have hot := lt_ L2 (isTr_of (show o < 8 by omega))
            simp +decide only [qX10_met_0, qX10_met_1, qX10_met_2, hst, am_w1_i, am_w1_r, am_w1_x, am_w1_l, am_w1_w, va_rf_s, am_push_n, am_push_s, am_cs_0, am_cs_i, am_cs_l, am_cs_r, m_uI_K, m_uI_N, m_uI_R, m_uI_L, m_uI_I, m_uL_K, m_uL_N, m_uL_R, m_uL_I, m_uL_L, m_uR_K, m_uR_N, m_uR_I, m_uR_L, m_uR_R, true_and, and_true, true_implies, false_implies, not_true_eq_false, not_false_eq_true, if_true, if_false, false_and, and_false]
            refine c_x_hoursOfChange (d + 19) s (z + 25 + 7 * s) z (dV D s) (dWt D s) (dDp D) (dDr D s) (dLd D s) (dBs D s) (dY D s) true (kpP D s) M2 _ L2 (by omega) (isSh_z hz (by omega)) (hD.1.2.2.2.2.1 s) (X2.2.2.2.1 s s1).1 S1'.2.2.2.1 (fun x hx => ?_)
            simp +decide only [qX10_met_0, qX10_met_1, qX10_met_2, hot, am_w1_i, am_w1_r, am_w1_x, am_w1_l, am_w1_w, va_rf_s, am_push_n, am_push_s, am_cs_0, am_cs_i, am_cs_l, am_cs_r, m_uI_K, m_uI_N, m_uI_R, m_uI_L, m_uI_I, m_uL_K, m_uL_N, m_uL_R, m_uL_I, m_uL_L, m_uR_K, m_uR_N, m_uR_I, m_uR_L, m_uR_R, true_and, and_true, true_implies, false_implies, not_true_eq_false, not_false_eq_true, if_true, if_false, false_and, and_false]
            refine c_x_hoursOfChange (d + 19) o (z + 25 + 7 * o) z (dV D o) (dWt D o) (dDp D) (dDr D o) (dLd D o) (dBs D o) (dY D o) false (kpP D o) M2 _ L2 (by omega) (isSh_z hz (by omega)) (hD.1.2.2.2.2.1 o) (X2.2.2.2.1 o o1).1 S2.2.2.2.1 (fun y hy => ?_)
            have h0 := hQ M2 (zF_trans (zF_up f1 (fun a j q => sSt_q (by omega) q)) (zF_up f2 (fun a j q => sSt_q (by omega) q))) X2
            have h9 := l_x_met (d + 18) s o (x &&& y) w D M2 Q L2 (by omega) (by omega) S1' S2 (fun t ht => by
              rw [sb_and, Bool.and_eq_true, hx t ht, hy t ht]
              exact Iff.rfl) (nI s) (nI o) ⟨by omega, by omega⟩ h0 48 0 (by omega) am_x (Or.inl rfl)
            simp +decide only [qX10_met_0, qX10_met_1, qX10_met_2, am_w1_i, am_w1_r, am_w1_x, am_w1_l, am_w1_w, va_rf_s, am_push_n, am_push_s, am_cs_0, am_cs_i, am_cs_l, am_cs_r, m_uI_K, m_uI_N, m_uI_R, m_uI_L, m_uI_I, m_uL_K, m_uL_N, m_uL_R, m_uL_I, m_uL_L, m_uR_K, m_uR_N, m_uR_I, m_uR_L, m_uR_R, true_and, and_true, true_implies, false_implies, not_true_eq_false, not_false_eq_true, if_true, if_false, false_and, and_false]
            exact h9
          · have h0 := hQ M (XR_2 h) h
            rw [if_neg (fun q => w2 (by rw [le32, e2]; omega))] at h0
            first | rw [br_n (w2)] | rw [br_q (w2)] | rw [br_u (w2)]
            exact h0
      · have h0 := hQ M (XR_2 h) h
        rw [if_neg (fun q => hu q.2.2.1)] at h0
        first | rw [br_n (hu)] | rw [br_q (hu)] | rw [br_u (hu)]
        exact h0
    · have h0 := hQ M (XR_2 h) h
      rw [if_neg (fun q => hv q.2.1)] at h0
      first | rw [br_n (hv)] | rw [br_q (hv)] | rw [br_u (hv)]
      exact h0
end
section
/-! the model: changes, met -/
def bfK (K : Nat → Prop) (i : Nat) (x : Int32) : Prop := (x = -1 ∧ ∀ k, k < i → ¬ K k) ∨ ∃ l, l < i ∧ x = nI l ∧ K l ∧ ∀ k, l < k → k < i → ¬ K k
theorem l_m_chg (d b s t : Nat) (tl : Bool) (D : Dat) (M : am_M) (Q : Option Value → am_M → Prop) (hD : dOK D) (hL : Lay M) (h : MdM M b D) (hs : s < dN D) (ht : t < 48) (hK : KpM (dWt D s) (dV D s) (dSn D s) (dBs D s) (dY D s) M) (hQ : Q (some (.int (tI (chD D s (!tl) t)))) M) :
    ∀ (m i : Nat), i + m = (dY D s).length → ∀ x, bfK (kpP D s) i x → (∀ k y, k < i → kpP D s k → (dY D s)[k]? = some y → y.1 < t) → am_P am_P0 (d + 1) (am_look tX11_changes) 6 [.ref 277, .int (nI s), .int (nI t), .int (b01 tl), .int x, .int (nI i)] [] M Q := by
  have n8 := dN_8 hD
  have h48 := dY_len hD s
  have hsr := hD.1.2.2.2.2.1 s
  intro m
  induction m with
  | zero =>
    intro i hi x hx hb
    have hle : nI (dY D s).length ≤ nI i := (ni_le (by omega) (by omega)).mpr (by omega)
    rw [tI_f (fun q => by
      obtain ⟨i', j', y, y', q1, q2, q3, q4, q5, q6, q7, q8, q9, q10⟩ := q
      have := hb j' y' (by omega) q4 q7
      omega)] at hQ
    rw [hX11_changes_6]
    simp +decide only [qX11_changes_0, qX11_changes_1, lm hL, hK.1.1.1, am_w1_i, am_w1_r, am_w1_x, am_w1_l, am_w1_w, va_rf_s, am_push_n, am_push_s, am_cs_0, am_cs_i, am_cs_l, am_cs_r, m_uI_K, m_uI_N, m_uI_R, m_uI_L, m_uI_I, m_uL_K, m_uL_N, m_uL_R, m_uL_I, m_uL_L, m_uR_K, m_uR_N, m_uR_I, m_uR_L, m_uR_R, true_and, and_true, true_implies, false_implies, not_true_eq_false, not_false_eq_true, if_true, if_false, false_and, and_false]
    first | rw [br_p (hle)] | rw [br_r (hle)] | rw [br_s (hle)]
    exact hQ
  | succ m ih =>
    intro i hi x hx hb
    have hlt : ¬ nI (dY D s).length ≤ nI i := by rw [ni_le (by omega) (by omega)]; omega
    obtain ⟨y, hy⟩ : ∃ y, (dY D s)[i]? = some y := ⟨(dY D s)[i]'(by omega), List.getElem?_eq_getElem (by omega)⟩
    have ym := List.mem_of_getElem? hy
    have y48 := (hD.1.2.2.2.1 s y ym).1
    have hk := hK.2.2.2.2 i (by omega)
    have hhr := hK.1.1.2 i y hy
    have eld := fun Q => (m_said hL h (s := s) (by omega) ym y48 d Q).2
    have hk' : mI M 324 i = tI (kpP D s i) := hk
    rw [hX11_changes_6]
    simp +decide (disch := omega) only [qX11_changes_0, qX11_changes_1, lm hL, hK.1.1.1, hk', hhr, eld, tI_01, tI_0, ni_in_t, ni_tn, ni_add1, Classical.not_not, am_w1_i, am_w1_r, am_w1_x, am_w1_l, am_w1_w, va_rf_s, am_push_n, am_push_s, am_cs_0, am_cs_i, am_cs_l, am_cs_r, m_uI_K, m_uI_N, m_uI_R, m_uI_L, m_uI_I, m_uL_K, m_uL_N, m_uL_R, m_uL_I, m_uL_L, m_uR_K, m_uR_N, m_uR_I, m_uR_L, m_uR_R, true_and, and_true, true_implies, false_implies, not_true_eq_false, not_false_eq_true, if_true, if_false, false_and, and_false]
    first | rw [br_n (hlt)] | rw [br_q (hlt)] | rw [br_u (hlt)]
    by_cases ck : kpP D s i
    · first | rw [br_p (ck)] | rw [br_r (ck)] | rw [br_s (ck)]
      rw [ni_le (by omega) (by omega), ni_eq (by omega) (by omega), ni_le (by omega) (by omega)]
      by_cases c1 : t ≤ y.1
      · first | rw [br_p (c1)] | rw [br_r (c1)] | rw [br_s (c1)]
        by_cases c2 : y.1 = t
        · rw [tI_f (fun q => by
            obtain ⟨i', j', z, z', q1, q2, q3, q4, q5, q6, q7, q8, q9, q10⟩ := q
            by_cases a1 : i' < i
            · by_cases a2 : i < j'
              · exact q5 i a1 a2 ck
              · by_cases a3 : j' = i
                · subst a3; rw [hy] at q7; cases q7; omega
                · have := hb j' z' (by omega) q4 q7; omega
            · by_cases a3 : i' = i
              · subst a3; rw [hy] at q6; cases q6; omega
              · have := srtY_lt hsr hy q6 (by omega); omega)] at hQ
          first | rw [br_p (c2)] | rw [br_r (c2)] | rw [br_s (c2)]
          exact hQ
        · first | rw [br_n (c2)] | rw [br_q (c2)] | rw [br_u (c2)]
          have c3 : ¬ y.1 ≤ t := by omega
          first | rw [br_n (c3)] | rw [br_q (c3)] | rw [br_u (c3)]
          rcases hx with ⟨rfl, hx2⟩ | ⟨l, l1, rfl, l3, l4⟩
          · rw [tI_f (fun q => by
              obtain ⟨i', j', z, z', q1, q2, q3, q4, q5, q6, q7, q8, q9, q10⟩ := q
              by_cases a1 : i' < i
              · exact hx2 i' a1 q3
              · by_cases a3 : i' = i
                · subst a3; rw [hy] at q6; cases q6; omega
                · have := srtY_lt hsr hy q6 (by omega); omega)] at hQ
            simp +decide only [am_w1_i, am_w1_r, am_w1_x, am_w1_l, am_w1_w, va_rf_s, am_push_n, am_push_s, am_cs_0, am_cs_i, am_cs_l, am_cs_r, m_uI_K, m_uI_N, m_uI_R, m_uI_L, m_uI_I, m_uL_K, m_uL_N, m_uL_R, m_uL_I, m_uL_L, m_uR_K, m_uR_N, m_uR_I, m_uR_L, m_uR_R, true_and, and_true, true_implies, false_implies, not_true_eq_false, not_false_eq_true, if_true, if_false, false_and, and_false]
            exact hQ
          · have hne : ¬ nI l = -1 := nI_m1 (by omega)
            obtain ⟨yl, hyl⟩ : ∃ y, (dY D s)[l]? = some y := ⟨(dY D s)[l]'(by omega), List.getElem?_eq_getElem (by omega)⟩
            have ylm := List.mem_of_getElem? hyl
            have yl48 := (hD.1.2.2.2.1 s yl ylm).1
            have hhl := hK.1.1.2 l yl hyl
            have ell := fun Q => (m_said hL h (s := s) (by omega) ylm yl48 d Q).2
            have hyl' := hb l yl (by omega) l3 hyl
            have hch : chD D s (!tl) t ↔ (yl.2.2 = !tl ∧ ¬ y.2.2 = !tl) := by
              constructor
              · rintro ⟨i', j', z, z', q1, q2, q3, q4, q5, q6, q7, q8, q9, q10⟩
                have e1 : i' = l := by
                  rcases Nat.lt_trichotomy i' l with a | a | a
                  · exfalso
                    by_cases b1 : l < j'
                    · exact q5 l a b1 l3
                    · have b2 : z'.1 ≤ yl.1 := by
                        by_cases b3 : j' = l
                        · subst b3; rw [hyl] at q7; cases q7; exact Nat.le_refl _
                        · have := srtY_lt hsr q7 hyl (by omega); omega
                      omega
                  · exact a
                  · exfalso
                    by_cases b1 : i' < i
                    · exact l4 i' a b1 q3
                    · have b2 : y.1 ≤ z.1 := by
                        by_cases b3 : i' = i
                        · subst b3; rw [hy] at q6; cases q6; exact Nat.le_refl _
                        · have := srtY_lt hsr hy q6 (by omega); omega
                      omega
                have e2 : j' = i := by
                  rcases Nat.lt_trichotomy j' i with a | a | a
                  · exfalso
                    have := hb j' z' a q4 q7
                    omega
                  · exact a
                  · exact absurd ck (q5 i (by omega) a)
                subst e1 e2
                rw [hyl] at q6
                rw [hy] at q7
                cases q6
                cases q7
                exact q10
              · rintro ⟨a1, a2⟩
                exact ⟨l, i, yl, y, l1, by omega, l3, ck, fun k k1 k2 => l4 k k1 k2, hyl, hy, hyl', by omega, a1, a2⟩
            rw [tI_i hch] at hQ
            simp +decide (disch := omega) only [qX11_changes_0, qX11_changes_1, lm hL, hhl, ell, eld, hhr, b01_eq, ni_in_t, ni_tn, Classical.not_not, am_w1_i, am_w1_r, am_w1_x, am_w1_l, am_w1_w, va_rf_s, am_push_n, am_push_s, am_cs_0, am_cs_i, am_cs_l, am_cs_r, m_uI_K, m_uI_N, m_uI_R, m_uI_L, m_uI_I, m_uL_K, m_uL_N, m_uL_R, m_uL_I, m_uL_L, m_uR_K, m_uR_N, m_uR_I, m_uR_L, m_uR_R, true_and, and_true, true_implies, false_implies, not_true_eq_false, not_false_eq_true, if_true, if_false, false_and, and_false]
            first | rw [br_n (hne)] | rw [br_q (hne)] | rw [br_u (hne)]
            cases h1 : yl.2.2 <;> cases h2 : y.2.2 <;> cases h3 : tl <;> rw [h1, h2, h3] at hQ <;> simp +decide only [am_w1_i, am_w1_r, am_w1_x, am_w1_l, am_w1_w, va_rf_s, am_push_n, am_push_s, am_cs_0, am_cs_i, am_cs_l, am_cs_r, m_uI_K, m_uI_N, m_uI_R, m_uI_L, m_uI_I, m_uL_K, m_uL_N, m_uL_R, m_uL_I, m_uL_L, m_uR_K, m_uR_N, m_uR_I, m_uR_L, m_uR_R, true_and, and_true, true_implies, false_implies, not_true_eq_false, not_false_eq_true, if_true, if_false, false_and, and_false] <;> first | (rw [tI_t (by decide)] at hQ; exact hQ) | (rw [tI_f (by decide)] at hQ; exact hQ)
      · first | rw [br_n (c1)] | rw [br_q (c1)] | rw [br_u (c1)]
        have c2 : ¬ y.1 = t := by omega
        have c3 : y.1 ≤ t := by omega
        first | rw [br_n (c2)] | rw [br_q (c2)] | rw [br_u (c2)]
        first | rw [br_p (c3)] | rw [br_r (c3)] | rw [br_s (c3)]
        exact ih (i + 1) (by omega) (nI i) (Or.inr ⟨i, by omega, rfl, ck, fun k k1 k2 => by omega⟩) (fun k y' k1 k2 k3 => by
          by_cases e : k = i
          · subst e; rw [hy] at k3; cases k3; omega
          · exact hb k y' (by omega) k2 k3)
    · first | rw [br_n (ck)] | rw [br_q (ck)] | rw [br_u (ck)]
      refine ih (i + 1) (by omega) x ?_ (fun k y' k1 k2 k3 => by
        by_cases e : k = i
        · subst e; exact absurd k2 ck
        · exact hb k y' (by omega) k2 k3)
      rcases hx with ⟨rfl, hx2⟩ | ⟨l, l1, rfl, l3, l4⟩
      · exact Or.inl ⟨rfl, fun k hk => by
          by_cases e : k = i
          · subst e; exact ck
          · exact hx2 k (by omega)⟩
      · exact Or.inr ⟨l, by omega, rfl, l3, fun k k1 k2 => by
          by_cases e : k = i
          · subst e; exact ck
          · exact l4 k k1 (by omega)⟩
theorem m_changes {M : am_M} {b s t : Nat} {D : Dat} (hD : dOK D) (hL : Lay M) (h : MdM M b D) (hs : s < dN D) (ht : t < 48) (tl : Bool) (hK : KpM (dWt D s) (dV D s) (dSn D s) (dBs D s) (dY D s) M) (d : Nat) (Q : Option Value → am_M → Prop) (hQ : Q (some (.int (tI (chD D s (!tl) t)))) M) : am_E am_P0 (d + 1) 277 [.ref 277, .int (nI s), .int (nI t), .int (b01 tl)] M Q := by
  have h0 := l_m_chg d b s t tl D M Q hD hL h hs ht hK hQ (dY D s).length 0 (by omega) (-1) (Or.inl ⟨rfl, fun k hk => by omega⟩) (fun k y hk => by omega)
  rw [eX11_changes]
  simp +decide only [qX11_changes_0, qX11_changes_1, am_w1_i, am_w1_r, am_w1_x, am_w1_l, am_w1_w, va_rf_s, am_push_n, am_push_s, am_cs_0, am_cs_i, am_cs_l, am_cs_r, m_uI_K, m_uI_N, m_uI_R, m_uI_L, m_uI_I, m_uL_K, m_uL_N, m_uL_R, m_uL_I, m_uL_L, m_uR_K, m_uR_N, m_uR_I, m_uR_L, m_uR_R, true_and, and_true, true_implies, false_implies, not_true_eq_false, not_false_eq_true, if_true, if_false, false_and, and_false]
  exact h0
def s330 (a _j : Nat) : Prop := a = 330 ∨ a = 331
theorem LyM_3 {M M' : am_M} {C R : Nat} {w : Nat → Prop} {v : Nat} {snd : Nat → Bool → Prop} {B : List Fct} {Y : List Sy} (h : LyM M C R w v snd B Y) (hg : gF s330 nT M M') : LyM M' C R w v snd B Y := LyM_g h hg (fun a j q z => by unfold s330 at z; unfold sY sK sP sFG sF sG at q; omega)
theorem MdM_3 {M M' : am_M} {b : Nat} {D : Dat} (h : MdM M b D) (hg : gF s330 nT M M') : MdM M' b D := MdM_g h hg (fun a j q z => by unfold s330 at z; unfold tlM at q; omega)
/-- where the first may be while it changes -/
def FmP (M : am_M) (D : Dat) (s n : Nat) : Prop := ∀ t, t < n → mI M 331 t = tI (chD D s true t) ∧ ∀ c, c < dC D * dR D → mI M 330 (256 * t + c) = tI (chD D s true t ∧ dMy D s t (plc (dC D) c))
section
variable (d b s o : Nat) (D : Dat) (M0 : am_M) (Q : Option Value → am_M → Prop) (x3 : Int32)
theorem l_m_met2 (hD : dOK D) (hL0 : Lay M0) (h0' : MdM M0 b D) (hs : s < dN D) (hY0 : LyM M0 (dC D) (dR D) (dWt D s) (dV D s) (dSn D s) (dBs D s) (dY D s)) (t : Nat) (ht : t < 48) (v6 v7 v8 v9 : Value) (j6 : jk v6) (j7 : jk v7) (j8 : jk v8) (j9 : jk v9)
    (hN : ∀ M' v5, gF s330 nT M0 M' → jk v5 → FmP M' D s (t + 1) → am_P am_P0 (d + 2) (am_look tX11_met) 40 [.ref 277, .int (nI s), .int (nI o), .int x3, .int (nI (t + 1)), v5, v6, v7, v8, v9] [] M' Q) :
    ∀ (m c : Nat), c + m = dC D * dR D → ∀ (M : am_M), gF s330 nT M0 M → FmP M D s t → mI M 331 t = tI (chD D s true t) → (∀ k, k < c → mI M 330 (256 * t + k) = tI (chD D s true t ∧ dMy D s t (plc (dC D) k))) → am_P am_P0 (d + 2) (am_look tX11_met) 65 [.ref 277, .int (nI s), .int (nI o), .int x3, .int (nI t), .int (nI c), v6, v7, v8, v9] [] M Q := by
  have n8 := dN_8 hD
  have hCR : dC D * dR D ≤ 16 * 16 := Nat.mul_le_mul hD.1.1.1 hD.1.1.2
  have hC1 := dOK_1 hD hs
  intro m
  induction m with
  | zero =>
    intro c hc M hM hF h1 hb
    have hL := gF_LayN hM hL0
    have h := MdM_3 h0' hM
    have ec := fun Q => c_m_cells (d + 1) M Q hL b (dC D) (dR D) h.1.1 h.1.2 h.2.1.1 h.2.1.2
    have hle : nI (dC D * dR D) ≤ nI c := (ni_le (by omega) (by omega)).mpr (by omega)
    have h0 := hN M (.int (nI c)) hM (Or.inr ⟨_, rfl⟩) (fun t' ht' => by
      by_cases e : t' = t
      · subst e; exact ⟨h1, fun k hk => hb k (by omega)⟩
      · exact hF t' (by omega))
    rw [hX11_met_65]
    simp +decide only [qX11_met_0, qX11_met_1, qX11_met_2, qX11_met_3, lm hL, ec, ni_add1, jk_w j6, jk_w j7, jk_w j8, jk_w j9, am_w1_i, am_w1_r, am_w1_x, am_w1_l, am_w1_w, va_rf_s, am_push_n, am_push_s, am_cs_0, am_cs_i, am_cs_l, am_cs_r, m_uI_K, m_uI_N, m_uI_R, m_uI_L, m_uI_I, m_uL_K, m_uL_N, m_uL_R, m_uL_I, m_uL_L, m_uR_K, m_uR_N, m_uR_I, m_uR_L, m_uR_R, true_and, and_true, true_implies, false_implies, not_true_eq_false, not_false_eq_true, if_true, if_false, false_and, and_false] at h0 ⊢
    first | rw [br_p (hle)] | rw [br_r (hle)] | rw [br_s (hle)]
    exact h0
  | succ m ih =>
    intro c hc M hM hF h1 hb
    have hL := gF_LayN hM hL0
    have h := MdM_3 h0' hM
    have hY := LyM_3 hY0 hM
    have ec := fun Q => c_m_cells (d + 1) M Q hL b (dC D) (dR D) h.1.1 h.1.2 h.2.1.1 h.2.1.2
    have hlt : ¬ nI (dC D * dR D) ≤ nI c := by rw [ni_le (by omega) (by omega)]; omega
    have hcl : c < dC D * dR D := by omega
    have hp := plc_v hD.1.1.1 hC1.1 hcl
    have em := fun Q => m_mayBe hD hL h hs d Q hY hp.1 ht
    rw [hp.2] at em
    have e256 : (256 : Int32) * nI t + nI c = nI (256 * t + c) := by rw [show (256 : Int32) = nI 256 from rfl, ni_mul, ni_add]
    have put : ∀ p : Prop, (p ↔ (chD D s true t ∧ dMy D s t (plc (dC D) c))) → am_P am_P0 (d + 2) (am_look tX11_met) 65 [.ref 277, .int (nI s), .int (nI o), .int x3, .int (nI t), .int (nI (c + 1)), v6, v7, v8, v9] [] (uI M 330 (256 * t + c) (tI p)) Q := fun p hp2 => by
      have w1 : gF s330 nT M (uI M 330 (256 * t + c) (tI p)) := gF_i _ (Or.inl rfl)
      refine ih (c + 1) (by omega) _ (gF_trans hM w1) (fun t' ht' => ?_) ?_ (fun k hk => ?_)
      · obtain ⟨a1, a2⟩ := hF t' ht'
        exact ⟨by rw [m_uI_I, if_neg (by omega)]; exact a1, fun k hk => by rw [m_uI_I, if_neg (by omega)]; exact a2 k hk⟩
      · rw [m_uI_I, if_neg (by omega)]; exact h1
      · rw [m_uI_I]
        by_cases e : k = c
        · subst e; rw [if_pos ⟨rfl, rfl⟩, tI_i hp2]
        · rw [if_neg (by omega)]; exact hb k (by omega)
    rw [hX11_met_65]
    simp +decide (disch := omega) only [qX11_met_0, qX11_met_1, qX11_met_2, qX11_met_3, lm hL, ec, h1, em, e256, tI_01, tI_0, ni_in_t, ni_tn, ni_add1, jk_w j6, jk_w j7, jk_w j8, jk_w j9, am_w1_i, am_w1_r, am_w1_x, am_w1_l, am_w1_w, va_rf_s, am_push_n, am_push_s, am_cs_0, am_cs_i, am_cs_l, am_cs_r, m_uI_K, m_uI_N, m_uI_R, m_uI_L, m_uI_I, m_uL_K, m_uL_N, m_uL_R, m_uL_I, m_uL_L, m_uR_K, m_uR_N, m_uR_I, m_uR_L, m_uR_R, true_and, and_true, true_implies, false_implies, not_true_eq_false, not_false_eq_true, if_true, if_false, false_and, and_false]
    first | rw [br_n (hlt)] | rw [br_q (hlt)] | rw [br_u (hlt)]
    by_cases c1 : chD D s true t
    · first | rw [br_p (c1)] | rw [br_r (c1)] | rw [br_s (c1)]
      by_cases c2 : dMy D s t (plc (dC D) c)
      · first | rw [br_p (c2)] | rw [br_r (c2)] | rw [br_s (c2)]
        have h0 := put True ⟨fun _ => ⟨c1, c2⟩, fun _ => trivial⟩
        rw [tI_t trivial] at h0
        exact h0
      · first | rw [br_n (c2)] | rw [br_q (c2)] | rw [br_u (c2)]
        have h0 := put False ⟨fun q => q.elim, fun q => c2 q.2⟩
        rw [tI_f (fun q => q)] at h0
        exact h0
    · first | rw [br_n (c1)] | rw [br_q (c1)] | rw [br_u (c1)]
      have h0 := put False ⟨fun q => q.elim, fun q => c1 q.1⟩
      rw [tI_f (fun q => q)] at h0
      exact h0
theorem l_m_met1 (hD : dOK D) (hL0 : Lay M0) (h0' : MdM M0 b D) (hs : s < dN D) (hY0 : LyM M0 (dC D) (dR D) (dWt D s) (dV D s) (dSn D s) (dBs D s) (dY D s)) (v6 v7 v8 v9 : Value) (j6 : jk v6) (j7 : jk v7) (j8 : jk v8) (j9 : jk v9)
    (hN : ∀ M' v5, gF s330 nT M0 M' → jk v5 → FmP M' D s 48 → am_P am_P0 (d + 2) (am_look tX11_met) 127 [.ref 277, .int (nI s), .int (nI o), .int x3, .int 48, v5, v6, v7, v8, v9] [] M' Q) :
    ∀ (m t : Nat), t + m = 48 → ∀ (M : am_M) (v5 : Value), jk v5 → gF s330 nT M0 M → FmP M D s t → am_P am_P0 (d + 2) (am_look tX11_met) 40 [.ref 277, .int (nI s), .int (nI o), .int x3, .int (nI t), v5, v6, v7, v8, v9] [] M Q := by
  intro m
  induction m with
  | zero =>
    intro t ht M v5 hv5 hM hF
    have et : t = 48 := by omega
    subst et
    have h0 := hN M v5 hM hv5 hF
    rw [hX11_met_40]
    simp +decide only [qX11_met_0, qX11_met_1, qX11_met_2, qX11_met_3, show nI 48 = (48 : Int32) from rfl, jk_w hv5, jk_w j6, jk_w j7, jk_w j8, jk_w j9, am_w1_i, am_w1_r, am_w1_x, am_w1_l, am_w1_w, va_rf_s, am_push_n, am_push_s, am_cs_0, am_cs_i, am_cs_l, am_cs_r, m_uI_K, m_uI_N, m_uI_R, m_uI_L, m_uI_I, m_uL_K, m_uL_N, m_uL_R, m_uL_I, m_uL_L, m_uR_K, m_uR_N, m_uR_I, m_uR_L, m_uR_R, true_and, and_true, true_implies, false_implies, not_true_eq_false, not_false_eq_true, if_true, if_false, false_and, and_false] at h0 ⊢
    exact h0
  | succ m ih =>
    intro t ht M v5 hv5 hM hF
    have hL := gF_LayN hM hL0
    have h := MdM_3 h0' hM
    have hY := LyM_3 hY0 hM
    have hlt : ¬ (48 : Int32) ≤ nI t := by rw [show (48 : Int32) = nI 48 from rfl, ni_le (by omega) (by omega)]; omega
    rw [hX11_met_40]
    simp +decide (disch := omega) only [qX11_met_0, qX11_met_1, qX11_met_2, qX11_met_3, lm hL, jk_w hv5, jk_w j6, jk_w j7, jk_w j8, jk_w j9, am_w1_i, am_w1_r, am_w1_x, am_w1_l, am_w1_w, va_rf_s, am_push_n, am_push_s, am_cs_0, am_cs_i, am_cs_l, am_cs_r, m_uI_K, m_uI_N, m_uI_R, m_uI_L, m_uI_I, m_uL_K, m_uL_N, m_uL_R, m_uL_I, m_uL_L, m_uR_K, m_uR_N, m_uR_I, m_uR_L, m_uR_R, true_and, and_true, true_implies, false_implies, not_true_eq_false, not_false_eq_true, if_true, if_false, false_and, and_false]
    first | rw [br_n (hlt)] | rw [br_q (hlt)] | rw [br_u (hlt)]
    refine m_changes hD hL h hs (by omega) false hY.1 d _ ?_
    have w1 : gF s330 nT M (uI M 331 t (tI (chD D s true t))) := gF_i _ (Or.inr rfl)
    have h9 := l_m_met2 d b s o D M0 Q x3 hD hL0 h0' hs hY0 t (by omega) v6 v7 v8 v9 j6 j7 j8 j9 (fun M' v5' g' j5' F' => ih (t + 1) (by omega) M' v5' j5' g' F') (dC D * dR D) 0 (by omega) (uI M 331 t (tI (chD D s true t))) (gF_trans hM w1) (fun t' ht' => by
      obtain ⟨a1, a2⟩ := hF t' ht'
      exact ⟨by rw [m_uI_I, if_neg (by omega)]; exact a1, fun k hk => by rw [m_uI_I, if_neg (by omega)]; exact a2 k hk⟩) (by rw [m_uI_I, if_pos ⟨rfl, rfl⟩]) (fun k hk => by omega)
    rw [show (!false) = true from rfl]
    simp +decide (disch := omega) only [qX11_met_0, qX11_met_1, qX11_met_2, qX11_met_3, lm hL, tI_01, ni_in_t, ni_tn, jk_w j6, jk_w j7, jk_w j8, jk_w j9, am_w1_i, am_w1_r, am_w1_x, am_w1_l, am_w1_w, va_rf_s, am_push_n, am_push_s, am_cs_0, am_cs_i, am_cs_l, am_cs_r, m_uI_K, m_uI_N, m_uI_R, m_uI_L, m_uI_I, m_uL_K, m_uL_N, m_uL_R, m_uL_I, m_uL_L, m_uR_K, m_uR_N, m_uR_I, m_uR_L, m_uR_R, true_and, and_true, true_implies, false_implies, not_true_eq_false, not_false_eq_true, if_true, if_false, false_and, and_false]
    exact h9
end
end
section
/-! the model: met -/
section
variable (d b s o : Nat) (D : Dat) (M : am_M) (Q : Option Value → am_M → Prop)
theorem l_m_met4 (hD : dOK D) (hL : Lay M) (h : MdM M b D) (hs : s < dN D) (ho : o < dN D) (hY : LyM M (dC D) (dR D) (dWt D o) (dV D o) (dSn D o) (dBs D o) (dY D o)) (hF : FmP M D s 48) (t : Nat) (ht : t < 48) (hch : chD D s true t) (x3 x4 x5 x6 : Int32)
    (hN : am_P am_P0 (d + 2) (am_look tX11_met) 235 [.ref 277, .int (nI s), .int (nI o), .int x3, .int x4, .int x5, .int x6, .int (nI t), .int (nI (mtN D s o t)), .int (nI (dC D * dR D))] [] M Q) :
    ∀ (m c : Nat), c + m = dC D * dR D → am_P am_P0 (d + 2) (am_look tX11_met) 181 [.ref 277, .int (nI s), .int (nI o), .int x3, .int x4, .int x5, .int x6, .int (nI t), .int (nI (cnt (fun c => dB (dMy D s t (plc (dC D) c) ∧ dMy D o t (plc (dC D) c))) c)), .int (nI c)] [] M Q := by
  have n8 := dN_8 hD
  have hCR : dC D * dR D ≤ 16 * 16 := Nat.mul_le_mul hD.1.1.1 hD.1.1.2
  have hC1 := dOK_1 hD hs
  have ec := fun Q => c_m_cells (d + 1) M Q hL b (dC D) (dR D) h.1.1 h.1.2 h.2.1.1 h.2.1.2
  intro m
  induction m with
  | zero =>
    intro c hc
    have ecc : c = dC D * dR D := by omega
    have hle : nI (dC D * dR D) ≤ nI c := (ni_le (by omega) (by omega)).mpr (by omega)
    have e : cnt (fun c => dB (dMy D s t (plc (dC D) c) ∧ dMy D o t (plc (dC D) c))) (dC D * dR D) = mtN D s o t := (cnt_places (P := fun p => dMy D s t p ∧ dMy D o t p) hD.1.1.1 hD.1.1.2 (fun p q => dMy_v hD hs q.1)).symm
    rw [hX11_met_181]
    simp +decide only [qX11_met_0, qX11_met_1, qX11_met_2, qX11_met_3, lm hL, ec, am_w1_i, am_w1_r, am_w1_x, am_w1_l, am_w1_w, va_rf_s, am_push_n, am_push_s, am_cs_0, am_cs_i, am_cs_l, am_cs_r, m_uI_K, m_uI_N, m_uI_R, m_uI_L, m_uI_I, m_uL_K, m_uL_N, m_uL_R, m_uL_I, m_uL_L, m_uR_K, m_uR_N, m_uR_I, m_uR_L, m_uR_R, true_and, and_true, true_implies, false_implies, not_true_eq_false, not_false_eq_true, if_true, if_false, false_and, and_false] at hN ⊢
    first | rw [br_p (hle)] | rw [br_r (hle)] | rw [br_s (hle)]
    rw [ecc, e]
    exact hN
  | succ m ih =>
    intro c hc
    have hlt : ¬ nI (dC D * dR D) ≤ nI c := by rw [ni_le (by omega) (by omega)]; omega
    have hcl : c < dC D * dR D := by omega
    have hp := plc_v hD.1.1.1 hC1.1 hcl
    have em := fun Q => m_mayBe hD hL h ho d Q hY hp.1 ht
    rw [hp.2] at em
    have hf := (hF t ht).2 c hcl
    rw [tI_i (q := dMy D s t (plc (dC D) c)) ⟨fun q => q.2, fun q => ⟨hch, q⟩⟩] at hf
    have e256 : (256 : Int32) * nI t + nI c = nI (256 * t + c) := by rw [show (256 : Int32) = nI 256 from rfl, ni_mul, ni_add]
    have h0 := ih (c + 1) (by omega)
    rw [hX11_met_181]
    simp +decide (disch := omega) only [qX11_met_0, qX11_met_1, qX11_met_2, qX11_met_3, lm hL, ec, em, hf, e256, tI_01, tI_0, ni_in_t, ni_tn, ni_add1, am_w1_i, am_w1_r, am_w1_x, am_w1_l, am_w1_w, va_rf_s, am_push_n, am_push_s, am_cs_0, am_cs_i, am_cs_l, am_cs_r, m_uI_K, m_uI_N, m_uI_R, m_uI_L, m_uI_I, m_uL_K, m_uL_N, m_uL_R, m_uL_I, m_uL_L, m_uR_K, m_uR_N, m_uR_I, m_uR_L, m_uR_R, true_and, and_true, true_implies, false_implies, not_true_eq_false, not_false_eq_true, if_true, if_false, false_and, and_false]
    first | rw [br_n (hlt)] | rw [br_q (hlt)] | rw [br_u (hlt)]
    by_cases c1 : dMy D s t (plc (dC D) c)
    · first | rw [br_p (c1)] | rw [br_r (c1)] | rw [br_s (c1)]
      by_cases c2 : dMy D o t (plc (dC D) c)
      · rw [cnt_t (dB_t.mpr ⟨c1, c2⟩)] at h0
        first | rw [br_p (c2)] | rw [br_r (c2)] | rw [br_s (c2)]
        exact h0
      · rw [cnt_f (fun q => c2 (dB_t.mp q).2)] at h0
        first | rw [br_n (c2)] | rw [br_q (c2)] | rw [br_u (c2)]
        rw [show (0 : Int32) = nI 0 from rfl, ni_add]
        exact h0
    · rw [cnt_f (fun q => c1 (dB_t.mp q).1)] at h0
      first | rw [br_n (c1)] | rw [br_q (c1)] | rw [br_u (c1)]
      rw [show (0 : Int32) = nI 0 from rfl, ni_add]
      exact h0
theorem l_m_met3 (hD : dOK D) (hL : Lay M) (h : MdM M b D) (hs : s < dN D) (ho : o < dN D) (hY : LyM M (dC D) (dR D) (dWt D o) (dV D o) (dSn D o) (dBs D o) (dY D o)) (hF : FmP M D s 48) (w : Int32) (hw : 0 ≤ w.toInt ∧ w.toInt ≤ 2) (hQ : Q (some (.int (mtA D s o w))) M) :
    ∀ (m t : Nat), t + m = 48 → ∀ (v8 v9 : Value), jk v8 → jk v9 → am_P am_P0 (d + 2) (am_look tX11_met) 144 [.ref 277, .int (nI s), .int (nI o), .int w, .int (nI (cnt (mtB D s o) t)), .int (oI (fs (mtB D s o) t) t), .int (nI (sumF (mtH D s o) t)), .int (nI t), v8, v9] [] M Q := by
  intro m
  induction m with
  | zero =>
    intro t ht v8 v9 j8 j9
    have et : t = 48 := by omega
    subst et
    unfold mtA at hQ
    rw [hX11_met_144]
    simp +decide only [qX11_met_0, qX11_met_1, qX11_met_2, qX11_met_3, show nI 48 = (48 : Int32) from rfl, Classical.not_not, am_w1_i, am_w1_r, am_w1_x, am_w1_l, am_w1_w, va_rf_s, am_push_n, am_push_s, am_cs_0, am_cs_i, am_cs_l, am_cs_r, m_uI_K, m_uI_N, m_uI_R, m_uI_L, m_uI_I, m_uL_K, m_uL_N, m_uL_R, m_uL_I, m_uL_L, m_uR_K, m_uR_N, m_uR_I, m_uR_L, m_uR_R, true_and, and_true, true_implies, false_implies, not_true_eq_false, not_false_eq_true, if_true, if_false, false_and, and_false]
    by_cases c : w = 0
    · rw [if_pos (by rw [c]; rfl)] at hQ
      first | rw [br_p (c)] | rw [br_r (c)] | rw [br_s (c)]
      exact hQ
    · have c' : ¬ w.toInt = 0 := fun q => c (Int32.toInt_inj.mp q)
      rw [if_neg c'] at hQ
      first | rw [br_n (c)] | rw [br_q (c)] | rw [br_u (c)]
      by_cases c1 : w = 1
      · rw [if_pos (by rw [c1]; rfl)] at hQ
        first | rw [br_p (c1)] | rw [br_r (c1)] | rw [br_s (c1)]
        exact hQ
      · have c1' : ¬ w.toInt = 1 := fun q => c1 (Int32.toInt_inj.mp q)
        rw [if_neg c1'] at hQ
        first | rw [br_n (c1)] | rw [br_q (c1)] | rw [br_u (c1)]
        exact hQ
  | succ m ih =>
    intro t ht v8 v9 j8 j9
    have hlt : ¬ (48 : Int32) ≤ nI t := by rw [show (48 : Int32) = nI 48 from rfl, ni_le (by omega) (by omega)]; omega
    have hf := (hF t (by omega)).1
    have hle := mtH_le D s o t
    have hsm := mt_sum D s o t (by omega)
    have hcn := cnt_le (mtB D s o) t
    have skip : mtH D s o t = 0 → ∀ v8' v9', jk v8' → jk v9' → am_P am_P0 (d + 2) (am_look tX11_met) 144 [.ref 277, .int (nI s), .int (nI o), .int w, .int (nI (cnt (mtB D s o) t)), .int (oI (fs (mtB D s o) t) t), .int (nI (sumF (mtH D s o) t)), .int (nI (t + 1)), v8', v9'] [] M Q := fun c v8' v9' j8' j9' => by
      have h0 := ih (t + 1) (by omega) v8' v9' j8' j9'
      have hff : ¬ mtB D s o t = true := by unfold mtB; simp; omega
      rw [oI_s, show sumF (mtH D s o) (t + 1) = sumF (mtH D s o) t + mtH D s o t from rfl, cnt_f hff, c, Nat.add_zero] at h0
      by_cases q : fs (mtB D s o) t < t
      · rw [if_pos q] at h0
        exact h0
      · rw [if_neg q, if_neg hff] at h0
        rw [show oI (fs (mtB D s o) t) t = -1 from by unfold oI; rw [if_neg q]]
        exact h0
    rw [hX11_met_144]
    simp +decide (disch := omega) only [qX11_met_0, qX11_met_1, qX11_met_2, qX11_met_3, lm hL, hf, tI_01, tI_0, jk_w j8, jk_w j9, ni_in_t, ni_tn, ni_add1, am_w1_i, am_w1_r, am_w1_x, am_w1_l, am_w1_w, va_rf_s, am_push_n, am_push_s, am_cs_0, am_cs_i, am_cs_l, am_cs_r, m_uI_K, m_uI_N, m_uI_R, m_uI_L, m_uI_I, m_uL_K, m_uL_N, m_uL_R, m_uL_I, m_uL_L, m_uR_K, m_uR_N, m_uR_I, m_uR_L, m_uR_R, true_and, and_true, true_implies, false_implies, not_true_eq_false, not_false_eq_true, if_true, if_false, false_and, and_false]
    first | rw [br_n (hlt)] | rw [br_q (hlt)] | rw [br_u (hlt)]
    by_cases c1 : chD D s true t
    · first | rw [br_p (c1)] | rw [br_r (c1)] | rw [br_s (c1)]
      refine m_changes hD hL h ho (by omega) true hY.1 d _ ?_
      rw [show (!true) = false from rfl]
      simp +decide only [qX11_met_0, qX11_met_1, qX11_met_2, qX11_met_3, tI_0, jk_w j8, jk_w j9, ni_add1, Classical.not_not, am_w1_i, am_w1_r, am_w1_x, am_w1_l, am_w1_w, va_rf_s, am_push_n, am_push_s, am_cs_0, am_cs_i, am_cs_l, am_cs_r, m_uI_K, m_uI_N, m_uI_R, m_uI_L, m_uI_I, m_uL_K, m_uL_N, m_uL_R, m_uL_I, m_uL_L, m_uR_K, m_uR_N, m_uR_I, m_uR_L, m_uR_R, true_and, and_true, true_implies, false_implies, not_true_eq_false, not_false_eq_true, if_true, if_false, false_and, and_false]
      by_cases c2 : chD D o false t
      · first | rw [br_p (c2)] | rw [br_r (c2)] | rw [br_s (c2)]
        have em := mtH_t ⟨c1, c2⟩
        refine l_m_met4 d b s o D M Q hD hL h hs ho hY hF t (by omega) c1 w _ _ _ ?_ (dC D * dR D) 0 (by omega)
        rw [← em]
        simp +decide only [qX11_met_0, qX11_met_1, qX11_met_2, qX11_met_3, ni_add1, ni_add, Classical.not_not, am_w1_i, am_w1_r, am_w1_x, am_w1_l, am_w1_w, va_rf_s, am_push_n, am_push_s, am_cs_0, am_cs_i, am_cs_l, am_cs_r, m_uI_K, m_uI_N, m_uI_R, m_uI_L, m_uI_I, m_uL_K, m_uL_N, m_uL_R, m_uL_I, m_uL_L, m_uR_K, m_uR_N, m_uR_I, m_uR_L, m_uR_R, true_and, and_true, true_implies, false_implies, not_true_eq_false, not_false_eq_true, if_true, if_false, false_and, and_false]
        have ez : nI (mtH D s o t) = 0 ↔ mtH D s o t = 0 := by rw [show (0 : Int32) = nI 0 from rfl, ni_eq (by omega) (by omega)]
        rw [ez]
        by_cases c : mtH D s o t = 0
        · first | rw [br_p (c)] | rw [br_r (c)] | rw [br_s (c)]
          exact skip c _ _ (Or.inr ⟨_, rfl⟩) (Or.inr ⟨_, rfl⟩)
        · first | rw [br_n (c)] | rw [br_q (c)] | rw [br_u (c)]
          have h0 := ih (t + 1) (by omega) (.int (nI (mtH D s o t))) (.int (nI (dC D * dR D))) (Or.inr ⟨_, rfl⟩) (Or.inr ⟨_, rfl⟩)
          have hff : mtB D s o t = true := by unfold mtB; simp; omega
          rw [oI_s, show sumF (mtH D s o) (t + 1) = sumF (mtH D s o) t + mtH D s o t from rfl, cnt_t hff] at h0
          by_cases q : fs (mtB D s o) t < t
          · rw [if_pos q] at h0
            have hne : ¬ oI (fs (mtB D s o) t) t = -1 := by unfold oI; rw [if_pos q]; exact nI_m1 (by omega)
            first | rw [br_n (hne)] | rw [br_q (hne)] | rw [br_u (hne)]
            exact h0
          · rw [if_neg q, if_pos hff] at h0
            have e : oI (fs (mtB D s o) t) t = -1 := by unfold oI; rw [if_neg q]
            first | rw [br_p (e)] | rw [br_r (e)] | rw [br_s (e)]
            exact h0
      · first | rw [br_n (c2)] | rw [br_q (c2)] | rw [br_u (c2)]
        exact skip (mtH_f (fun q => c2 q.2)) v8 v9 j8 j9
    · first | rw [br_n (c1)] | rw [br_q (c1)] | rw [br_u (c1)]
      exact skip (mtH_f (fun q => c1 q.1)) v8 v9 j8 j9
end
theorem m_met (v u w : Int32) : MzO 278 [.int v, .int u, .int w] (aMet v u w) := by
  intro d M b D Q hD hL h hQ
  have n8 := dN_8 hD
  have eS := fun v Q => m_isShip hD hL h (d + 18) v Q
  have e2 : (2 : Int32).toInt = 2 := rfl
  unfold aMet at hQ
  rw [eX11_met]
  simp +decide only [qX11_met_0, qX11_met_1, qX11_met_2, qX11_met_3, lm hL, eS, c_m_is, bI_0, Classical.not_not, am_w1_i, am_w1_r, am_w1_x, am_w1_l, am_w1_w, va_rf_s, am_push_n, am_push_s, am_cs_0, am_cs_i, am_cs_l, am_cs_r, m_uI_K, m_uI_N, m_uI_R, m_uI_L, m_uI_I, m_uL_K, m_uL_N, m_uL_R, m_uL_I, m_uL_L, m_uR_K, m_uR_N, m_uR_I, m_uR_L, m_uR_R, true_and, and_true, true_implies, false_implies, not_true_eq_false, not_false_eq_true, if_true, if_false, false_and, and_false]
  by_cases hv : 0 ≤ v.toInt ∧ v.toInt < dN D
  · first | rw [br_p (hv)] | rw [br_r (hv)] | rw [br_s (hv)]
    by_cases hu : 0 ≤ u.toInt ∧ u.toInt < dN D
    · first | rw [br_p (hu)] | rw [br_r (hu)] | rw [br_s (hu)]
      by_cases e : v = u
      · have h0 := hQ M (gF_refl _ _ _)
        rw [if_neg (fun q => q.1 e)] at h0
        first | rw [br_p (e)] | rw [br_r (e)] | rw [br_s (e)]
        exact h0
      · first | rw [br_n (e)] | rw [br_q (e)] | rw [br_u (e)]
        by_cases w2 : 0 ≤ w ∧ w ≤ 2
        · first | rw [br_p (w2)] | rw [br_r (w2)] | rw [br_s (w2)]
          rw [le32, le32, z32, e2] at w2
          rw [if_pos ⟨e, hv, hu, w2⟩] at hQ
          obtain ⟨s, s1, s2, s3⟩ := sh_of (by omega) hv
          obtain ⟨o, o1, o2, o3⟩ := sh_of (by omega) hu
          rw [s3, o3] at hQ
          rw [s2, o2]
          refine m_laysS hD hL h s1 (d + 12) _ (fun M1 g1 y1 => ?_)
          have L1 := gF_LayN g1 hL
          have h1 := MdM_q h g1
          have h9 := l_m_met1 (d + 18) b s o D M1 Q w hD L1 h1 s1 y1 am_x am_x am_x am_x (Or.inl rfl) (Or.inl rfl) (Or.inl rfl) (Or.inl rfl) (fun M2 v5 g2 j5 F2 => by
            have L2 := gF_LayN g2 L1
            have h2 := MdM_3 h1 g2
            simp +decide only [qX11_met_0, qX11_met_1, qX11_met_2, qX11_met_3, lm L2, jk_w j5, am_w1_i, am_w1_r, am_w1_x, am_w1_l, am_w1_w, va_rf_s, am_push_n, am_push_s, am_cs_0, am_cs_i, am_cs_l, am_cs_r, m_uI_K, m_uI_N, m_uI_R, m_uI_L, m_uI_I, m_uL_K, m_uL_N, m_uL_R, m_uL_I, m_uL_L, m_uR_K, m_uR_N, m_uR_I, m_uR_L, m_uR_R, true_and, and_true, true_implies, false_implies, not_true_eq_false, not_false_eq_true, if_true, if_false, false_and, and_false]
            obtain ⟨w1, w2', w3, w4, w5⟩ := mh hD h2 o1
            refine c_m_lays (d + 12) o b (dC D) (dR D) (dV D o) (dDp D) (dDr D o) (dLd D o) (dBk D) (dY D o) M2 _ L2 w1 (by omega) w2' w3 w4 (dY_len hD o) (fun M3 o3' y3 => ?_)
            rw [w5] at y3
            have g3 : gF sMq nT M2 M3 := gF_up (gF_o o3') (fun a j q => sMq_Y q) (fun _ _ q => q)
            have L3 := gF_LayN g3 L2
            have h3 := MdM_q h2 g3
            have F3 : FmP M3 D s 48 := fun t ht => ⟨by rw [g3.1 _ _ (by unfold sMq; omega)]; exact (F2 t ht).1, fun c hc => by rw [g3.1 _ _ (by unfold sMq; omega)]; exact (F2 t ht).2 c hc⟩
            have h0 := hQ M3 (gF_trans (gF_up g1 (fun a j q => Or.inl q) (fun _ _ q => q)) (gF_trans (gF_up g2 (fun a j q => by unfold s330 at q; unfold sMz; omega) (fun _ _ q => q)) (gF_up g3 (fun a j q => Or.inl q) (fun _ _ q => q))))
            have h8 := l_m_met3 (d + 18) b s o D M3 Q hD L3 h3 s1 o1 y3 F3 w w2 h0 48 0 (by omega) am_x am_x (Or.inl rfl) (Or.inl rfl)
            simp +decide only [qX11_met_0, qX11_met_1, qX11_met_2, qX11_met_3, am_w1_i, am_w1_r, am_w1_x, am_w1_l, am_w1_w, va_rf_s, am_push_n, am_push_s, am_cs_0, am_cs_i, am_cs_l, am_cs_r, m_uI_K, m_uI_N, m_uI_R, m_uI_L, m_uI_I, m_uL_K, m_uL_N, m_uL_R, m_uL_I, m_uL_L, m_uR_K, m_uR_N, m_uR_I, m_uR_L, m_uR_R, true_and, and_true, true_implies, false_implies, not_true_eq_false, not_false_eq_true, if_true, if_false, false_and, and_false]
            exact h8) 48 0 (by omega) M1 am_x (Or.inl rfl) (gF_refl _ _ _) (fun t ht => by omega)
          simp +decide only [qX11_met_0, qX11_met_1, qX11_met_2, qX11_met_3, am_w1_i, am_w1_r, am_w1_x, am_w1_l, am_w1_w, va_rf_s, am_push_n, am_push_s, am_cs_0, am_cs_i, am_cs_l, am_cs_r, m_uI_K, m_uI_N, m_uI_R, m_uI_L, m_uI_I, m_uL_K, m_uL_N, m_uL_R, m_uL_I, m_uL_L, m_uR_K, m_uR_N, m_uR_I, m_uR_L, m_uR_R, true_and, and_true, true_implies, false_implies, not_true_eq_false, not_false_eq_true, if_true, if_false, false_and, and_false]
          exact h9
        · have h0 := hQ M (gF_refl _ _ _)
          rw [if_neg (fun q => w2 (by rw [le32, le32, z32, e2]; exact q.2.2.2))] at h0
          first | rw [br_n (w2)] | rw [br_q (w2)] | rw [br_u (w2)]
          exact h0
    · have h0 := hQ M (gF_refl _ _ _)
      rw [if_neg (fun q => hu q.2.2.1)] at h0
      first | rw [br_n (hu)] | rw [br_q (hu)] | rw [br_u (hu)]
      exact h0
  · have h0 := hQ M (gF_refl _ _ _)
    rw [if_neg (fun q => hv q.2.1)] at h0
    first | rw [br_n (hv)] | rw [br_q (hv)] | rw [br_u (hv)]
    exact h0
theorem op_met (v u w : Int32) : OpI 130 278 [.int v, .int u, .int w] isI := op_z (fun D => ⟨_, rfl⟩) (x_met v u w) (m_met v u w)
end
section
/-! chance, beyond -/
def od (L : Nat) : Nat → Nat → Nat
  | 0, j => if j = 0 then 1000000000000 else 0
  | t + 1, j => (od L t j * (100 - L) + (if j = 0 then 0 else od L t (j - 1) * L)) / 100
theorem od_le {L : Nat} (hL : L ≤ 100) : ∀ t j, od L t j ≤ 1000000000000 := by
  intro t
  induction t with
  | zero => intro j; show (if j = 0 then 1000000000000 else 0) ≤ _; split <;> omega
  | succ t ih =>
    intro j
    show (od L t j * (100 - L) + (if j = 0 then 0 else od L t (j - 1) * L)) / 100 ≤ _
    have h1 := Nat.mul_le_mul_right (100 - L) (ih j)
    have h2 := Nat.mul_le_mul_right L (ih (j - 1))
    have h3 : (if j = 0 then 0 else od L t (j - 1) * L) ≤ 1000000000000 * L := by split <;> omega
    have h4 : 1000000000000 * (100 - L) + 1000000000000 * L = 1000000000000 * 100 := by rw [← Nat.mul_add]; congr 1; omega
    omega
theorem od_0 {L : Nat} : ∀ t j, t < j → od L t j = 0 := by
  intro t
  induction t with
  | zero => intro j hj; show (if j = 0 then 1000000000000 else 0) = 0; rw [if_neg (by omega)]
  | succ t ih =>
    intro j hj
    show (od L t j * (100 - L) + (if j = 0 then 0 else od L t (j - 1) * L)) / 100 = 0
    rw [ih j (by omega), if_neg (by omega), ih (j - 1) (by omega)]
    simp
theorem nI_L (k : Nat) (h : k < 2147483648) : (nI k).toInt64 = zL (k : Int) := by
  rw [← zI_n, zIL (by omega) (by omega)]
theorem zL_nd {a b : Nat} (h1 : a ≤ 1000000000000000) (h2 : b ≤ 1000000000000000) : zL (a : Int) / zL (b : Int) = zL ((a / b : Nat) : Int) := by
  rw [zL_div (by unfold sm_; omega) (by unfold sm_; omega)]
  congr 1
theorem od_step {L x y : Nat} (hL : L ≤ 100) (hx : x ≤ 1000000000000) (hy : y ≤ 1000000000000) : (zL (x : Int) * ((100 : Int32) - nI L).toInt64 + zL (y : Int) * (nI L).toInt64) / 100 = zL (((x * (100 - L) + y * L) / 100 : Nat) : Int) := by
  have h1 := Nat.mul_le_mul_right (100 - L) hx
  have h2 := Nat.mul_le_mul_right L hy
  have h4 : 1000000000000 * (100 - L) + 1000000000000 * L = 1000000000000 * 100 := by rw [← Nat.mul_add]; congr 1; omega
  rw [show (100 : Int32) = nI 100 from rfl, ni_sub (by omega), nI_L _ (by omega), nI_L _ (by omega), zL_mul, zL_mul, zL_add, show (100 : Int64) = zL ((100 : Nat) : Int) from rfl, ← zL_nd (by omega) (by omega)]
  congr 2
theorem od_step0 {L x : Nat} (hL : L ≤ 100) (hx : x ≤ 1000000000000) : zL (x : Int) * ((100 : Int32) - nI L).toInt64 / 100 = zL (((x * (100 - L) + 0) / 100 : Nat) : Int) := by
  have h := od_step hL hx (y := 0) (by omega)
  have e : zL ((0 : Nat) : Int) * (nI L).toInt64 = 0 := by rw [nI_L _ (by omega), zL_mul]; simp; rfl
  have e2 : ∀ x : Int64, x + 0 = x := fun x => by simp
  rw [e, e2, Nat.zero_mul] at h
  exact h
theorem od_t (L t j : Nat) : od L (t + 1) j = (od L t j * (100 - L) + (if j = 0 then 0 else od L t (j - 1) * L)) / 100 := rfl
def csum (f : Nat → Nat) (g : Nat) : Nat → Nat
  | 0 => 0
  | n + 1 => csum f g n + f (g + n)
theorem csum_le {f : Nat → Nat} {g c : Nat} (h : ∀ i, f i ≤ c) : ∀ n, csum f g n ≤ n * c := by
  intro n
  induction n with
  | zero => exact Nat.zero_le _
  | succ n ih =>
    show csum f g n + f (g + n) ≤ (n + 1) * c
    have := h (g + n)
    rw [Nat.add_mul]
    omega
noncomputable def chN (D : Dat) (s : Nat) : Nat := csum (od (dLk D) (betY (dY D s))) (gpD D s 48) (48 - gpD D s 48)
theorem chN_le {D : Dat} (hD : dOK D) (s : Nat) : chN D s ≤ 48000000000000 := by
  have := csum_le (f := od (dLk D) (betY (dY D s))) (g := gpD D s 48) (fun i => od_le hD.1.2.1 _ i) (48 - gpD D s 48)
  unfold chN
  omega
def s171 (a _j : Nat) : Prop := a = 171
section
variable (d L s : Nat) (M0 : am_M) (Q : Option Value → am_M → Prop)
theorem l_x_ch2 (hL0 : Lay M0) (hLk : L ≤ 100) (b t : Nat) (hb : b ≤ 46) (ht : t < b) (v7 : Value) (j7 : jk v7)
    (hN : ∀ M' v6, gF s171 nT M0 M' → jk v6 → (∀ k, k < 48 → mL M' 171 k = zL (od L (t + 1) k : Int)) → am_P am_P0 d (am_look tX10_chanceOf) 45 [.ref 0, .int (nI s), .ref (173 + 13 * s), .int (nI L), .int (nI b), .int (nI (t + 1)), v6, v7] [] M' Q) :
    ∀ (j : Nat), j ≤ t + 1 → ∀ (M : am_M), gF s171 nT M0 M → (∀ k, k < 48 → mL M 171 k = zL ((if j < k then od L (t + 1) k else od L t k : Nat) : Int)) → am_P am_P0 d (am_look tX10_chanceOf) 63 [.ref 0, .int (nI s), .ref (173 + 13 * s), .int (nI L), .int (nI b), .int (nI t), .int (nI j), v7] [] M Q := by
  intro j
  induction j with
  | zero =>
    intro hj M hM hv
    have hL := gF_LayN hM hL0
    have h0v := hv 0 (by omega)
    rw [if_neg (by omega)] at h0v
    have e := od_step0 hLk (od_le hLk t 0)
    have w1 : gF s171 nT M (uL M 171 0 (zL (od L (t + 1) 0 : Int))) := gF_l _ rfl
    have h0 := hN (uL M 171 0 (zL (od L (t + 1) 0 : Int))) (.int (nI 0)) (gF_trans hM w1) (Or.inr ⟨_, rfl⟩) (fun k hk => by
      rw [m_uL_L]
      by_cases e : k = 0
      · rw [if_pos ⟨rfl, e⟩, e]
      · rw [if_neg (by omega), hv k hk, if_pos (by omega)])
    rw [od_t, if_pos rfl] at h0
    rw [hX10_chanceOf_63]
    simp +decide (disch := omega) only [qX10_chanceOf_0, qX10_chanceOf_1, qX10_chanceOf_2, lx hL, show (Int32.toInt 0).toNat = 0 from rfl, h0v, e, ni_add1, jk_w j7, show nI 0 = (0 : Int32) from rfl, am_w1_i, am_w1_r, am_w1_x, am_w1_l, am_w1_w, va_rf_s, am_push_n, am_push_s, am_cs_0, am_cs_i, am_cs_l, am_cs_r, m_uI_K, m_uI_N, m_uI_R, m_uI_L, m_uI_I, m_uL_K, m_uL_N, m_uL_R, m_uL_I, m_uL_L, m_uR_K, m_uR_N, m_uR_I, m_uR_L, m_uR_R, true_and, and_true, true_implies, false_implies, not_true_eq_false, not_false_eq_true, if_true, if_false, false_and, and_false] at h0 ⊢
    exact h0
  | succ j ih =>
    intro hj M hM hv
    have hL := gF_LayN hM hL0
    have hnp : ¬ nI (j + 1) ≤ 0 := by rw [ni_pos (by omega)]; omega
    have h1 := hv (j + 1) (by omega)
    have h2 := hv j (by omega)
    rw [if_neg (by omega)] at h1 h2
    have e := od_step hLk (od_le hLk t (j + 1)) (od_le hLk t j)
    have e1 : nI (j + 1) - 1 = nI j := ni_sub1 j
    have w1 : gF s171 nT M (uL M 171 (j + 1) (zL (od L (t + 1) (j + 1) : Int))) := gF_l _ rfl
    have h0 := ih (by omega) (uL M 171 (j + 1) (zL (od L (t + 1) (j + 1) : Int))) (gF_trans hM w1) (fun k hk => by
      rw [m_uL_L]
      by_cases e : k = j + 1
      · rw [if_pos ⟨rfl, e⟩, e, if_pos (by omega)]
      · rw [if_neg (by omega), hv k hk]
        by_cases c : j + 1 < k
        · rw [if_pos c, if_pos (by omega)]
        · rw [if_neg c, if_neg (by omega)])
    rw [od_t, if_neg (by omega), show j + 1 - 1 = j by omega] at h0
    rw [hX10_chanceOf_63]
    simp +decide (disch := omega) only [qX10_chanceOf_0, qX10_chanceOf_1, qX10_chanceOf_2, lx hL, e1, h1, h2, e, ni_in_t, ni_tn, ni_dec, jk_w j7, am_w1_i, am_w1_r, am_w1_x, am_w1_l, am_w1_w, va_rf_s, am_push_n, am_push_s, am_cs_0, am_cs_i, am_cs_l, am_cs_r, m_uI_K, m_uI_N, m_uI_R, m_uI_L, m_uI_I, m_uL_K, m_uL_N, m_uL_R, m_uL_I, m_uL_L, m_uR_K, m_uR_N, m_uR_I, m_uR_L, m_uR_R, true_and, and_true, true_implies, false_implies, not_true_eq_false, not_false_eq_true, if_true, if_false, false_and, and_false]
    first | rw [br_n (hnp)] | rw [br_q (hnp)] | rw [br_u (hnp)]
    exact h0
theorem l_x_ch1 (hL0 : Lay M0) (hLk : L ≤ 100) (b : Nat) (hb : b ≤ 46) (v7 : Value) (j7 : jk v7)
    (hN : ∀ M' v6, gF s171 nT M0 M' → jk v6 → (∀ k, k < 48 → mL M' 171 k = zL (od L b k : Int)) → am_P am_P0 (d + 1) (am_look tX10_chanceOf) 139 [.ref 0, .int (nI s), .ref (173 + 13 * s), .int (nI L), .int (nI b), .int (nI b), v6, v7] [] M' Q) :
    ∀ (m t : Nat), t + m = b → ∀ (M : am_M) (v6 : Value), jk v6 → gF s171 nT M0 M → (∀ k, k < 48 → mL M 171 k = zL (od L t k : Int)) → am_P am_P0 (d + 1) (am_look tX10_chanceOf) 45 [.ref 0, .int (nI s), .ref (173 + 13 * s), .int (nI L), .int (nI b), .int (nI t), v6, v7] [] M Q := by
  intro m
  induction m with
  | zero =>
    intro t ht M v6 j6 hM hv
    have et : t = b := by omega
    subst et
    have hle : nI t ≤ nI t := (ni_le (by omega) (by omega)).mpr (by omega)
    have h0 := hN M v6 hM j6 hv
    rw [hX10_chanceOf_45]
    simp +decide only [qX10_chanceOf_0, qX10_chanceOf_1, qX10_chanceOf_2, jk_w j6, jk_w j7, am_w1_i, am_w1_r, am_w1_x, am_w1_l, am_w1_w, va_rf_s, am_push_n, am_push_s, am_cs_0, am_cs_i, am_cs_l, am_cs_r, m_uI_K, m_uI_N, m_uI_R, m_uI_L, m_uI_I, m_uL_K, m_uL_N, m_uL_R, m_uL_I, m_uL_L, m_uR_K, m_uR_N, m_uR_I, m_uR_L, m_uR_R, true_and, and_true, true_implies, false_implies, not_true_eq_false, not_false_eq_true, if_true, if_false, false_and, and_false] at h0 ⊢
    first | rw [br_p (hle)] | rw [br_r (hle)] | rw [br_s (hle)]
    exact h0
  | succ m ih =>
    intro t ht M v6 j6 hM hv
    have hlt : ¬ nI b ≤ nI t := by rw [ni_le (by omega) (by omega)]; omega
    have em := fun Q => c_minI d (nI (t + 1)) 47 M Q
    have h47 : ¬ (47 : Int32) < nI (t + 1) := by rw [show (47 : Int32) = nI 47 from rfl, ni_lt (by omega) (by omega)]; omega
    have h9 := l_x_ch2 (d + 1) L s M0 Q hL0 hLk b t hb (by omega) v7 j7 (fun M' v6' g' j6' v' => ih (t + 1) (by omega) M' v6' j6' g' v') (t + 1) (Nat.le_refl _) M hM (fun k hk => by
      rw [hv k hk]
      by_cases c : t + 1 < k
      · rw [if_pos c, od_0 t k (by omega), od_0 (t + 1) k (by omega)]
      · rw [if_neg c])
    rw [hX10_chanceOf_45]
    simp +decide only [qX10_chanceOf_0, qX10_chanceOf_1, qX10_chanceOf_2, em, h47, ni_add1, if_false, jk_w j6, jk_w j7, am_w1_i, am_w1_r, am_w1_x, am_w1_l, am_w1_w, va_rf_s, am_push_n, am_push_s, am_cs_0, am_cs_i, am_cs_l, am_cs_r, m_uI_K, m_uI_N, m_uI_R, m_uI_L, m_uI_I, m_uL_K, m_uL_N, m_uL_R, m_uL_I, m_uL_L, m_uR_K, m_uR_N, m_uR_I, m_uR_L, m_uR_R, true_and, and_true, true_implies, false_implies, not_true_eq_false, not_false_eq_true, if_true, if_false, false_and, and_false]
    first | rw [br_n (hlt)] | rw [br_q (hlt)] | rw [br_u (hlt)]
    exact h9
theorem l_x_ch3 (f : Nat → Nat) (hf : ∀ i, f i ≤ 1000000000000) (M : am_M) (hL : Lay M) (hv : ∀ k, k < 48 → mL M 171 k = zL (f k : Int)) (g : Nat) (hg : g ≤ 48) (v3 v4 : Value) (j3 : jk v3) (j4 : jk v4) (hQ : Q (some (.long (zL (csum f g (48 - g) : Int)))) M) :
    ∀ (m n : Nat), n + m = 48 - g → am_P am_P0 d (am_look tX10_chanceOf) 148 [.ref 0, .int (nI s), .ref (173 + 13 * s), v3, v4, .long (zL (csum f g n : Int)), am_x, .int (nI (g + n))] [] M Q := by
  intro m
  induction m with
  | zero =>
    intro n hn
    have hle : (48 : Int32) ≤ nI (g + n) := by rw [show (48 : Int32) = nI 48 from rfl]; exact (ni_le (by omega) (by omega)).mpr (by omega)
    rw [show 48 - g = n by omega] at hQ
    rw [hX10_chanceOf_148]
    simp +decide only [qX10_chanceOf_0, qX10_chanceOf_1, qX10_chanceOf_2, am_w1_i, am_w1_r, am_w1_x, am_w1_l, am_w1_w, va_rf_s, am_push_n, am_push_s, am_cs_0, am_cs_i, am_cs_l, am_cs_r, m_uI_K, m_uI_N, m_uI_R, m_uI_L, m_uI_I, m_uL_K, m_uL_N, m_uL_R, m_uL_I, m_uL_L, m_uR_K, m_uR_N, m_uR_I, m_uR_L, m_uR_R, true_and, and_true, true_implies, false_implies, not_true_eq_false, not_false_eq_true, if_true, if_false, false_and, and_false]
    first | rw [br_p (hle)] | rw [br_r (hle)] | rw [br_s (hle)]
    exact hQ
  | succ m ih =>
    intro n hn
    have hlt : ¬ (48 : Int32) ≤ nI (g + n) := by rw [show (48 : Int32) = nI 48 from rfl, ni_le (by omega) (by omega)]; omega
    have h0 := ih (n + 1) (by omega)
    have e : zL (csum f g n : Int) + zL (f (g + n) : Int) = zL (csum f g (n + 1) : Int) := by rw [zL_add]; congr 1
    rw [← e] at h0
    rw [hX10_chanceOf_148]
    simp +decide (disch := omega) only [qX10_chanceOf_0, qX10_chanceOf_1, qX10_chanceOf_2, lx hL, hv (g + n) (by omega), ni_in_t, ni_tn, ni_add1, jk_w j3, jk_w j4, am_w1_i, am_w1_r, am_w1_x, am_w1_l, am_w1_w, va_rf_s, am_push_n, am_push_s, am_cs_0, am_cs_i, am_cs_l, am_cs_r, m_uI_K, m_uI_N, m_uI_R, m_uI_L, m_uI_I, m_uL_K, m_uL_N, m_uL_R, m_uL_I, m_uL_L, m_uR_K, m_uR_N, m_uR_I, m_uR_L, m_uR_R, true_and, and_true, true_implies, false_implies, not_true_eq_false, not_false_eq_true, if_true, if_false, false_and, and_false]
    first | rw [br_n (hlt)] | rw [br_q (hlt)] | rw [br_u (hlt)]
    exact h0
end
theorem x_chanceOf {M : am_M} {z s : Nat} {D : Dat} (hD : dOK D) (h : XR M z D) (hs : s < dN D) (d : Nat) (Q : Option Value → am_M → Prop) (hQ : ∀ M', zF (sXq z) M M' → XR M' z D → mI M' (173 + 13 * s) 14 = nI (gpD D s 48) → Q (some (.long (zL (chN D s : Int)))) M') : am_E am_P0 (d + 7) 159 [.ref 0, .int (nI s)] M Q := by
  have hz := h.1.2.2.1
  have hL := h.1.1
  have n8 := dN_8 hD
  have hLk := hD.1.2.1
  have htr := ltr hL (show s < 8 by omega)
  have hst := lt_ hL (isTr_of (show s < 8 by omega))
  have hbt := betY_lt (Y := dY D s) (fun y hy => (hD.1.2.2.2.1 s y hy).1)
  have hgl : gpD D s 48 ≤ 48 := cnt_le _ _
  rw [eX10_chanceOf]
  simp +decide (disch := omega) only [qX10_chanceOf_0, qX10_chanceOf_1, qX10_chanceOf_2, lx hL, htr, hst, ni_in_t, ni_tn, am_w1_i, am_w1_r, am_w1_x, am_w1_l, am_w1_w, va_rf_s, am_push_n, am_push_s, am_cs_0, am_cs_i, am_cs_l, am_cs_r, m_uI_K, m_uI_N, m_uI_R, m_uI_L, m_uI_I, m_uL_K, m_uL_N, m_uL_R, m_uL_I, m_uL_L, m_uR_K, m_uR_N, m_uR_I, m_uR_L, m_uR_R, true_and, and_true, true_implies, false_implies, not_true_eq_false, not_false_eq_true, if_true, if_false, false_and, and_false]
  refine x_countGaps hD h hs d _ (fun M1 f1 X1 G1 => ?_)
  have L1 := X1.1.1
  have hr1 := X1.1.2.2.2.1
  have hst1 := lt_ L1 (isTr_of (show s < 8 by omega))
  have eb := fun Q => c_x_hoursBetweenEnds (d + 6) s (z + 25 + 7 * s) z (dV D s) (dWt D s) (dDp D) (dDr D s) (dLd D s) (dBs D s) (dY D s) M1 Q L1 (by omega) (isSh_z hz (by omega)) (hD.1.2.2.2.2.1 s) (X1.2.2.2.1 s hs).1
  have n171 : mN M1 171 = 48 := (ly_sh L1 171 rfl).2
  have k171 : mK M1 171 = 1 := (ly_sh L1 171 rfl).1
  have ef := fun Q => c_fillJ (d + 6) 171 0 M1 Q k171 (by rw [n171]; omega)
  rw [n171] at ef
  obtain ⟨A, hA⟩ : ∃ A, A = uL (uB M1 171 (fun j => if j < 48 then 0 else mL M1 171 j)) 171 0 1000000000000 := ⟨_, rfl⟩
  have gA : gF s171 nT M1 A := by rw [hA]; exact gF_trans (gF_B _ (fun _ => rfl)) (gF_l _ rfl)
  have LA := gF_LayN gA L1
  have LB : Lay (uB M1 171 (fun j => if j < 48 then 0 else mL M1 171 j)) := gF_LayN (gF_B (S := s171) (T := nT) _ (fun _ => rfl)) L1
  have vA : ∀ k, k < 48 → mL A 171 k = zL (od (dLk D) 0 k : Int) := fun k hk => by
    rw [hA, m_uL_L]
    by_cases e : k = 0
    · rw [if_pos ⟨rfl, e⟩, e]; rfl
    · rw [if_neg (by omega), uB_L, if_pos rfl, if_pos (by omega)]
      show (0 : Int64) = zL ((if k = 0 then 1000000000000 else 0 : Nat) : Int)
      rw [if_neg e]
      rfl
  have h9 := l_x_ch1 (d + 6) (dLk D) s M1 Q L1 hLk (betY (dY D s)) hbt am_x (Or.inl rfl) (fun M' v6 g' j6 v' => by
    have L' := gF_LayN g' L1
    have hst' := lt_ L' (isTr_of (show s < 8 by omega))
    have e14 : mI M' (173 + 13 * s) 14 = nI (gpD D s 48) := by rw [g'.1 _ _ (by unfold s171; omega)]; exact G1.2.2.2
    have zf := zF_g L1 X1.1.2.1 g' (fun a j s' q w => by unfold s171 at w; omega) (fun a j w => by unfold s171 at w; omega)
    have h0 := hQ M' (zF_trans f1 (zF_up zf (fun a j q => by unfold s171 at q; unfold sXq; omega))) (XR_k (s0 := 0) hD (by omega) X1 zf (fun a j q => by unfold s171 at q; omega)) e14
    have h8 := l_x_ch3 (d + 7) s Q (od (dLk D) (betY (dY D s))) (fun i => od_le hLk _ i) M' L' v' (gpD D s 48) hgl (.int (nI (dLk D))) (.int (nI (betY (dY D s)))) (Or.inr ⟨_, rfl⟩) (Or.inr ⟨_, rfl⟩) h0 (48 - gpD D s 48) 0 (by omega)
    simp +decide only [qX10_chanceOf_0, qX10_chanceOf_1, qX10_chanceOf_2, hst', e14, jk_w j6, am_w1_i, am_w1_r, am_w1_x, am_w1_l, am_w1_w, va_rf_s, am_push_n, am_push_s, am_cs_0, am_cs_i, am_cs_l, am_cs_r, m_uI_K, m_uI_N, m_uI_R, m_uI_L, m_uI_I, m_uL_K, m_uL_N, m_uL_R, m_uL_I, m_uL_L, m_uR_K, m_uR_N, m_uR_I, m_uR_L, m_uR_R, true_and, and_true, true_implies, false_implies, not_true_eq_false, not_false_eq_true, if_true, if_false, false_and, and_false]
    exact h8) (betY (dY D s)) 0 (by omega) A am_x (Or.inl rfl) gA vA
  simp +decide (disch := omega) only [qX10_chanceOf_0, qX10_chanceOf_1, qX10_chanceOf_2, lx L1, lz L1 hz, hr1, (x_n X1).2.2.2, eb, ef, lx LB, show (Int32.toInt 0).toNat = 0 from rfl, ← hA, hst1, am_w1_i, am_w1_r, am_w1_x, am_w1_l, am_w1_w, va_rf_s, am_push_n, am_push_s, am_cs_0, am_cs_i, am_cs_l, am_cs_r, m_uI_K, m_uI_N, m_uI_R, m_uI_L, m_uI_I, m_uL_K, m_uL_N, m_uL_R, m_uL_I, m_uL_L, m_uR_K, m_uR_N, m_uR_I, m_uR_L, m_uR_R, true_and, and_true, true_implies, false_implies, not_true_eq_false, not_false_eq_true, if_true, if_false, false_and, and_false]
  exact h9
noncomputable def aCha (v : Int32) (D : Dat) : Value := .long (if 0 ≤ v.toInt ∧ v.toInt < dN D then zL (chN D v.toInt.toNat : Int) else -1)
theorem x_chance (v : Int32) : XqO 135 [.int v] (aCha v) := by
  intro d M z D Q hD h hQ
  have hL := h.1.1
  have n8 := dN_8 hD
  have eS := fun v Q => x_isShip hD h (d + 19) v Q
  unfold aCha at hQ
  rw [eX10_chance]
  simp +decide only [qX10_chance, lx hL, eS, bI_0, Classical.not_not, am_w1_i, am_w1_r, am_w1_x, am_w1_l, am_w1_w, va_rf_s, am_push_n, am_push_s, am_cs_0, am_cs_i, am_cs_l, am_cs_r, m_uI_K, m_uI_N, m_uI_R, m_uI_L, m_uI_I, m_uL_K, m_uL_N, m_uL_R, m_uL_I, m_uL_L, m_uR_K, m_uR_N, m_uR_I, m_uR_L, m_uR_R, true_and, and_true, true_implies, false_implies, not_true_eq_false, not_false_eq_true, if_true, if_false, false_and, and_false]
  by_cases hv : 0 ≤ v.toInt ∧ v.toInt < dN D
  · first | rw [br_p (hv)] | rw [br_r (hv)] | rw [br_s (hv)]
    rw [if_pos hv] at hQ
    obtain ⟨s, s1, s2, s3⟩ := sh_of (by omega) hv
    rw [s3] at hQ
    rw [s2]
    refine x_chanceOf hD h s1 (d + 12) _ (fun M1 f1 X1 _ => ?_)
    have h0 := hQ M1 f1 X1
    simp +decide only [qX10_chance, am_w1_i, am_w1_r, am_w1_x, am_w1_l, am_w1_w, va_rf_s, am_push_n, am_push_s, am_cs_0, am_cs_i, am_cs_l, am_cs_r, m_uI_K, m_uI_N, m_uI_R, m_uI_L, m_uI_I, m_uL_K, m_uL_N, m_uL_R, m_uL_I, m_uL_L, m_uR_K, m_uR_N, m_uR_I, m_uR_L, m_uR_R, true_and, and_true, true_implies, false_implies, not_true_eq_false, not_false_eq_true, if_true, if_false, false_and, and_false]
    exact h0
  · have h0 := hQ M (XR_2 h) h
    rw [if_neg hv] at h0
    first | rw [br_n (hv)] | rw [br_q (hv)] | rw [br_u (hv)]
    exact h0
end
