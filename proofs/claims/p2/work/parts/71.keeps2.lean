/-! the model's keeps: the loops -/
theorem lgY_b (w : Nat → Prop) (v : Nat) (snd : Nat → Bool → Prop) (B : List Fct) (Y : List Sy) (hl : Y.length ≤ 48) (k : Nat) : lgY w v snd B Y k ≤ 48 := by
  have := lg_le (n := Y.length) (gd := gdF w v snd B Y) (go := goF w v Y) Y.length k (by omega)
  unfold lgY
  omega
theorem l_m_keeps1 (d s : Nat) (w : Nat → Prop) (v : Nat) (snd : Nat → Bool → Prop) (B : List Fct) (Y : List Sy) (M0 : am_M) (Q : Option Value → am_M → Prop) (hl : Y.length ≤ 48) (hL : Lay M0) (hP : PrM w v snd B Y M0 Y.length)
    (hQ : ∀ M' v4, oS sK M0 M' → (∀ a j, ¬ a = 326 → mI M' a j = mI M0 a j) → (∀ k, k < Y.length → mI M' 326 k = nI (lgY w v snd B Y k)) → am_P am_P0 d (am_look tX11_keeps) 197 [.ref 277, .int (nI s), .int (nI (mostY w v snd B Y)), .int (-1), v4] [] M' Q) :
    ∀ (i : Nat), i ≤ Y.length → ∀ (M : am_M) (v4 : Value), (v4 = am_x ∨ ∃ x, v4 = .int x) → oS sK M0 M → (∀ a j, ¬ a = 326 → mI M a j = mI M0 a j) → (∀ k, i ≤ k → k < Y.length → mI M 326 k = nI (lgY w v snd B Y k)) → am_P am_P0 d (am_look tX11_keeps) 59 [.ref 277, .int (nI s), .int (nI (mx1 (lgY w v snd B Y) (fun _ => true) i (Y.length - i))), .int (nI i - 1), v4] [] M Q := by
  have hfb := lgY_b w v snd B Y hl
  have hmb : ∀ a m, mx1 (lgY w v snd B Y) (fun _ => true) a m ≤ 48 := fun a m => by
    rcases mx1_at (f := lgY w v snd B Y) (g := fun _ => true) (a := a) (m := m) with e | ⟨j, -, -, -, e⟩
    · omega
    · rw [← e]; exact hfb j
  intro i
  induction i with
  | zero =>
    intro _ M v4 hv4 hM hk hm
    have h0 := hQ M v4 hM hk (fun k hk => hm k (by omega) hk)
    rw [hX11_keeps_59]
    have e : mx1 (lgY w v snd B Y) (fun _ => true) 0 (Y.length - 0) = mostY w v snd B Y := mx1_all _ _
    rw [e]
    have e1 : nI 0 - 1 = -1 := rfl
    rw [e1]
    simp +decide only [qX11_keeps_0, qX11_keeps_1, qX11_keeps_2, qX11_keeps_3, lm (oS_Lay hM hL), am_w1_i, am_w1_r, am_w1_x, am_w1_l, am_w1_w, va_rf_s, am_push_n, am_push_s, am_cs_0, am_cs_i, am_cs_l, am_cs_r, m_uI_K, m_uI_N, m_uI_R, m_uI_L, m_uI_I, m_uL_K, m_uL_N, m_uL_R, m_uL_I, m_uL_L, m_uR_K, m_uR_N, m_uR_I, m_uR_L, m_uR_R, true_and, and_true, true_implies, false_implies] at h0 ⊢
    exact h0
  | succ i ih =>
    intro hi M v4 hv4 hM hk hm
    have hLM := oS_Lay hM hL
    have hPM := PrM_S (M' := M) hP (hk _ _ (by omega)) (fun j => hk _ _ (by omega)) (fun j => hk _ _ (by omega)) (fun j => hk _ _ (by omega))
    have ei : nI (i + 1) - 1 = nI i := by rw [show (1 : Int32) = nI 1 from rfl, ni_sub (by omega)]; rfl
    have hn0 : ¬ nI i < 0 := by rw [show (0 : Int32) = nI 0 from rfl, ni_lt (by omega) (by omega)]; omega
    obtain ⟨y, hy⟩ : ∃ y, Y[i]? = some y := ⟨Y[i]'(by omega), List.getElem?_eq_getElem (by omega)⟩
    have r1 := hPM.2.1 i y (by omega) hy
    have hgd := gdF_y (w := w) (v := v) (snd := snd) (B := B) hy
    have hw4 : am_w1 v4 = v4 := by rcases hv4 with rfl | ⟨x, rfl⟩ <;> rfl
    have b1 := hfb i
    have b2 := hmb (i + 1) (Y.length - (i + 1))
    -- behind the inner loop
    have key : ∀ (M1 : am_M) (x4 : Int32), oS sK M0 M1 → (∀ a j, ¬ a = 326 → mI M1 a j = mI M0 a j) → (∀ k, i ≤ k → k < Y.length → mI M1 326 k = nI (lgY w v snd B Y k)) → am_P am_P0 d (am_look tX11_keeps) 170 [.ref 277, .int (nI s), .int (nI (mx1 (lgY w v snd B Y) (fun _ => true) (i + 1) (Y.length - (i + 1)))), .int (nI i), .int x4] [] M1 Q := by
      intro M1 x4 g1 k1 m1
      have hL1 := oS_Lay g1 hL
      have hm1 := m1 i (Nat.le_refl _) (by omega)
      have e0 : nI i + -1 = nI i - 1 := (Int32.sub_eq_add_neg _ _).symm
      have hstep : mx1 (lgY w v snd B Y) (fun _ => true) i (Y.length - i) = max (lgY w v snd B Y i) (mx1 (lgY w v snd B Y) (fun _ => true) (i + 1) (Y.length - (i + 1))) := by
        rw [show Y.length - i = (Y.length - (i + 1)) + 1 by omega, mx1_dn, if_pos rfl]
      have h0 := ih (by omega) M1 (.int x4) (Or.inr ⟨_, rfl⟩) g1 k1 m1
      simp +decide (disch := omega) only [qX11_keeps_0, qX11_keeps_1, qX11_keeps_2, qX11_keeps_3, lm hL1, hm1, e0, ni_in_t, ni_tn, am_w1_i, am_w1_r, am_w1_x, am_w1_l, am_w1_w, va_rf_s, am_push_n, am_push_s, am_cs_0, am_cs_i, am_cs_l, am_cs_r, m_uI_K, m_uI_N, m_uI_R, m_uI_L, m_uI_I, m_uL_K, m_uL_N, m_uL_R, m_uL_I, m_uL_L, m_uR_K, m_uR_N, m_uR_I, m_uR_L, m_uR_R, true_and, and_true]
      by_cases c : lgY w v snd B Y i ≤ mx1 (lgY w v snd B Y) (fun _ => true) (i + 1) (Y.length - (i + 1))
      · rw [br_p ((ni_le (by omega) (by omega)).mpr c)]
        rw [hstep, Nat.max_eq_right c] at h0
        exact h0
      · rw [br_n (fun q => c ((ni_le (by omega) (by omega)).mp q))]
        rw [hstep, Nat.max_eq_left (by omega)] at h0
        exact h0
    rw [hX11_keeps_59, ei]
    simp +decide (disch := omega) only [qX11_keeps_0, qX11_keeps_1, qX11_keeps_2, qX11_keeps_3, lm hLM, r1, ni_in_t, ni_tn, ni_add1, am_w1_i, am_w1_r, am_w1_x, am_w1_l, am_w1_w, va_rf_s, am_push_n, am_push_s, am_cs_0, am_cs_i, am_cs_l, am_cs_r, m_uI_K, m_uI_N, m_uI_R, m_uI_L, m_uI_I, m_uL_K, m_uL_N, m_uL_R, m_uL_I, m_uL_L, m_uR_K, m_uR_N, m_uR_I, m_uR_L, m_uR_R, true_and, and_true]
    rw [br_n hn0]
    by_cases c1 : goodY w v snd B y
    · have hgi := hgd.mpr c1
      rw [tI_t c1, br_n (by decide)]
      have g1 : oS sK M (uI M 326 i 1) := ⟨fun a k h => by rw [m_uI_I, if_neg (fun q => h (Or.inr (Or.inr (Or.inl q.1))))], fun _ _ => rfl, fun _ _ => rfl, rfl⟩
      have hP1 := PrM_S (M' := uI M 326 i 1) hPM (by rw [m_uI_I, if_neg (by omega)]) (fun j => by rw [m_uI_I, if_neg (by omega)]) (fun j => by rw [m_uI_I, if_neg (by omega)]) (fun j => by rw [m_uI_I, if_neg (by omega)])
      refine l_m_keeps2 d s w v snd B Y (uI M 326 i 1) Q i (by omega) hl _ (lgY w v snd B Y) rfl hgi (fun M' v4' a1 a2 a3 => ?_) (oS_Lay g1 hLM) hP1 (fun k k1 k2 => by rw [m_uI_I, if_neg (by omega)]; exact hm k (by omega) k2) (Y.length - (i + 1)) (i + 1) (by omega) (Nat.le_refl _) _ (oS_refl _ _) (fun _ _ _ => rfl) ?_
      · refine key M' v4' (oS_trans hM (oS_trans g1 a1)) (fun a j h => ?_) (fun k k1 k2 => ?_)
        · rw [a2 a j (fun q => h q.1), m_uI_I, if_neg (fun q => h q.1)]
          exact hk a j h
        · by_cases ek : k = i
          · subst ek; exact a3
          · rw [a2 _ _ (fun q => ek q.2), m_uI_I, if_neg (fun q => ek q.2)]
            exact hm k (by omega) k2
      · rw [m_uI_I, if_pos ⟨rfl, rfl⟩, Nat.sub_self]
        rfl
    · rw [tI_f c1, br_p rfl]
      have g1 : oS sK M (uI M 326 i 0) := ⟨fun a k h => by rw [m_uI_I, if_neg (fun q => h (Or.inr (Or.inr (Or.inl q.1))))], fun _ _ => rfl, fun _ _ => rfl, rfl⟩
      have hz0 : lgY w v snd B Y i = 0 := by unfold lgY; exact lg_0 (fun q => c1 (hgd.mp q))
      have h0 := key (uI M 326 i 0) (nI (i + 1)) (oS_trans hM g1) (fun a j h => by rw [m_uI_I, if_neg (fun q => h q.1)]; exact hk a j h) (fun k k1 k2 => by
        rw [m_uI_I]
        by_cases ek : k = i
        · subst ek; rw [if_pos ⟨rfl, rfl⟩, hz0]; rfl
        · rw [if_neg (fun q => ek q.2)]; exact hm k (by omega) k2)
      rw [hX11_keeps_88]
      have r1' : mI (uI M 326 i 0) 323 i = 0 := by rw [m_uI_I, if_neg (by omega), r1, tI_f c1]
      have hn' : mI (uI M 326 i 0) 277 65 = nI Y.length := by rw [m_uI_I, if_neg (by omega)]; exact hPM.1.1
      simp +decide (disch := omega) only [qX11_keeps_0, qX11_keeps_1, qX11_keeps_2, qX11_keeps_3, lm hLM, r1', hn', ni_in_t, ni_tn, am_w1_i, am_w1_r, am_w1_x, am_w1_l, am_w1_w, va_rf_s, am_push_n, am_push_s, am_cs_0, am_cs_i, am_cs_l, am_cs_r, m_uI_K, m_uI_N, m_uI_R, m_uI_L, m_uI_I, m_uL_K, m_uL_N, m_uL_R, m_uL_I, m_uL_L, m_uR_K, m_uR_N, m_uR_I, m_uR_L, m_uR_R, true_and, and_true, true_implies, false_implies] at h0 ⊢
      exact ⟨fun _ => h0, fun _ => h0⟩
