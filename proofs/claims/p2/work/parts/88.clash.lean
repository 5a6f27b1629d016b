/-! the class: what clashes -/
theorem fs_is {c : Nat → Bool} {n i : Nat} (h : ∀ k, k < i → c k = false) (hi : i < n) (hc : c i = true) : fs c n = i := by
  have h1 : fs c n < n := (fs_ex c n).mpr ⟨i, hi, hc⟩
  rcases Nat.lt_trichotomy (fs c n) i with q | q | q
  · have := fs_at c n h1
    rw [h _ q] at this
    cases this
  · exact q
  · have := fs_no c n i q
    rw [hc] at this
    cases this
theorem fs_all {c : Nat → Bool} {n : Nat} (h : ∀ k, k < n → c k = false) : fs c n = n := by
  have h1 := fs_le c n
  rcases Nat.lt_or_ge (fs c n) n with q | q
  · have := fs_at c n q
    rw [h _ q] at this
    cases this
  · omega
theorem fs_ext {c c' : Nat → Bool} {n : Nat} (h : ∀ k, k < n → c k = c' k) : fs c n = fs c' n := by
  rcases Nat.lt_or_ge (fs c n) n with q | q
  · exact (fs_is (fun k hk => by rw [← h k (by omega)]; exact fs_no c n k hk) q (by rw [← h _ q]; exact fs_at c n q)).symm
  · have e : fs c n = n := by have := fs_le c n; omega
    rw [e]
    exact (fs_all (fun k hk => by rw [← h k hk]; exact fs_no c n k (by omega))).symm
theorem fs_cut {c : Nat → Bool} {m n : Nat} (h : m ≤ n) : (fs c m < m → fs c n = fs c m) ∧ (fs c m = m → m ≤ fs c n) := by
  refine ⟨fun q => fs_is (fs_no c m) (by omega) (fs_at c m q), fun q => ?_⟩
  rcases Nat.lt_or_ge (fs c n) m with z | z
  · have h1 := fs_at c n (by omega)
    rw [fs_no c m _ (by omega)] at h1
    cases h1
  · exact z
/-- a place of n, or none -/
def oI (i n : Nat) : Int32 := if i < n then nI i else -1
section
variable (wt : Nat → Prop) (v : Nat) (snd : Nat → Bool → Prop) (B : List Fct) (Y : List Sy)
noncomputable def cl1 : Nat := fs (fun i => !gdF wt v snd B Y i) Y.length
noncomputable def cl3 (i : Nat) : Nat := fs (fun j => !goF wt v Y j i) i
noncomputable def cl2 (n : Nat) : Nat := fs (fun i => decide (cl3 wt v Y i < i)) n
end
theorem l_x_clash1 (d s g z v : Nat) (wt : Nat → Prop) (dep : Nat → Nat) (dr ld : Nat) (B : List Fct) (Y : List Sy) (M : am_M) (Q : Option Value → am_M → Prop) (hL : Lay M) (hs : s < 8) (hg : isSh g) (hT : TkX M s g z v wt dep dr ld B Y) (ha : ∀ k y, Y[k]? = some y → mI M (181 + 13 * s) k = tI (goodY wt v (sndP dep dr ld) B y)) :
    ∀ (m i : Nat), i + m = Y.length → (∀ k, k < i → (!gdF wt v (sndP dep dr ld) B Y k) = false) → (am_P am_P0 d (am_look tX8_clashAlone) 2 [.ref (173 + 13 * s), .int (nI i)] [] M Q ↔ Q (some (.int (oI (cl1 wt v (sndP dep dr ld) B Y) Y.length))) M) := by
  obtain ⟨w, hwe⟩ : ∃ w, w = 173 + 13 * s := ⟨_, rfl⟩
  have hw : isTr w := ⟨s, hs, hwe⟩
  have e8 : 181 + 13 * s = w + 8 := by omega
  have h48 := hT.2.2.2.2.1
  have hR := hT.2.1.1
  rw [← hwe] at hR ⊢
  intro m
  induction m with
  | zero =>
    intro i hi hn
    have e : i = Y.length := by omega
    subst e
    have hle : nI Y.length ≤ nI Y.length := (ni_le (by omega) (by omega)).mpr (Nat.le_refl _)
    have hf : cl1 wt v (sndP dep dr ld) B Y = Y.length := fs_all hn
    rw [hX8_clashAlone_2]
    simp +decide only [qX8_clashAlone, lt_ hL hw, lw_ hL hg, hR, hT.2.2.2.1, am_w1_i, am_w1_r, am_w1_x, am_w1_l, am_w1_w, va_rf_s, am_push_n, am_push_s, am_cs_0, am_cs_i, am_cs_l, am_cs_r, m_uI_K, m_uI_N, m_uI_R, m_uI_L, m_uI_I, m_uL_K, m_uL_N, m_uL_R, m_uL_I, m_uL_L, m_uR_K, m_uR_N, m_uR_I, m_uR_L, m_uR_R, true_and, and_true]
    rw [br_p hle, hf]
    unfold oI
    rw [if_neg (by omega)]
  | succ m ih =>
    intro i hi hn
    have hlt : ¬ nI Y.length ≤ nI i := by rw [ni_le (by omega) (by omega)]; omega
    obtain ⟨y, hy⟩ : ∃ y, Y[i]? = some y := ⟨Y[i]'(by omega), List.getElem?_eq_getElem (by omega)⟩
    have hgd := gdF_y (w := wt) (v := v) (snd := sndP dep dr ld) (B := B) hy
    have hai := ha i y hy
    rw [e8] at hai
    rw [hX8_clashAlone_2]
    simp +decide (disch := omega) only [qX8_clashAlone, lt_ hL hw, lw_ hL hg, hR, hT.2.2.2.1, hai, ni_in_t, ni_tn, ni_add1, am_w1_i, am_w1_r, am_w1_x, am_w1_l, am_w1_w, va_rf_s, am_push_n, am_push_s, am_cs_0, am_cs_i, am_cs_l, am_cs_r, m_uI_K, m_uI_N, m_uI_R, m_uI_L, m_uI_I, m_uL_K, m_uL_N, m_uL_R, m_uL_I, m_uL_L, m_uR_K, m_uR_N, m_uR_I, m_uR_L, m_uR_R, true_and, and_true]
    rw [br_n hlt]
    by_cases c : goodY wt v (sndP dep dr ld) B y
    · rw [tI_t c, br_p (by decide)]
      refine ih (i + 1) (by omega) (fun k hk => ?_)
      by_cases ek : k = i
      · subst ek; rw [hgd.mpr c]; rfl
      · exact hn k (by omega)
    · have hfi : gdF wt v (sndP dep dr ld) B Y i = false := by
        rw [← Bool.not_eq_true]; exact fun q => c (hgd.mp q)
      have hf : cl1 wt v (sndP dep dr ld) B Y = i := fs_is hn (by omega) (by rw [hfi]; rfl)
      rw [tI_f c, br_n (by decide), hf]
      unfold oI
      rw [if_pos (by omega)]
theorem c_x_clashAlone (d s g z v : Nat) (wt : Nat → Prop) (dep : Nat → Nat) (dr ld : Nat) (B : List Fct) (Y : List Sy) (M : am_M) (Q : Option Value → am_M → Prop) (hL : Lay M) (hs : s < 8) (hg : isSh g) (hT : TkX M s g z v wt dep dr ld B Y) (ha : ∀ k y, Y[k]? = some y → mI M (181 + 13 * s) k = tI (goodY wt v (sndP dep dr ld) B y)) :
    am_E am_P0 d 91 [.ref (173 + 13 * s)] M Q ↔ Q (some (.int (oI (cl1 wt v (sndP dep dr ld) B Y) Y.length))) M := by
  rw [eX8_clashAlone]
  simp +decide only [qX8_clashAlone, am_w1_i, am_w1_r, am_w1_x, am_w1_l, am_w1_w, va_rf_s, am_push_n, am_push_s, am_cs_0, am_cs_i, am_cs_l, am_cs_r, m_uI_K, m_uI_N, m_uI_R, m_uI_L, m_uI_I, m_uL_K, m_uL_N, m_uL_R, m_uL_I, m_uL_L, m_uR_K, m_uR_N, m_uR_I, m_uR_L, m_uR_R, true_and, and_true]
  rw [show (0 : Int32) = nI 0 from rfl]
  exact l_x_clash1 d s g z v wt dep dr ld B Y M Q hL hs hg hT ha Y.length 0 (by omega) (fun k hk => by omega)
theorem l_x_clash3 (d s g z v i n : Nat) (wt : Nat → Prop) (dep : Nat → Nat) (dr ld : Nat) (B : List Fct) (Y : List Sy) (M0 : am_M) (Q : Option Value → am_M → Prop) (x1 : Int32) (hs : s < 8) (hg : isSh g) (hz : z = 2 ∨ z = 83) (hn : n ≤ Y.length) (hi : i < n)
    (hY : ∀ M', rgF M0 M' → cl3 wt v Y i < i → Q (some (.int (nI (48 * i + cl3 wt v Y i)))) M')
    (hN : ∀ M' v4, rgF M0 M' → jk v4 → cl3 wt v Y i = i → am_P am_P0 (d + 4) (am_look tX8_clashOfTwo) 19 [.ref (173 + 13 * s), .int x1, .int (nI n), .int (nI (i + 1)), v4] [] M' Q) :
    ∀ (m j : Nat), j + m = i → ∀ (M : am_M), rgF M0 M → TkX M s g z v wt dep dr ld B Y → (∀ k, k < j → (!goF wt v Y k i) = false) → am_P am_P0 (d + 4) (am_look tX8_clashOfTwo) 27 [.ref (173 + 13 * s), .int x1, .int (nI n), .int (nI i), .int (nI j)] [] M Q := by
  obtain ⟨w, hwe⟩ : ∃ w, w = 173 + 13 * s := ⟨_, rfl⟩
  have hw : isTr w := ⟨s, hs, hwe⟩
  intro m
  induction m with
  | zero =>
    intro j hj M hM hT hno
    have h48 := hT.2.2.2.2.1
    have e : j = i := by omega
    subst e
    have hle : nI j ≤ nI j := (ni_le (by omega) (by omega)).mpr (Nat.le_refl _)
    have h0 := hN M (.int (nI j)) hM (Or.inr ⟨_, rfl⟩) (fs_all hno)
    rw [hX8_clashOfTwo_27]
    simp +decide only [qX8_clashOfTwo, ni_add1, am_w1_i, am_w1_r, am_w1_x, am_w1_l, am_w1_w, va_rf_s, am_push_n, am_push_s, am_cs_0, am_cs_i, am_cs_l, am_cs_r, m_uI_K, m_uI_N, m_uI_R, m_uI_L, m_uI_I, m_uL_K, m_uL_N, m_uL_R, m_uL_I, m_uL_L, m_uR_K, m_uR_N, m_uR_I, m_uR_L, m_uR_R, true_and, and_true]
    rw [br_p hle]
    exact h0
  | succ m ih =>
    intro j hj M hM hT hno
    have h48 := hT.2.2.2.2.1
    have hlt : ¬ nI i ≤ nI j := by rw [ni_le (by omega) (by omega)]; omega
    obtain ⟨y, hy⟩ : ∃ y, Y[j]? = some y := ⟨Y[j]'(by omega), List.getElem?_eq_getElem (by omega)⟩
    obtain ⟨y', hy'⟩ : ∃ y, Y[i]? = some y := ⟨Y[i]'(by omega), List.getElem?_eq_getElem (by omega)⟩
    have hgo := goF_y (w := wt) (v := v) hy hy'
    rw [hX8_clashOfTwo_27]
    simp +decide only [qX8_clashOfTwo, lt_ hM.1 (isTr_of hs), am_w1_i, am_w1_r, am_w1_x, am_w1_l, am_w1_w, va_rf_s, am_push_n, am_push_s, am_cs_0, am_cs_i, am_cs_l, am_cs_r, m_uI_K, m_uI_N, m_uI_R, m_uI_L, m_uI_I, m_uL_K, m_uL_N, m_uL_R, m_uL_I, m_uL_L, m_uR_K, m_uR_N, m_uR_I, m_uR_L, m_uR_R, true_and, and_true]
    rw [br_n hlt]
    refine c_x_goTogether d s g z v j i wt dep dr ld B Y y y' M _ hM.1 hM.2.1 hs hg hT hy hy' (fun M1 g1 => ?_)
    have hT1 := TkX_z hs hg hz hT (zF_r g1 : zF (fun _ _ => False) M M1) (fun _ _ _ q => q)
    have e48 : nI i * 48 + nI j = nI (48 * i + j) := by rw [show (48 : Int32) = nI 48 from rfl, ni_mul, ni_add, Nat.mul_comm]
    simp +decide only [qX8_clashOfTwo, e48, ni_add1, am_w1_i, am_w1_r, am_w1_x, am_w1_l, am_w1_w, va_rf_s, am_push_n, am_push_s, am_cs_0, am_cs_i, am_cs_l, am_cs_r, m_uI_K, m_uI_N, m_uI_R, m_uI_L, m_uI_I, m_uL_K, m_uL_N, m_uL_R, m_uL_I, m_uL_L, m_uR_K, m_uR_N, m_uR_I, m_uR_L, m_uR_R, true_and, and_true]
    by_cases c : gowY wt v y y'
    · rw [tI_t c, br_p (by decide)]
      refine ih (j + 1) (by omega) M1 (rgF_trans hM g1) hT1 (fun k hk => ?_)
      by_cases ek : k = j
      · subst ek; rw [hgo.mpr c]; rfl
      · exact hno k (by omega)
    · have hfi : goF wt v Y j i = false := by rw [← Bool.not_eq_true]; exact fun q => c (hgo.mp q)
      have hf : cl3 wt v Y i = j := fs_is hno (by omega) (by rw [hfi]; rfl)
      have h0 := hY M1 (rgF_trans hM g1) (by omega)
      rw [hf] at h0
      rw [tI_f c, br_n (by decide)]
      exact h0
theorem l_x_clash2 (d s g z v n : Nat) (wt : Nat → Prop) (dep : Nat → Nat) (dr ld : Nat) (B : List Fct) (Y : List Sy) (M0 : am_M) (Q : Option Value → am_M → Prop) (x1 : Int32) (hs : s < 8) (hg : isSh g) (hz : z = 2 ∨ z = 83) (hn : n ≤ Y.length)
    (hQ : ∀ M', rgF M0 M' → Q (some (.int (if cl2 wt v Y n < n then nI (48 * cl2 wt v Y n + cl3 wt v Y (cl2 wt v Y n)) else -1))) M') :
    ∀ (m i : Nat), i + m = max n 1 → 1 ≤ i → ∀ (M : am_M) (v4 : Value), jk v4 → rgF M0 M → TkX M s g z v wt dep dr ld B Y → (∀ k, k < i → decide (cl3 wt v Y k < k) = false) → am_P am_P0 (d + 4) (am_look tX8_clashOfTwo) 19 [.ref (173 + 13 * s), .int x1, .int (nI n), .int (nI i), v4] [] M Q := by
  intro m
  induction m with
  | zero =>
    intro i hi h1 M v4 j4 hM hT hno
    have h48 := hT.2.2.2.2.1
    have hle : nI n ≤ nI i := (ni_le (by omega) (by omega)).mpr (by omega)
    have hf : cl2 wt v Y n = n := fs_all (fun k hk => hno k (by omega))
    have h0 := hQ M hM
    rw [hf, if_neg (by omega)] at h0
    rw [hX8_clashOfTwo_19]
    simp +decide only [qX8_clashOfTwo, am_w1_i, am_w1_r, am_w1_x, am_w1_l, am_w1_w, va_rf_s, am_push_n, am_push_s, am_cs_0, am_cs_i, am_cs_l, am_cs_r, m_uI_K, m_uI_N, m_uI_R, m_uI_L, m_uI_I, m_uL_K, m_uL_N, m_uL_R, m_uL_I, m_uL_L, m_uR_K, m_uR_N, m_uR_I, m_uR_L, m_uR_R, true_and, and_true]
    rw [br_p hle]
    exact h0
  | succ m ih =>
    intro i hi h1 M v4 j4 hM hT hno
    have h48 := hT.2.2.2.2.1
    have hin : i < n := by omega
    have hlt : ¬ nI n ≤ nI i := by rw [ni_le (by omega) (by omega)]; omega
    rw [hX8_clashOfTwo_19]
    simp +decide only [qX8_clashOfTwo, am_w1_i, am_w1_r, am_w1_x, am_w1_l, am_w1_w, va_rf_s, am_push_n, am_push_s, am_cs_0, am_cs_i, am_cs_l, am_cs_r, m_uI_K, m_uI_N, m_uI_R, m_uI_L, m_uI_I, m_uL_K, m_uL_N, m_uL_R, m_uL_I, m_uL_L, m_uR_K, m_uR_N, m_uR_I, m_uR_L, m_uR_R, true_and, and_true]
    rw [br_n hlt, show (0 : Int32) = nI 0 from rfl]
    refine l_x_clash3 d s g z v i n wt dep dr ld B Y M Q x1 hs hg hz hn hin (fun M1 g1 hc => ?_) (fun M1 v4' g1 j4' hc => ?_) i 0 (by omega) M (rgF_refl hM.1 hM.2.1) hT (fun k hk => by omega)
    · have hf : cl2 wt v Y n = i := fs_is hno hin (decide_eq_true hc)
      have h0 := hQ M1 (rgF_trans hM g1)
      rw [hf, if_pos hin] at h0
      exact h0
    · refine ih (i + 1) (by omega) (by omega) M1 v4' j4' (rgF_trans hM g1) (TkX_z hs hg hz hT (zF_r g1 : zF (fun _ _ => False) M M1) (fun _ _ _ q => q)) (fun k hk => ?_)
      by_cases ek : k = i
      · subst ek; exact decide_eq_false (by omega)
      · exact hno k (by omega)
theorem c_x_clashOfTwo (d s g z v n : Nat) (wt : Nat → Prop) (dep : Nat → Nat) (dr ld : Nat) (B : List Fct) (Y : List Sy) (M : am_M) (Q : Option Value → am_M → Prop) (hL : Lay M) (hI : RInv M) (hs : s < 8) (hg : isSh g) (hz : z = 2 ∨ z = 83) (hn : n ≤ Y.length) (hT : TkX M s g z v wt dep dr ld B Y)
    (hQ : ∀ M', rgF M M' → Q (some (.int (if cl2 wt v Y n < n then nI (48 * cl2 wt v Y n + cl3 wt v Y (cl2 wt v Y n)) else -1))) M') : am_E am_P0 (d + 4) 92 [.ref (173 + 13 * s), .int (oI n Y.length)] M Q := by
  have h48 := hT.2.2.2.2.1
  have hR := hT.2.1.1
  obtain ⟨w, hwe⟩ : ∃ w, w = 173 + 13 * s := ⟨_, rfl⟩
  have hw : isTr w := ⟨s, hs, hwe⟩
  have h0 := fun x1 => l_x_clash2 d s g z v n wt dep dr ld B Y M Q x1 hs hg hz hn hQ (max n 1 - 1) 1 (by omega) (Nat.le_refl _) M am_x (Or.inl rfl) (rgF_refl hL hI) hT (fun k hk => by
    have e : k = 0 := by omega
    subst e
    exact decide_eq_false (by omega))
  rw [← hwe] at hR h0 ⊢
  rw [eX8_clashOfTwo]
  unfold oI
  by_cases c : n < Y.length
  · have h1 := h0 (nI n)
    rw [if_pos c]
    simp +decide only [qX8_clashOfTwo, lt_ hL hw, lw_ hL hg, hR, hT.2.2.2.1, am_w1_i, am_w1_r, am_w1_x, am_w1_l, am_w1_w, va_rf_s, am_push_n, am_push_s, am_cs_0, am_cs_i, am_cs_l, am_cs_r, m_uI_K, m_uI_N, m_uI_R, m_uI_L, m_uI_I, m_uL_K, m_uL_N, m_uL_R, m_uL_I, m_uL_L, m_uR_K, m_uR_N, m_uR_I, m_uR_L, m_uR_R, true_and, and_true]
    rw [br_q (nI_m1 (by omega))]
    exact h1
  · have h1 := h0 (-1)
    have e : n = Y.length := by omega
    rw [e] at h1
    rw [if_neg c]
    simp +decide only [qX8_clashOfTwo, lt_ hL hw, lw_ hL hg, hR, hT.2.2.2.1, am_w1_i, am_w1_r, am_w1_x, am_w1_l, am_w1_w, va_rf_s, am_push_n, am_push_s, am_cs_0, am_cs_i, am_cs_l, am_cs_r, m_uI_K, m_uI_N, m_uI_R, m_uI_L, m_uI_I, m_uL_K, m_uL_N, m_uL_R, m_uL_I, m_uL_L, m_uR_K, m_uR_N, m_uR_I, m_uR_L, m_uR_R, true_and, and_true, not_true_eq_false, not_false_eq_true, true_implies, false_implies]
    exact h1
