/-! the class: the longest chains -/
theorem c_max (d : Nat) (a b : Nat) (M : am_M) (Q : Option Value → am_M → Prop) (ha : a < 2147483648) (hb : b < 2147483648) : am_E am_P0 d 307 [.int (nI a), .int (nI b)] M Q ↔ Q (some (.int (nI (max a b)))) M := by
  rw [eJ9_max_7cf53]
  simp +decide only [qJ9_max_7cf53, am_w1_i, am_w1_r, am_w1_x, am_w1_l, am_w1_w, va_rf_s, am_push_n, am_push_s, am_cs_0, am_cs_i, am_cs_l, am_cs_r, m_uI_K, m_uI_N, m_uI_R, m_uI_L, m_uI_I, m_uL_K, m_uL_N, m_uL_R, m_uL_I, m_uL_L, m_uR_K, m_uR_N, m_uR_I, m_uR_L, m_uR_R, true_and, and_true]
  by_cases c : a < b
  · rw [br_p ((ni_lt ha hb).mpr c), Nat.max_eq_right (by omega)]
  · rw [br_n (fun z => c ((ni_lt ha hb).mp z)), Nat.max_eq_left (by omega)]
/-- one int is changed and nothing else -/
def onI (M M' : am_M) (a i : Nat) : Prop := (∀ b j, ¬ (b = a ∧ j = i) → mI M' b j = mI M b j) ∧ (∀ b j, mL M' b j = mL M b j) ∧ (∀ b j, mR M' b j = mR M b j) ∧ mS M' = mS M
theorem onI_refl (M : am_M) (a i : Nat) : onI M M a i := ⟨fun _ _ _ => rfl, fun _ _ => rfl, fun _ _ => rfl, rfl⟩
theorem onI_trans {M M' M'' : am_M} {a i : Nat} (h1 : onI M M' a i) (h2 : onI M' M'' a i) : onI M M'' a i := ⟨fun b j q => (h2.1 b j q).trans (h1.1 b j q), fun b j => (h2.2.1 b j).trans (h1.2.1 b j), fun b j => (h2.2.2.1 b j).trans (h1.2.2.1 b j), h2.2.2.2.trans h1.2.2.2⟩
theorem onI_u (M : am_M) (a i : Nat) (x : Int32) : onI M (uI M a i x) a i := ⟨fun b j q => by rw [m_uI_I, if_neg q], fun _ _ => rfl, fun _ _ => rfl, rfl⟩
theorem onI_Lay {M M' : am_M} {a i : Nat} (h : onI M M' a i) (hL : Lay M) : Lay M' := Lay_S hL h.2.2.2 h.2.2.1
theorem onI_z {S : Nat → Nat → Prop} {M M' : am_M} {a i : Nat} (h : onI M M' a i) (hL : Lay M) (hI : RInv M) (hS : S a i) (h1 : ∀ s', s' < 8 → ¬ a = 174 + 13 * s' ∧ ¬ a = 177 + 13 * s') : zF S M M' :=
  ⟨onI_Lay h hL, RInv_S hI h.2.2.1 h.2.2.2, by unfold mC; rw [h.2.2.2]; exact Nat.le_refl _, fun b j _ _ q => h.1 b j (fun z => q (by rw [z.1, z.2]; exact hS)), fun b j _ _ => h.2.1 b j, fun b j _ _ => h.2.2.1 b j, fun s' v wt hs' hT => TrW_S hT (fun k => h.1 _ _ (fun z => (h1 s' hs').1 z.1.symm)) (fun k => h.1 _ _ (fun z => (h1 s' hs').2 z.1.symm)) h.2.1 h.2.2.1⟩
theorem srtY_lt {Y : List Sy} (h : srtY Y) {i j : Nat} {y y' : Sy} (hy : Y[i]? = some y) (hy' : Y[j]? = some y') (hij : i < j) : y.1 < y'.1 := by
  obtain ⟨h1, e1⟩ := List.getElem?_eq_some_iff.mp hy
  obtain ⟨h2, e2⟩ := List.getElem?_eq_some_iff.mp hy'
  rw [← e1, ← e2]
  exact List.pairwise_iff_getElem.mp h i j h1 h2 hij
theorem l_x_chain2 (d s g z v i r : Nat) (wt : Nat → Prop) (dep : Nat → Nat) (dr ld : Nat) (B : List Fct) (Y : List Sy) (y : Sy) (M0 : am_M) (Q : Option Value → am_M → Prop) (x1 : Int32) (f : Nat → Nat) (hfb : ∀ k, f k ≤ 48) (hs : s < 8) (hg : isSh g) (hz : z = 2 ∨ z = 83) (hy : Y[i]? = some y) (hsr : srtY Y) (hL : Lay M0) (hI : RInv M0) (hr : 336 ≤ r ∧ r < mC M0) (hT : TkX M0 s g z v wt dep dr ld B Y)
    (hring : ∀ t, t < 48 → isB wt y.2.1 (t * v) (rw4 M0 r t)) (hlg : ∀ k, i < k → k < Y.length → mI M0 (184 + 13 * s) k = nI (f k))
    (hQ : ∀ M' v5, jk v5 → onI M0 M' (184 + 13 * s) i → mI M' (184 + 13 * s) i = nI (mx1 f (goF wt v Y i) (i + 1) (Y.length - (i + 1))) → am_P am_P0 (d + 3) (am_look tX8_countChains) 167 [.ref (173 + 13 * s), .int x1, .int (nI i), .ref r, .int (nI Y.length), v5] [] M' Q) :
    ∀ (m j : Nat), j + m = Y.length → i + 1 ≤ j → ∀ (M : am_M) (v5 : Value), jk v5 → onI M0 M (184 + 13 * s) i → mI M (184 + 13 * s) i = nI (mx1 f (goF wt v Y i) (i + 1) (j - (i + 1))) → am_P am_P0 (d + 3) (am_look tX8_countChains) 57 [.ref (173 + 13 * s), .int x1, .int (nI i), .ref r, .int (nI j), v5] [] M Q := by
  obtain ⟨w, hwe⟩ : ∃ w, w = 173 + 13 * s := ⟨_, rfl⟩
  have hw : isTr w := ⟨s, hs, hwe⟩
  have hgl := isSh_lt hg
  have e11 : 184 + 13 * s = w + 11 := by omega
  have hil := (List.getElem?_eq_some_iff.mp hy).1
  have h48 := hT.2.2.2.2.1
  have hmb : ∀ m, mx1 f (goF wt v Y i) (i + 1) m ≤ 48 := fun m => by
    rcases mx1_at (f := f) (g := goF wt v Y i) (a := i + 1) (m := m) with e | ⟨j, -, -, -, e⟩
    · omega
    · rw [← e]; exact hfb j
  have nS : ∀ a j, a < 164 → ¬ (fun a (_ : Nat) => a = 184 + 13 * s) a j := fun a j ha q => by have q' : a = 184 + 13 * s := q; omega
  have hrk := lay_ring hL hr.1 hr.2
  rw [e11] at hlg hQ ⊢
  intro m
  induction m with
  | zero =>
    intro j hj hij M v5 j5 hM hm
    have e : j = Y.length := by omega
    subst e
    have hLM := onI_Lay hM hL
    have hz1 : zF (fun a _ => a = 184 + 13 * s) M0 M := onI_z hM hL hI e11.symm (fun s' hs' => by omega)
    have hTM := TkX_z hs hg hz hT hz1 nS
    have hR := hTM.2.1.1
    have hle : nI Y.length ≤ nI Y.length := (ni_le (by omega) (by omega)).mpr (Nat.le_refl _)
    have h0 := hQ M v5 j5 hM hm
    rw [← hwe] at hR h0 ⊢
    rw [hX8_countChains_57]
    simp +decide (disch := omega) only [qX8_countChains_0, qX8_countChains_1, qX8_countChains_2, lt_ hLM hw, lw_ hLM hg, hR, hTM.2.2.2.1, hm, ni_in_t, ni_tn, am_w1_i, am_w1_r, am_w1_x, am_w1_l, am_w1_w, va_rf_s, am_push_n, am_push_s, am_cs_0, am_cs_i, am_cs_l, am_cs_r, m_uI_K, m_uI_N, m_uI_R, m_uI_L, m_uI_I, m_uL_K, m_uL_N, m_uL_R, m_uL_I, m_uL_L, m_uR_K, m_uR_N, m_uR_I, m_uR_L, m_uR_R, true_and, and_true] at h0 ⊢
    rw [br_p hle]
    exact h0
  | succ m ih =>
    intro j hj hij M v5 j5 hM hm
    have hLM := onI_Lay hM hL
    have hz1 : zF (fun a _ => a = 184 + 13 * s) M0 M := onI_z hM hL hI e11.symm (fun s' hs' => by omega)
    have hTM := TkX_z hs hg hz hT hz1 nS
    have hR := hTM.2.1.1
    have hlt : ¬ nI Y.length ≤ nI j := by rw [ni_le (by omega) (by omega)]; omega
    obtain ⟨z', hz'⟩ : ∃ z', Y[j]? = some z' := ⟨Y[j]'(by omega), List.getElem?_eq_getElem (by omega)⟩
    obtain ⟨⟨y1, y2⟩, y3, y4, y5⟩ := hTM.2.2.2.2.2 i y hy
    obtain ⟨⟨z1, z2⟩, z3, z4, z5⟩ := hTM.2.2.2.2.2 j z' hz'
    have hts := srtY_lt hsr hy hz' (by omega)
    have hq6 : z'.2.1 % 64 < 64 := Nat.mod_lt _ (by decide)
    have rj : mI M (w + 11) j = nI (f j) := by rw [hM.1 _ _ (by omega)]; exact hlg j (by omega) (by omega)
    have hrK : mK M r = 1 := by unfold mK; rw [hM.2.2.2]; exact hrk.1
    have hrN : mN M r = 192 := by unfold mN; rw [hM.2.2.2]; exact hrk.2
    have eat : (nI z'.1 - nI y.1) * 4 + nI (z'.2.1 / 64) = nI (4 * (z'.1 - y.1) + z'.2.1 / 64) := by
      rw [ni_sub (by omega), show (4 : Int32) = nI 4 from rfl, ni_mul, ni_add, Nat.mul_comm]
    have hgo := goF_y (w := wt) (v := v) hy hz'
    have hbit : sbit (mL M r (4 * (z'.1 - y.1) + z'.2.1 / 64)) (z'.2.1 % 64) = true ↔ gowY wt v y z' := by
      rw [hM.2.1]
      have hb := hring (z'.1 - y.1) (by omega) z'.2.1
      unfold gowY wit hd_
      rw [if_pos hts]
      rw [← hb]
      exact ⟨fun q => ⟨z2, q⟩, fun q => q.2⟩
    have hstep : mx1 f (goF wt v Y i) (i + 1) (j + 1 - (i + 1)) = max (mx1 f (goF wt v Y i) (i + 1) (j - (i + 1))) (if goF wt v Y i j = true then f j else 0) := by
      rw [show j + 1 - (i + 1) = (j - (i + 1)) + 1 by omega]
      show max _ _ = _
      rw [show i + 1 + (j - (i + 1)) = j by omega]
    have b1 := hfb j
    have b2 := hmb (j - (i + 1))
    have skip : mx1 f (goF wt v Y i) (i + 1) (j + 1 - (i + 1)) = mx1 f (goF wt v Y i) (i + 1) (j - (i + 1)) → ∀ v5', jk v5' → am_P am_P0 (d + 3) (am_look tX8_countChains) 57 [.ref w, .int x1, .int (nI i), .ref r, .int (nI (j + 1)), v5'] [] M Q := fun hsk v5' hj5 => by
      have h0 := ih (j + 1) (by omega) (by omega) M v5' hj5 hM (by rw [hm, hsk])
      rw [← hwe] at h0
      exact h0
    rw [← hwe] at hR ⊢
    rw [hX8_countChains_57]
    simp +decide (disch := omega) only [qX8_countChains_0, qX8_countChains_1, qX8_countChains_2, lt_ hLM hw, lw_ hLM hg, hR, hTM.2.2.2.1, hm, rj, y3, z3, z4, hrK, hrN, sr6 z'.2.1 z2, an63 z'.2.1 z2, eat, lgc_0, bt_test _ hq6, ni_in_t, ni_tn, ni_add1, am_w1_i, am_w1_r, am_w1_x, am_w1_l, am_w1_w, va_rf_s, am_push_n, am_push_s, am_cs_0, am_cs_i, am_cs_l, am_cs_r, m_uI_K, m_uI_N, m_uI_R, m_uI_L, m_uI_I, m_uL_K, m_uL_N, m_uL_R, m_uL_I, m_uL_L, m_uR_K, m_uR_N, m_uR_I, m_uR_L, m_uR_R, true_and, and_true]
    rw [br_n hlt]
    by_cases c1 : f j ≤ mx1 f (goF wt v Y i) (i + 1) (j - (i + 1))
    · rw [br_p ((ni_le (by omega) (by omega)).mpr c1)]
      refine skip ?_ _ (Or.inr ⟨_, rfl⟩)
      rw [hstep]
      split
      · rw [Nat.max_eq_left c1]
      · rw [Nat.max_zero]
    · rw [br_n (fun q => c1 ((ni_le (by omega) (by omega)).mp q))]
      by_cases c2 : sbit (mL M r (4 * (z'.1 - y.1) + z'.2.1 / 64)) (z'.2.1 % 64) = true
      · rw [br_r c2]
        rw [if_pos (hgo.mpr (hbit.mp c2))] at hstep
        have h0 := ih (j + 1) (by omega) (by omega) (uI M (w + 11) i (nI (f j))) (.int (nI (4 * (z'.1 - y.1) + z'.2.1 / 64))) (Or.inr ⟨_, rfl⟩) (onI_trans hM (onI_u M (w + 11) i _)) (by rw [m_uI_I, if_pos ⟨rfl, rfl⟩, hstep, Nat.max_eq_right (by omega)])
        rw [← hwe] at h0
        exact h0
      · rw [br_q c2]
        rw [if_neg (fun q => c2 (hbit.mpr (hgo.mp q))), Nat.max_zero] at hstep
        exact skip hstep _ (Or.inr ⟨_, rfl⟩)
