/-! chance, beyond -/
def od (L : Nat) : Nat → Nat → Nat
  | 0, j => if j = 0 then 1000000000000 else 0
  | t + 1, j => (od L t j * (100 - L) + (if j = 0 then 0 else od L t (j - 1) * L)) / 100
theorem od_le {L : Nat} (hL : L ≤ 100) : ∀ t j, od L t j ≤ 1000000000000 := by
  intro t
  induction t with
  | zero => intro j; show (if j = 0 then 1000000000000 else 0) ≤ _; split <;> omega
  | succ t ih =>
    intro j
    show (od L t j * (100 - L) + (if j = 0 then 0 else od L t (j - 1) * L)) / 100 ≤ _
    have h1 := Nat.mul_le_mul_right (100 - L) (ih j)
    have h2 := Nat.mul_le_mul_right L (ih (j - 1))
    have h3 : (if j = 0 then 0 else od L t (j - 1) * L) ≤ 1000000000000 * L := by split <;> omega
    have h4 : 1000000000000 * (100 - L) + 1000000000000 * L = 1000000000000 * 100 := by rw [← Nat.mul_add]; congr 1; omega
    omega
theorem od_0 {L : Nat} : ∀ t j, t < j → od L t j = 0 := by
  intro t
  induction t with
  | zero => intro j hj; show (if j = 0 then 1000000000000 else 0) = 0; rw [if_neg (by omega)]
  | succ t ih =>
    intro j hj
    show (od L t j * (100 - L) + (if j = 0 then 0 else od L t (j - 1) * L)) / 100 = 0
    rw [ih j (by omega), if_neg (by omega), ih (j - 1) (by omega)]
    simp
theorem nI_L (k : Nat) (h : k < 2147483648) : (nI k).toInt64 = zL (k : Int) := by
  rw [← zI_n, zIL (by omega) (by omega)]
theorem zL_nd {a b : Nat} (h1 : a ≤ 1000000000000000) (h2 : b ≤ 1000000000000000) : zL (a : Int) / zL (b : Int) = zL ((a / b : Nat) : Int) := by
  rw [zL_div (by unfold sm_; omega) (by unfold sm_; omega)]
  congr 1
theorem od_step {L x y : Nat} (hL : L ≤ 100) (hx : x ≤ 1000000000000) (hy : y ≤ 1000000000000) : (zL (x : Int) * ((100 : Int32) - nI L).toInt64 + zL (y : Int) * (nI L).toInt64) / 100 = zL (((x * (100 - L) + y * L) / 100 : Nat) : Int) := by
  have h1 := Nat.mul_le_mul_right (100 - L) hx
  have h2 := Nat.mul_le_mul_right L hy
  have h4 : 1000000000000 * (100 - L) + 1000000000000 * L = 1000000000000 * 100 := by rw [← Nat.mul_add]; congr 1; omega
  rw [show (100 : Int32) = nI 100 from rfl, ni_sub (by omega), nI_L _ (by omega), nI_L _ (by omega), zL_mul, zL_mul, zL_add, show (100 : Int64) = zL ((100 : Nat) : Int) from rfl, ← zL_nd (by omega) (by omega)]
  congr 2
theorem od_step0 {L x : Nat} (hL : L ≤ 100) (hx : x ≤ 1000000000000) : zL (x : Int) * ((100 : Int32) - nI L).toInt64 / 100 = zL (((x * (100 - L) + 0) / 100 : Nat) : Int) := by
  have h := od_step hL hx (y := 0) (by omega)
  have e : zL ((0 : Nat) : Int) * (nI L).toInt64 = 0 := by rw [nI_L _ (by omega), zL_mul]; simp; rfl
  have e2 : ∀ x : Int64, x + 0 = x := fun x => by simp
  rw [e, e2, Nat.zero_mul] at h
  exact h
theorem od_t (L t j : Nat) : od L (t + 1) j = (od L t j * (100 - L) + (if j = 0 then 0 else od L t (j - 1) * L)) / 100 := rfl
def csum (f : Nat → Nat) (g : Nat) : Nat → Nat
  | 0 => 0
  | n + 1 => csum f g n + f (g + n)
theorem csum_le {f : Nat → Nat} {g c : Nat} (h : ∀ i, f i ≤ c) : ∀ n, csum f g n ≤ n * c := by
  intro n
  induction n with
  | zero => exact Nat.zero_le _
  | succ n ih =>
    show csum f g n + f (g + n) ≤ (n + 1) * c
    have := h (g + n)
    rw [Nat.add_mul]
    omega
noncomputable def chN (D : Dat) (s : Nat) : Nat := csum (od (dLk D) (betY (dY D s))) (gpD D s 48) (48 - gpD D s 48)
theorem chN_le {D : Dat} (hD : dOK D) (s : Nat) : chN D s ≤ 48000000000000 := by
  have := csum_le (f := od (dLk D) (betY (dY D s))) (g := gpD D s 48) (fun i => od_le hD.1.2.1 _ i) (48 - gpD D s 48)
  unfold chN
  omega
def s171 (a _j : Nat) : Prop := a = 171
section
variable (d L s : Nat) (M0 : am_M) (Q : Option Value → am_M → Prop)
theorem l_x_ch2 (hL0 : Lay M0) (hLk : L ≤ 100) (b t : Nat) (hb : b ≤ 46) (ht : t < b) (v7 : Value) (j7 : jk v7)
    (hN : ∀ M' v6, gF s171 nT M0 M' → jk v6 → (∀ k, k < 48 → mL M' 171 k = zL (od L (t + 1) k : Int)) → am_P am_P0 d (am_look tX10_chanceOf) 45 [.ref 0, .int (nI s), .ref (173 + 13 * s), .int (nI L), .int (nI b), .int (nI (t + 1)), v6, v7] [] M' Q) :
    ∀ (j : Nat), j ≤ t + 1 → ∀ (M : am_M), gF s171 nT M0 M → (∀ k, k < 48 → mL M 171 k = zL ((if j < k then od L (t + 1) k else od L t k : Nat) : Int)) → am_P am_P0 d (am_look tX10_chanceOf) 63 [.ref 0, .int (nI s), .ref (173 + 13 * s), .int (nI L), .int (nI b), .int (nI t), .int (nI j), v7] [] M Q := by
  intro j
  induction j with
  | zero =>
    intro hj M hM hv
    have hL := gF_LayN hM hL0
    have h0v := hv 0 (by omega)
    rw [if_neg (by omega)] at h0v
    have e := od_step0 hLk (od_le hLk t 0)
    have w1 : gF s171 nT M (uL M 171 0 (zL (od L (t + 1) 0 : Int))) := gF_l _ rfl
    have h0 := hN (uL M 171 0 (zL (od L (t + 1) 0 : Int))) (.int (nI 0)) (gF_trans hM w1) (Or.inr ⟨_, rfl⟩) (fun k hk => by
      rw [m_uL_L]
      by_cases e : k = 0
      · rw [if_pos ⟨rfl, e⟩, e]
      · rw [if_neg (by omega), hv k hk, if_pos (by omega)])
    rw [od_t, if_pos rfl] at h0
    rw [hX10_chanceOf_63]
    simp +decide (disch := omega) only [qX10_chanceOf_0, qX10_chanceOf_1, qX10_chanceOf_2, lx hL, show (Int32.toInt 0).toNat = 0 from rfl, h0v, e, ni_add1, jk_w j7, show nI 0 = (0 : Int32) from rfl, am_w1_i, am_w1_r, am_w1_x, am_w1_l, am_w1_w, va_rf_s, am_push_n, am_push_s, am_cs_0, am_cs_i, am_cs_l, am_cs_r, m_uI_K, m_uI_N, m_uI_R, m_uI_L, m_uI_I, m_uL_K, m_uL_N, m_uL_R, m_uL_I, m_uL_L, m_uR_K, m_uR_N, m_uR_I, m_uR_L, m_uR_R, true_and, and_true, true_implies, false_implies, not_true_eq_false, not_false_eq_true, if_true, if_false, false_and, and_false] at h0 ⊢
    exact h0
  | succ j ih =>
    intro hj M hM hv
    have hL := gF_LayN hM hL0
    have hnp : ¬ nI (j + 1) ≤ 0 := by rw [ni_pos (by omega)]; omega
    have h1 := hv (j + 1) (by omega)
    have h2 := hv j (by omega)
    rw [if_neg (by omega)] at h1 h2
    have e := od_step hLk (od_le hLk t (j + 1)) (od_le hLk t j)
    have e1 : nI (j + 1) - 1 = nI j := ni_sub1 j
    have w1 : gF s171 nT M (uL M 171 (j + 1) (zL (od L (t + 1) (j + 1) : Int))) := gF_l _ rfl
    have h0 := ih (by omega) (uL M 171 (j + 1) (zL (od L (t + 1) (j + 1) : Int))) (gF_trans hM w1) (fun k hk => by
      rw [m_uL_L]
      by_cases e : k = j + 1
      · rw [if_pos ⟨rfl, e⟩, e, if_pos (by omega)]
      · rw [if_neg (by omega), hv k hk]
        by_cases c : j + 1 < k
        · rw [if_pos c, if_pos (by omega)]
        · rw [if_neg c, if_neg (by omega)])
    rw [od_t, if_neg (by omega), show j + 1 - 1 = j by omega] at h0
    rw [hX10_chanceOf_63]
    simp +decide (disch := omega) only [qX10_chanceOf_0, qX10_chanceOf_1, qX10_chanceOf_2, lx hL, e1, h1, h2, e, ni_in_t, ni_tn, ni_dec, jk_w j7, am_w1_i, am_w1_r, am_w1_x, am_w1_l, am_w1_w, va_rf_s, am_push_n, am_push_s, am_cs_0, am_cs_i, am_cs_l, am_cs_r, m_uI_K, m_uI_N, m_uI_R, m_uI_L, m_uI_I, m_uL_K, m_uL_N, m_uL_R, m_uL_I, m_uL_L, m_uR_K, m_uR_N, m_uR_I, m_uR_L, m_uR_R, true_and, and_true, true_implies, false_implies, not_true_eq_false, not_false_eq_true, if_true, if_false, false_and, and_false]
    first | rw [br_n (hnp)] | rw [br_q (hnp)] | rw [br_u (hnp)]
    exact h0
theorem l_x_ch1 (hL0 : Lay M0) (hLk : L ≤ 100) (b : Nat) (hb : b ≤ 46) (v7 : Value) (j7 : jk v7)
    (hN : ∀ M' v6, gF s171 nT M0 M' → jk v6 → (∀ k, k < 48 → mL M' 171 k = zL (od L b k : Int)) → am_P am_P0 (d + 1) (am_look tX10_chanceOf) 139 [.ref 0, .int (nI s), .ref (173 + 13 * s), .int (nI L), .int (nI b), .int (nI b), v6, v7] [] M' Q) :
    ∀ (m t : Nat), t + m = b → ∀ (M : am_M) (v6 : Value), jk v6 → gF s171 nT M0 M → (∀ k, k < 48 → mL M 171 k = zL (od L t k : Int)) → am_P am_P0 (d + 1) (am_look tX10_chanceOf) 45 [.ref 0, .int (nI s), .ref (173 + 13 * s), .int (nI L), .int (nI b), .int (nI t), v6, v7] [] M Q := by
  intro m
  induction m with
  | zero =>
    intro t ht M v6 j6 hM hv
    have et : t = b := by omega
    subst et
    have hle : nI t ≤ nI t := (ni_le (by omega) (by omega)).mpr (by omega)
    have h0 := hN M v6 hM j6 hv
    rw [hX10_chanceOf_45]
    simp +decide only [qX10_chanceOf_0, qX10_chanceOf_1, qX10_chanceOf_2, jk_w j6, jk_w j7, am_w1_i, am_w1_r, am_w1_x, am_w1_l, am_w1_w, va_rf_s, am_push_n, am_push_s, am_cs_0, am_cs_i, am_cs_l, am_cs_r, m_uI_K, m_uI_N, m_uI_R, m_uI_L, m_uI_I, m_uL_K, m_uL_N, m_uL_R, m_uL_I, m_uL_L, m_uR_K, m_uR_N, m_uR_I, m_uR_L, m_uR_R, true_and, and_true, true_implies, false_implies, not_true_eq_false, not_false_eq_true, if_true, if_false, false_and, and_false] at h0 ⊢
    first | rw [br_p (hle)] | rw [br_r (hle)] | rw [br_s (hle)]
    exact h0
  | succ m ih =>
    intro t ht M v6 j6 hM hv
    have hlt : ¬ nI b ≤ nI t := by rw [ni_le (by omega) (by omega)]; omega
    have em := fun Q => c_minI d (nI (t + 1)) 47 M Q
    have h47 : ¬ (47 : Int32) < nI (t + 1) := by rw [show (47 : Int32) = nI 47 from rfl, ni_lt (by omega) (by omega)]; omega
    have h9 := l_x_ch2 (d + 1) L s M0 Q hL0 hLk b t hb (by omega) v7 j7 (fun M' v6' g' j6' v' => ih (t + 1) (by omega) M' v6' j6' g' v') (t + 1) (Nat.le_refl _) M hM (fun k hk => by
      rw [hv k hk]
      by_cases c : t + 1 < k
      · rw [if_pos c, od_0 t k (by omega), od_0 (t + 1) k (by omega)]
      · rw [if_neg c])
    rw [hX10_chanceOf_45]
    simp +decide only [qX10_chanceOf_0, qX10_chanceOf_1, qX10_chanceOf_2, em, h47, ni_add1, if_false, jk_w j6, jk_w j7, am_w1_i, am_w1_r, am_w1_x, am_w1_l, am_w1_w, va_rf_s, am_push_n, am_push_s, am_cs_0, am_cs_i, am_cs_l, am_cs_r, m_uI_K, m_uI_N, m_uI_R, m_uI_L, m_uI_I, m_uL_K, m_uL_N, m_uL_R, m_uL_I, m_uL_L, m_uR_K, m_uR_N, m_uR_I, m_uR_L, m_uR_R, true_and, and_true, true_implies, false_implies, not_true_eq_false, not_false_eq_true, if_true, if_false, false_and, and_false]
    first | rw [br_n (hlt)] | rw [br_q (hlt)] | rw [br_u (hlt)]
    exact h9
theorem l_x_ch3 (f : Nat → Nat) (hf : ∀ i, f i ≤ 1000000000000) (M : am_M) (hL : Lay M) (hv : ∀ k, k < 48 → mL M 171 k = zL (f k : Int)) (g : Nat) (hg : g ≤ 48) (v3 v4 : Value) (j3 : jk v3) (j4 : jk v4) (hQ : Q (some (.long (zL (csum f g (48 - g) : Int)))) M) :
    ∀ (m n : Nat), n + m = 48 - g → am_P am_P0 d (am_look tX10_chanceOf) 148 [.ref 0, .int (nI s), .ref (173 + 13 * s), v3, v4, .long (zL (csum f g n : Int)), am_x, .int (nI (g + n))] [] M Q := by
  intro m
  induction m with
  | zero =>
    intro n hn
    have hle : (48 : Int32) ≤ nI (g + n) := by rw [show (48 : Int32) = nI 48 from rfl]; exact (ni_le (by omega) (by omega)).mpr (by omega)
    rw [show 48 - g = n by omega] at hQ
    rw [hX10_chanceOf_148]
    simp +decide only [qX10_chanceOf_0, qX10_chanceOf_1, qX10_chanceOf_2, am_w1_i, am_w1_r, am_w1_x, am_w1_l, am_w1_w, va_rf_s, am_push_n, am_push_s, am_cs_0, am_cs_i, am_cs_l, am_cs_r, m_uI_K, m_uI_N, m_uI_R, m_uI_L, m_uI_I, m_uL_K, m_uL_N, m_uL_R, m_uL_I, m_uL_L, m_uR_K, m_uR_N, m_uR_I, m_uR_L, m_uR_R, true_and, and_true, true_implies, false_implies, not_true_eq_false, not_false_eq_true, if_true, if_false, false_and, and_false]
    first | rw [br_p (hle)] | rw [br_r (hle)] | rw [br_s (hle)]
    exact hQ
  | succ m ih =>
    intro n hn
    have hlt : ¬ (48 : Int32) ≤ nI (g + n) := by rw [show (48 : Int32) = nI 48 from rfl, ni_le (by omega) (by omega)]; omega
    have h0 := ih (n + 1) (by omega)
    have e : zL (csum f g n : Int) + zL (f (g + n) : Int) = zL (csum f g (n + 1) : Int) := by rw [zL_add]; congr 1
    rw [← e] at h0
    rw [hX10_chanceOf_148]
    simp +decide (disch := omega) only [qX10_chanceOf_0, qX10_chanceOf_1, qX10_chanceOf_2, lx hL, hv (g + n) (by omega), ni_in_t, ni_tn, ni_add1, jk_w j3, jk_w j4, am_w1_i, am_w1_r, am_w1_x, am_w1_l, am_w1_w, va_rf_s, am_push_n, am_push_s, am_cs_0, am_cs_i, am_cs_l, am_cs_r, m_uI_K, m_uI_N, m_uI_R, m_uI_L, m_uI_I, m_uL_K, m_uL_N, m_uL_R, m_uL_I, m_uL_L, m_uR_K, m_uR_N, m_uR_I, m_uR_L, m_uR_R, true_and, and_true, true_implies, false_implies, not_true_eq_false, not_false_eq_true, if_true, if_false, false_and, and_false]
    first | rw [br_n (hlt)] | rw [br_q (hlt)] | rw [br_u (hlt)]
    exact h0
end
theorem x_chanceOf {M : am_M} {z s : Nat} {D : Dat} (hD : dOK D) (h : XR M z D) (hs : s < dN D) (d : Nat) (Q : Option Value → am_M → Prop) (hQ : ∀ M', zF (sXq z) M M' → XR M' z D → mI M' (173 + 13 * s) 14 = nI (gpD D s 48) → Q (some (.long (zL (chN D s : Int)))) M') : am_E am_P0 (d + 7) 159 [.ref 0, .int (nI s)] M Q := by
  have hz := h.1.2.2.1
  have hL := h.1.1
  have n8 := dN_8 hD
  have hLk := hD.1.2.1
  have htr := ltr hL (show s < 8 by omega)
  have hst := lt_ hL (isTr_of (show s < 8 by omega))
  have hbt := betY_lt (Y := dY D s) (fun y hy => (hD.1.2.2.2.1 s y hy).1)
  have hgl : gpD D s 48 ≤ 48 := cnt_le _ _
  rw [eX10_chanceOf]
  simp +decide (disch := omega) only [qX10_chanceOf_0, qX10_chanceOf_1, qX10_chanceOf_2, lx hL, htr, hst, ni_in_t, ni_tn, am_w1_i, am_w1_r, am_w1_x, am_w1_l, am_w1_w, va_rf_s, am_push_n, am_push_s, am_cs_0, am_cs_i, am_cs_l, am_cs_r, m_uI_K, m_uI_N, m_uI_R, m_uI_L, m_uI_I, m_uL_K, m_uL_N, m_uL_R, m_uL_I, m_uL_L, m_uR_K, m_uR_N, m_uR_I, m_uR_L, m_uR_R, true_and, and_true, true_implies, false_implies, not_true_eq_false, not_false_eq_true, if_true, if_false, false_and, and_false]
  refine x_countGaps hD h hs d _ (fun M1 f1 X1 G1 => ?_)
  have L1 := X1.1.1
  have hr1 := X1.1.2.2.2.1
  have hst1 := lt_ L1 (isTr_of (show s < 8 by omega))
  have eb := fun Q => c_x_hoursBetweenEnds (d + 6) s (z + 25 + 7 * s) z (dV D s) (dWt D s) (dDp D) (dDr D s) (dLd D s) (dBs D s) (dY D s) M1 Q L1 (by omega) (isSh_z hz (by omega)) (hD.1.2.2.2.2.1 s) (X1.2.2.2.1 s hs).1
  have n171 : mN M1 171 = 48 := (ly_sh L1 171 rfl).2
  have k171 : mK M1 171 = 1 := (ly_sh L1 171 rfl).1
  have ef := fun Q => c_fillJ (d + 6) 171 0 M1 Q k171 (by rw [n171]; omega)
  rw [n171] at ef
  obtain ⟨A, hA⟩ : ∃ A, A = uL (uB M1 171 (fun j => if j < 48 then 0 else mL M1 171 j)) 171 0 1000000000000 := ⟨_, rfl⟩
  have gA : gF s171 nT M1 A := by rw [hA]; exact gF_trans (gF_B _ (fun _ => rfl)) (gF_l _ rfl)
  have LA := gF_LayN gA L1
  have LB : Lay (uB M1 171 (fun j => if j < 48 then 0 else mL M1 171 j)) := gF_LayN (gF_B (S := s171) (T := nT) _ (fun _ => rfl)) L1
  have vA : ∀ k, k < 48 → mL A 171 k = zL (od (dLk D) 0 k : Int) := fun k hk => by
    rw [hA, m_uL_L]
    by_cases e : k = 0
    · rw [if_pos ⟨rfl, e⟩, e]; rfl
    · rw [if_neg (by omega), uB_L, if_pos rfl, if_pos (by omega)]
      show (0 : Int64) = zL ((if k = 0 then 1000000000000 else 0 : Nat) : Int)
      rw [if_neg e]
      rfl
  have h9 := l_x_ch1 (d + 6) (dLk D) s M1 Q L1 hLk (betY (dY D s)) hbt am_x (Or.inl rfl) (fun M' v6 g' j6 v' => by
    have L' := gF_LayN g' L1
    have hst' := lt_ L' (isTr_of (show s < 8 by omega))
    have e14 : mI M' (173 + 13 * s) 14 = nI (gpD D s 48) := by rw [g'.1 _ _ (by unfold s171; omega)]; exact G1.2.2.2
    have zf := zF_g L1 X1.1.2.1 g' (fun a j s' q w => by unfold s171 at w; omega) (fun a j w => by unfold s171 at w; omega)
    have h0 := hQ M' (zF_trans f1 (zF_up zf (fun a j q => by unfold s171 at q; unfold sXq; omega))) (XR_k (s0 := 0) hD (by omega) X1 zf (fun a j q => by unfold s171 at q; omega)) e14
    have h8 := l_x_ch3 (d + 7) s Q (od (dLk D) (betY (dY D s))) (fun i => od_le hLk _ i) M' L' v' (gpD D s 48) hgl (.int (nI (dLk D))) (.int (nI (betY (dY D s)))) (Or.inr ⟨_, rfl⟩) (Or.inr ⟨_, rfl⟩) h0 (48 - gpD D s 48) 0 (by omega)
    simp +decide only [qX10_chanceOf_0, qX10_chanceOf_1, qX10_chanceOf_2, hst', e14, jk_w j6, am_w1_i, am_w1_r, am_w1_x, am_w1_l, am_w1_w, va_rf_s, am_push_n, am_push_s, am_cs_0, am_cs_i, am_cs_l, am_cs_r, m_uI_K, m_uI_N, m_uI_R, m_uI_L, m_uI_I, m_uL_K, m_uL_N, m_uL_R, m_uL_I, m_uL_L, m_uR_K, m_uR_N, m_uR_I, m_uR_L, m_uR_R, true_and, and_true, true_implies, false_implies, not_true_eq_false, not_false_eq_true, if_true, if_false, false_and, and_false]
    exact h8) (betY (dY D s)) 0 (by omega) A am_x (Or.inl rfl) gA vA
  simp +decide (disch := omega) only [qX10_chanceOf_0, qX10_chanceOf_1, qX10_chanceOf_2, lx L1, lz L1 hz, hr1, (x_n X1).2.2.2, eb, ef, lx LB, show (Int32.toInt 0).toNat = 0 from rfl, ← hA, hst1, am_w1_i, am_w1_r, am_w1_x, am_w1_l, am_w1_w, va_rf_s, am_push_n, am_push_s, am_cs_0, am_cs_i, am_cs_l, am_cs_r, m_uI_K, m_uI_N, m_uI_R, m_uI_L, m_uI_I, m_uL_K, m_uL_N, m_uL_R, m_uL_I, m_uL_L, m_uR_K, m_uR_N, m_uR_I, m_uR_L, m_uR_R, true_and, and_true, true_implies, false_implies, not_true_eq_false, not_false_eq_true, if_true, if_false, false_and, and_false]
  exact h9
noncomputable def aCha (v : Int32) (D : Dat) : Value := .long (if 0 ≤ v.toInt ∧ v.toInt < dN D then zL (chN D v.toInt.toNat : Int) else -1)
theorem x_chance (v : Int32) : XqO 135 [.int v] (aCha v) := by
  intro d M z D Q hD h hQ
  have hL := h.1.1
  have n8 := dN_8 hD
  have eS := fun v Q => x_isShip hD h (d + 19) v Q
  unfold aCha at hQ
  rw [eX10_chance]
  simp +decide only [qX10_chance, lx hL, eS, bI_0, Classical.not_not, am_w1_i, am_w1_r, am_w1_x, am_w1_l, am_w1_w, va_rf_s, am_push_n, am_push_s, am_cs_0, am_cs_i, am_cs_l, am_cs_r, m_uI_K, m_uI_N, m_uI_R, m_uI_L, m_uI_I, m_uL_K, m_uL_N, m_uL_R, m_uL_I, m_uL_L, m_uR_K, m_uR_N, m_uR_I, m_uR_L, m_uR_R, true_and, and_true, true_implies, false_implies, not_true_eq_false, not_false_eq_true, if_true, if_false, false_and, and_false]
  by_cases hv : 0 ≤ v.toInt ∧ v.toInt < dN D
  · first | rw [br_p (hv)] | rw [br_r (hv)] | rw [br_s (hv)]
    rw [if_pos hv] at hQ
    obtain ⟨s, s1, s2, s3⟩ := sh_of (by omega) hv
    rw [s3] at hQ
    rw [s2]
    refine x_chanceOf hD h s1 (d + 12) _ (fun M1 f1 X1 _ => ?_)
    have h0 := hQ M1 f1 X1
    simp +decide only [qX10_chance, am_w1_i, am_w1_r, am_w1_x, am_w1_l, am_w1_w, va_rf_s, am_push_n, am_push_s, am_cs_0, am_cs_i, am_cs_l, am_cs_r, m_uI_K, m_uI_N, m_uI_R, m_uI_L, m_uI_I, m_uL_K, m_uL_N, m_uL_R, m_uL_I, m_uL_L, m_uR_K, m_uR_N, m_uR_I, m_uR_L, m_uR_R, true_and, and_true, true_implies, false_implies, not_true_eq_false, not_false_eq_true, if_true, if_false, false_and, and_false]
    exact h0
  · have h0 := hQ M (XR_2 h) h
    rw [if_neg hv] at h0
    first | rw [br_n (hv)] | rw [br_q (hv)] | rw [br_u (hv)]
    exact h0
