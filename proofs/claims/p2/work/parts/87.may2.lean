/-! the class: mayBe, countShared -/
theorem c_x_mayBe (d s h p : Nat) (M : am_M) (Q : Option Value → am_M → Prop) (hL : Lay M) (hs : s < 8) (hh : h < 48) (hp : p < 256) : am_E am_P0 d 88 [.ref (173 + 13 * s), .int (nI h), .int (nI p)] M Q ↔ Q (some (.int (tI (inS (my4 M s h) p)))) M := by
  obtain ⟨w, hwe⟩ : ∃ w, w = 173 + 13 * s := ⟨_, rfl⟩
  have hw : isTr w := ⟨s, hs, hwe⟩
  have e10 : 183 + 13 * s = w + 10 := by omega
  have ea : nI h * 4 + nI (p / 64) = nI (4 * h + p / 64) := by rw [show (4 : Int32) = nI 4 from rfl, ni_mul, ni_add, Nat.mul_comm]
  have hin : inS (my4 M s h) p ↔ sbit (mL M (w + 10) (4 * h + p / 64)) (p % 64) = true := by
    unfold inS my4
    rw [e10]
    exact ⟨fun q => q.2, fun q => ⟨hp, q⟩⟩
  rw [← hwe, eX8_mayBe]
  simp +decide (disch := omega) only [qX8_mayBe, lt_ hL hw, sr6 p hp, an63 p hp, ea, ni_in_t, ni_tn, lgc_0, bt_test _ (Nat.mod_lt p (show 0 < 64 by decide)), am_w1_i, am_w1_r, am_w1_x, am_w1_l, am_w1_w, va_rf_s, am_push_n, am_push_s, am_cs_0, am_cs_i, am_cs_l, am_cs_r, m_uI_K, m_uI_N, m_uI_R, m_uI_L, m_uI_I, m_uL_K, m_uL_N, m_uL_R, m_uL_I, m_uL_L, m_uR_K, m_uR_N, m_uR_I, m_uR_L, m_uR_R, true_and, and_true]
  by_cases e : sbit (mL M (w + 10) (4 * h + p / 64)) (p % 64) = true
  · rw [br_r e, tI_t (hin.mpr e)]
  · rw [br_q e, tI_f (fun q => e (hin.mp q))]
theorem l_x_shared (d s s' h : Nat) (M : am_M) (Q : Option Value → am_M → Prop) (hL : Lay M) (hs : s < 8) (hs' : s' < 8) (hh : h < 48) : ∀ (m k : Nat), k + m = 4 → (am_P am_P0 (d + 1) (am_look tX8_countShared) 7 [.ref (173 + 13 * s), .ref (173 + 13 * s'), .int (nI h), .int (nI (cnt (fun p => dB (inS (my4 M s h) p ∧ inS (my4 M s' h) p)) (64 * k))), .int (nI (4 * h + k))] [] M Q ↔ Q (some (.int (nI (cnt (fun p => dB (inS (my4 M s h) p ∧ inS (my4 M s' h) p)) 256)))) M) := by
  obtain ⟨w, hwe⟩ : ∃ w, w = 173 + 13 * s := ⟨_, rfl⟩
  obtain ⟨w', hwe'⟩ : ∃ w, w = 173 + 13 * s' := ⟨_, rfl⟩
  have hw : isTr w := ⟨s, hs, hwe⟩
  have hw' : isTr w' := ⟨s', hs', hwe'⟩
  have e10 : 183 + 13 * s = w + 10 := by omega
  have e10' : 183 + 13 * s' = w' + 10 := by omega
  have eend : (nI h + 1) * 4 = nI (4 * h + 4) := by rw [ni_add1, show (4 : Int32) = nI 4 from rfl, ni_mul]; congr 1; omega
  have eend' : nI (h + 1) * 4 = nI (4 * h + 4) := by rw [show (4 : Int32) = nI 4 from rfl, ni_mul]; congr 1; omega
  rw [← hwe, ← hwe']
  intro m
  induction m with
  | zero =>
    intro k hk
    have e : k = 4 := by omega
    subst e
    have hle : nI (4 * h + 4) ≤ nI (4 * h + 4) := (ni_le (by omega) (by omega)).mpr (Nat.le_refl _)
    rw [hX8_countShared_7]
    simp +decide only [qX8_countShared, eend, am_w1_i, am_w1_r, am_w1_x, am_w1_l, am_w1_w, va_rf_s, am_push_n, am_push_s, am_cs_0, am_cs_i, am_cs_l, am_cs_r, m_uI_K, m_uI_N, m_uI_R, m_uI_L, m_uI_I, m_uL_K, m_uL_N, m_uL_R, m_uL_I, m_uL_L, m_uR_K, m_uR_N, m_uR_I, m_uR_L, m_uR_R, true_and, and_true]
    rw [br_p hle]
  | succ m ih =>
    intro k hk
    have hlt : ¬ nI (4 * h + 4) ≤ nI (4 * h + k) := by rw [ni_le (by omega) (by omega)]; omega
    have hbc := fun x Q => c_bitCount d x M Q
    have ih2 := ih (k + 1) (by omega)
    have estep : cnt (fun p => dB (inS (my4 M s h) p ∧ inS (my4 M s' h) p)) (64 * (k + 1)) = cnt (fun p => dB (inS (my4 M s h) p ∧ inS (my4 M s' h) p)) (64 * k) + cnt (fun i => sbit (mL M (w + 10) (4 * h + k) &&& mL M (w' + 10) (4 * h + k)) i) 64 := by
      rw [show 64 * (k + 1) = 64 * k + 64 by omega, cnt_add]
      congr 1
      refine cnt_ext (fun t ht => ?_)
      rw [sb_and]
      have q1 : (64 * k + t) / 64 = k := by omega
      have q2 : (64 * k + t) % 64 = t := by omega
      have q3 : 64 * k + t < 256 := by omega
      rw [Bool.eq_iff_iff, dB_t, Bool.and_eq_true]
      unfold inS my4
      rw [q1, q2, e10, e10']
      exact ⟨fun z => ⟨z.1.2, z.2.2⟩, fun z => ⟨⟨q3, z.1⟩, ⟨q3, z.2⟩⟩⟩
    rw [estep, ← Nat.add_assoc] at ih2
    rw [hX8_countShared_7]
    simp +decide (disch := omega) only [qX8_countShared, lt_ hL hw, lt_ hL hw', eend, eend', hbc, ni_in_t, ni_tn, ni_add, ni_add1, am_w1_i, am_w1_r, am_w1_x, am_w1_l, am_w1_w, va_rf_s, am_push_n, am_push_s, am_cs_0, am_cs_i, am_cs_l, am_cs_r, m_uI_K, m_uI_N, m_uI_R, m_uI_L, m_uI_I, m_uL_K, m_uL_N, m_uL_R, m_uL_I, m_uL_L, m_uR_K, m_uR_N, m_uR_I, m_uR_L, m_uR_R, true_and, and_true]
    rw [br_n hlt]
    exact ih2
theorem c_x_countShared (d s s' h : Nat) (M : am_M) (Q : Option Value → am_M → Prop) (hL : Lay M) (hs : s < 8) (hs' : s' < 8) (hh : h < 48) : am_E am_P0 (d + 1) 90 [.ref (173 + 13 * s), .ref (173 + 13 * s'), .int (nI h)] M Q ↔ Q (some (.int (nI (cnt (fun p => dB (inS (my4 M s h) p ∧ inS (my4 M s' h) p)) 256)))) M := by
  have h0 := l_x_shared d s s' h M Q hL hs hs' hh 4 0 rfl
  have e4 : nI h * 4 = nI (4 * h + 0) := by rw [show (4 : Int32) = nI 4 from rfl, ni_mul, Nat.mul_comm, Nat.add_zero]
  rw [eX8_countShared]
  simp +decide only [qX8_countShared, e4, am_w1_i, am_w1_r, am_w1_x, am_w1_l, am_w1_w, va_rf_s, am_push_n, am_push_s, am_cs_0, am_cs_i, am_cs_l, am_cs_r, m_uI_K, m_uI_N, m_uI_R, m_uI_L, m_uI_I, m_uL_K, m_uL_N, m_uL_R, m_uL_I, m_uL_L, m_uR_K, m_uR_N, m_uR_I, m_uR_L, m_uR_R, true_and, and_true]
  exact h0
theorem c_x_countMay (d s h : Nat) (M : am_M) (Q : Option Value → am_M → Prop) (hL : Lay M) (hs : s < 8) (hh : h < 48) : am_E am_P0 (d + 2) 89 [.ref (173 + 13 * s), .int (nI h)] M Q ↔ Q (some (.int (nI (cnt (fun p => dB (inS (my4 M s h) p)) 256)))) M := by
  have hcs := fun Q => c_x_countShared d s s h M Q hL hs hs hh
  have e : (fun p => dB (inS (my4 M s h) p ∧ inS (my4 M s h) p)) = (fun p => dB (inS (my4 M s h) p)) := funext fun p => by rw [and_self]
  rw [e] at hcs
  rw [eX8_countMay]
  simp +decide only [qX8_countMay, lt_ hL (isTr_of hs), hcs, am_w1_i, am_w1_r, am_w1_x, am_w1_l, am_w1_w, va_rf_s, am_push_n, am_push_s, am_cs_0, am_cs_i, am_cs_l, am_cs_r, m_uI_K, m_uI_N, m_uI_R, m_uI_L, m_uI_I, m_uL_K, m_uL_N, m_uL_R, m_uL_I, m_uL_L, m_uR_K, m_uR_N, m_uR_I, m_uR_L, m_uR_R, true_and, and_true]
/-! places and cells: the same order -/
theorem cnt_row {P : Nat → Prop} {C R : Nat} (hC : C ≤ 16) (hv : ∀ p, P p → vld C R p) (r : Nat) : cnt (fun i => dB (P (16 * r + i))) 16 = cnt (fun i => dB (P (16 * r + i))) C := by
  have e : 16 = C + (16 - C) := by omega
  have h0 : cnt (fun i => dB (P (16 * r + (C + i)))) (16 - C) = 0 := by
    have : ∀ n, n ≤ 16 - C → cnt (fun i => dB (P (16 * r + (C + i)))) n = 0 := by
      intro n
      induction n with
      | zero => intro _; rfl
      | succ n ih =>
        intro hn
        rw [cnt_f (fun z => ?_), ih (by omega)]
        have := (hv _ (dB_t.mp z)).1
        omega
    exact this _ (Nat.le_refl _)
  have h1 := cnt_add (fun i => dB (P (16 * r + i))) C (16 - C)
  rw [← e] at h1
  rw [h1, h0, Nat.add_zero]
theorem plc_row {C r i : Nat} (hi : i < C) : plc C (C * r + i) = 16 * r + i := by
  unfold plc
  rw [Nat.mul_add_div (by omega), Nat.div_eq_of_lt hi, Nat.mul_add_mod, Nat.mod_eq_of_lt hi, Nat.add_zero]
theorem cnt_rows {P : Nat → Prop} {C R : Nat} (hC : C ≤ 16) (hv : ∀ p, P p → vld C R p) : ∀ r, cnt (fun p => dB (P p)) (16 * r) = cnt (fun c => dB (P (plc C c))) (C * r) := by
  intro r
  induction r with
  | zero => rfl
  | succ r ih =>
    rw [show 16 * (r + 1) = 16 * r + 16 by omega, cnt_add, ih, cnt_row hC hv, Nat.mul_succ, cnt_add]
    congr 1
    refine cnt_ext (fun t ht => ?_)
    rw [plc_row ht]
theorem cnt_places {P : Nat → Prop} {C R : Nat} (hC : C ≤ 16) (hR : R ≤ 16) (hv : ∀ p, P p → vld C R p) : cnt (fun p => dB (P p)) 256 = cnt (fun c => dB (P (plc C c))) (C * R) := by
  rw [← cnt_rows hC hv R, show 256 = 16 * R + (256 - 16 * R) by omega, cnt_add]
  have h0 : ∀ n, cnt (fun i => dB (P (16 * R + i))) n = 0 := by
    intro n
    induction n with
    | zero => rfl
    | succ n ih =>
      rw [cnt_f (fun z => ?_), ih]
      have := (hv _ (dB_t.mp z)).2
      omega
  rw [h0, Nat.add_zero]
/-- the place below which so many are: in both orders -/
theorem cnt_at {P : Nat → Prop} {C R p : Nat} (hC : C ≤ 16) (hv : ∀ p, P p → vld C R p) (hp : vld C R p) : cnt (fun p => dB (P p)) p = cnt (fun c => dB (P (plc C c))) (cel C p) := by
  have e1 : p = 16 * (p / 16) + p % 16 := by omega
  have h1 := hp.1
  unfold cel
  rw [cnt_add (fun c => dB (P (plc C c))) (C * (p / 16)) (p % 16), ← cnt_rows hC hv (p / 16)]
  have h2 := cnt_add (fun p => dB (P p)) (16 * (p / 16)) (p % 16)
  rw [← e1] at h2
  rw [h2]
  congr 1
  refine cnt_ext (fun t ht => ?_)
  rw [plc_row (by omega)]
/-! goTogether, and what clashes -/
theorem c_absd (d a b : Nat) (M : am_M) (Q : Option Value → am_M → Prop) (ha : a < 65536) (hb : b < 65536) : am_E am_P0 d 306 [.int (nI a - nI b)] M Q ↔ Q (some (.int (nI (hd_ a b)))) M := by
  have et : (nI a - nI b).toInt = (a : Int) - b := by
    rw [Int32.toInt_sub, ni_ti (by omega), ni_ti (by omega)]
    exact Int.bmod_eq_of_le (by omega) (by omega)
  rw [eJ9_abs_0f7a4]
  simp +decide only [qJ9_abs_0f7a4, am_w1_i, am_w1_r, am_w1_x, am_w1_l, am_w1_w, va_rf_s, am_push_n, am_push_s, am_cs_0, am_cs_i, am_cs_l, am_cs_r, m_uI_K, m_uI_N, m_uI_R, m_uI_L, m_uI_I, m_uL_K, m_uL_N, m_uL_R, m_uL_I, m_uL_L, m_uR_K, m_uR_N, m_uR_I, m_uR_L, m_uR_R, true_and, and_true]
  unfold hd_
  by_cases c : a < b
  · have hlt : nI a - nI b < 0 := by rw [Int32.lt_iff_toInt_lt, et]; show _ < (0 : Int); omega
    have e : -(nI a - nI b) = nI (b - a) := by
      apply Int32.toInt_inj.mp
      rw [Int32.toInt_neg, et, ni_ti (by omega)]
      have e2 : -((a : Int) - b) = ((b - a : Nat) : Int) := by omega
      rw [e2]
      exact Int.bmod_eq_of_le (by omega) (by omega)
    rw [if_pos c]
    first | rw [br_n (fun q => absurd q (by rw [Int32.not_le]; exact hlt)), e] | (rw [br_p hlt, e]) | (rw [br_n (by rw [Int32.not_le]; exact hlt), e])
  · rw [if_neg c]
    have hnl : ¬ nI a - nI b < 0 := by rw [Int32.lt_iff_toInt_lt, et]; show ¬ _ < (0 : Int); omega
    first | rw [br_n hnl, ni_sub (by omega)] | rw [br_p (Int32.not_lt.mp hnl), ni_sub (by omega)]
theorem c_x_goTogether (d s g z v i j : Nat) (wt : Nat → Prop) (dep : Nat → Nat) (dr ld : Nat) (B : List Fct) (Y : List Sy) (y y' : Sy) (M : am_M) (Q : Option Value → am_M → Prop) (hL : Lay M) (hI : RInv M) (hs : s < 8) (hg : isSh g) (hT : TkX M s g z v wt dep dr ld B Y) (hy : Y[i]? = some y) (hy' : Y[j]? = some y')
    (hQ : ∀ M', rgF M M' → Q (some (.int (tI (gowY wt v y y')))) M') : am_E am_P0 (d + 3) 76 [.ref (173 + 13 * s), .int (nI i), .int (nI j)] M Q := by
  obtain ⟨w, hwe⟩ : ∃ w, w = 173 + 13 * s := ⟨_, rfl⟩
  have hw : isTr w := ⟨s, hs, hwe⟩
  have h48 := hT.2.2.2.2.1
  have hil := (List.getElem?_eq_some_iff.mp hy).1
  have hjl := (List.getElem?_eq_some_iff.mp hy').1
  obtain ⟨⟨y1, y2⟩, y3, y4, y5⟩ := hT.2.2.2.2.2 i y hy
  obtain ⟨⟨z1, z2⟩, z3, z4, z5⟩ := hT.2.2.2.2.2 j y' hy'
  have hab := fun Q => c_absd (d + 2) y.1 y'.1 M Q (by omega) (by omega)
  have hR := hT.2.1.1
  have e1 : 174 + 13 * s = w + 1 := by omega
  rw [← hwe] at hR ⊢
  rw [eX8_goTogether]
  simp +decide (disch := omega) only [qX8_goTogether, lt_ hL hw, lw_ hL hg, hR, y3, y4, z3, z4, hab, ni_in_t, ni_tn, am_w1_i, am_w1_r, am_w1_x, am_w1_l, am_w1_w, va_rf_s, am_push_n, am_push_s, am_cs_0, am_cs_i, am_cs_l, am_cs_r, m_uI_K, m_uI_N, m_uI_R, m_uI_L, m_uI_I, m_uL_K, m_uL_N, m_uL_R, m_uL_I, m_uL_L, m_uR_K, m_uR_N, m_uR_I, m_uR_L, m_uR_R, true_and, and_true]
  rw [← e1]
  refine c_x_isWithin d s y.2.1 y'.2.1 (hd_ y.1 y'.1) v wt M _ hL hI hs y2 z2 (hd_lt y1 z1) hT.1 (fun M1 g1 => ?_)
  have h0 := hQ M1 g1
  simp +decide only [qX8_goTogether, am_w1_i, am_w1_r, am_w1_x, am_w1_l, am_w1_w, va_rf_s, am_push_n, am_push_s, am_cs_0, am_cs_i, am_cs_l, am_cs_r, m_uI_K, m_uI_N, m_uI_R, m_uI_L, m_uI_I, m_uL_K, m_uL_N, m_uL_R, m_uL_I, m_uL_L, m_uR_K, m_uR_N, m_uR_I, m_uR_L, m_uR_R, true_and, and_true]
  exact ⟨tI_01 _, h0⟩
