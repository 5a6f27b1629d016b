/-! the class: sums and tests worked out -/
def inX (x : Int32) : Nat × Int := if 0 ≤ x.toInt then (0, x.toInt) else if -4 ≤ x.toInt then ((-x.toInt).toNat, 0) else if x.toInt = -5 then (22, 0) else if -17 ≤ x.toInt then ((4 - x.toInt).toNat, 0) else (99, 0)
theorem inX_leaf {x : Int32} (h : (inX x).1 < 10) : -4 ≤ x.toInt := by
  unfold inX at h
  split at h
  · omega
  · split at h
    · omega
    · split at h
      · dsimp only at h; omega
      · split at h
        · dsimp only at h; omega
        · dsimp only at h; omega
theorem inX_not {x : Int32} (h : (inX x).1 = 22) : x.toInt = -5 := by
  unfold inX at h
  split at h
  · dsimp only at h; omega
  · split at h
    · dsimp only at h; omega
    · split at h
      · assumption
      · split at h <;> dsimp only at h <;> omega
theorem inX_op {x : Int32} (h : 10 ≤ (inX x).1) (h2 : (inX x).1 ≤ 21) : x = zI (4 - (inX x).1) ∧ x.toInt < -5 := by
  have k : x.toInt = 4 - ((inX x).1 : Int) ∧ x.toInt < -5 := by
    unfold inX at h h2 ⊢
    split at h
    · dsimp only at h; omega
    · rename_i a1
      rw [if_neg a1] at h2 ⊢
      split at h
      · dsimp only at h; omega
      · rename_i a2
        rw [if_neg a2] at h2 ⊢
        split at h
        · rename_i a3
          rw [if_pos a3] at h2
          dsimp only at h2; omega
        · rename_i a3
          rw [if_neg a3] at h2 ⊢
          split at h
          · rename_i a4
            rw [if_pos a4] at h2 ⊢
            dsimp only at h2 ⊢
            omega
          · rename_i a4
            rw [if_neg a4] at h2
            dsimp only at h2; omega
  exact ⟨by rw [← k.1, zI_of], k.2⟩
theorem ni_sub1 (n : Nat) : nI (n + 1) - 1 = nI n := by rw [show (1 : Int32) = nI 1 from rfl, ni_sub (by omega)]; rfl
theorem ni_dec (n : Nat) : nI (n + 1) + -1 = nI n := by rw [← ni_sub1 n, Int32.sub_eq_add_neg]
theorem c_x_partOf (d p h dp : Nat) (x : Int32) (M : am_M) (Q : Option Value → am_M → Prop) (hx : -4 ≤ x.toInt) (hp : p < 256) : am_E am_P0 d 3 [.int x, .int (nI p), .int (nI h), .int (nI dp)] M Q ↔ Q (some (.int (zI (ldD (inX x) (p % 16, p / 16, h, dp))))) M := by
  rw [eX0_partOf]
  have e1 : nI p / 16 = nI (p / 16) := ni_div (b := 16) (by omega) (by omega)
  have e2 : nI p - nI (p / 16) * 16 = nI (p % 16) := by
    have := ni_rem (a := p) (b := 16) (by omega) (by omega)
    rw [ni_div (by omega) (by omega)] at this
    exact this
  by_cases h0 : 0 ≤ x.toInt
  · have e : am_tab (-4) [44, 42, 37, 32] 46 x = 46 := am_tab_out (Or.inr (by show -4 + (4 : Int) ≤ _; omega))
    have ei : inX x = (0, x.toInt) := by unfold inX; rw [if_pos h0]
    have el : ldD (inX x) (p % 16, p / 16, h, dp) = x.toInt := by rw [ei]; rfl
    rw [el, zI_of]
    simp +decide only [qX0_partOf, e, am_w1_i, am_w1_r, am_w1_x, am_w1_l, am_w1_w, va_rf_s, am_push_n, am_push_s, am_cs_0, am_cs_i, am_cs_l, am_cs_r, m_uI_K, m_uI_N, m_uI_R, m_uI_L, m_uI_I, m_uL_K, m_uL_N, m_uL_R, m_uL_I, m_uL_L, m_uR_K, m_uR_N, m_uR_I, m_uR_L, m_uR_R, true_and, and_true, true_implies, false_implies, not_true_eq_false, not_false_eq_true, if_true, if_false, false_and, and_false]
  · have hc : x.toInt = -1 ∨ x.toInt = -2 ∨ x.toInt = -3 ∨ x.toInt = -4 := by omega
    have key : x = -1 ∨ x = -2 ∨ x = -3 ∨ x = -4 := by
      rcases hc with q | q | q | q
      · exact Or.inl (Int32.toInt_inj.mp (q.trans rfl))
      · exact Or.inr (Or.inl (Int32.toInt_inj.mp (q.trans rfl)))
      · exact Or.inr (Or.inr (Or.inl (Int32.toInt_inj.mp (q.trans rfl))))
      · exact Or.inr (Or.inr (Or.inr (Int32.toInt_inj.mp (q.trans rfl))))
    rcases key with rfl | rfl | rfl | rfl
    · have e : am_tab (-4) [44, 42, 37, 32] 46 (-1) = 32 := by decide
      have el : ldD (inX (-1)) (p % 16, p / 16, h, dp) = ((p % 16 : Nat) : Int) := rfl
      rw [el, zI_n]
      simp +decide only [qX0_partOf, e, e1, e2, am_w1_i, am_w1_r, am_w1_x, am_w1_l, am_w1_w, va_rf_s, am_push_n, am_push_s, am_cs_0, am_cs_i, am_cs_l, am_cs_r, m_uI_K, m_uI_N, m_uI_R, m_uI_L, m_uI_I, m_uL_K, m_uL_N, m_uL_R, m_uL_I, m_uL_L, m_uR_K, m_uR_N, m_uR_I, m_uR_L, m_uR_R, true_and, and_true, true_implies, false_implies, not_true_eq_false, not_false_eq_true, if_true, if_false, false_and, and_false]
    · have e : am_tab (-4) [44, 42, 37, 32] 46 (-2) = 37 := by decide
      have el : ldD (inX (-2)) (p % 16, p / 16, h, dp) = ((p / 16 : Nat) : Int) := rfl
      rw [el, zI_n]
      simp +decide only [qX0_partOf, e, e1, e2, am_w1_i, am_w1_r, am_w1_x, am_w1_l, am_w1_w, va_rf_s, am_push_n, am_push_s, am_cs_0, am_cs_i, am_cs_l, am_cs_r, m_uI_K, m_uI_N, m_uI_R, m_uI_L, m_uI_I, m_uL_K, m_uL_N, m_uL_R, m_uL_I, m_uL_L, m_uR_K, m_uR_N, m_uR_I, m_uR_L, m_uR_R, true_and, and_true, true_implies, false_implies, not_true_eq_false, not_false_eq_true, if_true, if_false, false_and, and_false]
    · have e : am_tab (-4) [44, 42, 37, 32] 46 (-3) = 42 := by decide
      have el : ldD (inX (-3)) (p % 16, p / 16, h, dp) = (h : Int) := rfl
      rw [el, zI_n]
      simp +decide only [qX0_partOf, e, am_w1_i, am_w1_r, am_w1_x, am_w1_l, am_w1_w, va_rf_s, am_push_n, am_push_s, am_cs_0, am_cs_i, am_cs_l, am_cs_r, m_uI_K, m_uI_N, m_uI_R, m_uI_L, m_uI_I, m_uL_K, m_uL_N, m_uL_R, m_uL_I, m_uL_L, m_uR_K, m_uR_N, m_uR_I, m_uR_L, m_uR_R, true_and, and_true, true_implies, false_implies, not_true_eq_false, not_false_eq_true, if_true, if_false, false_and, and_false]
    · have e : am_tab (-4) [44, 42, 37, 32] 46 (-4) = 44 := by decide
      have el : ldD (inX (-4)) (p % 16, p / 16, h, dp) = (dp : Int) := rfl
      rw [el, zI_n]
      simp +decide only [qX0_partOf, e, am_w1_i, am_w1_r, am_w1_x, am_w1_l, am_w1_w, va_rf_s, am_push_n, am_push_s, am_cs_0, am_cs_i, am_cs_l, am_cs_r, m_uI_K, m_uI_N, m_uI_R, m_uI_L, m_uI_I, m_uL_K, m_uL_N, m_uL_R, m_uL_I, m_uL_L, m_uR_K, m_uR_N, m_uR_I, m_uR_L, m_uR_R, true_and, and_true, true_implies, false_implies, not_true_eq_false, not_false_eq_true, if_true, if_false, false_and, and_false]
/-- the heap of numbers -/
def PlX (M : am_M) (a : Nat) (e : Env) : List Den → Prop
  | [] => True
  | v :: r => mI M a r.length = zI (v e) ∧ PlX M a e r
theorem PlX_u {M M' : am_M} {a : Nat} {e : Env} : ∀ vs : List Den, (∀ j, j < vs.length → mI M' a j = mI M a j) → PlX M a e vs → PlX M' a e vs := by
  intro vs
  induction vs with
  | nil => intro _ _; trivial
  | cons v r ih =>
    intro h h1
    rw [List.length_cons] at h
    exact ⟨by rw [h _ (by omega)]; exact h1.1, ih (fun j hj => h j (by omega)) h1.2⟩
def insX (M : am_M) (z k : Nat) : Nat × Int := inX (mI M (z + 7) k)
def sPl (z a _j : Nat) : Prop := a = z + 8
theorem lim_mm (x : Int) : max (-1000000) (min 1000000 x) = lim x := by
  unfold lim
  by_cases h1 : 1000000 < x
  · rw [if_pos h1]; omega
  · rw [if_neg h1]
    by_cases h2 : x < -1000000
    · rw [if_pos h2]; omega
    · rw [if_neg h2]; omega
theorem l_x_value (d z a m p h dp : Nat) (v : Den) (M0 : am_M) (Q : Option Value → am_M → Prop) (x1 : Int32) (hL : Lay M0) (hz : z = 2 ∨ z = 83) (ham : a + m ≤ 1800) (hp : p < 256) (hh : h ≤ 1000) (hdp : dp ≤ 1000) (hw : wfD 64 (insX M0 z) a m) (hc : cdD (insX M0 z) a m = [v])
    (hQ : ∀ M', oS (sPl z) M0 M' → Q (some (.int (zI (v (p % 16, p / 16, h, dp))))) M') :
    ∀ (r j : Nat), j + r = m → ∀ (M : am_M) (v8 v9 v10 : Value), oS (sPl z) M0 M → PlX M (z + 8) (p % 16, p / 16, h, dp) (cdD (insX M0 z) a j) → am_P am_P0 (d + 2) (am_look tX0_valueOf) 6 [.ref (z + 6), .int x1, .int (nI (a + m)), .int (nI p), .int (nI h), .int (nI dp), .int (nI (cdD (insX M0 z) a j).length), .int (nI (a + j)), v8, v9, v10] [] M Q := by
  obtain ⟨e, hee⟩ : ∃ e : Env, e = (p % 16, p / 16, h, dp) := ⟨_, rfl⟩
  have heok : eOK e := by rw [hee]; exact ⟨by show p % 16 ≤ 1000; omega, by show p / 16 ≤ 1000; omega, hh, hdp⟩
  intro r
  induction r with
  | zero =>
    intro j hj M v8 v9 v10 hM hP
    have ej : j = m := by omega
    subst ej
    have hLM := oS_Lay hM hL
    have h0 := hQ M hM
    rw [hc] at hP ⊢
    have hP1 : mI M (z + 8) 0 = zI (v (p % 16, p / 16, h, dp)) := hP.1
    have hle : nI (a + j) ≤ nI (a + j) := (ni_le (by omega) (by omega)).mpr (Nat.le_refl _)
    have e1 : nI ([v] : List Den).length = 1 := rfl
    have e2 : (1 : Int32) - 1 = nI 0 := rfl
    rw [hX0_valueOf_6]
    simp +decide (disch := omega) only [qX0_valueOf_0, qX0_valueOf_1, qX0_valueOf_2, lz hLM hz, e1, e2, hP1, ni_in_t, ni_tn, am_w1_i, am_w1_r, am_w1_x, am_w1_l, am_w1_w, va_rf_s, am_push_n, am_push_s, am_cs_0, am_cs_i, am_cs_l, am_cs_r, m_uI_K, m_uI_N, m_uI_R, m_uI_L, m_uI_I, m_uL_K, m_uL_N, m_uL_R, m_uL_I, m_uL_L, m_uR_K, m_uR_N, m_uR_I, m_uR_L, m_uR_R, true_and, and_true, true_implies, false_implies, not_true_eq_false, not_false_eq_true, if_true, if_false, false_and, and_false]
    rw [br_p hle]
    exact h0
  | succ r ih =>
    intro j hj M v8 v9 v10 hM hP
    have hLM := oS_Lay hM hL
    have hlt : ¬ nI (a + m) ≤ nI (a + j) := by rw [ni_le (by omega) (by omega)]; omega
    have hok := hw j (by omega)
    have hlen := cdD_len (lm := 64) (ins := insX M0 z) (a := a) (m := j) (fun i hi => hw i (by omega))
    have hst : cdD (insX M0 z) a (j + 1) = stD (insX M0 z (a + j)) (cdD (insX M0 z) a j) := rfl
    have hx : mI M (z + 7) (a + j) = mI M0 (z + 7) (a + j) := hM.1 _ _ (by unfold sPl; omega)
    obtain ⟨x, hxe⟩ : ∃ x, x = mI M0 (z + 7) (a + j) := ⟨_, rfl⟩
    have hin : insX M0 z (a + j) = inX x := by rw [hxe]; rfl
    rw [hin] at hok hst
    rw [← hxe] at hx
    have hIH := ih (j + 1) (by omega)
    rw [hst] at hIH
    obtain ⟨vs, hvs⟩ : ∃ vs, vs = cdD (insX M0 z) a j := ⟨_, rfl⟩
    rw [← hvs] at hP hlen hok hIH ⊢
    have mk : ∀ (M' : am_M), (∀ a' j', ¬ a' = z + 8 → mI M' a' j' = mI M a' j') → (∀ a' j', mL M' a' j' = mL M a' j') → (∀ a' j', mR M' a' j' = mR M a' j') → mS M' = mS M → oS (sPl z) M0 M' := fun M' q1 q2 q3 q4 => oS_trans hM ⟨fun a' j' q => q1 a' j' q, q2, q3, q4⟩
    by_cases c1 : (inX x).1 < 10
    · have hxl := inX_leaf c1
      have hn : ¬ x < -4 := by rw [lt32]; show ¬ x.toInt < -4; omega
      have hvl := (hok.1 c1).1
      have ht : nI vs.length < 64 := by rw [show (64 : Int32) = nI 64 from rfl, ni_lt (by omega) (by omega)]; exact hvl
      have hpt := fun Q => c_x_partOf (d + 1) p h dp x M Q hxl hp
      have est : stD (inX x) vs = ldD (inX x) :: vs := if_pos c1
      rw [est] at hIH
      rw [hX0_valueOf_6]
      simp +decide (disch := omega) only [qX0_valueOf_0, qX0_valueOf_1, qX0_valueOf_2, lz hLM hz, hx, hpt, ni_in_t, ni_tn, ni_add1, am_w1_i, am_w1_r, am_w1_x, am_w1_l, am_w1_w, va_rf_s, am_push_n, am_push_s, am_cs_0, am_cs_i, am_cs_l, am_cs_r, m_uI_K, m_uI_N, m_uI_R, m_uI_L, m_uI_I, m_uL_K, m_uL_N, m_uL_R, m_uL_I, m_uL_L, m_uR_K, m_uR_N, m_uR_I, m_uR_L, m_uR_R, true_and, and_true, true_implies, false_implies, not_true_eq_false, not_false_eq_true, if_true, if_false, false_and, and_false]
      rw [br_n hlt, br_n hn, br_p ht]
      refine hIH _ _ _ _ (mk _ (fun a' j' q => by rw [m_uI_I, if_neg (fun z => q z.1)]) (fun _ _ => rfl) (fun _ _ => rfl) rfl) ⟨?_, PlX_u vs (fun j' hj' => ?_) hP⟩
      · rw [m_uI_I, if_pos ⟨rfl, rfl⟩]
      · rw [m_uI_I, if_neg (by omega)]
    · by_cases c2 : (inX x).1 = 22
      · have hx5 := inX_not c2
        obtain ⟨w, r', hvw, hbt⟩ := hok.2.1 c2
        have e5 : x = -5 := Int32.toInt_inj.mp (hx5.trans rfl)
        have est : stD (inX x) vs = ntD w :: r' := by
          unfold stD appD
          rw [if_neg c1, if_pos c2, hvw]
        rw [est] at hIH
        rw [hvw] at hP hlen ⊢
        have hl1 : r'.length < 64 := by simp at hlen; omega
        rw [List.length_cons] at hIH ⊢
        have hPw : mI M (z + 8) r'.length = zI (w (p % 16, p / 16, h, dp)) := hP.1
        have ht : (1 : Int32) ≤ nI (r'.length + 1) := by rw [show (1 : Int32) = nI 1 from rfl, ni_le (by omega) (by omega)]; omega
        have e1 : (1 : Int32) - zI (w (p % 16, p / 16, h, dp)) = zI (ntD w (p % 16, p / 16, h, dp)) := zI_sub 1 _
        rw [hX0_valueOf_6]
        simp +decide (disch := omega) only [qX0_valueOf_0, qX0_valueOf_1, qX0_valueOf_2, lz hLM hz, hx, e5, ni_sub1, hPw, e1, ni_in_t, ni_tn, ni_add1, am_w1_i, am_w1_r, am_w1_x, am_w1_l, am_w1_w, va_rf_s, am_push_n, am_push_s, am_cs_0, am_cs_i, am_cs_l, am_cs_r, m_uI_K, m_uI_N, m_uI_R, m_uI_L, m_uI_I, m_uL_K, m_uL_N, m_uL_R, m_uL_I, m_uL_L, m_uR_K, m_uR_N, m_uR_I, m_uR_L, m_uR_R, true_and, and_true, true_implies, false_implies, not_true_eq_false, not_false_eq_true, if_true, if_false, false_and, and_false]
        rw [br_n hlt, br_p ht]
        refine hIH _ _ _ _ (mk _ (fun a' j' q => by rw [m_uI_I, if_neg (fun z => q z.1)]) (fun _ _ => rfl) (fun _ _ => rfl) rfl) ⟨?_, PlX_u r' (fun j' hj' => ?_) hP.2⟩
        · rw [m_uI_I, if_pos ⟨rfl, rfl⟩]
        · rw [m_uI_I, if_neg (by omega)]
      · have h22 := hok.2.2.2.2
        obtain ⟨hxo, hx5⟩ := inX_op (x := x) (by omega) (by omega)
        have two : ∃ w u r', vs = w :: u :: r' ∧ (bdS u ∧ bdS w) ∧ ((inX x).1 = 20 ∨ (inX x).1 = 21 → bdT u ∧ bdT w) := by
          by_cases c3 : (inX x).1 ≤ 19
          · obtain ⟨w, u, r', q1, q2, q3⟩ := hok.2.2.1 (by omega) c3
            exact ⟨w, u, r', q1, ⟨q2, q3⟩, fun q => by omega⟩
          · obtain ⟨w, u, r', q1, q2, q3⟩ := hok.2.2.2.1 (by omega)
            exact ⟨w, u, r', q1, ⟨bdT_S q2, bdT_S q3⟩, fun _ => ⟨q2, q3⟩⟩
        obtain ⟨w, u, r', hvw, ⟨bu, bw⟩, h01⟩ := two
        have est : stD (inX x) vs = jnD (inX x).1 u w :: r' := by
          unfold stD appD
          rw [if_neg c1, if_neg c2, hvw]
        rw [est] at hIH
        rw [hvw] at hP hlen ⊢
        have hl1 : r'.length + 1 < 64 := by simp at hlen; omega
        rw [List.length_cons, List.length_cons] at ⊢
        rw [List.length_cons] at hIH
        have hPw : mI M (z + 8) (r'.length + 1) = zI (w e) := by rw [hee]; exact hP.1
        have hPu : mI M (z + 8) r'.length = zI (u e) := by rw [hee]; exact hP.2.1
        have bu' := bu e heok
        have bw' := bw e heok
        have hj := jx_lim (op := (inX x).1) (a := u e) (b := w e) (by omega) (by omega) bu'.1 bu'.2 bw'.1 bw'.2 (fun q => ⟨(h01 q).1 e, (h01 q).2 e⟩)
        have hjo := fun Q => c_x_joined d (inX x).1 (u e) (w e) M Q (by omega) (by omega) bu'.1 bu'.2 bw'.1 bw'.2 (fun q => ⟨(h01 q).1 e, (h01 q).2 e⟩)
        rw [← hxo] at hjo
        have ht : (2 : Int32) ≤ nI (r'.length + 1 + 1) := by rw [show (2 : Int32) = nI 2 from rfl, ni_le (by omega) (by omega)]; omega
        have hn : x < -4 := by rw [lt32]; show x.toInt < -4; omega
        have hn5 : ¬ x = -5 := fun q => by rw [q] at hx5; exact absurd hx5 (by decide)
        have hmi := fun Q => c_minL (d + 1) 1000000 (jx (inX x).1 (u e) (w e)) M Q (by unfold sm_; omega) hj.2.1
        have hma := fun Q => c_maxL (d + 1) (-1000000) (min 1000000 (jx (inX x).1 (u e) (w e))) M Q (by unfold sm_; omega) (by have := hj.2.1; unfold sm_ at this ⊢; omega)
        rw [lim_mm, hj.1] at hma
        have zl := zLI (x := jn (inX x).1 (u e) (w e)) (by omega) (by omega)
        have zu := zIL (x := u e) (by omega) (by omega)
        have zw := zIL (x := w e) (by omega) (by omega)
        rw [hX0_valueOf_6]
        simp +decide (disch := omega) only [qX0_valueOf_0, qX0_valueOf_1, qX0_valueOf_2, lz hLM hz, hx, ni_sub1, ni_dec, hPw, hPu, zu, zw, hjo, show (1000000 : Int64) = zL 1000000 from rfl, show -zL 1000000 = zL (-1000000) from rfl, hmi, hma, zl, ni_in_t, ni_tn, ni_add1, am_w1_i, am_w1_r, am_w1_x, am_w1_l, am_w1_w, va_rf_s, am_push_n, am_push_s, am_cs_0, am_cs_i, am_cs_l, am_cs_r, m_uI_K, m_uI_N, m_uI_R, m_uI_L, m_uI_I, m_uL_K, m_uL_N, m_uL_R, m_uL_I, m_uL_L, m_uR_K, m_uR_N, m_uR_I, m_uR_L, m_uR_R, true_and, and_true, true_implies, false_implies, not_true_eq_false, not_false_eq_true, if_true, if_false, false_and, and_false]
        rw [br_n hlt, br_p hn, br_p hn5, br_p ht]
        refine hIH (uI M (z + 8) r'.length (zI (jn (inX x).1 (u e) (w e)))) _ _ _ (mk _ (fun a' j' q => by rw [m_uI_I, if_neg (fun z => q z.1)]) (fun _ _ => rfl) (fun _ _ => rfl) rfl) ⟨?_, PlX_u r' (fun j' hj' => ?_) hP.2.2⟩
        · rw [m_uI_I, if_pos ⟨rfl, rfl⟩, ← hee]; rfl
        · rw [m_uI_I, if_neg (by omega)]
theorem c_x_valueOf (d z a b p h dp : Nat) (v : Den) (M : am_M) (Q : Option Value → am_M → Prop) (hL : Lay M) (hz : z = 2 ∨ z = 83) (hab : a ≤ b) (hb : b ≤ 1800) (hp : p < 256) (hh : h ≤ 1000) (hdp : dp ≤ 1000) (hw : wfD 64 (insX M z) a (b - a)) (hc : cdD (insX M z) a (b - a) = [v])
    (hQ : ∀ M', oS (sPl z) M M' → Q (some (.int (zI (v (p % 16, p / 16, h, dp))))) M') : am_E am_P0 (d + 2) 2 [.ref (z + 6), .int (nI a), .int (nI b), .int (nI p), .int (nI h), .int (nI dp)] M Q := by
  have h0 := l_x_value d z a (b - a) p h dp v M Q (nI a) hL hz (by omega) hp hh hdp hw hc hQ (b - a) 0 (by omega) M am_x am_x am_x (oS_refl _ _) trivial
  have e : a + (b - a) = b := by omega
  rw [e] at h0
  rw [eX0_valueOf]
  simp +decide only [qX0_valueOf_0, qX0_valueOf_1, qX0_valueOf_2, am_w1_i, am_w1_r, am_w1_x, am_w1_l, am_w1_w, va_rf_s, am_push_n, am_push_s, am_cs_0, am_cs_i, am_cs_l, am_cs_r, m_uI_K, m_uI_N, m_uI_R, m_uI_L, m_uI_I, m_uL_K, m_uL_N, m_uL_R, m_uL_I, m_uL_L, m_uR_K, m_uR_N, m_uR_I, m_uR_L, m_uR_R, true_and, and_true, true_implies, false_implies, not_true_eq_false, not_false_eq_true, if_true, if_false, false_and, and_false]
  exact h0
/-- rules of a sea: q is the cell that holds them -/
def RlX (M : am_M) (z q : Nat) (sm : Bool) (R : List (Den × Den)) : Prop := mI M q 0 = nI R.length ∧ R.length ≤ 12 ∧ ∀ k r, R[k]? = some r → ∃ s0 s1 s2, s0 ≤ s1 ∧ s1 ≤ s2 ∧ s2 ≤ 1800 ∧ mI M (q + 1) k = nI s0 ∧ mI M (q + 2) k = nI s1 ∧ mI M (q + 3) k = nI s2 ∧ wfD 64 (insX M z) s1 (s2 - s1) ∧ cdD (insX M z) s1 (s2 - s1) = [r.2] ∧ bdT r.2 ∧ (sm = true → wfD 64 (insX M z) s0 (s1 - s0) ∧ cdD (insX M z) s0 (s1 - s0) = [r.1] ∧ bdS r.1)
theorem RlX_u {M M' : am_M} {z q : Nat} {sm : Bool} {R : List (Den × Den)} (h : RlX M z q sm R) (h1 : ∀ j, mI M' q j = mI M q j) (h2 : ∀ j, mI M' (q + 1) j = mI M (q + 1) j) (h3 : ∀ j, mI M' (q + 2) j = mI M (q + 2) j) (h4 : ∀ j, mI M' (q + 3) j = mI M (q + 3) j) (h5 : ∀ j, mI M' (z + 7) j = mI M (z + 7) j) : RlX M' z q sm R := by
  have e : insX M' z = insX M z := funext fun k => by unfold insX; rw [h5]
  obtain ⟨a1, a2, a3⟩ := h
  refine ⟨by rw [h1]; exact a1, a2, fun k r hr => ?_⟩
  obtain ⟨s0, s1, s2, b1, b2, b3, b4, b5, b6, b7⟩ := a3 k r hr
  rw [e]
  exact ⟨s0, s1, s2, b1, b2, b3, by rw [h2]; exact b4, by rw [h3]; exact b5, by rw [h4]; exact b6, b7⟩
theorem fstR_at {R : List (Den × Den)} {e : Env} {k : Nat} {r : Den × Den} (hk : R[k]? = some r) (h0 : ∀ j r', j < k → R[j]? = some r' → r'.2 e = 0) (h1 : ¬ r.2 e = 0) : fstR R e = some r := by
  unfold fstR
  rw [List.find?_eq_some_iff_getElem]
  obtain ⟨hl, hr⟩ := List.getElem?_eq_some_iff.mp hk
  refine ⟨by simpa using h1, k, hl, hr, fun j hj => ?_⟩
  have := h0 j _ hj (List.getElem?_eq_getElem (by omega))
  simpa using this
theorem fstR_no {R : List (Den × Den)} {e : Env} (h0 : ∀ (j : Nat) (r' : Den × Den), R[j]? = some r' → r'.2 e = 0) : fstR R e = none := by
  unfold fstR
  rw [List.find?_eq_none]
  intro r hr
  obtain ⟨j, hj⟩ := List.mem_iff_getElem?.mp hr
  simpa using h0 j r hj
def isRl (z q : Nat) (sm : Bool) : Prop := ((q = z + 9 ∨ q = z + 13) ∧ sm = true) ∨ (q = z + 17 ∧ sm = false)
theorem l_x_first (d z q p h dp N : Nat) (sm : Bool) (R : List (Den × Den)) (M0 : am_M) (Q : Option Value → am_M → Prop) (hL : Lay M0) (hz : z = 2 ∨ z = 83) (hq : q = z + 9 ∨ q = z + 13 ∨ q = z + 17) (hN : R.length ≤ N) (hN2 : N = if q = z + 17 then 6 else 12) (hp : p < 256) (hh : h ≤ 1000) (hdp : dp ≤ 1000)
    (hY : ∀ M' k r, oS (sPl z) M0 M' → R[k]? = some r → fstR R (p % 16, p / 16, h, dp) = some r → Q (some (.int (nI k))) M')
    (hNo : ∀ M', oS (sPl z) M0 M' → fstR R (p % 16, p / 16, h, dp) = none → Q (some (.int (-1))) M') :
    ∀ (m k : Nat), k + m = R.length → ∀ (M : am_M), oS (sPl z) M0 M → RlX M z q sm R → (∀ j r', j < k → R[j]? = some r' → r'.2 (p % 16, p / 16, h, dp) = 0) → am_P am_P0 (d + 3) (am_look tX4_firstHolding) 3 [.ref q, .ref (z + 6), .int (nI p), .int (nI h), .int (nI dp), .int (nI k)] [] M Q := by
  intro m
  induction m with
  | zero =>
    intro k hk M hM hR h0
    have hLM := oS_Lay hM hL
    have e : k = R.length := by omega
    subst e
    have h12 := hR.2.1
    have hle : nI R.length ≤ nI R.length := (ni_le (by omega) (by omega)).mpr (Nat.le_refl _)
    have hf := hNo M hM (fstR_no (fun j r' hj => h0 j r' (List.getElem?_eq_some_iff.mp hj).1 hj))
    have hR1 := hR.1
    rw [hX4_firstHolding_3]
    rcases hq with rfl | rfl | rfl <;> simp +decide only [qX4_firstHolding, lz hLM hz, hR1, am_w1_i, am_w1_r, am_w1_x, am_w1_l, am_w1_w, va_rf_s, am_push_n, am_push_s, am_cs_0, am_cs_i, am_cs_l, am_cs_r, m_uI_K, m_uI_N, m_uI_R, m_uI_L, m_uI_I, m_uL_K, m_uL_N, m_uL_R, m_uL_I, m_uL_L, m_uR_K, m_uR_N, m_uR_I, m_uR_L, m_uR_R, true_and, and_true, true_implies, false_implies, not_true_eq_false, not_false_eq_true, if_true, if_false, false_and, and_false] <;> rw [br_p hle] <;> exact hf
  | succ m ih =>
    intro k hk M hM hR h0
    have hLM := oS_Lay hM hL
    have h12 := hR.2.1
    have hlt : ¬ nI R.length ≤ nI k := by rw [ni_le (by omega) (by omega)]; omega
    obtain ⟨r, hr⟩ : ∃ r, R[k]? = some r := ⟨R[k]'(by omega), List.getElem?_eq_getElem (by omega)⟩
    obtain ⟨s0, s1, s2, b1, b2, b3, b4, b5, b6, b7, b8, b9, -⟩ := hR.2.2 k r hr
    have hR1 := hR.1
    have goal : am_E am_P0 (d + 2) 2 [.ref (z + 6), .int (nI s1), .int (nI s2), .int (nI p), .int (nI h), .int (nI dp)] M (fun r M2 => am_P am_P0 (d + 3) (am_look tX4_firstHolding) 34 [.ref q, .ref (z + 6), .int (nI p), .int (nI h), .int (nI dp), .int (nI k)] (am_push r []) M2 Q) := by
      refine c_x_valueOf d z s1 s2 p h dp r.2 M _ hLM hz b2 b3 hp hh hdp b7 b8 (fun M1 g1 => ?_)
      have hM1 := oS_trans hM g1
      have hR1 : RlX M1 z q sm R := RlX_u hR (fun j => g1.1 _ _ (by unfold sPl; omega)) (fun j => g1.1 _ _ (by unfold sPl; omega)) (fun j => g1.1 _ _ (by unfold sPl; omega)) (fun j => g1.1 _ _ (by unfold sPl; omega)) (fun j => g1.1 _ _ (by unfold sPl; omega))
      simp +decide only [qX4_firstHolding, ni_add1, am_w1_i, am_w1_r, am_w1_x, am_w1_l, am_w1_w, va_rf_s, am_push_n, am_push_s, am_cs_0, am_cs_i, am_cs_l, am_cs_r, m_uI_K, m_uI_N, m_uI_R, m_uI_L, m_uI_I, m_uL_K, m_uL_N, m_uL_R, m_uL_I, m_uL_L, m_uR_K, m_uR_N, m_uR_I, m_uR_L, m_uR_R, true_and, and_true, true_implies, false_implies, not_true_eq_false, not_false_eq_true, if_true, if_false, false_and, and_false]
      by_cases c : r.2 (p % 16, p / 16, h, dp) = 0
      · rw [br_p (by rw [c]; rfl)]
        refine ih (k + 1) (by omega) M1 hM1 hR1 (fun j r' hj hr' => ?_)
        by_cases e : j = k
        · subst e; cases hr.symm.trans hr'; exact c
        · exact h0 j r' (by omega) hr'
      · have c1 : r.2 (p % 16, p / 16, h, dp) = 1 := (b9 _).resolve_left c
        rw [br_n (by rw [c1]; decide)]
        exact hY M1 k r hM1 hr (fstR_at hr h0 c)
    have hkN : k < N := by omega
    rw [hX4_firstHolding_3]
    rcases hq with rfl | rfl | rfl
    · have e12 : N = 12 := by rw [hN2, if_neg (by omega)]
      simp +decide (disch := omega) only [qX4_firstHolding, lz hLM hz, hR1, b5, b6, ni_in_t, ni_tn, am_w1_i, am_w1_r, am_w1_x, am_w1_l, am_w1_w, va_rf_s, am_push_n, am_push_s, am_cs_0, am_cs_i, am_cs_l, am_cs_r, m_uI_K, m_uI_N, m_uI_R, m_uI_L, m_uI_I, m_uL_K, m_uL_N, m_uL_R, m_uL_I, m_uL_L, m_uR_K, m_uR_N, m_uR_I, m_uR_L, m_uR_R, true_and, and_true, true_implies, false_implies, not_true_eq_false, not_false_eq_true, if_true, if_false, false_and, and_false, Nat.add_assoc] at goal b5 b6 ⊢
      rw [br_n hlt]
      exact goal
    · have e12 : N = 12 := by rw [hN2, if_neg (by omega)]
      simp +decide (disch := omega) only [qX4_firstHolding, lz hLM hz, hR1, b5, b6, ni_in_t, ni_tn, am_w1_i, am_w1_r, am_w1_x, am_w1_l, am_w1_w, va_rf_s, am_push_n, am_push_s, am_cs_0, am_cs_i, am_cs_l, am_cs_r, m_uI_K, m_uI_N, m_uI_R, m_uI_L, m_uI_I, m_uL_K, m_uL_N, m_uL_R, m_uL_I, m_uL_L, m_uR_K, m_uR_N, m_uR_I, m_uR_L, m_uR_R, true_and, and_true, true_implies, false_implies, not_true_eq_false, not_false_eq_true, if_true, if_false, false_and, and_false, Nat.add_assoc] at goal b5 b6 ⊢
      rw [br_n hlt]
      exact goal
    · have e12 : N = 6 := by rw [hN2, if_pos rfl]
      simp +decide (disch := omega) only [qX4_firstHolding, lz hLM hz, hR1, b5, b6, ni_in_t, ni_tn, am_w1_i, am_w1_r, am_w1_x, am_w1_l, am_w1_w, va_rf_s, am_push_n, am_push_s, am_cs_0, am_cs_i, am_cs_l, am_cs_r, m_uI_K, m_uI_N, m_uI_R, m_uI_L, m_uI_I, m_uL_K, m_uL_N, m_uL_R, m_uL_I, m_uL_L, m_uR_K, m_uR_N, m_uR_I, m_uR_L, m_uR_R, true_and, and_true, true_implies, false_implies, not_true_eq_false, not_false_eq_true, if_true, if_false, false_and, and_false, Nat.add_assoc] at goal b5 b6 ⊢
      rw [br_n hlt]
      exact goal
