/-! the model: what sums and tests come to -/
theorem m_bounded (d : Nat) (x : Int) (M : am_M) (Q : Option Value → am_M → Prop) (h : sm_ x) : am_E am_P0 d 210 [.long (zL x)] M Q ↔ Q (some (.long (zL (lim x)))) M := by
  have h1 : lg_cmp (zL x) 1000000 = t3 x 1000000 := by rw [show (1000000 : Int64) = zL 1000000 from rfl]; exact lgc_z h (by unfold sm_; omega)
  have h2 : lg_cmp (zL x) (-1000000) = t3 x (-1000000) := by rw [show (-1000000 : Int64) = zL (-1000000) from rfl]; exact lgc_z h (by unfold sm_; omega)
  rw [eX11_bounded]
  simp +decide only [qX11_bounded, h1, h2, t3_z, t3_n, t3_p, t3_np, t3_nn, am_w1_i, am_w1_r, am_w1_x, am_w1_l, am_w1_w, va_rf_s, am_push_n, am_push_s, am_cs_0, am_cs_i, am_cs_l, am_cs_r, m_uI_K, m_uI_N, m_uI_R, m_uI_L, m_uI_I, m_uL_K, m_uL_N, m_uL_R, m_uL_I, m_uL_L, m_uR_K, m_uR_N, m_uR_I, m_uR_L, m_uR_R, true_and, and_true, true_implies, false_implies, not_true_eq_false, not_false_eq_true, if_true, if_false, false_and, and_false]
  unfold lim
  by_cases c : x ≤ 1000000
  · rw [br_p c, if_neg (by omega)]
    by_cases c2 : -1000000 ≤ x
    · rw [br_p c2, if_neg (by omega)]
    · rw [br_n c2, if_pos (by omega)]; exact Iff.rfl
  · rw [br_n c, if_pos (by omega)]; exact Iff.rfl
theorem m_over (d : Nat) (a b : Int) (M : am_M) (Q : Option Value → am_M → Prop) (a1 : -1000000 ≤ a) (a2 : a ≤ 1000000) (b1 : -1000000 ≤ b) (b2 : b ≤ 1000000) : am_E am_P0 d 211 [.long (zL a), .long (zL b)] M Q ↔ Q (some (.long (zL (if b = 0 then 0 else a.fdiv b)))) M := by
  have s1 := sm_6 a1 a2
  have s2 := sm_6 b1 b2
  have t := tdv_bd (b := b) a1 a2
  have tm := tmd_bd (b := b) a1 a2
  have h0 : sm_ 0 := by unfold sm_; omega
  have c1 : lg_cmp (zL b) 0 = t3 b 0 := lgc_z (b := 0) s2 h0
  have c2 : lg_cmp (zL a) 0 = t3 a 0 := lgc_z (b := 0) s1 h0
  have c3 : lg_cmp (zL (a.tmod b)) 0 = t3 (a.tmod b) 0 := lgc_z (b := 0) (sm_6 tm.1 tm.2) h0
  rw [eX11_over]
  by_cases hb : b = 0
  · subst hb
    have c1' : lg_cmp (zL 0) 0 = 0 := by decide
    simp +decide only [qX11_over, c1', am_w1_i, am_w1_r, am_w1_x, am_w1_l, am_w1_w, va_rf_s, am_push_n, am_push_s, am_cs_0, am_cs_i, am_cs_l, am_cs_r, m_uI_K, m_uI_N, m_uI_R, m_uI_L, m_uI_I, m_uL_K, m_uL_N, m_uL_R, m_uL_I, m_uL_L, m_uR_K, m_uR_N, m_uR_I, m_uR_L, m_uR_R, true_and, and_true, true_implies, false_implies, not_true_eq_false, not_false_eq_true, if_true, if_false, false_and, and_false]
    exact Iff.rfl
  · have hb0 : ¬ zL b = 0 := fun q => hb ((zL_eq s2 (b := 0) h0).mp q)
    rw [if_neg hb, fdiv_t hb]
    simp +decide only [qX11_over, zL_div s1 s2, zL_mul, hb0, show (1 : Int64) = zL 1 from rfl, zL_sub, tdm, c1, c2, c3, t3_z, t3_n, t3_p, t3_np, t3_nn, am_w1_i, am_w1_r, am_w1_x, am_w1_l, am_w1_w, va_rf_s, am_push_n, am_push_s, am_cs_0, am_cs_i, am_cs_l, am_cs_r, m_uI_K, m_uI_N, m_uI_R, m_uI_L, m_uI_I, m_uL_K, m_uL_N, m_uL_R, m_uL_I, m_uL_L, m_uR_K, m_uR_N, m_uR_I, m_uR_L, m_uR_R, true_and, and_true, true_implies, false_implies, not_true_eq_false, not_false_eq_true, if_true, if_false, false_and, and_false]
    rw [br_p hb]
    by_cases cm : a.tmod b = 0
    · rw [br_p cm, if_neg (fun q => q.2 (tdv_0.mp cm))]
    · rw [br_n cm]
      by_cases ca : 0 ≤ a
      · rw [br_p ca]
        by_cases cb : 0 ≤ b
        · rw [br_p cb, if_neg (fun q => q.1 (by omega))]
        · rw [br_n cb, if_pos ⟨by omega, fun q => cm (tdv_0.mpr q)⟩]
      · rw [br_n ca]
        by_cases cb : 0 ≤ b
        · rw [br_p cb, if_pos ⟨by omega, fun q => cm (tdv_0.mpr q)⟩]
        · rw [br_n cb, if_neg (fun q => q.1 (by omega))]
theorem m_made (d op : Nat) (a b : Int) (M : am_M) (Q : Option Value → am_M → Prop) (ho : 10 ≤ op) (h21 : op ≤ 21) (a1 : -1000000 ≤ a) (a2 : a ≤ 1000000) (b1 : -1000000 ≤ b) (b2 : b ≤ 1000000) (h01 : op = 20 ∨ op = 21 → (a = 0 ∨ a = 1) ∧ (b = 0 ∨ b = 1)) : am_E am_P0 (d + 1) 212 [.int (nI op), .long (zL a), .long (zL b)] M Q ↔ Q (some (.long (zL (jn op a b)))) M := by
  have s1 := sm_6 a1 a2
  have s2 := sm_6 b1 b2
  have h0 : sm_ 0 := by unfold sm_; omega
  have cab := lgc_z s1 s2
  have cb0 : lg_cmp (zL b) 0 = t3 b 0 := lgc_z (b := 0) s2 h0
  have sab : sm_ (a + b) := by unfold sm_; omega
  have smb : sm_ (a - b) := by unfold sm_; omega
  have sml := mul_bd a1 a2 b1 b2
  have cs0 : lg_cmp (zL (a + b)) 0 = t3 (a + b) 0 := lgc_z (b := 0) sab h0
  have ba := fun Q => m_bounded d (a + b) M Q sab
  have bs := fun Q => m_bounded d (a - b) M Q smb
  have bm := fun Q => m_bounded d (a * b) M Q sml
  have ov := fun Q => m_over d a b M Q a1 a2 b1 b2
  rw [eX11_made]
  have cs : op = 10 ∨ op = 11 ∨ op = 12 ∨ op = 13 ∨ op = 14 ∨ op = 15 ∨ op = 16 ∨ op = 17 ∨ op = 18 ∨ op = 19 ∨ op = 20 ∨ op = 21 := by omega
  have tab : ∀ k p, am_tab (10) [60, 67, 74, 81, 87, 107, 119, 131, 143, 155, 167] 171 (nI k) = p → am_tab (10) [60, 67, 74, 81, 87, 107, 119, 131, 143, 155, 167] 171 (nI k) = p := fun _ _ h => h
  rcases cs with rfl | rfl | rfl | rfl | rfl | rfl | rfl | rfl | rfl | rfl | rfl | rfl
  · have e := tab 10 60 (by decide)
    simp +decide only [qX11_made_0, qX11_made_1, qX11_made_2, e, zL_add, ba, am_w1_i, am_w1_r, am_w1_x, am_w1_l, am_w1_w, va_rf_s, am_push_n, am_push_s, am_cs_0, am_cs_i, am_cs_l, am_cs_r, m_uI_K, m_uI_N, m_uI_R, m_uI_L, m_uI_I, m_uL_K, m_uL_N, m_uL_R, m_uL_I, m_uL_L, m_uR_K, m_uR_N, m_uR_I, m_uR_L, m_uR_R, true_and, and_true, true_implies, false_implies, not_true_eq_false, not_false_eq_true, if_true, if_false, false_and, and_false]
    rw [jn_10]
  · have e := tab 11 67 (by decide)
    simp +decide only [qX11_made_0, qX11_made_1, qX11_made_2, e, zL_sub, bs, am_w1_i, am_w1_r, am_w1_x, am_w1_l, am_w1_w, va_rf_s, am_push_n, am_push_s, am_cs_0, am_cs_i, am_cs_l, am_cs_r, m_uI_K, m_uI_N, m_uI_R, m_uI_L, m_uI_I, m_uL_K, m_uL_N, m_uL_R, m_uL_I, m_uL_L, m_uR_K, m_uR_N, m_uR_I, m_uR_L, m_uR_R, true_and, and_true, true_implies, false_implies, not_true_eq_false, not_false_eq_true, if_true, if_false, false_and, and_false]
    rw [jn_11]
  · have e := tab 12 74 (by decide)
    simp +decide only [qX11_made_0, qX11_made_1, qX11_made_2, e, zL_mul, bm, am_w1_i, am_w1_r, am_w1_x, am_w1_l, am_w1_w, va_rf_s, am_push_n, am_push_s, am_cs_0, am_cs_i, am_cs_l, am_cs_r, m_uI_K, m_uI_N, m_uI_R, m_uI_L, m_uI_I, m_uL_K, m_uL_N, m_uL_R, m_uL_I, m_uL_L, m_uR_K, m_uR_N, m_uR_I, m_uR_L, m_uR_R, true_and, and_true, true_implies, false_implies, not_true_eq_false, not_false_eq_true, if_true, if_false, false_and, and_false]
    rw [jn_12]
  · have e := tab 13 81 (by decide)
    simp +decide only [qX11_made_0, qX11_made_1, qX11_made_2, e, ov, am_w1_i, am_w1_r, am_w1_x, am_w1_l, am_w1_w, va_rf_s, am_push_n, am_push_s, am_cs_0, am_cs_i, am_cs_l, am_cs_r, m_uI_K, m_uI_N, m_uI_R, m_uI_L, m_uI_I, m_uL_K, m_uL_N, m_uL_R, m_uL_I, m_uL_L, m_uR_K, m_uR_N, m_uR_I, m_uR_L, m_uR_R, true_and, and_true, true_implies, false_implies, not_true_eq_false, not_false_eq_true, if_true, if_false, false_and, and_false]
    rw [jn_13]
  · have e := tab 14 87 (by decide)
    simp +decide only [qX11_made_0, qX11_made_1, qX11_made_2, e, cb0, t3_z, ov, zL_mul, zL_sub, am_w1_i, am_w1_r, am_w1_x, am_w1_l, am_w1_w, va_rf_s, am_push_n, am_push_s, am_cs_0, am_cs_i, am_cs_l, am_cs_r, m_uI_K, m_uI_N, m_uI_R, m_uI_L, m_uI_I, m_uL_K, m_uL_N, m_uL_R, m_uL_I, m_uL_L, m_uR_K, m_uR_N, m_uR_I, m_uR_L, m_uR_R, true_and, and_true, true_implies, false_implies, not_true_eq_false, not_false_eq_true, if_true, if_false, false_and, and_false]
    rw [jn_14]
    by_cases hb : b = 0
    · rw [br_r hb, if_pos hb]; exact Iff.rfl
    · rw [br_q hb, if_neg hb, if_neg hb, Int.fmod_def]
  · have e := tab 15 107 (by decide)
    simp +decide only [qX11_made_0, qX11_made_1, qX11_made_2, e, cab, t3_z, t3_n, t3_p, t3_np, t3_nn, am_w1_i, am_w1_r, am_w1_x, am_w1_l, am_w1_w, va_rf_s, am_push_n, am_push_s, am_cs_0, am_cs_i, am_cs_l, am_cs_r, m_uI_K, m_uI_N, m_uI_R, m_uI_L, m_uI_I, m_uL_K, m_uL_N, m_uL_R, m_uL_I, m_uL_L, m_uR_K, m_uR_N, m_uR_I, m_uR_L, m_uR_R, true_and, and_true, true_implies, false_implies, not_true_eq_false, not_false_eq_true, if_true, if_false, false_and, and_false]
    rw [jn_15]
    by_cases c : b ≤ a
    · rw [br_p c, if_neg (by omega)]
    · rw [br_n c, if_pos (by omega)]
  · have e := tab 16 119 (by decide)
    simp +decide only [qX11_made_0, qX11_made_1, qX11_made_2, e, cab, t3_z, t3_n, t3_p, t3_np, t3_nn, am_w1_i, am_w1_r, am_w1_x, am_w1_l, am_w1_w, va_rf_s, am_push_n, am_push_s, am_cs_0, am_cs_i, am_cs_l, am_cs_r, m_uI_K, m_uI_N, m_uI_R, m_uI_L, m_uI_I, m_uL_K, m_uL_N, m_uL_R, m_uL_I, m_uL_L, m_uR_K, m_uR_N, m_uR_I, m_uR_L, m_uR_R, true_and, and_true, true_implies, false_implies, not_true_eq_false, not_false_eq_true, if_true, if_false, false_and, and_false]
    rw [jn_16]
    by_cases c : a ≤ b
    · rw [br_p c, if_neg (by omega)]
    · rw [br_n c, if_pos (by omega)]
  · have e := tab 17 131 (by decide)
    simp +decide only [qX11_made_0, qX11_made_1, qX11_made_2, e, cab, t3_z, t3_n, t3_p, t3_np, t3_nn, am_w1_i, am_w1_r, am_w1_x, am_w1_l, am_w1_w, va_rf_s, am_push_n, am_push_s, am_cs_0, am_cs_i, am_cs_l, am_cs_r, m_uI_K, m_uI_N, m_uI_R, m_uI_L, m_uI_I, m_uL_K, m_uL_N, m_uL_R, m_uL_I, m_uL_L, m_uR_K, m_uR_N, m_uR_I, m_uR_L, m_uR_R, true_and, and_true, true_implies, false_implies, not_true_eq_false, not_false_eq_true, if_true, if_false, false_and, and_false]
    rw [jn_17]
    by_cases c : b ≤ a
    · rw [br_p c, if_neg (by omega)]; exact Iff.rfl
    · rw [br_n c, if_pos (by omega)]; exact Iff.rfl
  · have e := tab 18 143 (by decide)
    simp +decide only [qX11_made_0, qX11_made_1, qX11_made_2, e, cab, t3_z, t3_n, t3_p, t3_np, t3_nn, am_w1_i, am_w1_r, am_w1_x, am_w1_l, am_w1_w, va_rf_s, am_push_n, am_push_s, am_cs_0, am_cs_i, am_cs_l, am_cs_r, m_uI_K, m_uI_N, m_uI_R, m_uI_L, m_uI_I, m_uL_K, m_uL_N, m_uL_R, m_uL_I, m_uL_L, m_uR_K, m_uR_N, m_uR_I, m_uR_L, m_uR_R, true_and, and_true, true_implies, false_implies, not_true_eq_false, not_false_eq_true, if_true, if_false, false_and, and_false]
    rw [jn_18]
    by_cases c : a ≤ b
    · rw [br_p c, if_neg (by omega)]; exact Iff.rfl
    · rw [br_n c, if_pos (by omega)]; exact Iff.rfl
  · have e := tab 19 155 (by decide)
    simp +decide only [qX11_made_0, qX11_made_1, qX11_made_2, e, cab, t3_z, t3_n, t3_p, t3_np, t3_nn, am_w1_i, am_w1_r, am_w1_x, am_w1_l, am_w1_w, va_rf_s, am_push_n, am_push_s, am_cs_0, am_cs_i, am_cs_l, am_cs_r, m_uI_K, m_uI_N, m_uI_R, m_uI_L, m_uI_I, m_uL_K, m_uL_N, m_uL_R, m_uL_I, m_uL_L, m_uR_K, m_uR_N, m_uR_I, m_uR_L, m_uR_R, true_and, and_true, true_implies, false_implies, not_true_eq_false, not_false_eq_true, if_true, if_false, false_and, and_false]
    rw [jn_19]
    by_cases c : a = b
    · rw [br_r c, if_pos c]; exact Iff.rfl
    · rw [br_q c, if_neg c]; exact Iff.rfl
  · have e := tab 20 167 (by decide)
    simp +decide only [qX11_made_0, qX11_made_1, qX11_made_2, e, zL_mul, am_w1_i, am_w1_r, am_w1_x, am_w1_l, am_w1_w, va_rf_s, am_push_n, am_push_s, am_cs_0, am_cs_i, am_cs_l, am_cs_r, m_uI_K, m_uI_N, m_uI_R, m_uI_L, m_uI_I, m_uL_K, m_uL_N, m_uL_R, m_uL_I, m_uL_L, m_uR_K, m_uR_N, m_uR_I, m_uR_L, m_uR_R, true_and, and_true, true_implies, false_implies, not_true_eq_false, not_false_eq_true, if_true, if_false, false_and, and_false]
    rw [jn_20']
  · have e := tab 21 171 (by decide)
    simp +decide only [qX11_made_0, qX11_made_1, qX11_made_2, e, zL_add, cs0, t3_z, t3_n, t3_p, t3_np, t3_nn, am_w1_i, am_w1_r, am_w1_x, am_w1_l, am_w1_w, va_rf_s, am_push_n, am_push_s, am_cs_0, am_cs_i, am_cs_l, am_cs_r, m_uI_K, m_uI_N, m_uI_R, m_uI_L, m_uI_I, m_uL_K, m_uL_N, m_uL_R, m_uL_I, m_uL_L, m_uR_K, m_uR_N, m_uR_I, m_uR_L, m_uR_R, true_and, and_true, true_implies, false_implies, not_true_eq_false, not_false_eq_true, if_true, if_false, false_and, and_false]
    rw [jn_21']
    by_cases c : a + b ≤ 0
    · rw [br_p c, if_neg (by omega)]; exact Iff.rfl
    · rw [br_n c, if_pos (by omega)]; exact Iff.rfl
/-- the heap of longs -/
def PlM (M : am_M) (e : Env) : List Den → Prop
  | [] => True
  | v :: r => mL M 313 r.length = zL (v e) ∧ PlM M e r
theorem PlM_u {M M' : am_M} {e : Env} : ∀ vs : List Den, (∀ j, j < vs.length → mL M' 313 j = mL M 313 j) → PlM M e vs → PlM M' e vs := by
  intro vs
  induction vs with
  | nil => intro _ _; trivial
  | cons v r ih =>
    intro h h1
    rw [List.length_cons] at h
    exact ⟨by rw [h _ (by omega)]; exact h1.1, ih (fun j hj => h j (by omega)) h1.2⟩
def MoM (M : am_M) (e : Env) : Prop := mI M 314 1 = nI e.1 ∧ mI M 314 2 = nI e.2.1 ∧ mI M 314 3 = nI e.2.2.1 ∧ mI M 314 4 = nI e.2.2.2
def sHp (a _j : Nat) : Prop := a = 313
theorem l_m_works (d z a m : Nat) (v : Den) (e : Env) (M0 : am_M) (Q : Option Value → am_M → Prop) (x1 : Int32) (hL : Lay M0) (hz : z ≤ 1) (hb : mI M0 277 12 = nI z) (ham : a + m ≤ 1800) (he : eOK e) (hMo : MoM M0 e) (hw : wfD 1850 (insM M0 z) a m) (hc : cdD (insM M0 z) a m = [v])
    (hQ : ∀ M', gF sHp nT M0 M' → Q (some (.long (zL (v e)))) M') :
    ∀ (r j : Nat), j + r = m → ∀ (M : am_M) (v5 : Value), gF sHp nT M0 M → PlM M e (cdD (insM M0 z) a j) → am_P am_P0 (d + 2) (am_look tX11_works) 14 [.ref 277, .int x1, .int (nI (a + m)), .int (nI (cdD (insM M0 z) a j).length), .int (nI (1800 * z + (a + j))), v5] [] M Q := by
  intro r
  induction r with
  | zero =>
    intro j hj M v5 hM hP
    have ej : j = m := by omega
    subst ej
    have hLM := gF_LayN hM hL
    have h0 := hQ M hM
    have hb' : mI M 277 12 = nI z := by rw [hM.1 _ _ (by unfold sHp; omega)]; exact hb
    rw [hc] at hP ⊢
    have hP1 : mL M 313 (Int32.toInt 0).toNat = zL (v e) := hP.1
    have e1 : (1800 : Int32) * nI z + nI (a + j) = nI (1800 * z + (a + j)) := by rw [show (1800 : Int32) = nI 1800 from rfl, ni_mul, ni_add]
    have hle : nI (1800 * z + (a + j)) ≤ nI (1800 * z + (a + j)) := (ni_le (by omega) (by omega)).mpr (Nat.le_refl _)
    rw [hX11_works_14]
    simp +decide (disch := omega) only [qX11_works_0, qX11_works_1, qX11_works_2, lm hLM, hb', e1, hP1, ni_in_t, ni_tn, am_w1_i, am_w1_r, am_w1_x, am_w1_l, am_w1_w, va_rf_s, am_push_n, am_push_s, am_cs_0, am_cs_i, am_cs_l, am_cs_r, m_uI_K, m_uI_N, m_uI_R, m_uI_L, m_uI_I, m_uL_K, m_uL_N, m_uL_R, m_uL_I, m_uL_L, m_uR_K, m_uR_N, m_uR_I, m_uR_L, m_uR_R, true_and, and_true, true_implies, false_implies, not_true_eq_false, not_false_eq_true, if_true, if_false, false_and, and_false]
    rw [br_p hle]
    exact h0
  | succ r ih =>
    intro j hj M v5 hM hP
    have hLM := gF_LayN hM hL
    have hb' : mI M 277 12 = nI z := by rw [hM.1 _ _ (by unfold sHp; omega)]; exact hb
    have e1 : (1800 : Int32) * nI z + nI (a + m) = nI (1800 * z + (a + m)) := by rw [show (1800 : Int32) = nI 1800 from rfl, ni_mul, ni_add]
    have hlt : ¬ nI (1800 * z + (a + m)) ≤ nI (1800 * z + (a + j)) := by rw [ni_le (by omega) (by omega)]; omega
    have hok := hw j (by omega)
    have hlen := cdD_len (lm := 1850) (ins := insM M0 z) (a := a) (m := j) (fun i hi => hw i (by omega))
    have hst : cdD (insM M0 z) a (j + 1) = stD (insM M0 z (a + j)) (cdD (insM M0 z) a j) := rfl
    have hx : mI M 304 (1800 * z + (a + j)) = mI M0 304 (1800 * z + (a + j)) := hM.1 _ _ (by unfold sHp; omega)
    have hy : mI M 305 (1800 * z + (a + j)) = mI M0 305 (1800 * z + (a + j)) := hM.1 _ _ (by unfold sHp; omega)
    have hmo : MoM M e := ⟨by rw [hM.1 _ _ (by unfold sHp; omega)]; exact hMo.1, by rw [hM.1 _ _ (by unfold sHp; omega)]; exact hMo.2.1, by rw [hM.1 _ _ (by unfold sHp; omega)]; exact hMo.2.2.1, by rw [hM.1 _ _ (by unfold sHp; omega)]; exact hMo.2.2.2⟩
    obtain ⟨x, hxe⟩ : ∃ x, x = mI M0 304 (1800 * z + (a + j)) := ⟨_, rfl⟩
    obtain ⟨y, hye⟩ : ∃ y, y = mI M0 305 (1800 * z + (a + j)) := ⟨_, rfl⟩
    have hin : insM M0 z (a + j) = (uW x, y.toInt) := by rw [hxe, hye]; rfl
    rw [hin] at hok hst
    rw [← hxe] at hx
    rw [← hye] at hy
    have hIH := ih (j + 1) (by omega)
    rw [hst] at hIH
    obtain ⟨vs, hvs⟩ : ∃ vs, vs = cdD (insM M0 z) a j := ⟨_, rfl⟩
    rw [← hvs] at hP hlen hok hIH ⊢
    have enx : 1800 * z + (a + (j + 1)) = 1800 * z + (a + j) + 1 := by omega
    rw [enx] at hIH
    have mk : ∀ (x : Int64) (i : Nat), gF sHp nT M0 (uL M 313 i x) := fun x i => gF_trans hM (gF_l _ rfl)
    obtain ⟨op, hop⟩ : ∃ op, op = uW x := ⟨_, rfl⟩
    rw [← hop] at hok hIH
    have h22 : op ≤ 22 := hok.2.2.2.2
    obtain ⟨hxn, h48⟩ := uW_i hop.symm h22
    rw [hxn] at hx
    have k9 : (9 : Int32) < nI op ↔ 9 < op := by rw [show (9 : Int32) = nI 9 from rfl, ni_lt (by omega) (by omega)]
    have kn : ∀ k, k ≤ 22 → (nI op = nI k ↔ op = k) := fun k hk => ni_eq (by omega) (by omega)
    have k0 := kn 0 (by omega)
    have k22 := kn 22 (by omega)
    have kk9 := kn 9 (by omega)
    rw [show nI 0 = (0 : Int32) from rfl] at k0
    rw [show nI 22 = (22 : Int32) from rfl] at k22
    rw [show nI 9 = (9 : Int32) from rfl] at kk9
    by_cases c1 : op < 10
    · have hvl := (hok.1 c1).1
      have est : stD (op, y.toInt) vs = ldD (op, y.toInt) :: vs := if_pos c1
      rw [est] at hIH
      have fin : ∀ (w : Int64), w = zL (ldD (op, y.toInt) e) → ∀ v5, am_P am_P0 (d + 2) (am_look tX11_works) 14 [.ref 277, .int x1, .int (nI (a + m)), .int (nI (vs.length + 1)), .int (nI (1800 * z + (a + j) + 1)), v5] [] (uL M 313 vs.length w) Q := fun w hw5 v5 => by
        refine hIH (uL M 313 vs.length w) v5 (mk _ _) ⟨?_, PlM_u vs (fun j' hj' => ?_) hP⟩
        · rw [m_uL_L, if_pos ⟨rfl, rfl⟩]; exact hw5
        · rw [m_uL_L, if_neg (by omega)]
      rw [hX11_works_14]
      simp +decide (disch := omega) only [qX11_works_0, qX11_works_1, qX11_works_2, lm hLM, hb', e1, hx, hy, ni_in_t, ni_tn, ni_add1, k9, k0, kk9, am_w1_i, am_w1_r, am_w1_x, am_w1_l, am_w1_w, va_rf_s, am_push_n, am_push_s, am_cs_0, am_cs_i, am_cs_l, am_cs_r, m_uI_K, m_uI_N, m_uI_R, m_uI_L, m_uI_I, m_uL_K, m_uL_N, m_uL_R, m_uL_I, m_uL_L, m_uR_K, m_uR_N, m_uR_I, m_uR_L, m_uR_R, true_and, and_true, true_implies, false_implies, not_true_eq_false, not_false_eq_true, if_true, if_false, false_and, and_false]
      rw [br_n hlt, br_n (by omega)]
      by_cases o0 : op = 0
      · rw [br_r o0]
        refine fin _ ?_ _
        have : ldD (op, y.toInt) e = y.toInt := by rw [o0]; rfl
        rw [this]
        rw [← Int64.toInt_inj, Int32.toInt_toInt64, zL_ti (by have := Int32.le_toInt y; omega) (by have := Int32.toInt_lt y; omega)]
      · rw [br_q o0]
        by_cases o9 : op = 9
        · rw [br_r o9]
          refine fin _ ?_ _
          rw [o9]; rfl
        · rw [br_q o9]
          have mo : ∀ k u, k ≤ 1000 → u = nI k → u.toInt64 = zL (k : Int) := fun k u hk hu => by rw [hu, ← zI_n, zIL (by omega) (by omega)]
          have e14 : 1 ≤ op ∧ op ≤ 8 := by omega
          by_cases o4 : op ≤ 4
          · refine fin _ ?_ _
            have h4 : op = 1 ∨ op = 2 ∨ op = 3 ∨ op = 4 := by omega
            rcases h4 with rfl | rfl | rfl | rfl
            · exact mo _ _ he.1 hmo.1
            · exact mo _ _ he.2.1 hmo.2.1
            · exact mo _ _ he.2.2.1 hmo.2.2.1
            · exact mo _ _ he.2.2.2 hmo.2.2.2
          · omega
    · by_cases c2 : op = 22
      · obtain ⟨w, r', hvw, hbt⟩ := hok.2.1 c2
        have est : stD (op, y.toInt) vs = ntD w :: r' := by
          unfold stD appD
          rw [if_neg c1, if_pos c2, hvw]
        rw [est] at hIH
        rw [hvw] at hP hlen ⊢
        have hl1 : r'.length < 1850 := by simp at hlen; omega
        rw [List.length_cons] at hIH ⊢
        have hPw : mL M 313 r'.length = zL (w e) := hP.1
        have e2 : (1 : Int64) - zL (w e) = zL (ntD w e) := by rw [show (1 : Int64) = zL 1 from rfl, zL_sub]; rfl
        rw [hX11_works_14]
        simp +decide (disch := omega) only [qX11_works_0, qX11_works_1, qX11_works_2, lm hLM, hb', e1, hx, ni_sub1, hPw, e2, ni_in_t, ni_tn, ni_add1, k9, k22, am_w1_i, am_w1_r, am_w1_x, am_w1_l, am_w1_w, va_rf_s, am_push_n, am_push_s, am_cs_0, am_cs_i, am_cs_l, am_cs_r, m_uI_K, m_uI_N, m_uI_R, m_uI_L, m_uI_I, m_uL_K, m_uL_N, m_uL_R, m_uL_I, m_uL_L, m_uR_K, m_uR_N, m_uR_I, m_uR_L, m_uR_R, true_and, and_true, true_implies, false_implies, not_true_eq_false, not_false_eq_true, if_true, if_false, false_and, and_false]
        rw [br_n hlt, br_p (by omega), br_r c2]
        refine hIH _ _ (mk _ _) ⟨?_, PlM_u r' (fun j' hj' => ?_) hP.2⟩
        · rw [m_uL_L, if_pos ⟨rfl, rfl⟩]
        · rw [m_uL_L, if_neg (by omega)]
      · have two : ∃ w u r', vs = w :: u :: r' ∧ (bdS u ∧ bdS w) ∧ (op = 20 ∨ op = 21 → bdT u ∧ bdT w) := by
          by_cases c3 : op ≤ 19
          · obtain ⟨w, u, r', q1, q2, q3⟩ := hok.2.2.1 (by show 10 ≤ op; omega) c3
            exact ⟨w, u, r', q1, ⟨q2, q3⟩, fun q => by omega⟩
          · obtain ⟨w, u, r', q1, q2, q3⟩ := hok.2.2.2.1 (by show op = 20 ∨ op = 21; omega)
            exact ⟨w, u, r', q1, ⟨bdT_S q2, bdT_S q3⟩, fun _ => ⟨q2, q3⟩⟩
        obtain ⟨w, u, r', hvw, ⟨bu, bw⟩, h01⟩ := two
        have est : stD (op, y.toInt) vs = jnD op u w :: r' := by
          unfold stD appD
          rw [if_neg c1, if_neg c2, hvw]
        rw [est] at hIH
        rw [hvw] at hP hlen ⊢
        have hl1 : r'.length + 1 < 1850 := by simp at hlen; omega
        rw [List.length_cons, List.length_cons] at ⊢
        rw [List.length_cons] at hIH
        have hPw : mL M 313 (r'.length + 1) = zL (w e) := hP.1
        have hPu : mL M 313 r'.length = zL (u e) := hP.2.1
        have bu' := bu e he
        have bw' := bw e he
        have hma := fun Q => m_made d op (u e) (w e) M Q (by omega) (by omega) bu'.1 bu'.2 bw'.1 bw'.2 (fun q => ⟨(h01 q).1 e, (h01 q).2 e⟩)
        rw [hX11_works_14]
        simp +decide (disch := omega) only [qX11_works_0, qX11_works_1, qX11_works_2, lm hLM, hb', e1, hx, ni_sub1, ni_dec, hPw, hPu, hma, ni_in_t, ni_tn, ni_add1, k9, k22, am_w1_i, am_w1_r, am_w1_x, am_w1_l, am_w1_w, va_rf_s, am_push_n, am_push_s, am_cs_0, am_cs_i, am_cs_l, am_cs_r, m_uI_K, m_uI_N, m_uI_R, m_uI_L, m_uI_I, m_uL_K, m_uL_N, m_uL_R, m_uL_I, m_uL_L, m_uR_K, m_uR_N, m_uR_I, m_uR_L, m_uR_R, true_and, and_true, true_implies, false_implies, not_true_eq_false, not_false_eq_true, if_true, if_false, false_and, and_false]
        rw [br_n hlt, br_p (by omega), br_q c2]
        refine hIH _ _ (mk _ _) ⟨?_, PlM_u r' (fun j' hj' => ?_) hP.2.2⟩
        · rw [m_uL_L, if_pos ⟨rfl, rfl⟩]; rfl
        · rw [m_uL_L, if_neg (by omega)]
theorem m_works (d z a b : Nat) (v : Den) (e : Env) (M : am_M) (Q : Option Value → am_M → Prop) (hL : Lay M) (hz : z ≤ 1) (hb : mI M 277 12 = nI z) (hab : a ≤ b) (hb8 : b ≤ 1800) (he : eOK e) (hMo : MoM M e) (hw : wfD 1850 (insM M z) a (b - a)) (hc : cdD (insM M z) a (b - a) = [v])
    (hQ : ∀ M', gF sHp nT M M' → Q (some (.long (zL (v e)))) M') : am_E am_P0 (d + 2) 213 [.ref 277, .int (nI a), .int (nI b)] M Q := by
  have h0 := l_m_works d z a (b - a) v e M Q (nI a) hL hz hb (by omega) he hMo hw hc hQ (b - a) 0 (by omega) M am_x (gF_refl _ _ _) trivial
  have e0 : a + (b - a) = b := by omega
  have e1 : (1800 : Int32) * nI z + nI a = nI (1800 * z + a) := by rw [show (1800 : Int32) = nI 1800 from rfl, ni_mul, ni_add]
  rw [e0] at h0
  have e2 : nI (cdD (insM M z) a 0).length = 0 := rfl
  rw [e2, Nat.add_zero] at h0
  rw [eX11_works]
  simp +decide only [qX11_works_0, qX11_works_1, qX11_works_2, lm hL, hb, e1, am_w1_i, am_w1_r, am_w1_x, am_w1_l, am_w1_w, va_rf_s, am_push_n, am_push_s, am_cs_0, am_cs_i, am_cs_l, am_cs_r, m_uI_K, m_uI_N, m_uI_R, m_uI_L, m_uI_I, m_uL_K, m_uL_N, m_uL_R, m_uL_I, m_uL_L, m_uR_K, m_uR_N, m_uR_I, m_uR_L, m_uR_R, true_and, and_true, true_implies, false_implies, not_true_eq_false, not_false_eq_true, if_true, if_false, false_and, and_false]
  exact h0
def sWk (a _j : Nat) : Prop := a = 313 ∨ a = 314
/-- rules, as they are asked -/
def RaM (M : am_M) (z kd : Nat) (sm : Bool) (R : Rls) : Prop := (R.length ≤ 12 ∧ 12 * kd + R.length ≤ 30) ∧ mI M 281 (3 * z + kd) = nI R.length ∧ ∀ k r, R[k]? = some r → ∃ s0 s1 s2, s0 ≤ s1 ∧ s1 ≤ s2 ∧ s2 ≤ 1800 ∧ mI M 282 (30 * z + 12 * kd + k) = nI s0 ∧ mI M 283 (30 * z + 12 * kd + k) = nI s1 ∧ mI M 284 (30 * z + 12 * kd + k) = nI s2 ∧ wfD 1850 (insM M z) s1 (s2 - s1) ∧ cdD (insM M z) s1 (s2 - s1) = [r.2] ∧ bdT r.2 ∧ (sm = true → wfD 1850 (insM M z) s0 (s1 - s0) ∧ cdD (insM M z) s0 (s1 - s0) = [r.1] ∧ bdS r.1)
theorem RaM_g {M M' : am_M} {z kd : Nat} {sm : Bool} {R : Rls} {S T' : Nat → Nat → Prop} (h : RaM M z kd sm R) (hg : gF S T' M M') (hS : ∀ a j, (281 ≤ a ∧ a ≤ 284) ∨ a = 304 ∨ a = 305 → ¬ S a j) : RaM M' z kd sm R := by
  have e : insM M' z = insM M z := funext fun k => by unfold insM; rw [hg.1 _ _ (hS _ _ (by omega)), hg.1 _ _ (hS _ _ (by omega))]
  obtain ⟨h0, h1, h2⟩ := h
  refine ⟨h0, by rw [hg.1 _ _ (hS _ _ (by omega))]; exact h1, fun k r hr => ?_⟩
  obtain ⟨s0, s1, s2, b1, b2, b3, b4, b5, b6, b7⟩ := h2 k r hr
  rw [e]
  exact ⟨s0, s1, s2, b1, b2, b3, by rw [hg.1 _ _ (hS _ _ (by omega))]; exact b4, by rw [hg.1 _ _ (hS _ _ (by omega))]; exact b5, by rw [hg.1 _ _ (hS _ _ (by omega))]; exact b6, b7⟩
theorem RlM_a {M : am_M} {z kd c m : Nat} {sm : Bool} {R : Rls} (h : RlM M z kd sm R c) (hc : c ≤ 1800) (hm : rlOK m R) (h12 : m ≤ 12) (h30 : 12 * kd + m ≤ 30) : RaM M z kd sm R := by
  refine ⟨by have := hm.1; omega, h.1, fun k r hr => ?_⟩
  obtain ⟨s0, s1, s2, b1, b2, b3, b4, b5, b6, b7, b8, b9⟩ := h.2 k r hr
  have hb := hm.2 r (List.mem_of_getElem? hr)
  exact ⟨s0, s1, s2, b1, b2, by omega, b4, b5, b6, b7, b8, hb.2, fun q => ⟨(b9 q).1, (b9 q).2, hb.1⟩⟩
theorem l_m_ruleOf (d z kd cc h dp : Nat) (sm : Bool) (R : Rls) (e : Env) (M0 : am_M) (Q : Option Value → am_M → Prop) (hL : Lay M0) (hz : z ≤ 1) (hk : kd ≤ 2) (hb : mI M0 277 12 = nI z) (he : eOK e) (hMo : MoM M0 e) (hR : RaM M0 z kd sm R)
    (hN : fstR R e = none → ∀ M', gF sHp nT M0 M' → Q (some (.int (-1))) M')
    (hS : ∀ k r, R[k]? = some r → fstR R e = some r → ∀ M', gF sHp nT M0 M' → Q (some (.int (nI (30 * z + 12 * kd + k)))) M') :
    ∀ (m k : Nat), k + m = R.length → (∀ j r, j < k → R[j]? = some r → r.2 e = 0) → ∀ (M : am_M), gF sHp nT M0 M → am_P am_P0 (d + 3) (am_look tX11_ruleOf) 55 [.ref 277, .int (nI kd), .int (nI cc), .int (nI h), .int (nI dp), .int (nI (30 * z + 12 * kd)), .int (nI (30 * z + 12 * kd + k))] [] M Q := by
  have eK : (3 : Int32) * nI z + nI kd = nI (3 * z + kd) := by rw [show (3 : Int32) = nI 3 from rfl, ni_mul, ni_add]
  have h12 := hR.1
  intro m
  induction m with
  | zero =>
    intro k hk' hno M hM
    have ek : k = R.length := by omega
    have hLM := gF_LayN hM hL
    have hR' := RaM_g hR hM (fun a j q w => by unfold sHp at w; omega)
    have hb' : mI M 277 12 = nI z := by rw [hM.1 _ _ (by unfold sHp; omega)]; exact hb
    have h0 := hN (fstR_no (fun j r' hj => hno j r' (by have := (List.getElem?_eq_some_iff.mp hj).1; omega) hj)) M hM
    have hle : nI (30 * z + 12 * kd + R.length) ≤ nI (30 * z + 12 * kd + k) := (ni_le (by omega) (by omega)).mpr (by omega)
    rw [hX11_ruleOf_55]
    simp +decide (disch := omega) only [qX11_ruleOf_0, qX11_ruleOf_1, lm hLM, hb', eK, hR'.2.1, ni_add, ni_in_t, ni_tn, am_w1_i, am_w1_r, am_w1_x, am_w1_l, am_w1_w, va_rf_s, am_push_n, am_push_s, am_cs_0, am_cs_i, am_cs_l, am_cs_r, m_uI_K, m_uI_N, m_uI_R, m_uI_L, m_uI_I, m_uL_K, m_uL_N, m_uL_R, m_uL_I, m_uL_L, m_uR_K, m_uR_N, m_uR_I, m_uR_L, m_uR_R, true_and, and_true, true_implies, false_implies, not_true_eq_false, not_false_eq_true, if_true, if_false, false_and, and_false]
    rw [br_p hle]
    exact h0
  | succ m ih =>
    intro k hk' hno M hM
    have hkl : k < R.length := by omega
    have hLM := gF_LayN hM hL
    have hR' := RaM_g hR hM (fun a j q w => by unfold sHp at w; omega)
    have hb' : mI M 277 12 = nI z := by rw [hM.1 _ _ (by unfold sHp; omega)]; exact hb
    have hmo : MoM M e := ⟨by rw [hM.1 _ _ (by unfold sHp; omega)]; exact hMo.1, by rw [hM.1 _ _ (by unfold sHp; omega)]; exact hMo.2.1, by rw [hM.1 _ _ (by unfold sHp; omega)]; exact hMo.2.2.1, by rw [hM.1 _ _ (by unfold sHp; omega)]; exact hMo.2.2.2⟩
    obtain ⟨r, hr⟩ : ∃ r, R[k]? = some r := ⟨R[k]'hkl, List.getElem?_eq_getElem hkl⟩
    obtain ⟨s0, s1, s2, b1, b2, b3, b4, b5, b6, b7, b8, bT, b9⟩ := hR'.2.2 k r hr
    have hlt : ¬ nI (30 * z + 12 * kd + R.length) ≤ nI (30 * z + 12 * kd + k) := by rw [ni_le (by omega) (by omega)]; omega
    rw [hX11_ruleOf_55]
    simp +decide (disch := omega) only [qX11_ruleOf_0, qX11_ruleOf_1, lm hLM, hb', eK, hR'.2.1, b5, b6, ni_add, ni_in_t, ni_tn, am_w1_i, am_w1_r, am_w1_x, am_w1_l, am_w1_w, va_rf_s, am_push_n, am_push_s, am_cs_0, am_cs_i, am_cs_l, am_cs_r, m_uI_K, m_uI_N, m_uI_R, m_uI_L, m_uI_I, m_uL_K, m_uL_N, m_uL_R, m_uL_I, m_uL_L, m_uR_K, m_uR_N, m_uR_I, m_uR_L, m_uR_R, true_and, and_true, true_implies, false_implies, not_true_eq_false, not_false_eq_true, if_true, if_false, false_and, and_false]
    rw [br_n hlt]
    refine m_works d z s1 s2 r.2 e M _ hLM hz hb' b2 b3 he hmo b7 b8 (fun M1 g1 => ?_)
    have G1 := gF_trans hM g1
    have hc : lg_cmp (zL (r.2 e)) 1 = t3 (r.2 e) 1 := by
      rw [show (1 : Int64) = zL 1 from rfl]
      exact lgc_z (by rcases bT e with q | q <;> rw [q] <;> unfold sm_ <;> omega) (by unfold sm_; omega)
    simp +decide (disch := omega) only [qX11_ruleOf_0, qX11_ruleOf_1, hc, t3_z, ni_add1, am_w1_i, am_w1_r, am_w1_x, am_w1_l, am_w1_w, va_rf_s, am_push_n, am_push_s, am_cs_0, am_cs_i, am_cs_l, am_cs_r, m_uI_K, m_uI_N, m_uI_R, m_uI_L, m_uI_I, m_uL_K, m_uL_N, m_uL_R, m_uL_I, m_uL_L, m_uR_K, m_uR_N, m_uR_I, m_uR_L, m_uR_R, true_and, and_true, true_implies, false_implies, not_true_eq_false, not_false_eq_true, if_true, if_false, false_and, and_false]
    by_cases c1 : r.2 e = 1
    · rw [br_r c1]
      exact hS k r hr (fstR_at hr hno (by omega)) M1 G1
    · rw [br_q c1]
      exact ih (k + 1) (by omega) (fun j r' hj hr' => by
        by_cases ej : j = k
        · subst ej; cases hr.symm.trans hr'; rcases bT e with q | q <;> omega
        · exact hno j r' (by omega) hr') M1 G1
theorem m_ruleOf (d z kd C R0 p h dp : Nat) (sm : Bool) (R : Rls) (M : am_M) (Q : Option Value → am_M → Prop) (hL : Lay M) (hB : MB M z C R0) (hk : kd ≤ 2) (hp : vld C R0 p) (hh : h ≤ 1000) (hdp : dp ≤ 1000) (hR : RaM M z kd sm R)
    (hN : fstR R (p % 16, p / 16, h, dp) = none → ∀ M', gF sWk nT M M' → Q (some (.int (-1))) M')
    (hS : ∀ k r, R[k]? = some r → fstR R (p % 16, p / 16, h, dp) = some r → ∀ M', gF sWk nT M M' → MoM M' (p % 16, p / 16, h, dp) → Q (some (.int (nI (30 * z + 12 * kd + k)))) M') : am_E am_P0 (d + 3) 221 [.ref 277, .int (nI kd), .int (nI (cel C p)), .int (nI h), .int (nI dp)] M Q := by
  obtain ⟨m1, m2, m3, m4, m5, m6, m7, m8⟩ := hB
  have hcl := cel_lt m6 m8 hp
  have e1 : cel C p % C = p % 16 ∧ cel C p / C = p / 16 := by
    obtain ⟨q, q1, q2, q3, q4⟩ := cel_of (C := C) (R := R0) m6 hcl.1
    have := cel_inj q1 hp q2
    subst this
    exact ⟨q3, q4⟩
  obtain ⟨M1, hM1⟩ : ∃ M1, M1 = uI M 314 1 (nI (p % 16)) := ⟨_, rfl⟩
  have g1 : gF (fun a j => a = 314 ∧ j = 1) nT M M1 := by rw [hM1]; exact gF_i _ ⟨rfl, rfl⟩
  have L1 := gF_LayN g1 hL
  have hco := fun Q => c_m_columnOf (d + 2) (cel C p) M Q hL z C m1 m2 m3 (by omega) m6 hcl.2.1
  have hro := fun Q => c_m_rowOf (d + 2) (cel C p) M1 Q L1 z C (by rw [g1.1 _ _ (by omega)]; exact m1) m2 (by rw [g1.1 _ _ (by omega)]; exact m3) (by omega) m6 hcl.2.1
  rw [e1.1] at hco
  rw [e1.2] at hro
  obtain ⟨M2, hM2⟩ : ∃ M2, M2 = uI (uI (uI M1 314 2 (nI (p / 16))) 314 3 (nI h)) 314 4 (nI dp) := ⟨_, rfl⟩
  have g2 : gF (fun a j => a = 314) nT M M2 := gF_trans (gF_up g1 (fun a j q => q.1) (fun _ _ q => q)) (by rw [hM2]; exact gF_trans (gF_i _ rfl) (gF_trans (gF_i _ rfl) (gF_i _ rfl)))
  have L2 := gF_LayN g2 hL
  have mo : MoM M2 (p % 16, p / 16, h, dp) := by
    refine ⟨?_, ?_, ?_, ?_⟩ <;> rw [hM2, hM1] <;> simp [m_uI_I]
  have heok : eOK (p % 16, p / 16, h, dp) := ⟨by show p % 16 ≤ 1000; omega, by show p / 16 ≤ 1000; omega, hh, hdp⟩
  have hb2 : mI M2 277 12 = nI z := by rw [g2.1 _ _ (by omega)]; exact m1
  have up : ∀ M', gF sHp nT M2 M' → gF sWk nT M M' := fun M' g => gF_trans (gF_up g2 (fun a j q => Or.inr q) (fun _ _ q => q)) (gF_up g (fun a j q => Or.inl q) (fun _ _ q => q))
  have h0 := l_m_ruleOf d z kd (cel C p) h dp sm R _ M2 Q L2 (by omega) hk hb2 heok mo (RaM_g hR g2 (fun a j q w => by omega)) (fun hn M' g => hN hn M' (up M' g)) (fun k r hr hf M' g => hS k r hr hf M' (up M' g) ⟨by rw [g.1 _ _ (by unfold sHp; omega)]; exact mo.1, by rw [g.1 _ _ (by unfold sHp; omega)]; exact mo.2.1, by rw [g.1 _ _ (by unfold sHp; omega)]; exact mo.2.2.1, by rw [g.1 _ _ (by unfold sHp; omega)]; exact mo.2.2.2⟩) R.length 0 (by omega) (fun j r hj => by omega) M2 (gF_refl _ _ _)
  have hfr := fun M Q => m_first (d + 2) kd M Q
  have e3 : (30 : Int32) * nI z + nI (12 * kd) = nI (30 * z + 12 * kd) := by rw [show (30 : Int32) = nI 30 from rfl, ni_mul, ni_add]
  rw [show 30 * z + 12 * kd + 0 = 30 * z + 12 * kd from rfl] at h0
  have t1 : (1 : Int32).toInt.toNat = 1 := rfl
  have t2 : (2 : Int32).toInt.toNat = 2 := rfl
  have t3' : (3 : Int32).toInt.toNat = 3 := rfl
  have t4 : (4 : Int32).toInt.toNat = 4 := rfl
  have m1' : mI M1 277 12 = nI z := by rw [g1.1 _ _ (by omega)]; exact m1
  rw [eX11_ruleOf]
  simp +decide (disch := omega) only [qX11_ruleOf_0, qX11_ruleOf_1, lm hL, hco, t1, ← hM1, am_w1_i, am_w1_r, am_w1_x, am_w1_l, am_w1_w, va_rf_s, am_push_n, am_push_s, am_cs_0, am_cs_i, am_cs_l, am_cs_r, m_uI_K, m_uI_N, m_uI_R, m_uI_L, m_uI_I, m_uL_K, m_uL_N, m_uL_R, m_uL_I, m_uL_L, m_uR_K, m_uR_N, m_uR_I, m_uR_L, m_uR_R, true_and, and_true, true_implies, false_implies, not_true_eq_false, not_false_eq_true, if_true, if_false, false_and, and_false]
  simp +decide (disch := omega) only [qX11_ruleOf_0, qX11_ruleOf_1, lm L1, hro, t2, t3', t4, ← hM2, hfr, m1', e3, am_w1_i, am_w1_r, am_w1_x, am_w1_l, am_w1_w, va_rf_s, am_push_n, am_push_s, am_cs_0, am_cs_i, am_cs_l, am_cs_r, m_uI_K, m_uI_N, m_uI_R, m_uI_L, m_uI_I, m_uL_K, m_uL_N, m_uL_R, m_uL_I, m_uL_L, m_uR_K, m_uR_N, m_uR_I, m_uR_L, m_uR_R, true_and, and_true, true_implies, false_implies, not_true_eq_false, not_false_eq_true, if_true, if_false, false_and, and_false]
  simp +decide (disch := omega) only [qX11_ruleOf_0, qX11_ruleOf_1, lm L2, hb2, e3, am_w1_i, am_w1_r, am_w1_x, am_w1_l, am_w1_w, va_rf_s, am_push_n, am_push_s, am_cs_0, am_cs_i, am_cs_l, am_cs_r, m_uI_K, m_uI_N, m_uI_R, m_uI_L, m_uI_I, m_uL_K, m_uL_N, m_uL_R, m_uL_I, m_uL_L, m_uR_K, m_uR_N, m_uR_I, m_uR_L, m_uR_R, true_and, and_true, true_implies, false_implies, not_true_eq_false, not_false_eq_true, if_true, if_false, false_and, and_false]
  exact h0
