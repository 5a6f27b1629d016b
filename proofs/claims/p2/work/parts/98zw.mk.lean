/-! making: parser, track, sea -/
theorem pa_uN (E : List Ev) (M : am_M) (sh : am_S) : uN (pa E M) sh = pa (.inl sh :: E) M := rfl
theorem pa_uR (E : List Ev) (M : am_M) (a j t : Nat) : uR (pa E M) a j (some t) = pa (.inr (.inl (a, j, t)) :: E) M := rfl
theorem pa_uI (E : List Ev) (M : am_M) (a j : Nat) (v : Int32) : uI (pa E M) a j v = pa (.inr (.inr (a, j, v)) :: E) M := rfl
theorem evC_cn (s : am_S) (E : List Ev) : evC (.inl s :: E) = evC E + 1 := rfl
theorem evC_cr (x : Sum (Nat × Nat × Nat) (Nat × Nat × Int32)) (E : List Ev) : evC (.inr x :: E) = evC E := rfl
theorem evC_0 : evC [] = 0 := rfl
theorem evC_app : ∀ (A B : List Ev), evC (A ++ B) = evC A + evC B := by
  intro A B
  induction A with
  | nil => show evC B = 0 + evC B; omega
  | cons e r ih =>
    match e with
    | .inl s => show evC (r ++ B) + 1 = evC r + 1 + evC B; rw [ih]; omega
    | .inr s => exact ih
theorem evC_row (A : Nat) (f : Nat → Int32) : ∀ n, evC (rowE A f n) = 0 := by
  intro n
  induction n with
  | zero => rfl
  | succ n ih => exact ih
theorem k_wat (d i : Nat) (E : List Ev) (M : am_M) (Q : Option Value → am_M → Prop) (h1 : i < evC E) (h2 : (kdE E i).1 = 19) : am_E am_P0 d 101 [.ref (mC M + i)] (pa E M) Q ↔ Q none (pa (watE (mC M + i) (mC M + evC E) ++ E) M) := by
  rw [c_wat d (mC M + i) (pa E M) Q (by rw [(pa_K2 E M i h1).1]; exact h2) (by rw [pa_C]; omega), pa_C, pa_app]
theorem k_lin (d i : Nat) (E : List Ev) (M : am_M) (Q : Option Value → am_M → Prop) (h1 : i < evC E) (h2 : (kdE E i).1 = 11) : am_E am_P0 d 5 [.ref (mC M + i)] (pa E M) Q ↔ Q none (pa (linE (mC M + i) (mC M + evC E) ++ E) M) := by
  rw [c_lin d (mC M + i) (pa E M) Q (by rw [(pa_K2 E M i h1).1]; exact h2) (by rw [pa_C]; omega), pa_C, pa_app]
theorem k_sgt (d i : Nat) (E : List Ev) (M : am_M) (Q : Option Value → am_M → Prop) (h1 : i < evC E) (h2 : (kdE E i).1 = 17) : am_E am_P0 d 70 [.ref (mC M + i)] (pa E M) Q ↔ Q none (pa (sgtE (mC M + i) (mC M + evC E) ++ E) M) := by
  rw [c_sgt d (mC M + i) (pa E M) Q (by rw [(pa_K2 E M i h1).1]; exact h2) (by rw [pa_C]; omega), pa_C, pa_app]
theorem k_frm (d i : Nat) (E : List Ev) (M : am_M) (Q : Option Value → am_M → Prop) (h1 : i < evC E) (h2 : (kdE E i).1 = 10) : am_E am_P0 d 0 [.ref (mC M + i)] (pa E M) Q ↔ Q none (pa (frmE (mC M + i) (mC M + evC E) ++ E) M) := by
  rw [c_frm d (mC M + i) (pa E M) Q (by rw [(pa_K2 E M i h1).1]; exact h2) (by rw [pa_C]; omega), pa_C, pa_app]
theorem k_rul (d i m : Nat) (E : List Ev) (M : am_M) (Q : Option Value → am_M → Prop) (hm : m ≤ 12) (h1 : i < evC E) (h2 : (kdE E i).1 = 14) : am_E am_P0 d 46 [.ref (mC M + i), .int (nI m)] (pa E M) Q ↔ Q none (pa (rulE (mC M + i) (mC M + evC E) m ++ E) M) := by
  rw [c_rul d (mC M + i) m (pa E M) Q (by rw [(pa_K2 E M i h1).1]; exact h2) (by rw [pa_C]; omega) hm, pa_C, pa_app]
def prsE (p n s : Nat) : List Ev := [pR p 1 s, pR p 0 n] ++ (rdrE n (n + 1) ++ [nw 13 10])
theorem c_prs (d p s : Nat) (M : am_M) (Q : Option Value → am_M → Prop) (hk : mK M p = 12) (hp : p < mC M) (hQ : Q none (pa (prsE p (mC M) s) M)) : am_E am_P0 (d + 5) 9 [.ref p, .ref s] M Q := by
  have h1 := uN_K0 M (13, 10)
  rw [eX2_init]
  simp +decide (disch := first | omega | (simp only [uN_C, uR_C, uI_C]; omega)) only [qX2_init, uN_K, uN_C, uR_C, uI_C, hk, h1, am_w1_i, am_w1_r, am_w1_x, am_w1_l, am_w1_w, va_rf_s, am_push_n, am_push_s, am_cs_0, am_cs_i, am_cs_l, am_cs_r, m_uI_K, m_uI_N, m_uI_R, m_uI_L, m_uI_I, m_uL_K, m_uL_N, m_uL_R, m_uL_I, m_uL_L, m_uR_K, m_uR_N, m_uR_I, m_uR_L, m_uR_R, true_and, and_true, true_implies, false_implies, not_true_eq_false, not_false_eq_true, if_true, if_false, false_and, and_false]
  have e : pa (rdrE (mC M) (mC M + 1)) (uN M (13, 10)) = pa (rdrE (mC M) (mC M + 1) ++ [nw 13 10]) M := by rw [pa_app]; rfl
  refine c_rdr d (mC M) (uN M (13, 10)) _ h1 (by rw [uN_C]; omega) ?_
  rw [uN_C, e]
  have hk2 := ((pa_K (rdrE (mC M) (mC M + 1) ++ [nw 13 10]) M p hp).1.trans hk)
  simp +decide (disch := first | omega | (simp only [uN_C, uR_C, uI_C]; omega)) only [qX2_init, hk2, am_w1_i, am_w1_r, am_w1_x, am_w1_l, am_w1_w, va_rf_s, am_push_n, am_push_s, am_cs_0, am_cs_i, am_cs_l, am_cs_r, m_uI_K, m_uI_N, m_uI_R, m_uI_L, m_uI_I, m_uL_K, m_uL_N, m_uL_R, m_uL_I, m_uL_L, m_uR_K, m_uR_N, m_uR_I, m_uR_L, m_uR_R, true_and, and_true, true_implies, false_implies, not_true_eq_false, not_false_eq_true, if_true, if_false, false_and, and_false]
  exact hQ
def trkE (a n z g : Nat) : List Ev := [pR a 0 g, pR a 1 z, pR a 16 (n + 11), nw 0 48, pR a 15 (n + 10), nw 0 48, pR a 12 (n + 9), nw 1 192, pR a 10 (n + 8), nw 2 48, pR a 9 (n + 7), nw 2 48, pR a 3 (n + 5), pR (n + 5) 0 (n + 6), nw 0 48, nw 11 1, pR a 2 n, pR n 4 (n + 4), nw 1 4, pR n 3 (n + 3), nw 2 256, pR n 2 (n + 2), nw 5 256, pI n 1 1, pR n 0 (n + 1), nw 1 4, nw 19 5]
theorem evC_trk (a n z g : Nat) : evC (trkE a n z g) = 12 := rfl
theorem c_trk (d a z g : Nat) (M : am_M) (Q : Option Value → am_M → Prop) (hk : mK M a = 18) (ha : a < mC M) (hQ : Q none (pa (trkE a (mC M) z g) M)) : am_E am_P0 (d + 1) 72 [.ref a, .ref z, .ref g] M Q := by
  have K0 : ∀ E, mK (pa E M) a = 18 := fun E => (pa_K E M a ha).1.trans hk
  have N0 : ∀ sh, uN M sh = pa [.inl sh] M := fun _ => rfl
  have KK : ∀ E i k, i < evC E → (kdE E i).1 = k → mK (pa E M) (mC M + i) = k := fun E i k h h2 => ((pa_K2 E M i h).1).trans h2
  have W0 : ∀ Q, am_E am_P0 d 101 [.ref (mC M)] (pa [.inl (19, 5)] M) Q ↔ Q none (pa (watE (mC M) (mC M + 1) ++ [.inl (19, 5)]) M) := fun Q => k_wat d 0 [.inl (19, 5)] M Q (by show 0 < 1; omega) rfl
  have W1 : mK (pa [.inl (19, 5)] M) (mC M) = 19 := (pa_K2 [.inl (19, 5)] M 0 (by decide)).1
  rw [eX8_init]
  simp +decide (disch := omega) only [qX8_init, K0, N0, W0, W1, hk, watE, List.cons_append, List.nil_append, pa_uN, pa_uR, pa_uI, pa_C, evC_cn, evC_cr, evC_0, Nat.reduceAdd, am_w1_i, am_w1_r, am_w1_x, am_w1_l, am_w1_w, va_rf_s, am_push_n, am_push_s, am_cs_0, am_cs_i, am_cs_l, am_cs_r, m_uI_K, m_uI_N, m_uI_R, m_uI_L, m_uI_I, m_uL_K, m_uL_N, m_uL_R, m_uL_I, m_uL_L, m_uR_K, m_uR_N, m_uR_I, m_uR_L, m_uR_R, true_and, and_true, true_implies, false_implies, not_true_eq_false, not_false_eq_true, if_true, if_false, false_and, and_false]
  refine ⟨KK _ 5 11 (by show 5 < 6; omega) rfl, ?_⟩
  rw [k_lin d 5 _ M _ (by show 5 < 6; omega) rfl]
  simp +decide (disch := omega) only [qX8_init, K0, linE, List.cons_append, List.nil_append, pa_uN, pa_uR, pa_uI, pa_C, evC_cn, evC_cr, evC_0, Nat.reduceAdd, am_w1_i, am_w1_r, am_w1_x, am_w1_l, am_w1_w, va_rf_s, am_push_n, am_push_s, am_cs_0, am_cs_i, am_cs_l, am_cs_r, m_uI_K, m_uI_N, m_uI_R, m_uI_L, m_uI_I, m_uL_K, m_uL_N, m_uL_R, m_uL_I, m_uL_L, m_uR_K, m_uR_N, m_uR_I, m_uR_L, m_uR_R, true_and, and_true, true_implies, false_implies, not_true_eq_false, not_false_eq_true, if_true, if_false, false_and, and_false]
  exact hQ
def se0E (a n : Nat) : List Ev := [pR a 13 (n + 23), nw 1 192, pR a 12 (n + 22), nw 1 192, pR a 11 (n + 21), nw 0 256, pR a 10 (n + 20), nw 0 256, pR a 9 (n + 16), pR (n + 16) 3 (n + 19), nw 0 6, pR (n + 16) 2 (n + 18), nw 0 6, pR (n + 16) 1 (n + 17), nw 0 6, nw 14 4, pR a 8 (n + 12), pR (n + 12) 3 (n + 15), nw 0 12, pR (n + 12) 2 (n + 14), nw 0 12, pR (n + 12) 1 (n + 13), nw 0 12, nw 14 4, pR a 7 (n + 8), pR (n + 8) 3 (n + 11), nw 0 12, pR (n + 8) 2 (n + 10), nw 0 12, pR (n + 8) 1 (n + 9), nw 0 12, nw 14 4, pR a 6 (n + 5), pR (n + 5) 2 (n + 7), nw 0 64, pR (n + 5) 0 (n + 6), nw 0 1800, nw 10 3, pR a 5 (n + 1), pR (n + 1) 3 (n + 4), nw 0 40, pR (n + 1) 2 (n + 3), nw 0 40, pR (n + 1) 1 (n + 2), nw 0 40, nw 17 4, pR a 4 n, nw 3 8, pI a 2 10]
theorem evC_se0 (a n : Nat) : evC (se0E a n) = 24 := rfl
def sp1E (A c s : Nat) : List Ev := [pR A s c] ++ (shpE c (c + 1) ++ [nw 16 13])
def spsE (A c : Nat) : Nat → List Ev
  | 0 => []
  | s + 1 => sp1E A (c + 7 * s) s ++ spsE A c s
def seaE (a n : Nat) : List Ev := spsE n (n + 24) 8 ++ se0E a n
theorem evC_sps (A c : Nat) : ∀ s, evC (spsE A c s) = 7 * s := by
  intro s
  induction s with
  | zero => rfl
  | succ s ih => show evC (sp1E A (c + 7 * s) s ++ spsE A c s) = _; rw [evC_app, ih]; show 7 + 7 * s = _; omega
theorem evC_sea (a n : Nat) : evC (seaE a n) = 80 := by unfold seaE; rw [evC_app, evC_se0, evC_sps]
theorem l_sea118 (d a A : Nat) (M0 : am_M) (Q : Option Value → am_M → Prop) (hk : mK M0 a = 15) (ha : a < mC M0) (hA : A < mC M0) (hAa : ¬ a = A) (hr : mR M0 a 4 = some A) (hAk : mK M0 A = 3) (hAn : mN M0 A = 8) (hQ : Q none (pa (spsE A (mC M0) 8) M0)) :
    ∀ (m s : Nat), s + m = 8 → ∀ (M : am_M), M = pa (spsE A (mC M0) s) M0 → mR M a 4 = some A → am_P am_P0 (d + 1) (am_look tX5_init) 118 [.ref a, .int (nI s)] [] M Q := by
  intro m
  induction m with
  | zero =>
    intro s hs M hM hR
    have e : s = 8 := by omega
    subst e
    rw [← hM] at hQ
    rw [hX5_init_118]
    have hle : (8 : Int32) ≤ nI 8 := by decide
    simp +decide (disch := omega) only [qX5_init_0, qX5_init_1, am_w1_i, am_w1_r, am_w1_x, am_w1_l, am_w1_w, va_rf_s, am_push_n, am_push_s, am_cs_0, am_cs_i, am_cs_l, am_cs_r, m_uI_K, m_uI_N, m_uI_R, m_uI_L, m_uI_I, m_uL_K, m_uL_N, m_uL_R, m_uL_I, m_uL_L, m_uR_K, m_uR_N, m_uR_I, m_uR_L, m_uR_R, true_and, and_true, true_implies, false_implies, not_true_eq_false, not_false_eq_true, if_true, if_false, false_and, and_false]
    first | exact hQ | (rw [br_p hle]; exact hQ)
  | succ m ih =>
    intro s hs M hM hR
    have hlt : ¬ (8 : Int32) ≤ nI s := by rw [show (8 : Int32) = nI 8 from rfl, ni_le (by omega) (by omega)]; omega
    have hC : mC M = mC M0 + 7 * s := by rw [hM, pa_C, evC_sps]
    have k1 : mK M a = 15 ∧ mK M A = 3 ∧ mN M A = 8 := by
      rw [hM]
      exact ⟨(pa_K _ M0 a ha).1.trans hk, (pa_K _ M0 A hA).1.trans hAk, (pa_K _ M0 A hA).2.trans hAn⟩
    have N0 : ∀ sh, uN M sh = pa [.inl sh] M := fun _ => rfl
    have W1 : mK (pa [.inl (16, 13)] M) (mC M) = 16 := (pa_K2 [.inl (16, 13)] M 0 (by decide)).1
    have W0 : ∀ Q, am_E am_P0 d 64 [.ref (mC M)] (pa [.inl (16, 13)] M) Q ↔ Q none (pa (shpE (mC M) (mC M + 1) ++ [nw 16 13]) M) := fun Q => by
      rw [c_shp d (mC M) (pa [.inl (16, 13)] M) Q W1 (by rw [pa_C]; show mC M < mC M + 1; omega), pa_C, pa_app]
      exact Iff.rfl
    have k2 : ∀ E, mK (pa E M) A = 3 ∧ mN (pa E M) A = 8 := fun E => ⟨(pa_K E M A (by omega)).1.trans k1.2.1, (pa_K E M A (by omega)).2.trans k1.2.2⟩
    have k3 : mK (pa (shpE (mC M) (mC M + 1) ++ [nw 16 13]) M) (mC M) = 16 := (pa_K2 (shpE (mC M) (mC M + 1) ++ [nw 16 13]) M 0 (by show 0 < 7; omega)).1
    have h0 := ih (s + 1) (by omega) (pa (sp1E A (mC M) s) M) (by
      show _ = pa (sp1E A (mC M0 + 7 * s) s ++ spsE A (mC M0) s) M0
      rw [pa_app, ← hM, ← hC]) (by
      rw [pa_R, hR]
      have n0 : ∀ i, ¬ a = mC M + i := fun i => by omega
      have n1 : ¬ a = mC M := by omega
      simp only [sp1E, shpE, nw, pR, List.cons_append, List.nil_append, rvR, n0, n1, hAa, false_and, if_false])
    rw [hX5_init_118]
    simp +decide (disch := first | omega | rfl) only [qX5_init_0, qX5_init_1, k1, hR, N0, W0, W1, k2, k3, pa_uN, pa_uR, pa_uI, hlt, ni_in_t, ni_tn, ni_add1, am_w1_i, am_w1_r, am_w1_x, am_w1_l, am_w1_w, va_rf_s, am_push_n, am_push_s, am_cs_0, am_cs_i, am_cs_l, am_cs_r, m_uI_K, m_uI_N, m_uI_R, m_uI_L, m_uI_I, m_uL_K, m_uL_N, m_uL_R, m_uL_I, m_uL_L, m_uR_K, m_uR_N, m_uR_I, m_uR_L, m_uR_R, true_and, and_true, true_implies, false_implies, not_true_eq_false, not_false_eq_true, if_true, if_false, false_and, and_false]
    exact h0
theorem c_sea (d a : Nat) (M : am_M) (Q : Option Value → am_M → Prop) (hk : mK M a = 15) (ha : a < mC M) (hQ : Q none (pa (seaE a (mC M)) M)) : am_E am_P0 (d + 1) 51 [.ref a] M Q := by
  have K0 : ∀ E, mK (pa E M) a = 15 := fun E => (pa_K E M a ha).1.trans hk
  have I0 : ∀ b j v, uI M b j v = pa [.inr (.inr (b, j, v))] M := fun _ _ _ => rfl
  have KK : ∀ E i k, i < evC E → (kdE E i).1 = k → mK (pa E M) (mC M + i) = k := fun E i k h h2 => ((pa_K2 E M i h).1).trans h2
  have R12 : ∀ (i : Nat) (E : List Ev) (Q : Option Value → am_M → Prop), i < evC E → (kdE E i).1 = 14 → (am_E am_P0 d 46 [.ref (mC M + i), .int 12] (pa E M) Q ↔ Q none (pa (rulE (mC M + i) (mC M + evC E) 12 ++ E) M)) := fun i E Q h1 h2 => k_rul d i 12 E M Q (by omega) h1 h2
  have R6 : ∀ (i : Nat) (E : List Ev) (Q : Option Value → am_M → Prop), i < evC E → (kdE E i).1 = 14 → (am_E am_P0 d 46 [.ref (mC M + i), .int 6] (pa E M) Q ↔ Q none (pa (rulE (mC M + i) (mC M + evC E) 6 ++ E) M)) := fun i E Q h1 h2 => k_rul d i 6 E M Q (by omega) h1 h2
  have rA : mR (pa (se0E a (mC M)) M) a 4 = some (mC M) := by
    rw [pa_R]
    have n0 : ∀ i, ¬ a = mC M + i := fun i => by omega
    have n1 : ¬ a = mC M := by omega
    simp +decide only [se0E, nw, pR, pI, rvR, n0, n1, false_and, and_false, and_self, if_false, if_true]
  have h0 := l_sea118 d a (mC M) (pa (se0E a (mC M)) M) Q (K0 _) (by rw [pa_C, evC_se0]; omega) (by rw [pa_C, evC_se0]; omega) (by omega) rA (pa_K2 (se0E a (mC M)) M 0 (by rw [evC_se0]; omega)).1 (pa_K2 (se0E a (mC M)) M 0 (by rw [evC_se0]; omega)).2 (by rw [pa_C, evC_se0, ← pa_app]; exact hQ) 8 0 (by omega) _ rfl rA
  rw [eX5_init]
  simp +decide (disch := omega) only [qX5_init_0, qX5_init_1, hk, K0, I0, pa_uN, pa_uR, pa_uI, pa_C, evC_cn, evC_cr, evC_0, Nat.reduceAdd, am_w1_i, am_w1_r, am_w1_x, am_w1_l, am_w1_w, va_rf_s, am_push_n, am_push_s, am_cs_0, am_cs_i, am_cs_l, am_cs_r, m_uI_K, m_uI_N, m_uI_R, m_uI_L, m_uI_I, m_uL_K, m_uL_N, m_uL_R, m_uL_I, m_uL_L, m_uR_K, m_uR_N, m_uR_I, m_uR_L, m_uR_R, true_and, and_true, true_implies, false_implies, not_true_eq_false, not_false_eq_true, if_true, if_false, false_and, and_false]
  refine ⟨KK _ 1 17 (by show 1 < 2; omega) rfl, ?_⟩
  rw [k_sgt d 1 _ M _ (by show 1 < 2; omega) rfl]
  simp +decide (disch := omega) only [qX5_init_0, qX5_init_1, K0, sgtE, List.cons_append, List.nil_append, pa_uN, pa_uR, pa_uI, pa_C, evC_cn, evC_cr, evC_0, Nat.reduceAdd, am_w1_i, am_w1_r, am_w1_x, am_w1_l, am_w1_w, va_rf_s, am_push_n, am_push_s, am_cs_0, am_cs_i, am_cs_l, am_cs_r, m_uI_K, m_uI_N, m_uI_R, m_uI_L, m_uI_I, m_uL_K, m_uL_N, m_uL_R, m_uL_I, m_uL_L, m_uR_K, m_uR_N, m_uR_I, m_uR_L, m_uR_R, true_and, and_true, true_implies, false_implies, not_true_eq_false, not_false_eq_true, if_true, if_false, false_and, and_false]
  refine ⟨KK _ 5 10 (by show 5 < 6; omega) rfl, ?_⟩
  rw [k_frm d 5 _ M _ (by show 5 < 6; omega) rfl]
  simp +decide (disch := omega) only [qX5_init_0, qX5_init_1, K0, frmE, List.cons_append, List.nil_append, pa_uN, pa_uR, pa_uI, pa_C, evC_cn, evC_cr, evC_0, Nat.reduceAdd, am_w1_i, am_w1_r, am_w1_x, am_w1_l, am_w1_w, va_rf_s, am_push_n, am_push_s, am_cs_0, am_cs_i, am_cs_l, am_cs_r, m_uI_K, m_uI_N, m_uI_R, m_uI_L, m_uI_I, m_uL_K, m_uL_N, m_uL_R, m_uL_I, m_uL_L, m_uR_K, m_uR_N, m_uR_I, m_uR_L, m_uR_R, true_and, and_true, true_implies, false_implies, not_true_eq_false, not_false_eq_true, if_true, if_false, false_and, and_false]
  refine ⟨KK _ 8 14 (by show 8 < 9; omega) rfl, ?_⟩
  rw [R12 8 _ _ (by show 8 < 9; omega) rfl]
  simp +decide (disch := omega) only [qX5_init_0, qX5_init_1, K0, rulE, List.cons_append, List.nil_append, pa_uN, pa_uR, pa_uI, pa_C, evC_cn, evC_cr, evC_0, Nat.reduceAdd, am_w1_i, am_w1_r, am_w1_x, am_w1_l, am_w1_w, va_rf_s, am_push_n, am_push_s, am_cs_0, am_cs_i, am_cs_l, am_cs_r, m_uI_K, m_uI_N, m_uI_R, m_uI_L, m_uI_I, m_uL_K, m_uL_N, m_uL_R, m_uL_I, m_uL_L, m_uR_K, m_uR_N, m_uR_I, m_uR_L, m_uR_R, true_and, and_true, true_implies, false_implies, not_true_eq_false, not_false_eq_true, if_true, if_false, false_and, and_false]
  refine ⟨KK _ 12 14 (by show 12 < 13; omega) rfl, ?_⟩
  rw [R12 12 _ _ (by show 12 < 13; omega) rfl]
  simp +decide (disch := omega) only [qX5_init_0, qX5_init_1, K0, rulE, List.cons_append, List.nil_append, pa_uN, pa_uR, pa_uI, pa_C, evC_cn, evC_cr, evC_0, Nat.reduceAdd, am_w1_i, am_w1_r, am_w1_x, am_w1_l, am_w1_w, va_rf_s, am_push_n, am_push_s, am_cs_0, am_cs_i, am_cs_l, am_cs_r, m_uI_K, m_uI_N, m_uI_R, m_uI_L, m_uI_I, m_uL_K, m_uL_N, m_uL_R, m_uL_I, m_uL_L, m_uR_K, m_uR_N, m_uR_I, m_uR_L, m_uR_R, true_and, and_true, true_implies, false_implies, not_true_eq_false, not_false_eq_true, if_true, if_false, false_and, and_false]
  refine ⟨KK _ 16 14 (by show 16 < 17; omega) rfl, ?_⟩
  rw [R6 16 _ _ (by show 16 < 17; omega) rfl]
  simp +decide (disch := omega) only [qX5_init_0, qX5_init_1, K0, rulE, List.cons_append, List.nil_append, pa_uN, pa_uR, pa_uI, pa_C, evC_cn, evC_cr, evC_0, Nat.reduceAdd, am_w1_i, am_w1_r, am_w1_x, am_w1_l, am_w1_w, va_rf_s, am_push_n, am_push_s, am_cs_0, am_cs_i, am_cs_l, am_cs_r, m_uI_K, m_uI_N, m_uI_R, m_uI_L, m_uI_I, m_uL_K, m_uL_N, m_uL_R, m_uL_I, m_uL_L, m_uR_K, m_uR_N, m_uR_I, m_uR_L, m_uR_R, true_and, and_true, true_implies, false_implies, not_true_eq_false, not_false_eq_true, if_true, if_false, false_and, and_false]
  exact h0
