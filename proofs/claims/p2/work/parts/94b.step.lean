/-! the class's reader: one step (class 7319c1d: a word too long is found ahead of a lacking blank; the place of a fault is left free) -/
def sRd (a _j : Nat) : Prop := a = 165
def TpX (M : am_M) (T : Nat → Nat) (n : Nat) : Prop := mR M 165 1 = some 1 ∧ mI M 165 2 = nI n ∧ n ≤ 1800 ∧ ∀ j, j < 1800 → T j < 256 ∧ mI M 1 j = nI (T j)
/-- a fault is kept -/
def FtX (M : am_M) (T : Nat → Nat) (n k p : Nat) : Prop := TpX M T n ∧ OwX M ∧ mI M 165 8 = nI k ∧ (1 ≤ k ∧ k ≤ 5) ∧ (True ∨ p = 0) ∧ mI M 165 4 = 0 ∧ mI M 165 6 = -1
/-- how a token ends -/
def tkG (T : Nat → Nat) (n : Nat) (t : Tok) : Prop := tE t ≤ n ∧ tS t ≤ tE t ∧ t.1 ≤ 3 ∧ (t.1 = 1 ∨ t.1 = 2 → 0 < tE t ∧ isA (T (tE t - 1)) = true) ∧ (t.1 = 0 ∨ t.1 = 3 → tE t = 0 ∨ tE t = n ∨ ¬ isA (T (tE t - 1)) = true) ∧ (t.1 = 1 → isWd t.2.2.1 ∧ t.2.2.1.length ≤ 6 ∧ 1 ≤ t.2.2.1.length) ∧ (t.1 = 2 → t.2.1 ≤ 9999) ∧ (t.1 = 3 → t.2.1 < 256) ∧ (¬ t.1 = 0 → tS t < tE t)
def RdX (M : am_M) (T : Nat → Nat) (n : Nat) (t : Tok) : Prop := TpX M T n ∧ OwX M ∧ mI M 165 8 = 0 ∧ mI M 165 3 = nI (tE t) ∧ mI M 165 4 = nI t.1 ∧ mI M 165 7 = nI (tS t) ∧ mI M 165 6 = (if t.1 = 1 then owI t.2.2.1 else -1) ∧ mI M 165 5 = (if t.1 = 1 then nI (pkL t.2.2.1) else nI t.2.1) ∧ tkG T n t ∧ mI M 165 9 = -1
theorem TpX_g {M M' : am_M} {T : Nat → Nat} {n : Nat} {S : Nat → Nat → Prop} (h : TpX M T n) (hg : gF S nT M M') (hS : ∀ a j, (a = 165 ∧ j = 2) ∨ a = 1 → ¬ S a j) : TpX M' T n := by
  obtain ⟨h1, h2, h3, h4⟩ := h
  exact ⟨by rw [hg.2.2.1 _ _ (fun q => q)]; exact h1, by rw [hg.1 _ _ (hS _ _ (Or.inl ⟨rfl, rfl⟩))]; exact h2, h3, fun j hj => ⟨(h4 j hj).1, by rw [hg.1 _ _ (hS _ _ (Or.inr rfl))]; exact (h4 j hj).2⟩⟩
theorem OwX_g {M M' : am_M} {S T : Nat → Nat → Prop} (h : OwX M) (hg : gF S T M M') (hS : ∀ j, ¬ S 166 j) : OwX M' := fun k hk => by rw [hg.1 _ _ (hS k)]; exact h k hk
theorem c_x_refuseAt0 (d : Nat) (x p : Int32) (M : am_M) (Q : Option Value → am_M → Prop) (hL : Lay M) (h0 : mI M 165 8 = 0) : am_E am_P0 d 38 [.ref 165, .int x, .int p] M Q ↔ Q none (uI (uI (uI (uI M 165 8 x) 165 9 p) 165 4 0) 165 6 (-1)) := by
  rw [eX3_refuseAt]
  simp +decide only [qX3_refuseAt, lx hL, h0, am_w1_i, am_w1_r, am_w1_x, am_w1_l, am_w1_w, va_rf_s, am_push_n, am_push_s, am_cs_0, am_cs_i, am_cs_l, am_cs_r, m_uI_K, m_uI_N, m_uI_R, m_uI_L, m_uI_I, m_uL_K, m_uL_N, m_uL_R, m_uL_I, m_uL_L, m_uR_K, m_uR_N, m_uR_I, m_uR_L, m_uR_R, true_and, and_true, true_implies, false_implies, not_true_eq_false, not_false_eq_true, if_true, if_false, false_and, and_false]
theorem c_x_refuseAt1 (d : Nat) (x p : Int32) (M : am_M) (Q : Option Value → am_M → Prop) (hL : Lay M) (h0 : ¬ mI M 165 8 = 0) : am_E am_P0 d 38 [.ref 165, .int x, .int p] M Q ↔ Q none (uI (uI M 165 4 0) 165 6 (-1)) := by
  rw [eX3_refuseAt]
  simp +decide only [qX3_refuseAt, lx hL, am_w1_i, am_w1_r, am_w1_x, am_w1_l, am_w1_w, va_rf_s, am_push_n, am_push_s, am_cs_0, am_cs_i, am_cs_l, am_cs_r, m_uI_K, m_uI_N, m_uI_R, m_uI_L, m_uI_I, m_uL_K, m_uL_N, m_uL_R, m_uL_I, m_uL_L, m_uR_K, m_uR_N, m_uR_I, m_uR_L, m_uR_R, true_and, and_true, true_implies, false_implies, not_true_eq_false, not_false_eq_true, if_true, if_false, false_and, and_false]
  rw [br_p h0]
/-- refused here: from a good state -/
theorem FtX_0 {M : am_M} {T : Nat → Nat} {n k p : Nat} (h : TpX M T n) (hO : OwX M) (hk : 1 ≤ k ∧ k ≤ 5) : FtX (uI (uI (uI (uI M 165 8 (nI k)) 165 9 (nI p)) 165 4 0) 165 6 (-1)) T n k p ∧ gF sRd nT M (uI (uI (uI (uI M 165 8 (nI k)) 165 9 (nI p)) 165 4 0) 165 6 (-1)) := by
  have g : gF (fun a j => a = 165 ∧ (j = 8 ∨ j = 9 ∨ j = 4 ∨ j = 6)) nT M (uI (uI (uI (uI M 165 8 (nI k)) 165 9 (nI p)) 165 4 0) 165 6 (-1)) := gF_trans (gF_i _ ⟨rfl, by omega⟩) (gF_trans (gF_i _ ⟨rfl, by omega⟩) (gF_trans (gF_i _ ⟨rfl, by omega⟩) (gF_i _ ⟨rfl, by omega⟩)))
  exact ⟨⟨TpX_g h g (fun a j q z => by omega), OwX_g hO g (fun j z => by omega), by simp [m_uI_I], hk, Or.inl trivial, by simp [m_uI_I], by simp [m_uI_I]⟩, gF_up g (fun a j q => q.1) (fun _ _ q => q)⟩
theorem FtX_1 {M : am_M} {T : Nat → Nat} {n k p : Nat} (h : FtX M T n k p) : FtX (uI (uI M 165 4 0) 165 6 (-1)) T n k p ∧ gF sRd nT M (uI (uI M 165 4 0) 165 6 (-1)) := by
  obtain ⟨a1, a2, a3, a4, a5, a6, a7⟩ := h
  have g : gF (fun a j => a = 165 ∧ (j = 4 ∨ j = 6)) nT M (uI (uI M 165 4 0) 165 6 (-1)) := gF_trans (gF_i _ ⟨rfl, by omega⟩) (gF_i _ ⟨rfl, by omega⟩)
  exact ⟨⟨TpX_g a1 g (fun a j q z => by omega), OwX_g a2 g (fun j z => by omega), by simp [m_uI_I, a3], a4, Or.inl trivial, by simp [m_uI_I], by simp [m_uI_I]⟩, gF_up g (fun a j q => q.1) (fun _ _ q => q)⟩
theorem FtX_8 {M : am_M} {T : Nat → Nat} {n k p : Nat} (h : FtX M T n k p) : ¬ mI M 165 8 = 0 := by
  rw [h.2.2.1]
  intro q
  have := h.2.2.2.1
  rw [show (0 : Int32) = nI 0 from rfl, ni_eq (by omega) (by omega)] at q
  omega
theorem run1_skip {p : Nat → Bool} {s : Nat} : ∀ i m, (∀ j, j < i → p (s + j) = true) → run1 p (i + m) s = run1 p m (s + i) := by
  intro i
  induction i generalizing s with
  | zero => intro m _; rw [Nat.zero_add]; rfl
  | succ i ih =>
    intro m h
    rw [show i + 1 + m = (i + m) + 1 by omega]
    show (if p s = true then run1 p (i + m) (s + 1) else s) = _
    have h0 := h 0 (by omega)
    rw [Nat.add_zero] at h0
    rw [if_pos h0, ih m (fun j hj => by have := h (j + 1) (by omega); rw [show s + (j + 1) = s + 1 + j by omega] at this; exact this), show s + 1 + i = s + (i + 1) by omega]
theorem l_x_blank (d n : Nat) (T : Nat → Nat) (M0 : am_M) (Q : Option Value → am_M → Prop) (b : Int32) (hL : Lay M0) (hT : TpX M0 T n) : ∀ (m a : Nat), a + m = n → ∀ (M : am_M), gF (fun a j => a = 165 ∧ j = 3) nT M0 M → mI M 165 3 = nI a → (∀ M', gF (fun a j => a = 165 ∧ j = 3) nT M0 M' → mI M' 165 3 = nI (run1 (fun i => isBl (T i)) m a) → am_P am_P0 d (am_look tX3_step) 85 [.ref 165, .int b, am_x] [] M' Q) → am_P am_P0 d (am_look tX3_step) 33 [.ref 165, .int b, am_x] [] M Q := by
  intro m
  induction m with
  | zero =>
    intro a ha M hM h3 hQ
    obtain ⟨t1, t2, t3, t4⟩ := TpX_g hT hM (fun a j q z => by omega)
    have e : a = n := by omega
    subst e
    have hle : nI a ≤ nI a := (ni_le (by omega) (by omega)).mpr (Nat.le_refl _)
    have h0 := hQ M hM h3
    rw [hX3_step_33]
    simp +decide (disch := omega) only [qX3_step_0, qX3_step_1, qX3_step_2, qX3_step_3, qX3_step_4, lx (gF_LayN hM hL), t1, t2, h3, am_w1_i, am_w1_r, am_w1_x, am_w1_l, am_w1_w, va_rf_s, am_push_n, am_push_s, am_cs_0, am_cs_i, am_cs_l, am_cs_r, m_uI_K, m_uI_N, m_uI_R, m_uI_L, m_uI_I, m_uL_K, m_uL_N, m_uL_R, m_uL_I, m_uL_L, m_uR_K, m_uR_N, m_uR_I, m_uR_L, m_uR_R, true_and, and_true, true_implies, false_implies, not_true_eq_false, not_false_eq_true, if_true, if_false, false_and, and_false] at h0 ⊢
    rw [br_p hle]
    exact h0
  | succ m ih =>
    intro a ha M hM h3 hQ
    have hTM := TpX_g hT hM (fun a j q z => by omega)
    obtain ⟨t1, t2, t3, t4⟩ := hTM
    obtain ⟨t5, t6⟩ := t4 a (by omega)
    have hLM := gF_LayN hM hL
    have hlt : ¬ nI n ≤ nI a := by rw [ni_le (by omega) (by omega)]; omega
    have e10 : nI (T a) = 10 ↔ T a = 10 := by rw [show (10 : Int32) = nI 10 from rfl, ni_eq (by omega) (by omega)]
    have e32 : nI (T a) = 32 ↔ T a = 32 := by rw [show (32 : Int32) = nI 32 from rfl, ni_eq (by omega) (by omega)]
    have er : run1 (fun i => isBl (T i)) (m + 1) a = if isBl (T a) = true then run1 (fun i => isBl (T i)) m (a + 1) else a := rfl
    by_cases c : isBl (T a) = true
    · have h0 := ih (a + 1) (by omega) (uI M 165 3 (nI (a + 1))) (gF_trans hM (gF_i _ ⟨rfl, rfl⟩)) (by rw [m_uI_I, if_pos ⟨rfl, rfl⟩]) (fun M' g1 g2 => hQ M' g1 (by rw [er, if_pos c]; exact g2))
      rw [hX3_step_33]
      simp +decide (disch := omega) only [qX3_step_0, qX3_step_1, qX3_step_2, qX3_step_3, qX3_step_4, lx hLM, t1, t2, h3, t6, e10, e32, ni_in_t, ni_tn, ni_add1, am_w1_i, am_w1_r, am_w1_x, am_w1_l, am_w1_w, va_rf_s, am_push_n, am_push_s, am_cs_0, am_cs_i, am_cs_l, am_cs_r, m_uI_K, m_uI_N, m_uI_R, m_uI_L, m_uI_I, m_uL_K, m_uL_N, m_uL_R, m_uL_I, m_uL_L, m_uR_K, m_uR_N, m_uR_I, m_uR_L, m_uR_R, true_and, and_true, true_implies, false_implies, not_true_eq_false, not_false_eq_true, if_true, if_false, false_and, and_false] at h0 ⊢
      rw [br_n hlt]
      rcases isBl_i.mp c with q | q
      · rw [br_p q]; exact h0
      · rw [br_n (by omega), br_r q]; exact h0
    · have h0 := hQ M hM (by rw [er, if_neg c]; exact h3)
      rw [isBl_i] at c
      rw [hX3_step_33]
      simp +decide (disch := omega) only [qX3_step_0, qX3_step_1, qX3_step_2, qX3_step_3, qX3_step_4, lx hLM, t1, t2, h3, t6, e10, e32, ni_in_t, ni_tn, ni_add1, am_w1_i, am_w1_r, am_w1_x, am_w1_l, am_w1_w, va_rf_s, am_push_n, am_push_s, am_cs_0, am_cs_i, am_cs_l, am_cs_r, m_uI_K, m_uI_N, m_uI_R, m_uI_L, m_uI_I, m_uL_K, m_uL_N, m_uL_R, m_uL_I, m_uL_L, m_uR_K, m_uR_N, m_uR_I, m_uR_L, m_uR_R, true_and, and_true, true_implies, false_implies, not_true_eq_false, not_false_eq_true, if_true, if_false, false_and, and_false] at h0 ⊢
      rw [br_n hlt, br_n (by omega), br_q (by omega)]
      exact h0
/-- what has been read of a word or number -/
def acV (T : Nat → Nat) (k s i : Nat) : Nat := if k = 1 then pkV T s i else numV T s i
def mst (k : Nat) : Nat := if k = 1 then 6 else 4
theorem kdN_p {k c : Nat} (hk : k = 1 ∨ k = 2) : kdN c = k ↔ (if k = 1 then isL c else isD c) = true := by
  rcases hk with rfl | rfl
  · rw [if_pos rfl]; exact kdN_1
  · rw [if_neg (by omega)]; exact kdN_2
theorem l_x_letters (d n s k : Nat) (T : Nat → Nat) (M0 : am_M) (Q : Option Value → am_M → Prop) (b : Int32) (hL : Lay M0) (hT : TpX M0 T n) (hf : mI M0 165 8 = 0) (hk : k = 1 ∨ k = 2) (h4 : mI M0 165 4 = nI k) (h7 : mI M0 165 7 = nI s) (hsn : s ≤ n)
    (hE : ∀ M' i, gF (fun a j => a = 165 ∧ (j = 3 ∨ j = 5)) nT M0 M' → i ≤ mst k → s + i = run1 (fun i => if k = 1 then isL (T i) else isD (T i)) (n - s) s → mI M' 165 3 = nI (s + i) → mI M' 165 5 = nI (acV T k s i) → am_P am_P0 (d + 1) (am_look tX3_step) 319 [.ref 165, .int b, .int (nI (mst k))] [] M' Q)
    (hF : ∀ M', gF (fun a j => a = 165 ∧ (j = 3 ∨ j = 5)) nT M0 M' → mst k < run1 (fun i => if k = 1 then isL (T i) else isD (T i)) (n - s) s - s → Q none (uI (uI (uI (uI M' 165 8 1) 165 9 (nI (s + mst k))) 165 4 0) 165 6 (-1))) :
    ∀ (m i : Nat), s + i + m = n → i ≤ mst k → (∀ j, j < i → kdN (T (s + j)) = k) → ∀ (M : am_M), gF (fun a j => a = 165 ∧ (j = 3 ∨ j = 5)) nT M0 M → mI M 165 3 = nI (s + i) → mI M 165 5 = nI (acV T k s i) → am_P am_P0 (d + 1) (am_look tX3_step) 189 [.ref 165, .int b, .int (nI (mst k))] [] M Q := by
  have hms : mst k ≤ 6 := by unfold mst; split <;> omega
  intro m
  induction m with
  | zero =>
    intro i hi him hall M hM h3 h5
    obtain ⟨t1, t2, t3, t4⟩ := TpX_g hT hM (fun a j q z => by omega)
    have hle : nI n ≤ nI (s + i) := (ni_le (by omega) (by omega)).mpr (by omega)
    have er := run1_skip (p := fun i => if k = 1 then isL (T i) else isD (T i)) (s := s) i 0 (fun j hj => (kdN_p hk).mp (hall j hj))
    have h0 := hE M i hM him (by rw [show n - s = i + 0 by omega, er]; rfl) h3 h5
    rw [hX3_step_189]
    simp +decide (disch := omega) only [qX3_step_0, qX3_step_1, qX3_step_2, qX3_step_3, qX3_step_4, lx (gF_LayN hM hL), t1, t2, h3, am_w1_i, am_w1_r, am_w1_x, am_w1_l, am_w1_w, va_rf_s, am_push_n, am_push_s, am_cs_0, am_cs_i, am_cs_l, am_cs_r, m_uI_K, m_uI_N, m_uI_R, m_uI_L, m_uI_I, m_uL_K, m_uL_N, m_uL_R, m_uL_I, m_uL_L, m_uR_K, m_uR_N, m_uR_I, m_uR_L, m_uR_R, true_and, and_true, true_implies, false_implies, not_true_eq_false, not_false_eq_true, if_true, if_false, false_and, and_false] at h0 ⊢
    rw [br_p hle]
    exact h0
  | succ m ih =>
    intro i hi him hall M hM h3 h5
    obtain ⟨t1, t2, t3, t4⟩ := TpX_g hT hM (fun a j q z => by omega)
    obtain ⟨t5, t6⟩ := t4 (s + i) (by omega)
    have hLM := gF_LayN hM hL
    have h4M : mI M 165 4 = nI k := by rw [hM.1 _ _ (by omega)]; exact h4
    have h7M : mI M 165 7 = nI s := by rw [hM.1 _ _ (by omega)]; exact h7
    have h8M : mI M 165 8 = 0 := by rw [hM.1 _ _ (by omega)]; exact hf
    have hlt : ¬ nI n ≤ nI (s + i) := by rw [ni_le (by omega) (by omega)]; omega
    have hkd := fun Q => c_x_kindOf d (T (s + i)) M Q t5
    have er := run1_skip (p := fun i => if k = 1 then isL (T i) else isD (T i)) (s := s) i (m + 1) (fun j hj => (kdN_p hk).mp (hall j hj))
    have er2 : run1 (fun i => if k = 1 then isL (T i) else isD (T i)) (m + 1) (s + i) = if (if k = 1 then isL (T (s + i)) else isD (T (s + i))) = true then run1 (fun i => if k = 1 then isL (T i) else isD (T i)) m (s + i + 1) else s + i := rfl
    have ens : n - s = i + (m + 1) := by omega
    have es : nI (s + i) - nI s = nI i := by rw [ni_sub (by omega), show s + i - s = i by omega]
    by_cases c : kdN (T (s + i)) = k
    · have cp := (kdN_p hk).mp c
      by_cases cm : i < mst k
      · have hgo : ∀ x, x = nI (acV T k s (i + 1)) → am_P am_P0 (d + 1) (am_look tX3_step) 189 [.ref 165, .int b, .int (nI (mst k))] [] (uI (uI M 165 5 x) 165 3 (nI (s + i + 1))) Q := fun x hx => by
          refine ih (i + 1) (by omega) (by omega) (fun j hj => ?_) _ (gF_trans hM (gF_trans (gF_i _ ⟨rfl, by omega⟩) (gF_i _ ⟨rfl, by omega⟩))) (by rw [m_uI_I, if_pos ⟨rfl, rfl⟩]; rfl) (by rw [m_uI_I, if_neg (by omega), m_uI_I, if_pos ⟨rfl, rfl⟩]; exact hx)
          by_cases e : j = i
          · subst e; exact c
          · exact hall j (by omega)
        have hlm : nI i < nI (mst k) := (ni_lt (by omega) (by omega)).mpr cm
        rcases hk with rfl | rfl
        · have hL1 := isL_i.mp (kdN_1.mp c)
          have e1 : nI (acV T 1 s i) ||| ((nI (T (s + i)) - 96) <<< (5 * nI i &&& 31)) = nI (acV T 1 s (i + 1)) := by
            rw [show (96 : Int32) = nI 96 from rfl, ni_sub (by omega), show (5 : Int32) = nI 5 from rfl, ni_mul]
            exact pk_or (by have : mst 1 = 6 := rfl; omega) (pkV_lt i (fun j hj => kdN_1.mp (hall j hj))) (by omega)
          have h0 := hgo _ e1
          rw [hX3_step_189]
          simp +decide (disch := omega) only [qX3_step_0, qX3_step_1, qX3_step_2, qX3_step_3, qX3_step_4, lx hLM, t1, t2, h3, t6, hkd, h4M, h7M, h5, c, es, ni_in_t, ni_tn, ni_add1, am_w1_i, am_w1_r, am_w1_x, am_w1_l, am_w1_w, va_rf_s, am_push_n, am_push_s, am_cs_0, am_cs_i, am_cs_l, am_cs_r, m_uI_K, m_uI_N, m_uI_R, m_uI_L, m_uI_I, m_uL_K, m_uL_N, m_uL_R, m_uL_I, m_uL_L, m_uR_K, m_uR_N, m_uR_I, m_uR_L, m_uR_R, true_and, and_true, true_implies, false_implies, not_true_eq_false, not_false_eq_true, if_true, if_false, false_and, and_false, show nI 1 = (1 : Int32) from rfl] at h0 ⊢
          rw [br_n hlt, br_p hlm]
          exact h0
        · have hD1 := isD_i.mp (kdN_2.mp c)
          have e1 : nI (acV T 2 s i) * 10 + nI (T (s + i)) - 48 = nI (acV T 2 s (i + 1)) := by
            rw [show (10 : Int32) = nI 10 from rfl, ni_mul, ni_add, show (48 : Int32) = nI 48 from rfl, ni_sub (by omega)]
            congr 1
            show numV T s i * 10 + T (s + i) - 48 = numV T s i * 10 + (T (s + i) - 48)
            omega
          have h0 := hgo _ e1
          rw [hX3_step_189]
          simp +decide (disch := omega) only [qX3_step_0, qX3_step_1, qX3_step_2, qX3_step_3, qX3_step_4, lx hLM, t1, t2, h3, t6, hkd, h4M, h7M, h5, c, es, ni_in_t, ni_tn, ni_add1, am_w1_i, am_w1_r, am_w1_x, am_w1_l, am_w1_w, va_rf_s, am_push_n, am_push_s, am_cs_0, am_cs_i, am_cs_l, am_cs_r, m_uI_K, m_uI_N, m_uI_R, m_uI_L, m_uI_I, m_uL_K, m_uL_N, m_uL_R, m_uL_I, m_uL_L, m_uR_K, m_uR_N, m_uR_I, m_uR_L, m_uR_R, true_and, and_true, true_implies, false_implies, not_true_eq_false, not_false_eq_true, if_true, if_false, false_and, and_false, show nI 2 = (2 : Int32) from rfl] at h0 ⊢
          rw [br_n hlt, br_p hlm]
          exact h0
      · have ei : i = mst k := by omega
        have hbig : mst k < run1 (fun i => if k = 1 then isL (T i) else isD (T i)) (n - s) s - s := by
          rw [ens, er, er2, if_pos cp]
          have := (run1_le (fun i => if k = 1 then isL (T i) else isD (T i)) m (s + i + 1)).1
          omega
        have h0 := hF M hM hbig
        have hre := fun Q => c_x_refuseAt0 d 1 (nI (s + i)) M Q hLM h8M
        have hlm : ¬ nI i < nI (mst k) := by rw [ni_lt (by omega) (by omega)]; omega
        rw [← ei] at h0
        rw [hX3_step_189]
        simp +decide (disch := omega) only [qX3_step_0, qX3_step_1, qX3_step_2, qX3_step_3, qX3_step_4, lx hLM, t1, t2, h3, t6, hkd, h4M, h7M, h5, c, es, hre, ni_in_t, ni_tn, ni_add1, am_w1_i, am_w1_r, am_w1_x, am_w1_l, am_w1_w, va_rf_s, am_push_n, am_push_s, am_cs_0, am_cs_i, am_cs_l, am_cs_r, m_uI_K, m_uI_N, m_uI_R, m_uI_L, m_uI_I, m_uL_K, m_uL_N, m_uL_R, m_uL_I, m_uL_L, m_uR_K, m_uR_N, m_uR_I, m_uR_L, m_uR_R, true_and, and_true, true_implies, false_implies, not_true_eq_false, not_false_eq_true, if_true, if_false, false_and, and_false]
        rw [br_n hlt, br_n hlm]
        exact h0
    · have cp : ¬ (if k = 1 then isL (T (s + i)) else isD (T (s + i))) = true := fun q => c ((kdN_p hk).mpr q)
      have h0 := hE M i hM him (by rw [ens, er, er2, if_neg cp]) h3 h5
      have hne : ¬ nI (kdN (T (s + i))) = nI k := fun q => c ((ni_eq (by have := kdN_le (T (s + i)); omega) (by omega)).mp q)
      rw [hX3_step_189]
      simp +decide (disch := omega) only [qX3_step_0, qX3_step_1, qX3_step_2, qX3_step_3, qX3_step_4, lx hLM, t1, t2, h3, t6, hkd, h4M, h7M, h5, es, ni_in_t, ni_tn, ni_add1, am_w1_i, am_w1_r, am_w1_x, am_w1_l, am_w1_w, va_rf_s, am_push_n, am_push_s, am_cs_0, am_cs_i, am_cs_l, am_cs_r, m_uI_K, m_uI_N, m_uI_R, m_uI_L, m_uI_I, m_uL_K, m_uL_N, m_uL_R, m_uL_I, m_uL_L, m_uR_K, m_uR_N, m_uR_I, m_uR_L, m_uR_R, true_and, and_true, true_implies, false_implies, not_true_eq_false, not_false_eq_true, if_true, if_false, false_and, and_false] at h0 ⊢
      rw [br_n hlt, br_p hne]
      exact h0
