/-! on: the model; together -/
theorem l_m_on34 (d b : Nat) (x1 : Int32) (M0 : am_M) (Q : Option Value → am_M → Prop) (hL0 : Lay M0) (hb : mI M0 277 12 = nI b) (hb2 : b < 2)
    (hQ : ∀ M' x2, gF (fun a _ => a = 292) nT M0 M' → (∀ t, t < 384 → mI M' 292 (384 * b + t) = -1) → am_P am_P0 (d + 1) (am_look tX11_on) 63 [.ref 277, .int x1, .int x2, am_x] [] M' Q) :
    ∀ (m i : Nat), i + m = 384 → ∀ (M : am_M), gF (fun a _ => a = 292) nT M0 M → (∀ t, t < i → mI M 292 (384 * b + t) = -1) → am_P am_P0 (d + 1) (am_look tX11_on) 34 [.ref 277, .int x1, .int (nI i), am_x] [] M Q := by
  intro m
  induction m with
  | zero =>
    intro i hi M g h
    have hL := gF_LayN g hL0
    have hbM : mI M 277 12 = nI b := by rw [g.1 _ _ (by omega)]; exact hb
    have e : i = 384 := by omega
    subst e
    have h0 := hQ M (nI 384) g h
    have hle : (384 : Int32) ≤ nI 384 := by decide
    rw [hX11_on_34]
    simp +decide (disch := omega) only [qX11_on_0, qX11_on_1, qX11_on_2, lm hL, hbM, ni_in_t, ni_tn, am_w1_i, am_w1_r, am_w1_x, am_w1_l, am_w1_w, va_rf_s, am_push_n, am_push_s, am_cs_0, am_cs_i, am_cs_l, am_cs_r, m_uI_K, m_uI_N, m_uI_R, m_uI_L, m_uI_I, m_uL_K, m_uL_N, m_uL_R, m_uL_I, m_uL_L, m_uR_K, m_uR_N, m_uR_I, m_uR_L, m_uR_R, true_and, and_true, true_implies, false_implies, not_true_eq_false, not_false_eq_true, if_true, if_false, false_and, and_false] at h0 ⊢
    first | exact h0 | (rw [br_p hle]; exact h0)
  | succ m ih =>
    intro i hi M g h
    have hL := gF_LayN g hL0
    have hbM : mI M 277 12 = nI b := by rw [g.1 _ _ (by omega)]; exact hb
    have hlt : ¬ (384 : Int32) ≤ nI i := by rw [show (384 : Int32) = nI 384 from rfl, ni_le (by omega) (by omega)]; omega
    have eJ : (384 : Int32) * nI b + nI i = nI (384 * b + i) := by rw [show (384 : Int32) = nI 384 from rfl, ni_mul, ni_add]
    have h0 := ih (i + 1) (by omega) (uI M 292 (384 * b + i) (-1)) (gF_trans g (gF_i _ rfl)) (fun t ht => by
      by_cases e : t = i
      · rw [e, m_uI_I, if_pos ⟨rfl, rfl⟩]
      · rw [m_uI_I, if_neg (by omega)]; exact h t (by omega))
    rw [hX11_on_34]
    simp +decide (disch := omega) only [qX11_on_0, qX11_on_1, qX11_on_2, lm hL, hbM, eJ, ni_in_t, ni_tn, ni_add1, am_w1_i, am_w1_r, am_w1_x, am_w1_l, am_w1_w, va_rf_s, am_push_n, am_push_s, am_cs_0, am_cs_i, am_cs_l, am_cs_r, m_uI_K, m_uI_N, m_uI_R, m_uI_L, m_uI_I, m_uL_K, m_uL_N, m_uL_R, m_uL_I, m_uL_L, m_uR_K, m_uR_N, m_uR_I, m_uR_L, m_uR_R, true_and, and_true, true_implies, false_implies, not_true_eq_false, not_false_eq_true, if_true, if_false, false_and, and_false]
    rw [br_n hlt]
    exact h0
/-- what is read while the model takes an image -/
def ToR (M : am_M) (b : Nat) (T : Nat → Nat) : Prop := Lay M ∧ mI M 277 12 = nI b ∧ b < 2 ∧ TpO T M
def sTo (b a j : Nat) : Prop := (a = 291 ∧ j = b) ∨ a = 292 ∨ a = 293 ∨ (a = 299 ∧ j = b) ∨ (300 ≤ a ∧ a ≤ 302)
theorem ToR_g {M M' : am_M} {b : Nat} {T : Nat → Nat} (h : ToR M b T) (g : gF (sTo b) nT M M') : ToR M' b T := ⟨gF_LayN g h.1, by rw [g.1 _ _ (by unfold sTo; omega)]; exact h.2.1, h.2.2.1, fun j hj => ⟨(h.2.2.2 j hj).1, by rw [g.1 _ _ (by unfold sTo; omega)]; exact (h.2.2.2 j hj).2⟩⟩
theorem SyM_in {M : am_M} {b C R s : Nat} {Y : List Sy} {y0 : Sy} {v : Int32} (h : SyM M b C R s Y) (hno : ∀ y, y ∈ Y → ¬ y.1 = y0.1) (h1 : y0.1 < 48) (h2 : vld C R y0.2.1) : SyM (uI (uI (uI M 292 (384 * b + 48 * s + y0.1) (nI (cel C y0.2.1))) 293 (384 * b + 48 * s + y0.1) (b01 y0.2.2)) 291 b v) b C R s (inY Y y0) := by
  refine ⟨inY_srt h.1 hno, fun u hu => ?_, fun τ hτ => ?_⟩
  · rcases inY_mem.mp hu with rfl | q
    · exact ⟨h1, h2⟩
    · exact h.2.1 u q
  · by_cases e : τ = y0.1
    · subst e
      refine Or.inl ⟨_, inY_mem.mpr (Or.inl rfl), rfl, ?_, ?_⟩
      · rw [m_uI_I, if_neg (by omega), m_uI_I, if_neg (by omega), m_uI_I, if_pos ⟨rfl, rfl⟩]
      · rw [m_uI_I, if_neg (by omega), m_uI_I, if_pos ⟨rfl, rfl⟩]
    · rcases h.2.2 τ hτ with ⟨u, q1, q2, q3, q4⟩ | ⟨q1, q2⟩
      · exact Or.inl ⟨u, inY_mem.mpr (Or.inr q1), q2, by rw [m_uI_I, if_neg (by omega), m_uI_I, if_neg (by omega), m_uI_I, if_neg (by omega)]; exact q3, by rw [m_uI_I, if_neg (by omega), m_uI_I, if_neg (by omega), m_uI_I, if_neg (by omega)]; exact q4⟩
      · refine Or.inr ⟨fun u hu => ?_, by rw [m_uI_I, if_neg (by omega), m_uI_I, if_neg (by omega), m_uI_I, if_neg (by omega)]; exact q2⟩
        rcases inY_mem.mp hu with rfl | q
        · exact fun q => e q.symm
        · exact q1 u q
theorem l_m_on96 (d b : Nat) (x1 : Int32) (D : Dat) (T : Nat → Nat) (M0 : am_M) (Q : Option Value → am_M → Prop) (hD : dOK D) (hR0 : ToR M0 b T) (h96 : T 0 ≤ 96) (hrow : ∀ i, i < T 0 → rowOK (dN D) (dC D * dR D) T i)
    (hQ : ∀ M', gF (sTo b) nT M0 M' → mI M' 291 b = nI (T 0) → (∀ s, s < 8 → SyM M' b (dC D) (dR D) s (onY (dC D) T (T 0) s)) → mI M' 299 b = mI M0 299 b → am_P am_P0 (d + 1) (am_look tX11_on) 154 [.ref 277, .int x1, .int (nI (1 + 4 * T 0)), .int (nI (1 + 4 * T 0 + 1))] [] M' Q) :
    ∀ (m i : Nat), i + m = T 0 → ∀ (M : am_M), gF (sTo b) nT M0 M → mI M 291 b = nI i → (∀ s, s < 8 → SyM M b (dC D) (dR D) s (onY (dC D) T i s)) → mI M 299 b = mI M0 299 b → am_P am_P0 (d + 1) (am_look tX11_on) 96 [.ref 277, .int x1, .int (nI (1 + 4 * T 0)), .int (nI (1 + 4 * i))] [] M Q := by
  have n8 := dN_8 hD
  intro m
  induction m with
  | zero =>
    intro i hi M g hn hY h299
    have e : i = T 0 := by omega
    subst e
    have hle : nI (1 + 4 * T 0) ≤ nI (1 + 4 * T 0) := (ni_le (by omega) (by omega)).mpr (Nat.le_refl _)
    have h0 := hQ M g hn hY h299
    rw [hX11_on_96]
    simp +decide (disch := omega) only [qX11_on_0, qX11_on_1, qX11_on_2, ni_add1, am_w1_i, am_w1_r, am_w1_x, am_w1_l, am_w1_w, va_rf_s, am_push_n, am_push_s, am_cs_0, am_cs_i, am_cs_l, am_cs_r, m_uI_K, m_uI_N, m_uI_R, m_uI_L, m_uI_I, m_uL_K, m_uL_N, m_uL_R, m_uL_I, m_uL_L, m_uR_K, m_uR_N, m_uR_I, m_uR_L, m_uR_R, true_and, and_true, true_implies, false_implies, not_true_eq_false, not_false_eq_true, if_true, if_false, false_and, and_false]
    rw [br_p hle]
    exact h0
  | succ m ih =>
    intro i hi M g hn hY h299
    obtain ⟨hL, hb, hb2, hT⟩ := ToR_g hR0 g
    have hlt : ¬ nI (1 + 4 * T 0) ≤ nI (1 + 4 * i) := by rw [ni_le (by omega) (by omega)]; omega
    obtain ⟨q1, q2, q3, q4, q5⟩ := hrow i (by omega)
    have hpl := pl_n1 hD q3
    have hno := onY_no (C := dC D) hrow (i := i) (by omega)
    have hS1 := SyM_in (v := nI (i + 1)) (hY (T (1 + 4 * i)) (by omega)) hno q2 hpl.2.1
    have eR1 : (onR (dC D) T i).1 = T (1 + 4 * i + 1) := rfl
    have eR2 : (onR (dC D) T i).2.1 = plc (dC D) (T (1 + 4 * i + 2)) := rfl
    have eR3 : (onR (dC D) T i).2.2 = (T (1 + 4 * i + 3) == 1) := rfl
    rw [eR1, eR2, eR3, hpl.2.2.1] at hS1
    obtain ⟨A, hA⟩ : ∃ A, A = uI (uI (uI M 292 (384 * b + 48 * T (1 + 4 * i) + T (1 + 4 * i + 1)) (nI (T (1 + 4 * i + 2)))) 293 (384 * b + 48 * T (1 + 4 * i) + T (1 + 4 * i + 1)) (b01 (T (1 + 4 * i + 3) == 1))) 291 b (nI (i + 1)) := ⟨_, rfl⟩
    rw [← hA] at hS1
    have gA : gF (fun a j => (a = 291 ∧ j = b) ∨ ((a = 292 ∨ a = 293) ∧ j = 384 * b + 48 * T (1 + 4 * i) + T (1 + 4 * i + 1))) nT M A := by rw [hA]; exact gF_trans (gF_i _ (by omega)) (gF_trans (gF_i _ (by omega)) (gF_i _ (by omega)))
    have h0 := ih (i + 1) (by omega) A (gF_trans g (gF_up gA (fun a j q => by unfold sTo; omega) (fun _ _ q => q))) (by rw [hA, m_uI_I, if_pos ⟨rfl, rfl⟩]) (fun s hs => by
      by_cases e : T (1 + 4 * i) = s
      · rw [onY_t e, ← e]; exact hS1
      · rw [onY_f e]
        exact SyM_gF (hY s hs) gA (fun a t w ht w' => by omega)) (by rw [gA.1 _ _ (by omega)]; exact h299)
    obtain ⟨p, hp⟩ : ∃ p, p = 1 + 4 * i := ⟨_, rfl⟩
    rw [show 1 + 4 * (i + 1) = p + 4 by omega] at h0
    rw [← hp] at q1 q2 q3 q4 hlt hA ⊢
    obtain ⟨u0, a0⟩ := hT p (by omega)
    obtain ⟨u1, a1⟩ := hT (p + 1) (by omega)
    obtain ⟨u2, a2⟩ := hT (p + 2) (by omega)
    obtain ⟨u3, a3⟩ := hT (p + 3) (by omega)
    rw [hX11_on_96]
    by_cases cl : T (p + 3) = 1
    · have eW := fun Q => c_m_says d (T p) (T (p + 1)) (nI (T (p + 2))) 1 M Q hL b i hb hb2 (by omega) q2 hn (Or.inr rfl)
      have e9 : b01 (T (p + 3) == 1) = 1 := by rw [cl]; rfl
      rw [e9] at hA
      have a3' : mI M 278 (p + 3) = 1 := by rw [a3, cl]; rfl
      simp +decide (disch := omega) only [qX11_on_0, qX11_on_1, qX11_on_2, lm hL, a0, a1, a2, a3', eW, ni_in_t, ni_tn, ni_add1, ni_a2, ni_a3, ni_a4, am_w1_i, am_w1_r, am_w1_x, am_w1_l, am_w1_w, va_rf_s, am_push_n, am_push_s, am_cs_0, am_cs_i, am_cs_l, am_cs_r, m_uI_K, m_uI_N, m_uI_R, m_uI_L, m_uI_I, m_uL_K, m_uL_N, m_uL_R, m_uL_I, m_uL_L, m_uR_K, m_uR_N, m_uR_I, m_uR_L, m_uR_R, true_and, and_true, true_implies, false_implies, not_true_eq_false, not_false_eq_true, if_true, if_false, false_and, and_false, ← hA]
      rw [br_n hlt]
      exact h0
    · have eW := fun Q => c_m_says d (T p) (T (p + 1)) (nI (T (p + 2))) 0 M Q hL b i hb hb2 (by omega) q2 hn (Or.inl rfl)
      have e9 : b01 (T (p + 3) == 1) = 0 := by rw [show (T (p + 3) == 1) = false from beq_false_of_ne cl]; rfl
      rw [e9] at hA
      have a3' : mI M 278 (p + 3) = 0 := by rw [a3, show T (p + 3) = 0 by omega]; rfl
      simp +decide (disch := omega) only [qX11_on_0, qX11_on_1, qX11_on_2, lm hL, a0, a1, a2, a3', eW, ni_in_t, ni_tn, ni_add1, ni_a2, ni_a3, ni_a4, am_w1_i, am_w1_r, am_w1_x, am_w1_l, am_w1_w, va_rf_s, am_push_n, am_push_s, am_cs_0, am_cs_i, am_cs_l, am_cs_r, m_uI_K, m_uI_N, m_uI_R, m_uI_L, m_uI_I, m_uL_K, m_uL_N, m_uL_R, m_uL_I, m_uL_L, m_uR_K, m_uR_N, m_uR_I, m_uR_L, m_uR_R, true_and, and_true, true_implies, false_implies, not_true_eq_false, not_false_eq_true, if_true, if_false, false_and, and_false, ← hA]
      rw [br_n hlt]
      exact h0
theorem l_m_on154 (d b n k : Nat) (D : Dat) (T : Nat → Nat) (M0 : am_M) (Q : Option Value → am_M → Prop) (hD : dOK D) (hR0 : ToR M0 b T) (hk : k ≤ 385) (h40 : T k ≤ 40) (hn : n = k + 2 + 3 * T k) (hsg : ∀ j, j < T k → sgrOK (dC D * dR D) T k j)
    (hQ : ∀ M', gF (fun a j => (a = 299 ∧ j = b) ∨ (300 ≤ a ∧ a ≤ 302)) nT M0 M' → SgM M' b (dC D) (onG (dC D) T k (T k)) → Q (some (.int 1)) M') :
    ∀ (m j : Nat), j + m = T k → ∀ (M : am_M), gF (fun a j => (a = 299 ∧ j = b) ∨ (300 ≤ a ∧ a ≤ 302)) nT M0 M → SgM M b (dC D) (onG (dC D) T k j) → am_P am_P0 (d + 1) (am_look tX11_on) 154 [.ref 277, .int (nI n), .int (nI k), .int (nI (k + 1 + 3 * j))] [] M Q := by
  have em : nI n - 1 = nI (n - 1) := ni_m1 (by omega)
  intro m
  induction m with
  | zero =>
    intro j hj M g hS
    have e : j = T k := by omega
    subst e
    have hle : nI (n - 1) ≤ nI (k + 1 + 3 * T k) := (ni_le (by omega) (by omega)).mpr (by omega)
    have h0 := hQ M g hS
    rw [hX11_on_154]
    simp +decide (disch := omega) only [qX11_on_0, qX11_on_1, qX11_on_2, em, am_w1_i, am_w1_r, am_w1_x, am_w1_l, am_w1_w, va_rf_s, am_push_n, am_push_s, am_cs_0, am_cs_i, am_cs_l, am_cs_r, m_uI_K, m_uI_N, m_uI_R, m_uI_L, m_uI_I, m_uL_K, m_uL_N, m_uL_R, m_uL_I, m_uL_L, m_uR_K, m_uR_N, m_uR_I, m_uR_L, m_uR_R, true_and, and_true, true_implies, false_implies, not_true_eq_false, not_false_eq_true, if_true, if_false, false_and, and_false]
    rw [br_p hle]
    exact h0
  | succ m ih =>
    intro j hj M g hS
    obtain ⟨hL, hb, hb2, hT⟩ := ToR_g hR0 (gF_up g (fun a j q => by unfold sTo; omega) (fun _ _ q => q))
    have hlt : ¬ nI (n - 1) ≤ nI (k + 1 + 3 * j) := by rw [ni_le (by omega) (by omega)]; omega
    obtain ⟨q1, q2, q3⟩ := hsg j (by omega)
    have hpl := pl_n1 hD q2
    have hln := onG_len (dC D) T k j
    have hS1 := SgM_app (a := T (k + 1 + 3 * j)) (p := plc (dC D) (T (k + 1 + 3 * j + 1))) (t := T (k + 1 + 3 * j + 2)) hS
    have hn9 := hS.1
    rw [hln, hpl.2.2.1] at hS1
    rw [hln] at hn9
    have g2 : gF (fun a j => (a = 299 ∧ j = b) ∨ (300 ≤ a ∧ a ≤ 302)) nT M (spM M b j (nI (T (k + 1 + 3 * j))) (nI (T (k + 1 + 3 * j + 1))) (nI (T (k + 1 + 3 * j + 2)))) := gF_trans (gF_trans (gF_trans (gF_i _ (by omega)) (gF_i _ (by omega))) (gF_i _ (by omega))) (gF_i _ (by omega))
    have h0 := ih (j + 1) (by omega) _ (gF_trans g g2) hS1
    obtain ⟨p, hp⟩ : ∃ p, p = k + 1 + 3 * j := ⟨_, rfl⟩
    rw [show k + 1 + 3 * (j + 1) = p + 3 by omega, ← hp] at h0
    rw [← hp] at hlt q1 q2 q3 ⊢
    obtain ⟨u0, a0⟩ := hT p (by omega)
    obtain ⟨u1, a1⟩ := hT (p + 1) (by omega)
    obtain ⟨u2, a2⟩ := hT (p + 2) (by omega)
    have eA := fun Q => c_m_spots d (nI (T p)) (nI (T (p + 1))) (nI (T (p + 2))) M Q hL b j hb hb2 hn9 (by omega)
    rw [hX11_on_154]
    simp +decide (disch := omega) only [qX11_on_0, qX11_on_1, qX11_on_2, lm hL, em, a0, a1, a2, eA, ni_in_t, ni_tn, ni_add1, ni_a2, ni_a3, am_w1_i, am_w1_r, am_w1_x, am_w1_l, am_w1_w, va_rf_s, am_push_n, am_push_s, am_cs_0, am_cs_i, am_cs_l, am_cs_r, m_uI_K, m_uI_N, m_uI_R, m_uI_L, m_uI_I, m_uL_K, m_uL_N, m_uL_R, m_uL_I, m_uL_L, m_uR_K, m_uR_N, m_uR_I, m_uR_L, m_uR_R, true_and, and_true, true_implies, false_implies, not_true_eq_false, not_false_eq_true, if_true, if_false, false_and, and_false]
    rw [br_n hlt]
    exact h0
theorem m_on {M : am_M} {b n : Nat} {D : Dat} {T : Nat → Nat} (hD : dOK D) (hL : Lay M) (h : MdM M b D) (hT : TpO T M) (h1 : mI M 277 1 = nI n) (hn : n ≤ 1800) (d : Nat) (Q : Option Value → am_M → Prop)
    (hY : imOK (dN D) (dC D * dR D) T n → ∀ M', gF (fun a j => sTo b a j ∨ (a = 277 ∧ j = 1)) nT M M' → mI M' 277 1 = 0 → MdM M' b (datOn D T) → Q (some (.int 1)) M') (hN : ¬ imOK (dN D) (dC D * dR D) T n → Q (some (.int 0)) (rfM (uI M 277 1 0) 4)) : am_E am_P0 (d + 3) 302 [.ref 277] M Q := by
  have hb2 := h.1.2
  obtain ⟨A, hA⟩ : ∃ A, A = uI M 277 1 0 := ⟨_, rfl⟩
  have gA : gF (fun a j => a = 277 ∧ j = 1) nT M A := by rw [hA]; exact gF_i _ ⟨rfl, rfl⟩
  have LA := gF_LayN gA hL
  have mA := MdM_g h gA (fun a j q w => by unfold tlM at q; omega)
  have TA : TpO T A := fun j hj => ⟨(hT j hj).1, by rw [gA.1 _ _ (by omega)]; exact (hT j hj).2⟩
  have eR : ∀ Q, am_E am_P0 (d + 2) 208 [.ref 277, .int 4] A Q ↔ Q (some (.int (-1))) (rfM A 4) := fun Q => c_m_refuses (d + 2) 4 (by omega) A Q LA
  rw [← hA] at hN
  rw [eX11_on]
  simp +decide (disch := omega) only [qX11_on_0, qX11_on_1, qX11_on_2, lm hL, h1, am_w1_i, am_w1_r, am_w1_x, am_w1_l, am_w1_w, va_rf_s, am_push_n, am_push_s, am_cs_0, am_cs_i, am_cs_l, am_cs_r, m_uI_K, m_uI_N, m_uI_R, m_uI_L, m_uI_I, m_uL_K, m_uL_N, m_uL_R, m_uL_I, m_uL_L, m_uR_K, m_uR_N, m_uR_I, m_uR_L, m_uR_R, true_and, and_true, true_implies, false_implies, not_true_eq_false, not_false_eq_true, if_true, if_false, false_and, and_false, ← hA, lm LA]
  refine c_m_isWhole d b n D T A _ hD LA mA TA hn (fun hk => ?_) (fun hk => ?_)
  · obtain ⟨⟨i1, i2⟩, ⟨i3, i4, i5⟩, i6, i7, i8⟩ := id hk
    simp +decide (disch := omega) only [qX11_on_0, qX11_on_1, qX11_on_2, am_w1_i, am_w1_r, am_w1_x, am_w1_l, am_w1_w, va_rf_s, am_push_n, am_push_s, am_cs_0, am_cs_i, am_cs_l, am_cs_r, m_uI_K, m_uI_N, m_uI_R, m_uI_L, m_uI_I, m_uL_K, m_uL_N, m_uL_R, m_uL_I, m_uL_L, m_uR_K, m_uR_N, m_uR_I, m_uR_L, m_uR_R, true_and, and_true, true_implies, false_implies, not_true_eq_false, not_false_eq_true, if_true, if_false, false_and, and_false]
    refine l_m_on34 (d + 2) b (nI n) A Q LA mA.1.1 hb2 (fun M1 x2 g1 k1 => ?_) 384 0 (by omega) A (gF_refl _ _ _) (fun t ht => by omega)
    have L1 := gF_LayN g1 LA
    have b1 : mI M1 277 12 = nI b := by rw [g1.1 _ _ (by omega)]; exact mA.1.1
    obtain ⟨u0, a0⟩ := TA 0 (by omega)
    have a1 : mI M1 278 0 = nI (T 0) := by rw [g1.1 _ _ (by omega)]; exact a0
    have hin : (0 : Int32).toInt.toNat = 0 := rfl
    have ek : (1 : Int32) + 4 * nI (T 0) = nI (1 + 4 * T 0) := by rw [show (1 : Int32) = nI 1 from rfl, show (4 : Int32) = nI 4 from rfl, ni_mul, ni_add]
    obtain ⟨B, hB⟩ : ∃ B, B = uI (uI M1 291 b 0) 299 b 0 := ⟨_, rfl⟩
    have gB : gF (sTo b) nT A B := gF_trans (gF_up g1 (fun a j q => by unfold sTo; omega) (fun _ _ q => q)) (by rw [hB]; exact gF_trans (gF_i _ (by unfold sTo; omega)) (gF_i _ (by unfold sTo; omega)))
    have RB : ToR B b T := ToR_g ⟨LA, mA.1.1, hb2, TA⟩ gB
    have B291 : mI B 291 b = nI 0 := by rw [hB, m_uI_I, if_neg (by omega), m_uI_I, if_pos ⟨rfl, rfl⟩]; rfl
    have B299 : mI B 299 b = nI 0 := by rw [hB, m_uI_I, if_pos ⟨rfl, rfl⟩]; rfl
    have B292 : ∀ t, t < 384 → mI B 292 (384 * b + t) = -1 := fun t ht => by rw [hB, m_uI_I, if_neg (by omega), m_uI_I, if_neg (by omega)]; exact k1 t ht
    have aB : mI B 278 0 = nI (T 0) := (RB.2.2.2 0 (by omega)).2
    simp +decide (disch := omega) only [qX11_on_0, qX11_on_1, qX11_on_2, lm L1, b1, a1, ek, hin, ni_in_t, ni_tn, am_w1_i, am_w1_r, am_w1_x, am_w1_l, am_w1_w, va_rf_s, am_push_n, am_push_s, am_cs_0, am_cs_i, am_cs_l, am_cs_r, m_uI_K, m_uI_N, m_uI_R, m_uI_L, m_uI_I, m_uL_K, m_uL_N, m_uL_R, m_uL_I, m_uL_L, m_uR_K, m_uR_N, m_uR_I, m_uR_L, m_uR_R, true_and, and_true, true_implies, false_implies, not_true_eq_false, not_false_eq_true, if_true, if_false, false_and, and_false, ← hB, lm RB.1, aB]
    refine l_m_on96 (d + 2) b (nI n) D T B Q hD RB i2 i7 (fun M2 g2 n2 y2 e2 => ?_) (T 0) 0 (by omega) B (gF_refl _ _ _) B291 (fun s hs => ⟨List.Pairwise.nil, fun y hy => by simp [onY] at hy, fun t ht => Or.inr ⟨fun y hy => by simp [onY] at hy, by rw [show 384 * b + 48 * s + t = 384 * b + (48 * s + t) by omega]; exact B292 _ (by omega)⟩⟩) rfl
    refine l_m_on154 (d + 2) b n (1 + 4 * T 0) D T M2 Q hD (ToR_g RB g2) (by omega) i4 i5 i8 (fun M3 g3 s3 => ?_) (T (1 + 4 * T 0)) 0 (by omega) M2 (gF_refl _ _ _) ⟨by rw [e2]; exact B299, fun i g hi => by simp [onG] at hi⟩
    have G : gF (sTo b) nT A M3 := gF_trans gB (gF_trans g2 (gF_up g3 (fun a j q => by unfold sTo; omega) (fun _ _ q => q)))
    have e01 : mI M3 277 1 = 0 := by rw [G.1 _ _ (by unfold sTo; omega), hA, m_uI_I, if_pos ⟨rfl, rfl⟩]
    obtain ⟨m1, m2, m3, m4, m5, m6, m7, ⟨r1, r2, r3⟩, m8⟩ := id mA
    refine hY hk M3 (gF_trans (gF_up gA (fun a j q => Or.inr q) (fun _ _ q => q)) (gF_up G (fun a j q => Or.inl q) (fun _ _ q => q))) e01 ?_
    have k : ∀ a j, ¬ ((291 ≤ a ∧ a ≤ 293) ∨ (299 ≤ a ∧ a ≤ 302)) → ¬ sTo b a j := fun a j q w => by unfold sTo at w; omega
    refine ⟨⟨by rw [G.1 _ _ (k _ _ (by omega))]; exact m1.1, m1.2⟩, ⟨by rw [G.1 _ _ (k _ _ (by omega))]; exact m2.1, by rw [G.1 _ _ (k _ _ (by omega))]; exact m2.2⟩, by rw [G.1 _ _ (k _ _ (by omega))]; exact m3, ShpM_g m4 G (k _ _ (by omega)) (fun a j q1 q2 _ => k _ _ (by omega)), ⟨?_, fun s hs => ?_⟩, BkM_gF m6 G (k _ _ (by omega)) (fun a j q1 q2 _ => k _ _ (by omega)), s3, ⟨RaM_g r1 G (fun a j q => k _ _ (by omega)), RaM_g r2 G (fun a j q => k _ _ (by omega)), RaM_g r3 G (fun a j q => k _ _ (by omega))⟩, fun p hp => ⟨by rw [G.1 _ _ (k _ _ (by omega))]; exact (m8 p hp).1, by rw [G.1 _ _ (k _ _ (by omega))]; exact (m8 p hp).2⟩⟩
    · rw [tot_on i7, g3.1 _ _ (by omega)]; exact n2
    · rw [dY_on i7]
      exact SyM_gF (y2 s hs) g3 (fun a t q ht w => by omega)
  · have h0 := hN hk
    simp +decide (disch := omega) only [qX11_on_0, qX11_on_1, qX11_on_2, lm LA, eR, am_w1_i, am_w1_r, am_w1_x, am_w1_l, am_w1_w, va_rf_s, am_push_n, am_push_s, am_cs_0, am_cs_i, am_cs_l, am_cs_r, m_uI_K, m_uI_N, m_uI_R, m_uI_L, m_uI_I, m_uL_K, m_uL_N, m_uL_R, m_uL_I, m_uL_L, m_uR_K, m_uR_N, m_uR_I, m_uR_L, m_uR_R, true_and, and_true, true_implies, false_implies, not_true_eq_false, not_false_eq_true, if_true, if_false, false_and, and_false]
    exact h0
theorem op_on : OpI 146 302 [] isI := by
  intro M hI d hd
  obtain ⟨z, b, D, hD, hX, hM, ⟨T, n, t1, t2, t3, t4⟩, hRf, hFt, ⟨k, k1, k2, k3, k4⟩⟩ := id hI
  have hz := hX.1.2.2.1
  obtain ⟨d', rfl⟩ : ∃ d', d = d' + 3 := ⟨d - 3, by omega⟩
  refine x_on hD hX (fun j hj => ⟨(t4 j hj).1, (t4 j hj).2.1⟩) t2 t1 (d' + 1) _ (fun hk M1 g1 z1 X1 => ?_) (fun hk => ?_)
  · refine ⟨_, rfl, ⟨_, rfl⟩, X1.1.1, ?_⟩
    have kx : ∀ a j, (a = 1 ∨ 277 ≤ a ∨ a = 169 ∨ a = 170 ∨ (a = 0 ∧ ¬ j = 1 ∧ ¬ j = 13)) → mI M1 a j = mI M a j := fun a j q => g1.1 _ _ (fun w => by
      rcases w with w | w
      · have := sCh_no hz w; omega
      · omega)
    have m1 := MdM_g hM g1 (fun a j q w => by
      rcases w with w | w
      · have := sCh_no hz w; unfold tlM at q; omega
      · unfold tlM at q; omega)
    refine m_on hD X1.1.1 m1 (fun j hj => ⟨(t4 j hj).1, by rw [kx _ _ (by omega)]; exact (t4 j hj).2.2⟩) (by rw [kx _ _ (by omega)]; exact t3) t1 d' _ (fun _ M2 g2 z2 m2 => ⟨rfl, ?_⟩) (fun q => absurd hk q)
    have hD' := dOK_on hD hk
    have ko : ∀ a j, a < 277 ∨ (a = 277 ∧ ¬ j = 1) ∨ a = 278 ∨ a = 312 ∨ a = 335 → mI M2 a j = mI M1 a j := fun a j q => g2.1 _ _ (fun w => by unfold sTo at w; omega)
    refine ⟨z, b, _, hD', XR_m hD' X1 g2 (fun a j q => by unfold sTo at q; omega), m2, ⟨T, 0, by omega, by rw [ko _ _ (by omega)]; exact z1, z2, fun j hj => ⟨(t4 j hj).1, ?_, ?_⟩⟩, fun j hj => ?_, ⟨?_, ?_⟩, ⟨k, k1, ?_, ?_, fun j hj => ?_⟩⟩
    · rw [ko _ _ (by omega), kx _ _ (by omega)]; exact (t4 j hj).2.1
    · rw [ko _ _ (by omega), kx _ _ (by omega)]; exact (t4 j hj).2.2
    · rw [ko _ _ (by omega), kx _ _ (by omega), ko _ _ (by omega), kx _ _ (by omega)]; exact hRf j hj
    · rw [ko _ _ (by omega), kx _ _ (by omega), ko _ _ (by omega), kx _ _ (by omega)]; exact hFt.1
    · trivial
    · rw [ko _ _ (by omega), kx _ _ (by omega)]; exact k2
    · rw [ko _ _ (by omega), kx _ _ (by omega)]; exact k3
    · rw [ko _ _ (by omega), kx _ _ (by omega), ko _ _ (by omega), kx _ _ (by omega)]; exact k4 j hj
  · refine ⟨_, rfl, ⟨_, rfl⟩, hX.1.1, ?_⟩
    obtain ⟨A, hA⟩ : ∃ A, A = rfX (uI M 0 1 0) 4 := ⟨_, rfl⟩
    have g1 : gF (fun a j => (a = 0 ∧ j = 1) ∨ (a = 169 ∧ j = 4)) nT M A := by rw [hA]; exact gF_trans (gF_i _ (by omega)) (gF_i _ (by omega))
    rw [← hA]
    have XA := XR_t hD hX g1 (fun a j q => by omega)
    have mA := MdM_g hM g1 (fun a j q w => by unfold tlM at q; omega)
    refine m_on hD XA.1.1 mA (fun j hj => ⟨(t4 j hj).1, by rw [g1.1 _ _ (by omega)]; exact (t4 j hj).2.2⟩) (by rw [g1.1 _ _ (by omega)]; exact t3) t1 d' _ (fun q => absurd q hk) (fun _ => ⟨rfl, ?_⟩)
    obtain ⟨B, hB⟩ : ∃ B, B = rfM (uI A 277 1 0) 4 := ⟨_, rfl⟩
    have g2 : gF (fun a j => (a = 277 ∧ j = 1) ∨ (a = 312 ∧ j = 4)) nT A B := by rw [hB]; exact gF_trans (gF_i _ (by omega)) (gF_i _ (by omega))
    rw [← hB]
    have kp : ∀ a j, ¬ ((a = 0 ∧ j = 1) ∨ (a = 169 ∧ j = 4)) → ¬ ((a = 277 ∧ j = 1) ∨ (a = 312 ∧ j = 4)) → mI B a j = mI M a j := fun a j q1 q2 => by rw [g2.1 _ _ q2, g1.1 _ _ q1]
    refine Inv_t hD hX hM (gF_up g1 (fun a j q => by unfold sXt; omega) (fun _ _ q => q)) (gF_up g2 (fun a j q => by unfold sMt; omega) (fun _ _ q => q)) ⟨T, 0, by omega, ?_, ?_, fun j hj => ⟨(t4 j hj).1, ?_, ?_⟩⟩ (fun j hj => ?_) ⟨?_, ?_⟩ ⟨k, k1, ?_, ?_, fun j hj => ?_⟩
    · rw [g2.1 _ _ (by omega), hA, m_uI_I, if_neg (by omega), m_uI_I, if_pos ⟨rfl, rfl⟩]; rfl
    · rw [hB, m_uI_I, if_neg (by omega), m_uI_I, if_pos ⟨rfl, rfl⟩]; rfl
    · rw [kp _ _ (by omega) (by omega)]; exact (t4 j hj).2.1
    · rw [kp _ _ (by omega) (by omega)]; exact (t4 j hj).2.2
    · by_cases e0 : j = 4
      · subst e0
        have v1 : mI B 169 4 = mI M 169 4 + 1 := by rw [g2.1 _ _ (by omega), hA, m_uI_I, if_pos ⟨rfl, rfl⟩, m_uI_I, if_neg (by omega)]
        have v2 : mI B 312 4 = mI M 312 4 + 1 := by rw [hB, m_uI_I, if_pos ⟨rfl, rfl⟩, m_uI_I, if_neg (by omega), g1.1 _ _ (by omega)]
        rw [v1, v2, hRf 4 (by omega)]
      · rw [kp _ _ (by omega) (by omega), kp _ _ (by omega) (by omega)]; exact hRf j hj
    · rw [kp _ _ (by omega) (by omega), kp _ _ (by omega) (by omega)]; exact hFt.1
    · trivial
    · rw [kp _ _ (by omega) (by omega)]; exact k2
    · rw [kp _ _ (by omega) (by omega)]; exact k3
    · rw [kp _ _ (by omega) (by omega), kp _ _ (by omega) (by omega)]; exact k4 j hj
