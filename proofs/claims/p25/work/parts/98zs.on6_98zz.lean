/-! 98zs.on6 98zt.sea 98zu.ev 98zv.rdr 98zw.mk 98zx.mkx 98zy.mkm 98zz.init -/
section
/-! on: the model; together -/
theorem l_m_on34 (d b : Nat) (x1 : Int32) (M0 : am_M) (Q : Option Value → am_M → Prop) (hL0 : Lay M0) (hb : mI M0 277 12 = nI b) (hb2 : b < 2)
    (hQ : ∀ M' x2, gF (fun a _ => a = 292) nT M0 M' → (∀ t, t < 384 → mI M' 292 (384 * b + t) = -1) → am_P am_P0 (d + 1) (am_look tX11_on) 63 [.ref 277, .int x1, .int x2, am_x] [] M' Q) :
    ∀ (m i : Nat), i + m = 384 → ∀ (M : am_M), gF (fun a _ => a = 292) nT M0 M → (∀ t, t < i → mI M 292 (384 * b + t) = -1) → am_P am_P0 (d + 1) (am_look tX11_on) 34 [.ref 277, .int x1, .int (nI i), am_x] [] M Q := by
  intro m
  induction m with
  | zero =>
    intro i hi M g h
    have hL := gF_LayN g hL0
    have hbM : mI M 277 12 = nI b := by rw [g.1 _ _ (by omega)]; exact hb
    have e : i = 384 := by omega
    subst e
    have h0 := hQ M (nI 384) g h
    have hle : (384 : Int32) ≤ nI 384 := by decide
    rw [hX11_on_34]
    simp +decide (disch := omega) only [qX11_on_0, qX11_on_1, qX11_on_2, lm hL, hbM, ni_in_t, ni_tn, am_w1_i, am_w1_r, am_w1_x, am_w1_l, am_w1_w, va_rf_s, am_push_n, am_push_s, am_cs_0, am_cs_i, am_cs_l, am_cs_r, m_uI_K, m_uI_N, m_uI_R, m_uI_L, m_uI_I, m_uL_K, m_uL_N, m_uL_R, m_uL_I, m_uL_L, m_uR_K, m_uR_N, m_uR_I, m_uR_L, m_uR_R, true_and, and_true, true_implies, false_implies, not_true_eq_false, not_false_eq_true, if_true, if_false, false_and, and_false] at h0 ⊢
    first | exact h0 | (rw [br_p hle]; exact h0)
  | succ m ih =>
    intro i hi M g h
    have hL := gF_LayN g hL0
    have hbM : mI M 277 12 = nI b := by rw [g.1 _ _ (by omega)]; exact hb
    have hlt : ¬ (384 : Int32) ≤ nI i := by rw [show (384 : Int32) = nI 384 from rfl, ni_le (by omega) (by omega)]; omega
    have eJ : (384 : Int32) * nI b + nI i = nI (384 * b + i) := by rw [show (384 : Int32) = nI 384 from rfl, ni_mul, ni_add]
    have h0 := ih (i + 1) (by omega) (uI M 292 (384 * b + i) (-1)) (gF_trans g (gF_i _ rfl)) (fun t ht => by
      by_cases e : t = i
      · rw [e, m_uI_I, if_pos ⟨rfl, rfl⟩]
      · rw [m_uI_I, if_neg (by omega)]; exact h t (by omega))
    rw [hX11_on_34]
    simp +decide (disch := omega) only [qX11_on_0, qX11_on_1, qX11_on_2, lm hL, hbM, eJ, ni_in_t, ni_tn, ni_add1, am_w1_i, am_w1_r, am_w1_x, am_w1_l, am_w1_w, va_rf_s, am_push_n, am_push_s, am_cs_0, am_cs_i, am_cs_l, am_cs_r, m_uI_K, m_uI_N, m_uI_R, m_uI_L, m_uI_I, m_uL_K, m_uL_N, m_uL_R, m_uL_I, m_uL_L, m_uR_K, m_uR_N, m_uR_I, m_uR_L, m_uR_R, true_and, and_true, true_implies, false_implies, not_true_eq_false, not_false_eq_true, if_true, if_false, false_and, and_false]
    rw [br_n hlt]
    exact h0
/-- what is read while the model takes an image -/
def ToR (M : am_M) (b : Nat) (T : Nat → Nat) : Prop := Lay M ∧ mI M 277 12 = nI b ∧ b < 2 ∧ TpO T M
def sTo (b a j : Nat) : Prop := (a = 291 ∧ j = b) ∨ a = 292 ∨ a = 293 ∨ (a = 299 ∧ j = b) ∨ (300 ≤ a ∧ a ≤ 302)
theorem ToR_g {M M' : am_M} {b : Nat} {T : Nat → Nat} (h : ToR M b T) (g : gF (sTo b) nT M M') : ToR M' b T := ⟨gF_LayN g h.1, by rw [g.1 _ _ (by unfold sTo; omega)]; exact h.2.1, h.2.2.1, fun j hj => ⟨(h.2.2.2 j hj).1, by rw [g.1 _ _ (by unfold sTo; omega)]; exact (h.2.2.2 j hj).2⟩⟩
theorem SyM_in {M : am_M} {b C R s : Nat} {Y : List Sy} {y0 : Sy} {v : Int32} (h : SyM M b C R s Y) (hno : ∀ y, y ∈ Y → ¬ y.1 = y0.1) (h1 : y0.1 < 48) (h2 : vld C R y0.2.1) : SyM (uI (uI (uI M 292 (384 * b + 48 * s + y0.1) (nI (cel C y0.2.1))) 293 (384 * b + 48 * s + y0.1) (b01 y0.2.2)) 291 b v) b C R s (inY Y y0) := by
  refine ⟨inY_srt h.1 hno, fun u hu => ?_, fun τ hτ => ?_⟩
  · rcases inY_mem.mp hu with rfl | q
    · exact ⟨h1, h2⟩
    · exact h.2.1 u q
  · by_cases e : τ = y0.1
    · subst e
      refine Or.inl ⟨_, inY_mem.mpr (Or.inl rfl), rfl, ?_, ?_⟩
      · rw [m_uI_I, if_neg (by omega), m_uI_I, if_neg (by omega), m_uI_I, if_pos ⟨rfl, rfl⟩]
      · rw [m_uI_I, if_neg (by omega), m_uI_I, if_pos ⟨rfl, rfl⟩]
    · rcases h.2.2 τ hτ with ⟨u, q1, q2, q3, q4⟩ | ⟨q1, q2⟩
      · exact Or.inl ⟨u, inY_mem.mpr (Or.inr q1), q2, by rw [m_uI_I, if_neg (by omega), m_uI_I, if_neg (by omega), m_uI_I, if_neg (by omega)]; exact q3, by rw [m_uI_I, if_neg (by omega), m_uI_I, if_neg (by omega), m_uI_I, if_neg (by omega)]; exact q4⟩
      · refine Or.inr ⟨fun u hu => ?_, by rw [m_uI_I, if_neg (by omega), m_uI_I, if_neg (by omega), m_uI_I, if_neg (by omega)]; exact q2⟩
        rcases inY_mem.mp hu with rfl | q
        · exact fun q => e q.symm
        · exact q1 u q
theorem l_m_on96 (d b : Nat) (x1 : Int32) (D : Dat) (T : Nat → Nat) (M0 : am_M) (Q : Option Value → am_M → Prop) (hD : dOK D) (hR0 : ToR M0 b T) (h96 : T 0 ≤ 96) (hrow : ∀ i, i < T 0 → rowOK (dN D) (dC D * dR D) T i)
    (hQ : ∀ M', gF (sTo b) nT M0 M' → mI M' 291 b = nI (T 0) → (∀ s, s < 8 → SyM M' b (dC D) (dR D) s (onY (dC D) T (T 0) s)) → mI M' 299 b = mI M0 299 b → am_P am_P0 (d + 1) (am_look tX11_on) 154 [.ref 277, .int x1, .int (nI (1 + 4 * T 0)), .int (nI (1 + 4 * T 0 + 1))] [] M' Q) :
    ∀ (m i : Nat), i + m = T 0 → ∀ (M : am_M), gF (sTo b) nT M0 M → mI M 291 b = nI i → (∀ s, s < 8 → SyM M b (dC D) (dR D) s (onY (dC D) T i s)) → mI M 299 b = mI M0 299 b → am_P am_P0 (d + 1) (am_look tX11_on) 96 [.ref 277, .int x1, .int (nI (1 + 4 * T 0)), .int (nI (1 + 4 * i))] [] M Q := by
  have n8 := dN_8 hD
  intro m
  induction m with
  | zero =>
    intro i hi M g hn hY h299
    have e : i = T 0 := by omega
    subst e
    have hle : nI (1 + 4 * T 0) ≤ nI (1 + 4 * T 0) := (ni_le (by omega) (by omega)).mpr (Nat.le_refl _)
    have h0 := hQ M g hn hY h299
    rw [hX11_on_96]
    simp +decide (disch := omega) only [qX11_on_0, qX11_on_1, qX11_on_2, ni_add1, am_w1_i, am_w1_r, am_w1_x, am_w1_l, am_w1_w, va_rf_s, am_push_n, am_push_s, am_cs_0, am_cs_i, am_cs_l, am_cs_r, m_uI_K, m_uI_N, m_uI_R, m_uI_L, m_uI_I, m_uL_K, m_uL_N, m_uL_R, m_uL_I, m_uL_L, m_uR_K, m_uR_N, m_uR_I, m_uR_L, m_uR_R, true_and, and_true, true_implies, false_implies, not_true_eq_false, not_false_eq_true, if_true, if_false, false_and, and_false]
    rw [br_p hle]
    exact h0
  | succ m ih =>
    intro i hi M g hn hY h299
    obtain ⟨hL, hb, hb2, hT⟩ := ToR_g hR0 g
    have hlt : ¬ nI (1 + 4 * T 0) ≤ nI (1 + 4 * i) := by rw [ni_le (by omega) (by omega)]; omega
    obtain ⟨q1, q2, q3, q4, q5⟩ := hrow i (by omega)
    have hpl := pl_n1 hD q3
    have hno := onY_no (C := dC D) hrow (i := i) (by omega)
    have hS1 := SyM_in (v := nI (i + 1)) (hY (T (1 + 4 * i)) (by omega)) hno q2 hpl.2.1
    have eR1 : (onR (dC D) T i).1 = T (1 + 4 * i + 1) := rfl
    have eR2 : (onR (dC D) T i).2.1 = plc (dC D) (T (1 + 4 * i + 2)) := rfl
    have eR3 : (onR (dC D) T i).2.2 = (T (1 + 4 * i + 3) == 1) := rfl
    rw [eR1, eR2, eR3, hpl.2.2.1] at hS1
    obtain ⟨A, hA⟩ : ∃ A, A = uI (uI (uI M 292 (384 * b + 48 * T (1 + 4 * i) + T (1 + 4 * i + 1)) (nI (T (1 + 4 * i + 2)))) 293 (384 * b + 48 * T (1 + 4 * i) + T (1 + 4 * i + 1)) (b01 (T (1 + 4 * i + 3) == 1))) 291 b (nI (i + 1)) := ⟨_, rfl⟩
    rw [← hA] at hS1
    have gA : gF (fun a j => (a = 291 ∧ j = b) ∨ ((a = 292 ∨ a = 293) ∧ j = 384 * b + 48 * T (1 + 4 * i) + T (1 + 4 * i + 1))) nT M A := by rw [hA]; exact gF_trans (gF_i _ (by omega)) (gF_trans (gF_i _ (by omega)) (gF_i _ (by omega)))
    have h0 := ih (i + 1) (by omega) A (gF_trans g (gF_up gA (fun a j q => by unfold sTo; omega) (fun _ _ q => q))) (by rw [hA, m_uI_I, if_pos ⟨rfl, rfl⟩]) (fun s hs => by
      by_cases e : T (1 + 4 * i) = s
      · rw [onY_t e, ← e]; exact hS1
      · rw [onY_f e]
        exact SyM_gF (hY s hs) gA (fun a t w ht w' => by omega)) (by rw [gA.1 _ _ (by omega)]; exact h299)
    obtain ⟨p, hp⟩ : ∃ p, p = 1 + 4 * i := ⟨_, rfl⟩
    rw [show 1 + 4 * (i + 1) = p + 4 by omega] at h0
    rw [← hp] at q1 q2 q3 q4 hlt hA ⊢
    obtain ⟨u0, a0⟩ := hT p (by omega)
    obtain ⟨u1, a1⟩ := hT (p + 1) (by omega)
    obtain ⟨u2, a2⟩ := hT (p + 2) (by omega)
    obtain ⟨u3, a3⟩ := hT (p + 3) (by omega)
    rw [hX11_on_96]
    by_cases cl : T (p + 3) = 1
    · have eW := fun Q => c_m_says d (T p) (T (p + 1)) (nI (T (p + 2))) 1 M Q hL b i hb hb2 (by omega) q2 hn (Or.inr rfl)
      have e9 : b01 (T (p + 3) == 1) = 1 := by rw [cl]; rfl
      rw [e9] at hA
      have a3' : mI M 278 (p + 3) = 1 := by rw [a3, cl]; rfl
      simp +decide (disch := omega) only [qX11_on_0, qX11_on_1, qX11_on_2, lm hL, a0, a1, a2, a3', eW, ni_in_t, ni_tn, ni_add1, ni_a2, ni_a3, ni_a4, am_w1_i, am_w1_r, am_w1_x, am_w1_l, am_w1_w, va_rf_s, am_push_n, am_push_s, am_cs_0, am_cs_i, am_cs_l, am_cs_r, m_uI_K, m_uI_N, m_uI_R, m_uI_L, m_uI_I, m_uL_K, m_uL_N, m_uL_R, m_uL_I, m_uL_L, m_uR_K, m_uR_N, m_uR_I, m_uR_L, m_uR_R, true_and, and_true, true_implies, false_implies, not_true_eq_false, not_false_eq_true, if_true, if_false, false_and, and_false, ← hA]
      rw [br_n hlt]
      exact h0
    · have eW := fun Q => c_m_says d (T p) (T (p + 1)) (nI (T (p + 2))) 0 M Q hL b i hb hb2 (by omega) q2 hn (Or.inl rfl)
      have e9 : b01 (T (p + 3) == 1) = 0 := by rw [show (T (p + 3) == 1) = false from beq_false_of_ne cl]; rfl
      rw [e9] at hA
      have a3' : mI M 278 (p + 3) = 0 := by rw [a3, show T (p + 3) = 0 by omega]; rfl
      simp +decide (disch := omega) only [qX11_on_0, qX11_on_1, qX11_on_2, lm hL, a0, a1, a2, a3', eW, ni_in_t, ni_tn, ni_add1, ni_a2, ni_a3, ni_a4, am_w1_i, am_w1_r, am_w1_x, am_w1_l, am_w1_w, va_rf_s, am_push_n, am_push_s, am_cs_0, am_cs_i, am_cs_l, am_cs_r, m_uI_K, m_uI_N, m_uI_R, m_uI_L, m_uI_I, m_uL_K, m_uL_N, m_uL_R, m_uL_I, m_uL_L, m_uR_K, m_uR_N, m_uR_I, m_uR_L, m_uR_R, true_and, and_true, true_implies, false_implies, not_true_eq_false, not_false_eq_true, if_true, if_false, false_and, and_false, ← hA]
      rw [br_n hlt]
      exact h0
theorem l_m_on154 (d b n k : Nat) (D : Dat) (T : Nat → Nat) (M0 : am_M) (Q : Option Value → am_M → Prop) (hD : dOK D) (hR0 : ToR M0 b T) (hk : k ≤ 385) (h40 : T k ≤ 40) (hn : n = k + 2 + 3 * T k) (hsg : ∀ j, j < T k → sgrOK (dC D * dR D) T k j)
    (hQ : ∀ M', gF (fun a j => (a = 299 ∧ j = b) ∨ (300 ≤ a ∧ a ≤ 302)) nT M0 M' → SgM M' b (dC D) (onG (dC D) T k (T k)) → Q (some (.int 1)) M') :
    ∀ (m j : Nat), j + m = T k → ∀ (M : am_M), gF (fun a j => (a = 299 ∧ j = b) ∨ (300 ≤ a ∧ a ≤ 302)) nT M0 M → SgM M b (dC D) (onG (dC D) T k j) → am_P am_P0 (d + 1) (am_look tX11_on) 154 [.ref 277, .int (nI n), .int (nI k), .int (nI (k + 1 + 3 * j))] [] M Q := by
  have em : nI n - 1 = nI (n - 1) := ni_m1 (by omega)
  intro m
  induction m with
  | zero =>
    intro j hj M g hS
    have e : j = T k := by omega
    subst e
    have hle : nI (n - 1) ≤ nI (k + 1 + 3 * T k) := (ni_le (by omega) (by omega)).mpr (by omega)
    have h0 := hQ M g hS
    rw [hX11_on_154]
    simp +decide (disch := omega) only [qX11_on_0, qX11_on_1, qX11_on_2, em, am_w1_i, am_w1_r, am_w1_x, am_w1_l, am_w1_w, va_rf_s, am_push_n, am_push_s, am_cs_0, am_cs_i, am_cs_l, am_cs_r, m_uI_K, m_uI_N, m_uI_R, m_uI_L, m_uI_I, m_uL_K, m_uL_N, m_uL_R, m_uL_I, m_uL_L, m_uR_K, m_uR_N, m_uR_I, m_uR_L, m_uR_R, true_and, and_true, true_implies, false_implies, not_true_eq_false, not_false_eq_true, if_true, if_false, false_and, and_false]
    rw [br_p hle]
    exact h0
  | succ m ih =>
    intro j hj M g hS
    obtain ⟨hL, hb, hb2, hT⟩ := ToR_g hR0 (gF_up g (fun a j q => by unfold sTo; omega) (fun _ _ q => q))
    have hlt : ¬ nI (n - 1) ≤ nI (k + 1 + 3 * j) := by rw [ni_le (by omega) (by omega)]; omega
    obtain ⟨q1, q2, q3⟩ := hsg j (by omega)
    have hpl := pl_n1 hD q2
    have hln := onG_len (dC D) T k j
    have hS1 := SgM_app (a := T (k + 1 + 3 * j)) (p := plc (dC D) (T (k + 1 + 3 * j + 1))) (t := T (k + 1 + 3 * j + 2)) hS
    have hn9 := hS.1
    rw [hln, hpl.2.2.1] at hS1
    rw [hln] at hn9
    have g2 : gF (fun a j => (a = 299 ∧ j = b) ∨ (300 ≤ a ∧ a ≤ 302)) nT M (spM M b j (nI (T (k + 1 + 3 * j))) (nI (T (k + 1 + 3 * j + 1))) (nI (T (k + 1 + 3 * j + 2)))) := gF_trans (gF_trans (gF_trans (gF_i _ (by omega)) (gF_i _ (by omega))) (gF_i _ (by omega))) (gF_i _ (by omega))
    have h0 := ih (j + 1) (by omega) _ (gF_trans g g2) hS1
    obtain ⟨p, hp⟩ : ∃ p, p = k + 1 + 3 * j := ⟨_, rfl⟩
    rw [show k + 1 + 3 * (j + 1) = p + 3 by omega, ← hp] at h0
    rw [← hp] at hlt q1 q2 q3 ⊢
    obtain ⟨u0, a0⟩ := hT p (by omega)
    obtain ⟨u1, a1⟩ := hT (p + 1) (by omega)
    obtain ⟨u2, a2⟩ := hT (p + 2) (by omega)
    have eA := fun Q => c_m_spots d (nI (T p)) (nI (T (p + 1))) (nI (T (p + 2))) M Q hL b j hb hb2 hn9 (by omega)
    rw [hX11_on_154]
    simp +decide (disch := omega) only [qX11_on_0, qX11_on_1, qX11_on_2, lm hL, em, a0, a1, a2, eA, ni_in_t, ni_tn, ni_add1, ni_a2, ni_a3, am_w1_i, am_w1_r, am_w1_x, am_w1_l, am_w1_w, va_rf_s, am_push_n, am_push_s, am_cs_0, am_cs_i, am_cs_l, am_cs_r, m_uI_K, m_uI_N, m_uI_R, m_uI_L, m_uI_I, m_uL_K, m_uL_N, m_uL_R, m_uL_I, m_uL_L, m_uR_K, m_uR_N, m_uR_I, m_uR_L, m_uR_R, true_and, and_true, true_implies, false_implies, not_true_eq_false, not_false_eq_true, if_true, if_false, false_and, and_false]
    rw [br_n hlt]
    exact h0
theorem m_on {M : am_M} {b n : Nat} {D : Dat} {T : Nat → Nat} (hD : dOK D) (hL : Lay M) (h : MdM M b D) (hT : TpO T M) (h1 : mI M 277 1 = nI n) (hn : n ≤ 1800) (d : Nat) (Q : Option Value → am_M → Prop)
    (hY : imOK (dN D) (dC D * dR D) T n → ∀ M', gF (fun a j => sTo b a j ∨ (a = 277 ∧ j = 1)) nT M M' → mI M' 277 1 = 0 → MdM M' b (datOn D T) → Q (some (.int 1)) M') (hN : ¬ imOK (dN D) (dC D * dR D) T n → Q (some (.int 0)) (rfM (uI M 277 1 0) 4)) : am_E am_P0 (d + 3) 302 [.ref 277] M Q := by
  have hb2 := h.1.2
  obtain ⟨A, hA⟩ : ∃ A, A = uI M 277 1 0 := ⟨_, rfl⟩
  have gA : gF (fun a j => a = 277 ∧ j = 1) nT M A := by rw [hA]; exact gF_i _ ⟨rfl, rfl⟩
  have LA := gF_LayN gA hL
  have mA := MdM_g h gA (fun a j q w => by unfold tlM at q; omega)
  have TA : TpO T A := fun j hj => ⟨(hT j hj).1, by rw [gA.1 _ _ (by omega)]; exact (hT j hj).2⟩
  have eR : ∀ Q, am_E am_P0 (d + 2) 208 [.ref 277, .int 4] A Q ↔ Q (some (.int (-1))) (rfM A 4) := fun Q => c_m_refuses (d + 2) 4 (by omega) A Q LA
  rw [← hA] at hN
  rw [eX11_on]
  simp +decide (disch := omega) only [qX11_on_0, qX11_on_1, qX11_on_2, lm hL, h1, am_w1_i, am_w1_r, am_w1_x, am_w1_l, am_w1_w, va_rf_s, am_push_n, am_push_s, am_cs_0, am_cs_i, am_cs_l, am_cs_r, m_uI_K, m_uI_N, m_uI_R, m_uI_L, m_uI_I, m_uL_K, m_uL_N, m_uL_R, m_uL_I, m_uL_L, m_uR_K, m_uR_N, m_uR_I, m_uR_L, m_uR_R, true_and, and_true, true_implies, false_implies, not_true_eq_false, not_false_eq_true, if_true, if_false, false_and, and_false, ← hA, lm LA]
  refine c_m_isWhole d b n D T A _ hD LA mA TA hn (fun hk => ?_) (fun hk => ?_)
  · obtain ⟨⟨i1, i2⟩, ⟨i3, i4, i5⟩, i6, i7, i8⟩ := id hk
    simp +decide (disch := omega) only [qX11_on_0, qX11_on_1, qX11_on_2, am_w1_i, am_w1_r, am_w1_x, am_w1_l, am_w1_w, va_rf_s, am_push_n, am_push_s, am_cs_0, am_cs_i, am_cs_l, am_cs_r, m_uI_K, m_uI_N, m_uI_R, m_uI_L, m_uI_I, m_uL_K, m_uL_N, m_uL_R, m_uL_I, m_uL_L, m_uR_K, m_uR_N, m_uR_I, m_uR_L, m_uR_R, true_and, and_true, true_implies, false_implies, not_true_eq_false, not_false_eq_true, if_true, if_false, false_and, and_false]
    refine l_m_on34 (d + 2) b (nI n) A Q LA mA.1.1 hb2 (fun M1 x2 g1 k1 => ?_) 384 0 (by omega) A (gF_refl _ _ _) (fun t ht => by omega)
    have L1 := gF_LayN g1 LA
    have b1 : mI M1 277 12 = nI b := by rw [g1.1 _ _ (by omega)]; exact mA.1.1
    obtain ⟨u0, a0⟩ := TA 0 (by omega)
    have a1 : mI M1 278 0 = nI (T 0) := by rw [g1.1 _ _ (by omega)]; exact a0
    have hin : (0 : Int32).toInt.toNat = 0 := rfl
    have ek : (1 : Int32) + 4 * nI (T 0) = nI (1 + 4 * T 0) := by rw [show (1 : Int32) = nI 1 from rfl, show (4 : Int32) = nI 4 from rfl, ni_mul, ni_add]
    obtain ⟨B, hB⟩ : ∃ B, B = uI (uI M1 291 b 0) 299 b 0 := ⟨_, rfl⟩
    have gB : gF (sTo b) nT A B := gF_trans (gF_up g1 (fun a j q => by unfold sTo; omega) (fun _ _ q => q)) (by rw [hB]; exact gF_trans (gF_i _ (by unfold sTo; omega)) (gF_i _ (by unfold sTo; omega)))
    have RB : ToR B b T := ToR_g ⟨LA, mA.1.1, hb2, TA⟩ gB
    have B291 : mI B 291 b = nI 0 := by rw [hB, m_uI_I, if_neg (by omega), m_uI_I, if_pos ⟨rfl, rfl⟩]; rfl
    have B299 : mI B 299 b = nI 0 := by rw [hB, m_uI_I, if_pos ⟨rfl, rfl⟩]; rfl
    have B292 : ∀ t, t < 384 → mI B 292 (384 * b + t) = -1 := fun t ht => by rw [hB, m_uI_I, if_neg (by omega), m_uI_I, if_neg (by omega)]; exact k1 t ht
    have aB : mI B 278 0 = nI (T 0) := (RB.2.2.2 0 (by omega)).2
    simp +decide (disch := omega) only [qX11_on_0, qX11_on_1, qX11_on_2, lm L1, b1, a1, ek, hin, ni_in_t, ni_tn, am_w1_i, am_w1_r, am_w1_x, am_w1_l, am_w1_w, va_rf_s, am_push_n, am_push_s, am_cs_0, am_cs_i, am_cs_l, am_cs_r, m_uI_K, m_uI_N, m_uI_R, m_uI_L, m_uI_I, m_uL_K, m_uL_N, m_uL_R, m_uL_I, m_uL_L, m_uR_K, m_uR_N, m_uR_I, m_uR_L, m_uR_R, true_and, and_true, true_implies, false_implies, not_true_eq_false, not_false_eq_true, if_true, if_false, false_and, and_false, ← hB, lm RB.1, aB]
    refine l_m_on96 (d + 2) b (nI n) D T B Q hD RB i2 i7 (fun M2 g2 n2 y2 e2 => ?_) (T 0) 0 (by omega) B (gF_refl _ _ _) B291 (fun s hs => ⟨List.Pairwise.nil, fun y hy => by simp [onY] at hy, fun t ht => Or.inr ⟨fun y hy => by simp [onY] at hy, by rw [show 384 * b + 48 * s + t = 384 * b + (48 * s + t) by omega]; exact B292 _ (by omega)⟩⟩) rfl
    refine l_m_on154 (d + 2) b n (1 + 4 * T 0) D T M2 Q hD (ToR_g RB g2) (by omega) i4 i5 i8 (fun M3 g3 s3 => ?_) (T (1 + 4 * T 0)) 0 (by omega) M2 (gF_refl _ _ _) ⟨by rw [e2]; exact B299, fun i g hi => by simp [onG] at hi⟩
    have G : gF (sTo b) nT A M3 := gF_trans gB (gF_trans g2 (gF_up g3 (fun a j q => by unfold sTo; omega) (fun _ _ q => q)))
    have e01 : mI M3 277 1 = 0 := by rw [G.1 _ _ (by unfold sTo; omega), hA, m_uI_I, if_pos ⟨rfl, rfl⟩]
    obtain ⟨m1, m2, m3, m4, m5, m6, m7, ⟨r1, r2, r3⟩, m8⟩ := id mA
    refine hY hk M3 (gF_trans (gF_up gA (fun a j q => Or.inr q) (fun _ _ q => q)) (gF_up G (fun a j q => Or.inl q) (fun _ _ q => q))) e01 ?_
    have k : ∀ a j, ¬ ((291 ≤ a ∧ a ≤ 293) ∨ (299 ≤ a ∧ a ≤ 302)) → ¬ sTo b a j := fun a j q w => by unfold sTo at w; omega
    refine ⟨⟨by rw [G.1 _ _ (k _ _ (by omega))]; exact m1.1, m1.2⟩, ⟨by rw [G.1 _ _ (k _ _ (by omega))]; exact m2.1, by rw [G.1 _ _ (k _ _ (by omega))]; exact m2.2⟩, by rw [G.1 _ _ (k _ _ (by omega))]; exact m3, ShpM_g m4 G (k _ _ (by omega)) (fun a j q1 q2 _ => k _ _ (by omega)), ⟨?_, fun s hs => ?_⟩, BkM_gF m6 G (k _ _ (by omega)) (fun a j q1 q2 _ => k _ _ (by omega)), s3, ⟨RaM_g r1 G (fun a j q => k _ _ (by omega)), RaM_g r2 G (fun a j q => k _ _ (by omega)), RaM_g r3 G (fun a j q => k _ _ (by omega))⟩, fun p hp => ⟨by rw [G.1 _ _ (k _ _ (by omega))]; exact (m8 p hp).1, by rw [G.1 _ _ (k _ _ (by omega))]; exact (m8 p hp).2⟩⟩
    · rw [tot_on i7, g3.1 _ _ (by omega)]; exact n2
    · rw [dY_on i7]
      exact SyM_gF (y2 s hs) g3 (fun a t q ht w => by omega)
  · have h0 := hN hk
    simp +decide (disch := omega) only [qX11_on_0, qX11_on_1, qX11_on_2, lm LA, eR, am_w1_i, am_w1_r, am_w1_x, am_w1_l, am_w1_w, va_rf_s, am_push_n, am_push_s, am_cs_0, am_cs_i, am_cs_l, am_cs_r, m_uI_K, m_uI_N, m_uI_R, m_uI_L, m_uI_I, m_uL_K, m_uL_N, m_uL_R, m_uL_I, m_uL_L, m_uR_K, m_uR_N, m_uR_I, m_uR_L, m_uR_R, true_and, and_true, true_implies, false_implies, not_true_eq_false, not_false_eq_true, if_true, if_false, false_and, and_false]
    exact h0
theorem op_on : OpI 146 302 [] isI := by
  intro M hI d hd
  obtain ⟨z, b, D, hD, hX, hM, ⟨T, n, t1, t2, t3, t4⟩, hRf, hFt, ⟨k, k1, k2, k3, k4⟩⟩ := id hI
  have hz := hX.1.2.2.1
  obtain ⟨d', rfl⟩ : ∃ d', d = d' + 3 := ⟨d - 3, by omega⟩
  refine x_on hD hX (fun j hj => ⟨(t4 j hj).1, (t4 j hj).2.1⟩) t2 t1 (d' + 1) _ (fun hk M1 g1 z1 X1 => ?_) (fun hk => ?_)
  · refine ⟨_, rfl, ⟨_, rfl⟩, X1.1.1, ?_⟩
    have kx : ∀ a j, (a = 1 ∨ 277 ≤ a ∨ a = 169 ∨ a = 170 ∨ (a = 0 ∧ ¬ j = 1 ∧ ¬ j = 13)) → mI M1 a j = mI M a j := fun a j q => g1.1 _ _ (fun w => by
      rcases w with w | w
      · have := sCh_no hz w; omega
      · omega)
    have m1 := MdM_g hM g1 (fun a j q w => by
      rcases w with w | w
      · have := sCh_no hz w; unfold tlM at q; omega
      · unfold tlM at q; omega)
    refine m_on hD X1.1.1 m1 (fun j hj => ⟨(t4 j hj).1, by rw [kx _ _ (by omega)]; exact (t4 j hj).2.2⟩) (by rw [kx _ _ (by omega)]; exact t3) t1 d' _ (fun _ M2 g2 z2 m2 => ⟨rfl, ?_⟩) (fun q => absurd hk q)
    have hD' := dOK_on hD hk
    have ko : ∀ a j, a < 277 ∨ (a = 277 ∧ ¬ j = 1) ∨ a = 278 ∨ a = 312 ∨ a = 335 → mI M2 a j = mI M1 a j := fun a j q => g2.1 _ _ (fun w => by unfold sTo at w; omega)
    refine ⟨z, b, _, hD', XR_m hD' X1 g2 (fun a j q => by unfold sTo at q; omega), m2, ⟨T, 0, by omega, by rw [ko _ _ (by omega)]; exact z1, z2, fun j hj => ⟨(t4 j hj).1, ?_, ?_⟩⟩, fun j hj => ?_, ⟨?_, ?_⟩, ⟨k, k1, ?_, ?_, fun j hj => ?_⟩⟩
    · rw [ko _ _ (by omega), kx _ _ (by omega)]; exact (t4 j hj).2.1
    · rw [ko _ _ (by omega), kx _ _ (by omega)]; exact (t4 j hj).2.2
    · rw [ko _ _ (by omega), kx _ _ (by omega), ko _ _ (by omega), kx _ _ (by omega)]; exact hRf j hj
    · rw [ko _ _ (by omega), kx _ _ (by omega), ko _ _ (by omega), kx _ _ (by omega)]; exact hFt.1
    · trivial
    · rw [ko _ _ (by omega), kx _ _ (by omega)]; exact k2
    · rw [ko _ _ (by omega), kx _ _ (by omega)]; exact k3
    · rw [ko _ _ (by omega), kx _ _ (by omega), ko _ _ (by omega), kx _ _ (by omega)]; exact k4 j hj
  · refine ⟨_, rfl, ⟨_, rfl⟩, hX.1.1, ?_⟩
    obtain ⟨A, hA⟩ : ∃ A, A = rfX (uI M 0 1 0) 4 := ⟨_, rfl⟩
    have g1 : gF (fun a j => (a = 0 ∧ j = 1) ∨ (a = 169 ∧ j = 4)) nT M A := by rw [hA]; exact gF_trans (gF_i _ (by omega)) (gF_i _ (by omega))
    rw [← hA]
    have XA := XR_t hD hX g1 (fun a j q => by omega)
    have mA := MdM_g hM g1 (fun a j q w => by unfold tlM at q; omega)
    refine m_on hD XA.1.1 mA (fun j hj => ⟨(t4 j hj).1, by rw [g1.1 _ _ (by omega)]; exact (t4 j hj).2.2⟩) (by rw [g1.1 _ _ (by omega)]; exact t3) t1 d' _ (fun q => absurd q hk) (fun _ => ⟨rfl, ?_⟩)
    obtain ⟨B, hB⟩ : ∃ B, B = rfM (uI A 277 1 0) 4 := ⟨_, rfl⟩
    have g2 : gF (fun a j => (a = 277 ∧ j = 1) ∨ (a = 312 ∧ j = 4)) nT A B := by rw [hB]; exact gF_trans (gF_i _ (by omega)) (gF_i _ (by omega))
    rw [← hB]
    have kp : ∀ a j, ¬ ((a = 0 ∧ j = 1) ∨ (a = 169 ∧ j = 4)) → ¬ ((a = 277 ∧ j = 1) ∨ (a = 312 ∧ j = 4)) → mI B a j = mI M a j := fun a j q1 q2 => by rw [g2.1 _ _ q2, g1.1 _ _ q1]
    refine Inv_t hD hX hM (gF_up g1 (fun a j q => by unfold sXt; omega) (fun _ _ q => q)) (gF_up g2 (fun a j q => by unfold sMt; omega) (fun _ _ q => q)) ⟨T, 0, by omega, ?_, ?_, fun j hj => ⟨(t4 j hj).1, ?_, ?_⟩⟩ (fun j hj => ?_) ⟨?_, ?_⟩ ⟨k, k1, ?_, ?_, fun j hj => ?_⟩
    · rw [g2.1 _ _ (by omega), hA, m_uI_I, if_neg (by omega), m_uI_I, if_pos ⟨rfl, rfl⟩]; rfl
    · rw [hB, m_uI_I, if_neg (by omega), m_uI_I, if_pos ⟨rfl, rfl⟩]; rfl
    · rw [kp _ _ (by omega) (by omega)]; exact (t4 j hj).2.1
    · rw [kp _ _ (by omega) (by omega)]; exact (t4 j hj).2.2
    · by_cases e0 : j = 4
      · subst e0
        have v1 : mI B 169 4 = mI M 169 4 + 1 := by rw [g2.1 _ _ (by omega), hA, m_uI_I, if_pos ⟨rfl, rfl⟩, m_uI_I, if_neg (by omega)]
        have v2 : mI B 312 4 = mI M 312 4 + 1 := by rw [hB, m_uI_I, if_pos ⟨rfl, rfl⟩, m_uI_I, if_neg (by omega), g1.1 _ _ (by omega)]
        rw [v1, v2, hRf 4 (by omega)]
      · rw [kp _ _ (by omega) (by omega), kp _ _ (by omega) (by omega)]; exact hRf j hj
    · rw [kp _ _ (by omega) (by omega), kp _ _ (by omega) (by omega)]; exact hFt.1
    · trivial
    · rw [kp _ _ (by omega) (by omega)]; exact k2
    · rw [kp _ _ (by omega) (by omega)]; exact k3
    · rw [kp _ _ (by omega) (by omega), kp _ _ (by omega) (by omega)]; exact k4 j hj
end
section
/-! sea: the class and the model -/
/-- the spare sea is touched, the sea stays -/
theorem XR_v {M M' : am_M} {z : Nat} {D : Dat} {S T' : Nat → Nat → Prop} (hD : dOK D) (h : XR M z D) (hg : gF S T' M M') (hL' : Lay M') (hS : ∀ a j, S a j → (a = 0 ∧ j < 13) ∨ a = 1 ∨ a = 169 ∨ a = 170 ∨ a = 165 ∨ (85 - z ≤ a ∧ a ≤ 85 - z + 80)) (hT' : ∀ a j, T' a j → a = 164 ∨ a = 165) : XR M' z D := by
  obtain ⟨⟨hL, hI, hz, r2, r3, hO⟩, ⟨c, hP⟩, hS1, hTk, hLk⟩ := h
  have n8 := dN_8 hD
  have g2 : gF S nT M (swp M M') := ⟨hg.1, hg.2.1, fun _ _ _ => rfl, rfl⟩
  have hf : zF S M (swp M M') := zF_g hL hI g2 (fun a j s' q w => by have := hS a j w; omega) (fun a j w => by have := hS a j w; omega)
  have kr : ∀ a j, ¬ a = 164 → ¬ a = 165 → mR M' a j = mR M a j := fun a j q1 q2 => hg.2.2.1 a j (fun w => by have := hT' a j w; omega)
  have kz : ∀ a j, z ≤ a → a ≤ z + 80 → ¬ S a j := fun a j q1 q2 w => by have := hS a j w; omega
  refine ⟨⟨hL', gF_RInv hg hI (fun a j s hs w => by have := hT' a j w; omega), hz, by rw [kr _ _ (by omega) (by omega)]; exact r2, by rw [kr _ _ (by omega) (by omega)]; exact r3, fun k hk => ?_⟩, ⟨c, PsX_t hz hP hD.1 hg (fun a j q1 q2 => Or.inl (kz a j q1 q2))⟩, ?_, fun s hs => ?_, ?_⟩
  · rw [hg.1 _ _ (fun w => by have := hS _ _ w; omega)]; exact hO k hk
  · exact SqX_u hS1 (fun a j q1 q2 q3 => hg.1 _ _ (kz a j (by omega) (by omega))) (fun a j q => hg.2.1 _ _ (kz a j (by omega) (by omega)))
  · have h1 := hTk s hs
    have h2 := XTk_z hz (by omega) h1 hf (fun a j q w => by have := hS a j w; unfold sTc at q; omega) (fun a j q w => by have := hS a j w; omega)
    obtain ⟨⟨t0, ⟨p1, p2, p3⟩, tB, tY⟩, -⟩ := h1
    obtain ⟨⟨-, ⟨-, -, q3⟩, uB, uY⟩, u2, u3, u4⟩ := h2
    exact ⟨⟨TrW_gF t0 hI (by omega) hg (fun a j q w => by have := hS a j w; omega) (fun j w => by have := hT' _ _ w; omega), ⟨by rw [kr _ _ (by omega) (by omega)]; exact p1, by rw [kr _ _ (by omega) (by omega)]; exact p2, q3⟩, uB, uY⟩, u2, u3, u4⟩
  · have h2 := LkX_z hLk hf (fun j hj w => by have := hS 0 j w; omega)
    exact h2
theorem RaM_l {M : am_M} {b kd : Nat} {sm : Bool} {R : Rls} (h : RaM M b kd sm R) : RlM M b kd sm R 1800 := by
  refine ⟨h.2.1, fun k r hr => ?_⟩
  obtain ⟨s0, s1, s2, b1, b2, b3, b4, b5, b6, b7, b8, b9, b10⟩ := h.2.2 k r hr
  exact ⟨s0, s1, s2, b1, b2, b3, b4, b5, b6, b7, b8, fun q => ⟨(b10 q).1, (b10 q).2.1⟩⟩
/-- the other bank is touched -/
theorem MdM_b {M M' : am_M} {b : Nat} {D : Dat} (h : MdM M b D) (hD : dOK D) (hg : gF (sSo (1 - b)) nT M M') (h12 : mI M' 277 12 = nI b) (h13 : ∀ a j, 313 ≤ a → mI M' a j = mI M a j) : MdM M' b D := by
  obtain ⟨h1, h2, h3, h4, h5, h6, h7, ⟨r1, r2, r3⟩, h8⟩ := h
  have hb2 := h1.2
  obtain ⟨-, -, ⟨o3, -, -⟩, -, -, -, ⟨⟨o7, -⟩, -⟩, ⟨o8, -⟩, o9, o10, o11⟩ := hD.1
  have k : ∀ a j, ((a = 279 ∨ a = 280 ∨ a = 285 ∨ a = 291 ∨ a = 294 ∨ a = 299 ∨ a = 303) ∧ j = b) ∨ (a = 281 ∧ 3 * b ≤ j ∧ j < 3 * b + 3) ∨ ((282 ≤ a ∧ a ≤ 284) ∧ 30 * b ≤ j ∧ j < 30 * b + 30) ∨ ((286 ≤ a ∧ a ≤ 290) ∧ 8 * b ≤ j ∧ j < 8 * b + 8) ∨ ((a = 292 ∨ a = 293) ∧ 384 * b ≤ j ∧ j < 384 * b + 384) ∨ ((295 ≤ a ∧ a ≤ 298) ∧ 12 * b ≤ j ∧ j < 12 * b + 12) ∨ ((300 ≤ a ∧ a ≤ 302) ∧ 40 * b ≤ j ∧ j < 40 * b + 40) ∨ ((a = 304 ∨ a = 305) ∧ 1800 * b ≤ j ∧ j < 1800 * b + 1800) → ¬ sSo (1 - b) a j := fun a j q w => by
    unfold sSo sSm at w
    rcases (by omega : b = 0 ∨ b = 1) with e | e <;> subst e <;> omega
  refine ⟨⟨h12, hb2⟩, ⟨by rw [hg.1 _ _ (k _ _ (by omega))]; exact h2.1, by rw [hg.1 _ _ (k _ _ (by omega))]; exact h2.2⟩, by rw [hg.1 _ _ (k _ _ (by omega))]; exact h3, ShpM_g h4 hg (k _ _ (by omega)) (fun a j q1 q2 q3 => k _ _ (by omega)), ⟨by rw [hg.1 _ _ (k _ _ (by omega))]; exact h5.1, fun s hs => SyM_gF (h5.2 s hs) hg (fun a t q ht => k _ _ (by omega))⟩, BkM_gF h6 hg (k _ _ (by omega)) (fun a j q1 q2 q3 => k _ _ (by omega)), SgM_g h7 hg (k _ _ (by omega)) (fun a j q1 q2 q3 => k _ _ (by omega)), ⟨?_, ?_, ?_⟩, fun p hp => ⟨by rw [h13 _ _ (by omega)]; exact (h8 p hp).1, by rw [h13 _ _ (by omega)]; exact (h8 p hp).2⟩⟩
  · have q2 := r1.1.2
    exact RlM_a (RlM_g (RaM_l r1) o9.1 hg (k _ _ (by omega)) (fun a j w1 w2 w3 => k _ _ (by omega)) (fun a j w1 w2 w3 => k _ _ (by omega))) (Nat.le_refl _) o9 (by omega) (by omega)
  · have q2 := r2.1.2
    exact RlM_a (RlM_g (RaM_l r2) o10.1 hg (k _ _ (by omega)) (fun a j w1 w2 w3 => k _ _ (by omega)) (fun a j w1 w2 w3 => k _ _ (by omega))) (Nat.le_refl _) o10 (by omega) (by omega)
  · have q2 := r3.1.2
    have q3 := o11.1
    exact RlM_a (RlM_g (RaM_l r3) (by omega) hg (k _ _ (by omega)) (fun a j w1 w2 w3 => k _ _ (by omega)) (fun a j w1 w2 w3 => k _ _ (by omega))) (Nat.le_refl _) o11 (by omega) (by omega)
theorem sSr_no {z a j : Nat} (h : sSr z a j) : a = 165 ∨ (z ≤ a ∧ a ≤ z + 80) ∨ (a = 0 ∧ (j = 1 ∨ j = 5 ∨ j = 6 ∨ j = 13)) ∨ (a = 169 ∧ j = 1) ∨ (173 ≤ a ∧ a < 277) := by
  rcases h with q | q | ⟨s, hs, q⟩
  · unfold sSq sSea at q; omega
  · omega
  · unfold sTb sWb at q; omega
theorem op_sea : OpI 111 206 [] isI := by
  intro M hI d hd
  obtain ⟨z, b, D, hD, hX, hM, ⟨T, n, t1, t2, t3, t4⟩, hRf, hFt, ⟨k, k1, k2, k3, k4⟩⟩ := id hI
  obtain ⟨hL, hRI, hz, r2, r3, hO⟩ := hX.1
  have hb2 := hM.1.2
  obtain ⟨d', rfl⟩ : ∃ d', d = d' + 122 := ⟨d - 122, by omega⟩
  have hz' : 85 - z = 2 ∨ 85 - z = 83 := by omega
  refine c_x_sea (T := T) (n := n) (z := 85 - z) hz' t1 d' z M _ hL hRI hz r2 r3 t2 (fun j hj => ⟨(t4 j hj).1, (t4 j hj).2.1⟩) hO (fun M1 e hs g1 L1 v1 v2 v3 v5 => ?_) (fun M1 kk D' c hs hk hD1 hC hR g1 L1 I1 w2 w3 P1 S1 T1 v1 v5 v6 v13 v169 => ?_)
  · refine ⟨_, rfl, ⟨_, rfl⟩, L1, ?_⟩
    have kx : ∀ a j, (a = 1 ∨ 277 ≤ a ∨ (a = 169 ∧ ¬ j = 1) ∨ a = 170 ∨ (a = 0 ∧ ¬ j = 1 ∧ ¬ j = 5 ∧ ¬ j = 6)) → mI M1 a j = mI M a j := fun a j q => g1.1 _ _ (fun w => by unfold sSq sSea at w; omega)
    have X1 : XR M1 z D := XR_v hD hX g1 L1 (fun a j q => by unfold sSq sSea at q; omega) (fun a j q => by unfold tOp at q; omega)
    have m1 := MdM_g hM g1 (fun a j q w => by unfold tlM at q; unfold sSq sSea at w; omega)
    refine m_sea (T := T) (n := n) (b := b) (d' + 115) (.inl e) M1 _ hs L1 m1.1.1 hb2 (by rw [kx _ _ (by omega)]; exact t3) t1 (fun j hj => ⟨(t4 j hj).1, by rw [kx _ _ (by omega)]; exact (t4 j hj).2.2⟩) (fun e2 M2 he g2 u1 u10 u11 u312 u12 u13 => ?_) (fun kk D' M2 he => by cases he)
    cases he
    have ko : ∀ a j, a < 277 ∨ (a = 277 ∧ j = 82) ∨ a = 278 ∨ (a = 312 ∧ ¬ j = 1) ∨ a = 335 → mI M2 a j = mI M1 a j := fun a j q => g2.1 _ _ (fun w => by unfold sSo sSm at w; omega)
    refine ⟨rfl, z, b, D, hD, XR_m hD X1 g2 (fun a j q => by unfold sSo sSm at q; omega), MdM_b m1 hD g2 u12 u13, ⟨T, 0, by omega, by rw [ko _ _ (by omega)]; exact v1, u1, fun j hj => ⟨(t4 j hj).1, ?_, ?_⟩⟩, fun j hj => ?_, ⟨?_, ?_⟩, ⟨k, k1, ?_, ?_, fun j hj => ?_⟩⟩
    · rw [ko _ _ (by omega), kx _ _ (by omega)]; exact (t4 j hj).2.1
    · rw [ko _ _ (by omega), kx _ _ (by omega)]; exact (t4 j hj).2.2
    · by_cases e0 : j = 1
      · subst e0
        rw [ko _ _ (by omega), v5, u312, kx 312 1 (by omega), hRf 1 (by omega)]
      · rw [ko _ _ (by omega), kx _ _ (by omega), ko _ _ (by omega), kx _ _ (by omega)]; exact hRf j hj
    · rw [ko _ _ (by omega), v3, u10]
    · trivial
    · rw [ko _ _ (by omega), kx _ _ (by omega)]; exact k2
    · rw [ko _ _ (by omega), kx _ _ (by omega)]; exact k3
    · rw [ko _ _ (by omega), kx _ _ (by omega), ko _ _ (by omega), kx _ _ (by omega)]; exact k4 j hj
  · refine ⟨_, rfl, ⟨_, rfl⟩, L1, ?_⟩
    have hD' : dOK D' := ⟨hD1, Or.inl ⟨hC, hR⟩⟩
    have kx : ∀ a j, (a = 1 ∨ 277 ≤ a ∨ (a = 169 ∧ ¬ j = 1) ∨ a = 166 ∨ a = 170 ∨ (a = 0 ∧ ¬ j = 1 ∧ ¬ j = 5 ∧ ¬ j = 6 ∧ ¬ j = 13)) → mI M1 a j = mI M a j := fun a j q => g1.1 _ _ (fun w => by have := sSr_no w; omega)
    have X1 : XR M1 (85 - z) D' := by
      refine ⟨⟨L1, I1, hz', w2, by rw [show 85 - (85 - z) = z by omega]; exact w3, fun k hk => by rw [kx _ _ (by omega)]; exact hO k hk⟩, ⟨c, P1⟩, S1, fun s hs => ?_, Or.inl v13⟩
      have hsp := dSp_at hs
      have hok := dSp_ok hD1 hs
      obtain ⟨b0, b1, b2, b4, b5, b6⟩ := T1 s _ hsp
      obtain ⟨⟨e0, e1, e2, e3, e4⟩, hSy, hBk⟩ := P1.2.1 s _ hsp
      exact ⟨⟨b0, ⟨b1, b2, e3, e4, hok.2.2.2.2.2.2.2.1, hok.2.2.2.2.2.2.2.2, S1.2.2.1⟩, hBk, hSy⟩, Or.inl b4, Or.inl b5, Or.inl b6⟩
    have m1 := MdM_g hM g1 (fun a j q w => by have := sSr_no w; unfold tlM at q; omega)
    refine m_sea (T := T) (n := n) (b := b) (d' + 115) (.inr (kk, D')) M1 _ hs L1 m1.1.1 hb2 (by rw [kx _ _ (by omega)]; exact t3) t1 (fun j hj => ⟨(t4 j hj).1, by rw [kx _ _ (by omega)]; exact (t4 j hj).2.2⟩) (fun e2 M2 he => by cases he) (fun k2' D2 M2 he g2 u1 u10 u11 u312 m2 hD2 => ?_)
    cases he
    have ko : ∀ a j, a < 277 ∨ (a = 277 ∧ j = 82) ∨ a = 278 ∨ (a = 312 ∧ ¬ j = 1) ∨ a = 335 → mI M2 a j = mI M1 a j := fun a j q => g2.1 _ _ (fun w => by unfold sSo sSm at w; omega)
    refine ⟨rfl, 85 - z, 1 - b, D', hD', XR_m hD' X1 g2 (fun a j q => by unfold sSo sSm at q; omega), m2, ⟨T, 0, by omega, by rw [ko _ _ (by omega)]; exact v1, u1, fun j hj => ⟨(t4 j hj).1, ?_, ?_⟩⟩, fun j hj => ?_, ⟨?_, ?_⟩, ⟨k, k1, ?_, ?_, fun j hj => ?_⟩⟩
    · rw [ko _ _ (by omega), kx _ _ (by omega)]; exact (t4 j hj).2.1
    · rw [ko _ _ (by omega), kx _ _ (by omega)]; exact (t4 j hj).2.2
    · by_cases e0 : j = 1
      · subst e0
        rw [ko _ _ (by omega), v169, u312, kx 312 1 (by omega), hRf 1 (by omega)]
      · rw [ko _ _ (by omega), kx _ _ (by omega), ko _ _ (by omega), kx _ _ (by omega)]; exact hRf j hj
    · rw [ko _ _ (by omega), v5, u10]
    · trivial
    · rw [ko _ _ (by omega), kx _ _ (by omega)]; exact k2
    · rw [ko _ _ (by omega), kx _ _ (by omega)]; exact k3
    · rw [ko _ _ (by omega), kx _ _ (by omega), ko _ _ (by omega), kx _ _ (by omega)]; exact k4 j hj
end
section
/-! making: what constructors do, as a row of events -/
abbrev Ev : Type := Sum am_S (Sum (Nat × Nat × Nat) (Nat × Nat × Int32))
def ev1 (M : am_M) : Ev → am_M
  | .inl sh => uN M sh
  | .inr (.inl q) => uR M q.1 q.2.1 (some q.2.2)
  | .inr (.inr q) => uI M q.1 q.2.1 q.2.2
def pa : List Ev → am_M → am_M
  | [], M => M
  | e :: r, M => ev1 (pa r M) e
theorem pa_app : ∀ (A B : List Ev) (M : am_M), pa (A ++ B) M = pa A (pa B M) := by
  intro A B M
  induction A with
  | nil => rfl
  | cons e r ih => show ev1 (pa (r ++ B) M) e = ev1 (pa r (pa B M)) e; rw [ih]
theorem uN_C (M : am_M) (sh : am_S) : mC (uN M sh) = mC M + 1 := by
  unfold mC mS uN
  dsimp only
  rw [List.length_append]
  rfl
theorem uR_C (M : am_M) (a j : Nat) (v : Option Nat) : mC (uR M a j v) = mC M := rfl
theorem uI_C (M : am_M) (a j : Nat) (v : Int32) : mC (uI M a j v) = mC M := rfl
theorem uN_K {M : am_M} {sh : am_S} {a : Nat} (h : a < mC M) : mK (uN M sh) a = mK M a := by
  unfold mK mS uN
  dsimp only
  rw [List.getD_eq_getElem?_getD, List.getD_eq_getElem?_getD, List.getElem?_append_left (by exact h)]
theorem uN_N {M : am_M} {sh : am_S} {a : Nat} (h : a < mC M) : mN (uN M sh) a = mN M a := by
  unfold mN mS uN
  dsimp only
  rw [List.getD_eq_getElem?_getD, List.getD_eq_getElem?_getD, List.getElem?_append_left (by exact h)]
theorem uN_K0 (M : am_M) (sh : am_S) : mK (uN M sh) (mC M) = sh.1 := by
  unfold mK mS uN
  dsimp only
  rw [List.getD_eq_getElem?_getD, List.getElem?_append_right (by exact Nat.le_refl _)]
  unfold mC mS
  rw [Nat.sub_self]
  rfl
theorem uN_N0 (M : am_M) (sh : am_S) : mN (uN M sh) (mC M) = sh.2 := by
  unfold mN mS uN
  dsimp only
  rw [List.getD_eq_getElem?_getD, List.getElem?_append_right (by exact Nat.le_refl _)]
  unfold mC mS
  rw [Nat.sub_self]
  rfl
/-- how many cells are made -/
def evC : List Ev → Nat
  | [] => 0
  | .inl _ :: r => evC r + 1
  | .inr _ :: r => evC r
theorem pa_C : ∀ (E : List Ev) (M : am_M), mC (pa E M) = mC M + evC E := by
  intro E M
  induction E with
  | nil => rfl
  | cons e r ih =>
    match e with
    | .inl sh => show mC (uN (pa r M) sh) = mC M + (evC r + 1); rw [uN_C, ih]; omega
    | .inr (.inl q) => exact ih
    | .inr (.inr q) => exact ih
theorem pa_K : ∀ (E : List Ev) (M : am_M) (a : Nat), a < mC M → mK (pa E M) a = mK M a ∧ mN (pa E M) a = mN M a := by
  intro E M a h
  induction E with
  | nil => exact ⟨rfl, rfl⟩
  | cons e r ih =>
    match e with
    | .inl sh =>
      have hc : a < mC (pa r M) := by rw [pa_C]; omega
      exact ⟨(uN_K hc).trans ih.1, (uN_N hc).trans ih.2⟩
    | .inr (.inl q) => exact ih
    | .inr (.inr q) => exact ih
/-- the kind of the i-th new cell -/
def kdE : List Ev → Nat → am_S
  | [], _ => (99, 0)
  | .inl s :: r, i => if i = evC r then s else kdE r i
  | .inr _ :: r, i => kdE r i
theorem pa_K2 : ∀ (E : List Ev) (M : am_M) (i : Nat), i < evC E → mK (pa E M) (mC M + i) = (kdE E i).1 ∧ mN (pa E M) (mC M + i) = (kdE E i).2 := by
  intro E M i
  induction E with
  | nil => intro h; exact absurd h (Nat.not_lt_zero _)
  | cons e r ih =>
    intro h
    match e with
    | .inl sh =>
      have hC := pa_C r M
      by_cases c : i = evC r
      · have e1 := uN_K0 (pa r M) sh
        have e2 := uN_N0 (pa r M) sh
        rw [hC] at e1 e2
        show mK (uN (pa r M) sh) (mC M + i) = (if i = evC r then sh else kdE r i).1 ∧ mN (uN (pa r M) sh) (mC M + i) = (if i = evC r then sh else kdE r i).2
        rw [if_pos c, c]
        exact ⟨e1, e2⟩
      · have h' : i < evC r + 1 := h
        have ih' := ih (by omega)
        show mK (uN (pa r M) sh) (mC M + i) = (if i = evC r then sh else kdE r i).1 ∧ mN (uN (pa r M) sh) (mC M + i) = (if i = evC r then sh else kdE r i).2
        rw [if_neg c, uN_K (by rw [hC]; omega), uN_N (by rw [hC]; omega)]
        exact ih'
    | .inr (.inl q) => exact ih h
    | .inr (.inr q) => exact ih h
/-- the cells' kinds, the last first -/
def evS : List Ev → List am_S
  | [] => []
  | .inl sh :: r => sh :: evS r
  | .inr _ :: r => evS r
theorem pa_S : ∀ (E : List Ev) (M : am_M), mS (pa E M) = mS M ++ (evS E).reverse := by
  intro E M
  induction E with
  | nil => show mS M = mS M ++ []; rw [List.append_nil]
  | cons e r ih =>
    match e with
    | .inl sh => show mS (pa r M) ++ [sh] = mS M ++ (sh :: evS r).reverse; rw [ih, List.reverse_cons, List.append_assoc]
    | .inr (.inl q) => exact ih
    | .inr (.inr q) => exact ih
/-- a reference, an int after events -/
def rvR (a j c : Nat) (v : Option Nat) : List Ev → Option Nat
  | [] => v
  | .inl _ :: r => if a = c + evC r then none else rvR a j c v r
  | .inr (.inl q) :: r => if a = q.1 ∧ j = q.2.1 then some q.2.2 else rvR a j c v r
  | .inr (.inr _) :: r => rvR a j c v r
theorem pa_R (a j : Nat) : ∀ (E : List Ev) (M : am_M), mR (pa E M) a j = rvR a j (mC M) (mR M a j) E := by
  intro E M
  induction E with
  | nil => rfl
  | cons e r ih =>
    match e with
    | .inl sh =>
      show (if a = mC (pa r M) then none else mR (pa r M) a j) = (if a = mC M + evC r then none else rvR a j (mC M) (mR M a j) r)
      rw [pa_C, ih]
    | .inr (.inl q) =>
      show (if a = q.1 ∧ j = q.2.1 then some q.2.2 else mR (pa r M) a j) = (if a = q.1 ∧ j = q.2.1 then some q.2.2 else rvR a j (mC M) (mR M a j) r)
      rw [ih]
    | .inr (.inr q) => exact ih
def rvI (a j c : Nat) (v : Int32) : List Ev → Int32
  | [] => v
  | .inl _ :: r => if a = c + evC r then 0 else rvI a j c v r
  | .inr (.inl _) :: r => rvI a j c v r
  | .inr (.inr q) :: r => if a = q.1 ∧ j = q.2.1 then q.2.2 else rvI a j c v r
theorem pa_I (a j : Nat) : ∀ (E : List Ev) (M : am_M), mI (pa E M) a j = rvI a j (mC M) (mI M a j) E := by
  intro E M
  induction E with
  | nil => rfl
  | cons e r ih =>
    match e with
    | .inl sh =>
      show (if a = mC (pa r M) then 0 else mI (pa r M) a j) = (if a = mC M + evC r then 0 else rvI a j (mC M) (mI M a j) r)
      rw [pa_C, ih]
    | .inr (.inl q) => exact ih
    | .inr (.inr q) =>
      show (if a = q.1 ∧ j = q.2.1 then q.2.2 else mI (pa r M) a j) = (if a = q.1 ∧ j = q.2.1 then q.2.2 else rvI a j (mC M) (mI M a j) r)
      rw [ih]
theorem pa_L (a j : Nat) : ∀ (E : List Ev) (M : am_M), mL M a j = 0 → mL (pa E M) a j = 0 := by
  intro E M h
  induction E with
  | nil => exact h
  | cons e r ih =>
    match e with
    | .inl sh =>
      show (if a = mC (pa r M) then (0 : Int64) else mL (pa r M) a j) = 0
      rw [ih]
      exact ite_self _
    | .inr (.inl q) => exact ih
    | .inr (.inr q) => exact ih
/-- no int of the cell is set -/
def evN (a : Nat) : List Ev → Bool
  | [] => true
  | .inl _ :: r => evN a r
  | .inr (.inl _) :: r => evN a r
  | .inr (.inr q) :: r => !(a == q.1) && evN a r
theorem rvI_0 (a j c : Nat) : ∀ (E : List Ev), evN a E = true → rvI a j c 0 E = 0 := by
  intro E
  induction E with
  | nil => intro _; rfl
  | cons e r ih =>
    intro h
    match e with
    | .inl sh => show (if a = c + evC r then 0 else rvI a j c 0 r) = 0; rw [ih h]; exact ite_self _
    | .inr (.inl q) => exact ih h
    | .inr (.inr q) =>
      have h' : (!(a == q.1) && evN a r) = true := h
      rw [Bool.and_eq_true] at h'
      have hn : ¬ a = q.1 := fun w => by rw [w] at h'; simp at h'
      show (if a = q.1 ∧ j = q.2.1 then q.2.2 else rvI a j c 0 r) = 0
      rw [if_neg (fun w => hn w.1)]
      exact ih h'.2
/-- no reference of the cell is set -/
def evM (a : Nat) : List Ev → Bool
  | [] => true
  | .inl _ :: r => evM a r
  | .inr (.inl q) :: r => !(a == q.1) && evM a r
  | .inr (.inr _) :: r => evM a r
theorem rvR_0 (a j c : Nat) : ∀ (E : List Ev), evM a E = true → rvR a j c none E = none := by
  intro E
  induction E with
  | nil => intro _; rfl
  | cons e r ih =>
    intro h
    match e with
    | .inl sh => show (if a = c + evC r then none else rvR a j c none r) = none; rw [ih h]; exact ite_self _
    | .inr (.inr q) => exact ih h
    | .inr (.inl q) =>
      have h' : (!(a == q.1) && evM a r) = true := h
      rw [Bool.and_eq_true] at h'
      have hn : ¬ a = q.1 := fun w => by rw [w] at h'; simp at h'
      show (if a = q.1 ∧ j = q.2.1 then some q.2.2 else rvR a j c none r) = none
      rw [if_neg (fun w => hn w.1)]
      exact ih h'.2
abbrev nw (k n : Nat) : Ev := .inl (k, n)
abbrev pR (a j t : Nat) : Ev := .inr (.inl (a, j, t))
abbrev pI (a j : Nat) (v : Int32) : Ev := .inr (.inr (a, j, v))
/-- a row of arrays of ints and such, each put into a field -/
def frmE (a n : Nat) : List Ev := [pR a 2 (n + 1), nw 0 64, pR a 0 n, nw 0 1800]
def linE (a n : Nat) : List Ev := [pR a 0 n, nw 0 48]
def rulE (a n m : Nat) : List Ev := [pR a 3 (n + 2), nw 0 m, pR a 2 (n + 1), nw 0 m, pR a 1 n, nw 0 m]
def shpE (a n : Nat) : List Ev := [pR a 12 (n + 5), nw 0 12, pR a 11 (n + 4), nw 0 12, pR a 10 (n + 3), nw 0 12, pR a 8 (n + 2), nw 2 48, pR a 7 (n + 1), nw 0 48, pR a 6 n, nw 0 48]
def sgtE (a n : Nat) : List Ev := [pR a 3 (n + 2), nw 0 40, pR a 2 (n + 1), nw 0 40, pR a 1 n, nw 0 40]
def watE (a n : Nat) : List Ev := [pR a 4 (n + 3), nw 1 4, pR a 3 (n + 2), nw 2 256, pR a 2 (n + 1), nw 5 256, pI a 1 1, pR a 0 n, nw 1 4]
theorem c_frm (d a : Nat) (M : am_M) (Q : Option Value → am_M → Prop) (hk : mK M a = 10) (ha : a < mC M) : am_E am_P0 d 0 [.ref a] M Q ↔ Q none (pa (frmE a (mC M)) M) := by
  rw [eX0_init]
  simp +decide (disch := first | omega | (simp only [uN_C, uR_C, uI_C]; omega)) only [qX0_init, uN_K, uN_C, uR_C, uI_C, hk, am_w1_i, am_w1_r, am_w1_x, am_w1_l, am_w1_w, va_rf_s, am_push_n, am_push_s, am_cs_0, am_cs_i, am_cs_l, am_cs_r, m_uI_K, m_uI_N, m_uI_R, m_uI_L, m_uI_I, m_uL_K, m_uL_N, m_uL_R, m_uL_I, m_uL_L, m_uR_K, m_uR_N, m_uR_I, m_uR_L, m_uR_R, true_and, and_true, true_implies, false_implies, not_true_eq_false, not_false_eq_true, if_true, if_false, false_and, and_false]
  exact Iff.rfl
theorem c_lin (d a : Nat) (M : am_M) (Q : Option Value → am_M → Prop) (hk : mK M a = 11) (ha : a < mC M) : am_E am_P0 d 5 [.ref a] M Q ↔ Q none (pa (linE a (mC M)) M) := by
  rw [eX1_init]
  simp +decide (disch := first | omega | (simp only [uN_C, uR_C, uI_C]; omega)) only [qX1_init, uN_K, uN_C, uR_C, uI_C, hk, am_w1_i, am_w1_r, am_w1_x, am_w1_l, am_w1_w, va_rf_s, am_push_n, am_push_s, am_cs_0, am_cs_i, am_cs_l, am_cs_r, m_uI_K, m_uI_N, m_uI_R, m_uI_L, m_uI_I, m_uL_K, m_uL_N, m_uL_R, m_uL_I, m_uL_L, m_uR_K, m_uR_N, m_uR_I, m_uR_L, m_uR_R, true_and, and_true, true_implies, false_implies, not_true_eq_false, not_false_eq_true, if_true, if_false, false_and, and_false]
  exact Iff.rfl
theorem c_rul (d a m : Nat) (M : am_M) (Q : Option Value → am_M → Prop) (hk : mK M a = 14) (ha : a < mC M) (hm : m ≤ 12) : am_E am_P0 d 46 [.ref a, .int (nI m)] M Q ↔ Q none (pa (rulE a (mC M) m) M) := by
  have e1 : (nI m).toInt.toNat = m := ni_tn (by omega)
  have e2 : 0 ≤ (nI m).toInt ∧ (nI m).toInt ≤ 60000 := by rw [ni_ti (by omega)]; omega
  rw [eX4_init]
  simp +decide (disch := first | omega | (simp only [uN_C, uR_C, uI_C]; omega)) only [qX4_init, uN_K, uN_C, uR_C, uI_C, hk, e1, e2, am_w1_i, am_w1_r, am_w1_x, am_w1_l, am_w1_w, va_rf_s, am_push_n, am_push_s, am_cs_0, am_cs_i, am_cs_l, am_cs_r, m_uI_K, m_uI_N, m_uI_R, m_uI_L, m_uI_I, m_uL_K, m_uL_N, m_uL_R, m_uL_I, m_uL_L, m_uR_K, m_uR_N, m_uR_I, m_uR_L, m_uR_R, true_and, and_true, true_implies, false_implies, not_true_eq_false, not_false_eq_true, if_true, if_false, false_and, and_false]
  exact Iff.rfl
theorem c_shp (d a : Nat) (M : am_M) (Q : Option Value → am_M → Prop) (hk : mK M a = 16) (ha : a < mC M) : am_E am_P0 d 64 [.ref a] M Q ↔ Q none (pa (shpE a (mC M)) M) := by
  rw [eX6_init]
  simp +decide (disch := first | omega | (simp only [uN_C, uR_C, uI_C]; omega)) only [qX6_init, uN_K, uN_C, uR_C, uI_C, hk, am_w1_i, am_w1_r, am_w1_x, am_w1_l, am_w1_w, va_rf_s, am_push_n, am_push_s, am_cs_0, am_cs_i, am_cs_l, am_cs_r, m_uI_K, m_uI_N, m_uI_R, m_uI_L, m_uI_I, m_uL_K, m_uL_N, m_uL_R, m_uL_I, m_uL_L, m_uR_K, m_uR_N, m_uR_I, m_uR_L, m_uR_R, true_and, and_true, true_implies, false_implies, not_true_eq_false, not_false_eq_true, if_true, if_false, false_and, and_false]
  exact Iff.rfl
theorem c_sgt (d a : Nat) (M : am_M) (Q : Option Value → am_M → Prop) (hk : mK M a = 17) (ha : a < mC M) : am_E am_P0 d 70 [.ref a] M Q ↔ Q none (pa (sgtE a (mC M)) M) := by
  rw [eX7_init]
  simp +decide (disch := first | omega | (simp only [uN_C, uR_C, uI_C]; omega)) only [qX7_init, uN_K, uN_C, uR_C, uI_C, hk, am_w1_i, am_w1_r, am_w1_x, am_w1_l, am_w1_w, va_rf_s, am_push_n, am_push_s, am_cs_0, am_cs_i, am_cs_l, am_cs_r, m_uI_K, m_uI_N, m_uI_R, m_uI_L, m_uI_I, m_uL_K, m_uL_N, m_uL_R, m_uL_I, m_uL_L, m_uR_K, m_uR_N, m_uR_I, m_uR_L, m_uR_R, true_and, and_true, true_implies, false_implies, not_true_eq_false, not_false_eq_true, if_true, if_false, false_and, and_false]
  exact Iff.rfl
theorem c_wat (d a : Nat) (M : am_M) (Q : Option Value → am_M → Prop) (hk : mK M a = 19) (ha : a < mC M) : am_E am_P0 d 101 [.ref a] M Q ↔ Q none (pa (watE a (mC M)) M) := by
  rw [eX9_init]
  simp +decide (disch := first | omega | (simp only [uN_C, uR_C, uI_C]; omega)) only [qX9_init, uN_K, uN_C, uR_C, uI_C, hk, am_w1_i, am_w1_r, am_w1_x, am_w1_l, am_w1_w, va_rf_s, am_push_n, am_push_s, am_cs_0, am_cs_i, am_cs_l, am_cs_r, m_uI_K, m_uI_N, m_uI_R, m_uI_L, m_uI_I, m_uL_K, m_uL_N, m_uL_R, m_uL_I, m_uL_L, m_uR_K, m_uR_N, m_uR_I, m_uR_L, m_uR_R, true_and, and_true, true_implies, false_implies, not_true_eq_false, not_false_eq_true, if_true, if_false, false_and, and_false]
  exact Iff.rfl
end
section
/-! making: the reader's own words -/
def owW : List Nat := [0, 0, 0, 0, 0, 1, 1, 1, 1, 1, 1, 2, 2, 2, 2, 2, 3, 3, 3, 3, 3, 3, 4, 4, 4, 4, 4, 5, 5, 5, 5, 5, 6, 6, 6, 6, 6, 6, 7, 7, 7, 7, 7, 7, 8, 8, 8, 8, 8, 9, 9, 9, 9, 9, 10, 10, 10, 11, 11, 11, 11, 11, 11, 12, 12, 12, 12, 12, 13, 13, 13, 13, 13, 14, 14, 14, 15, 15, 15, 15, 15, 16, 16, 16, 16, 16, 17, 17, 17, 17, 17, 18, 18, 18, 18, 18, 19, 19, 19, 20, 20, 20, 20, 21, 21, 21, 21, 22, 22, 22, 22, 23, 23, 23, 23, 23, 23, 23, 24, 24, 24, 24, 25, 25, 25, 25, 26, 26, 26, 26, 27]
def owK : List Nat := [0, 1, 2, 3, 4, 0, 1, 2, 3, 4, 5, 0, 1, 2, 3, 4, 0, 1, 2, 3, 4, 5, 0, 1, 2, 3, 4, 0, 1, 2, 3, 4, 0, 1, 2, 3, 4, 5, 0, 1, 2, 3, 4, 5, 0, 1, 2, 3, 4, 0, 1, 2, 3, 4, 0, 1, 2, 0, 1, 2, 3, 4, 5, 0, 1, 2, 3, 4, 0, 1, 2, 3, 4, 0, 1, 2, 0, 1, 2, 3, 4, 0, 1, 2, 3, 4, 0, 1, 2, 3, 4, 0, 1, 2, 3, 4, 0, 1, 2, 0, 1, 2, 3, 0, 1, 2, 3, 0, 1, 2, 3, 0, 1, 2, 3, 4, 5, 6, 0, 1, 2, 3, 0, 1, 2, 3, 0, 1, 2, 3, 0]
theorem c_len (d : Nat) (M : am_M) (Q : Option Value → am_M → Prop) : am_E am_P0 (d + 1) 311 [.retAddr 1] M Q ↔ Q (some (.int 130)) M := by
  rw [eJ0_length_8abf5]
  simp +decide only [qJ0_length_8abf5, eJ0_coder_7d493, qJ0_coder_7d493, am_w1_i, am_w1_r, am_w1_x, am_w1_l, am_w1_w, va_rf_s, am_push_n, am_push_s, am_cs_0, am_cs_i, am_cs_l, am_cs_r, m_uI_K, m_uI_N, m_uI_R, m_uI_L, m_uI_I, m_uL_K, m_uL_N, m_uL_R, m_uL_I, m_uL_L, m_uR_K, m_uR_N, m_uR_I, m_uR_L, m_uR_R, true_and, and_true, true_implies, false_implies, not_true_eq_false, not_false_eq_true, if_true, if_false, false_and, and_false]
  exact Iff.rfl
theorem ow_ch : ∀ i, i < 130 → ((am_own.getD i 0 &&& 255).toUInt32 % 65536).toInt32 = am_own.getD i 0 ∧ am_own.getD i 0 ∈ am_let := by decide +kernel
theorem c_chr (d i : Nat) (M : am_M) (Q : Option Value → am_M → Prop) (hi : i < 130) : am_E am_P0 (d + 3) 312 [.retAddr 1, .int (nI i)] M Q ↔ Q (some (.int (am_own.getD i 0))) M := by
  obtain ⟨h1, h2⟩ := ow_ch i hi
  have a1 : ¬ nI i < 0 := by rw [show (0 : Int32) = nI 0 from rfl, ni_lt (by omega) (by omega)]; omega
  have a2 : nI i < 130 := by rw [show (130 : Int32) = nI 130 from rfl, ni_lt (by omega) (by omega)]; exact hi
  rw [eJ0_charAt_5068e]
  simp +decide (disch := omega) only [qJ0_charAt_5068e, eJ0_isLatin1_aae02, qJ0_isLatin1_aae02, eJ1_charAt_3b067, qJ1_charAt_3b067, eJ0_checkIndex_df160, qJ0_checkIndex_df160, eJ3_checkIndex_8e157, qJ3_checkIndex_8e157, a1, a2, h1, h2, ni_in_t, ni_tn, am_w1_i, am_w1_r, am_w1_x, am_w1_l, am_w1_w, va_rf_s, am_push_n, am_push_s, am_cs_0, am_cs_i, am_cs_l, am_cs_r, m_uI_K, m_uI_N, m_uI_R, m_uI_L, m_uI_I, m_uL_K, m_uL_N, m_uL_R, m_uL_I, m_uL_L, m_uR_K, m_uR_N, m_uR_I, m_uR_L, m_uR_R, true_and, and_true, true_implies, false_implies, not_true_eq_false, not_false_eq_true, if_true, if_false, false_and, and_false]
/-- a row of ints is set -/
def rowE (A : Nat) (f : Nat → Int32) : Nat → List Ev
  | 0 => []
  | n + 1 => pI A n (f n) :: rowE A f n
theorem pa_row (A : Nat) (f : Nat → Int32) (M : am_M) : ∀ n, (∀ a j, mI (pa (rowE A f n) M) a j = if a = A ∧ j < n then f j else mI M a j) ∧ (∀ a j, mL (pa (rowE A f n) M) a j = mL M a j) ∧ (∀ a j, mR (pa (rowE A f n) M) a j = mR M a j) ∧ mS (pa (rowE A f n) M) = mS M := by
  intro n
  induction n with
  | zero => exact ⟨fun a j => by rw [if_neg (by omega)]; rfl, fun _ _ => rfl, fun _ _ => rfl, rfl⟩
  | succ n ih =>
    obtain ⟨h1, h2, h3, h4⟩ := ih
    refine ⟨fun a j => ?_, h2, h3, h4⟩
    show mI (uI (pa (rowE A f n) M) A n (f n)) a j = _
    rw [m_uI_I, h1]
    by_cases e : a = A ∧ j = n
    · rw [if_pos e, if_pos (by omega), e.2]
    · rw [if_neg e]
      by_cases c : a = A ∧ j < n
      · rw [if_pos c, if_pos (by omega)]
      · rw [if_neg c, if_neg (by omega)]
abbrev owF (j : Nat) : Int32 := nI (pkL (ownW.getD j []))
abbrev rd0E (a n : Nat) : List Ev := [pR a 1 (n + 1), nw 0 0, pR a 0 n, nw 0 27]
def rdrE (a n : Nat) : List Ev := rowE n owF 27 ++ rd0E a n
/-- one letter -/
theorem ow_st : ∀ i, i < 130 → owW.getD i 0 < 27 ∧ (if am_own.getD i 0 = 32 then owW.getD (i + 1) 0 = owW.getD i 0 + 1 ∧ owK.getD (i + 1) 0 = 0 ∧ owK.getD i 0 = (ownW.getD (owW.getD i 0) []).length else owW.getD (i + 1) 0 = owW.getD i 0 ∧ owK.getD (i + 1) 0 = owK.getD i 0 + 1 ∧ nI (pkL ((ownW.getD (owW.getD i 0) []).take (owK.getD i 0))) ||| ((am_own.getD i 0 - 96) <<< ((5 * nI (owK.getD i 0)) &&& 31)) = nI (pkL ((ownW.getD (owW.getD i 0) []).take (owK.getD i 0 + 1)))) := by decide +kernel
def owV (i j : Nat) : Int32 := if j < owW.getD i 0 then owF j else if j = owW.getD i 0 then nI (pkL ((ownW.getD j []).take (owK.getD i 0))) else 0
theorem l_rdr (d a A : Nat) (M0 : am_M) (Q : Option Value → am_M → Prop) (hk : mK M0 a = 13) (hr : mR M0 a 0 = some A) (hA : mK M0 A = 0) (hN : mN M0 A = 27)
    (hQ : ∀ M', gF (fun b j => b = A ∧ j < 27) nT M0 M' → (∀ j, j < 27 → mI M' A j = owF j) → (∀ b j, mL M' b j = mL M0 b j) → Q none M') :
    ∀ (m i : Nat), i + m = 130 → ∀ (M : am_M), gF (fun b j => b = A ∧ j < 27) nT M0 M → (∀ j, j < 27 → mI M A j = owV i j) → (∀ b j, mL M b j = mL M0 b j) → am_P am_P0 (d + 4) (am_look tX3_init) 25 [.ref a, .int (nI (owW.getD i 0)), .int (nI (owK.getD i 0)), .int (nI i)] [] M Q := by
  have eL := fun M Q => c_len (d + 2) M Q
  intro m
  induction m with
  | zero =>
    intro i hi M g hv hl
    have e : i = 130 := by omega
    subst e
    have h0 := hQ M g (fun j hj => by
      rw [hv j hj]
      unfold owV
      rw [if_pos (by rw [show owW.getD 130 0 = 27 from rfl]; exact hj)]) hl
    rw [hX3_init_25]
    simp +decide (disch := omega) only [qX3_init_0, qX3_init_1, eL, am_w1_i, am_w1_r, am_w1_x, am_w1_l, am_w1_w, va_rf_s, am_push_n, am_push_s, am_cs_0, am_cs_i, am_cs_l, am_cs_r, m_uI_K, m_uI_N, m_uI_R, m_uI_L, m_uI_I, m_uL_K, m_uL_N, m_uL_R, m_uL_I, m_uL_L, m_uR_K, m_uR_N, m_uR_I, m_uR_L, m_uR_R, true_and, and_true, true_implies, false_implies, not_true_eq_false, not_false_eq_true, if_true, if_false, false_and, and_false]
    exact h0
  | succ m ih =>
    intro i hi M g hv hl
    obtain ⟨w27, hst⟩ := ow_st i (by omega)
    have kk : mK M a = 13 ∧ mK M A = 0 ∧ mN M A = 27 := by
      have e : mS M = mS M0 := g.2.2.2
      unfold mK mN at *
      rw [e]
      exact ⟨hk, hA, hN⟩
    have rr : mR M a 0 = some A := by rw [g.2.2.1 _ _ (fun w => w)]; exact hr
    have eC := fun M Q => c_chr d i M Q (by omega)
    have hlt : ¬ (130 : Int32) ≤ nI i := by rw [show (130 : Int32) = nI 130 from rfl, ni_le (by omega) (by omega)]; omega
    have hw : ¬ (27 : Int32) ≤ nI (owW.getD i 0) := by rw [show (27 : Int32) = nI 27 from rfl, ni_le (by omega) (by omega)]; omega
    obtain ⟨w, ew⟩ : ∃ w, w = owW.getD i 0 := ⟨_, rfl⟩
    obtain ⟨k, ek⟩ : ∃ k, k = owK.getD i 0 := ⟨_, rfl⟩
    by_cases c : am_own.getD i 0 = 32
    · rw [if_pos c, ← ew, ← ek] at hst
      have h0 := ih (i + 1) (by omega) M g (fun j hj => by
        rw [hv j hj]
        unfold owV
        rw [hst.1, hst.2.1, ← ew, ← ek]
        by_cases e1 : j < w
        · rw [if_pos e1, if_pos (by omega)]
        · rw [if_neg e1]
          by_cases e2 : j = w
          · rw [if_pos e2, if_pos (by omega), e2, hst.2.2, List.take_of_length_le (Nat.le_refl _)]
          · rw [if_neg e2, if_neg (by omega)]
            by_cases e3 : j = w + 1
            · rw [if_pos e3, List.take_zero]; rfl
            · rw [if_neg e3]) hl
      rw [hst.1, hst.2.1] at h0
      rw [hX3_init_25]
      rw [← ew] at hw
      simp +decide (disch := omega) only [qX3_init_0, qX3_init_1, eL, eC, c, ← ew, hlt, hw, ni_add1, am_w1_i, am_w1_r, am_w1_x, am_w1_l, am_w1_w, va_rf_s, am_push_n, am_push_s, am_cs_0, am_cs_i, am_cs_l, am_cs_r, m_uI_K, m_uI_N, m_uI_R, m_uI_L, m_uI_I, m_uL_K, m_uL_N, m_uL_R, m_uL_I, m_uL_L, m_uR_K, m_uR_N, m_uR_I, m_uR_L, m_uR_R, true_and, and_true, true_implies, false_implies, not_true_eq_false, not_false_eq_true, if_true, if_false, false_and, and_false]
      exact h0
    · rw [if_neg c, ← ew, ← ek] at hst
      rw [← ew] at w27 hw
      have vw : mI M A w = nI (pkL ((ownW.getD w []).take k)) := by
        rw [hv w w27]
        unfold owV
        rw [← ew, if_neg (by omega), if_pos rfl, ← ek]
      have h0 := ih (i + 1) (by omega) (uI M A w (nI (pkL ((ownW.getD w []).take (k + 1))))) (gF_trans g (gF_i _ ⟨rfl, w27⟩)) (fun j hj => by
        rw [m_uI_I]
        unfold owV
        rw [hst.1, hst.2.1]
        by_cases e2 : j = w
        · rw [if_pos ⟨rfl, e2⟩, if_neg (by omega), if_pos e2, e2]
        · rw [if_neg (fun q => e2 q.2), hv j hj]
          unfold owV
          rw [← ew, if_neg e2, if_neg e2]) hl
      rw [hst.1, hst.2.1] at h0
      rw [hX3_init_25, ← ew, ← ek]
      simp +decide (disch := omega) only [qX3_init_0, qX3_init_1, eL, eC, c, hlt, hw, kk, rr, vw, hst.2.2, ni_in_t, ni_tn, ni_add1, am_w1_i, am_w1_r, am_w1_x, am_w1_l, am_w1_w, va_rf_s, am_push_n, am_push_s, am_cs_0, am_cs_i, am_cs_l, am_cs_r, m_uI_K, m_uI_N, m_uI_R, m_uI_L, m_uI_I, m_uL_K, m_uL_N, m_uL_R, m_uL_I, m_uL_L, m_uR_K, m_uR_N, m_uR_I, m_uR_L, m_uR_R, true_and, and_true, true_implies, false_implies, not_true_eq_false, not_false_eq_true, if_true, if_false, false_and, and_false]
      exact h0
theorem c_rdr (d a : Nat) (M : am_M) (Q : Option Value → am_M → Prop) (hk : mK M a = 13) (ha : a < mC M) (hQ : Q none (pa (rdrE a (mC M)) M)) : am_E am_P0 (d + 4) 33 [.ref a] M Q := by
  obtain ⟨A, hA⟩ : ∃ A, A = pa (rd0E a (mC M)) M := ⟨_, rfl⟩
  have kA := fun b (hb : b < mC M) => pa_K (rd0E a (mC M)) M b hb
  have kN : mK A (mC M) = 0 ∧ mN A (mC M) = 27 := by
    rw [hA]
    exact pa_K2 (rd0E a (mC M)) M 0 (by show 0 < 2; omega)
  have rA : mR A a 0 = some (mC M) := by
    have n1 : ¬ a = mC M + 1 := by omega
    rw [hA, pa_R]
    simp [rvR, evC, n1]
  have iA : ∀ j, mI A (mC M) j = 0 := fun j => by
    rw [hA, pa_I]
    simp [rvI, evC]
  have main := l_rdr d a (mC M) A Q (by rw [hA, (kA a ha).1]; exact hk) rA kN.1 kN.2 (fun M' g hv hl => by
    have e : M' = pa (rowE (mC M) owF 27) A := by
      obtain ⟨r1, r2, r3, r4⟩ := pa_row (mC M) owF A 27
      refine am_ext (fun b j => ?_) (fun b j => ?_) (fun b j => ?_) ?_
      · rw [r1]
        by_cases c : b = mC M ∧ j < 27
        · rw [if_pos c, c.1]; exact hv j c.2
        · rw [if_neg c]; exact g.1 _ _ c
      · rw [r2]
        exact hl b j
      · rw [r3]; exact g.2.2.1 _ _ (fun w => w)
      · rw [r4]; exact g.2.2.2
    rw [e, hA, ← pa_app]
    exact hQ) 130 0 (by omega) A (gF_refl _ _ _) (fun j hj => by
    rw [iA]
    unfold owV
    rw [show owW.getD 0 0 = 0 from rfl, show owK.getD 0 0 = 0 from rfl, if_neg (by omega)]
    by_cases c : j = 0
    · rw [if_pos c, List.take_zero]; rfl
    · rw [if_neg c]) (fun _ _ => rfl)
  rw [eX3_init]
  simp +decide (disch := first | omega | (simp only [uN_C, uR_C, uI_C]; omega)) only [qX3_init_0, qX3_init_1, uN_K, uN_C, uR_C, uI_C, hk, am_w1_i, am_w1_r, am_w1_x, am_w1_l, am_w1_w, va_rf_s, am_push_n, am_push_s, am_cs_0, am_cs_i, am_cs_l, am_cs_r, m_uI_K, m_uI_N, m_uI_R, m_uI_L, m_uI_I, m_uL_K, m_uL_N, m_uL_R, m_uL_I, m_uL_L, m_uR_K, m_uR_N, m_uR_I, m_uR_L, m_uR_R, true_and, and_true, true_implies, false_implies, not_true_eq_false, not_false_eq_true, if_true, if_false, false_and, and_false]
  rw [hA] at main
  exact main
end
section
/-! making: parser, track, sea -/
theorem pa_uN (E : List Ev) (M : am_M) (sh : am_S) : uN (pa E M) sh = pa (.inl sh :: E) M := rfl
theorem pa_uR (E : List Ev) (M : am_M) (a j t : Nat) : uR (pa E M) a j (some t) = pa (.inr (.inl (a, j, t)) :: E) M := rfl
theorem pa_uI (E : List Ev) (M : am_M) (a j : Nat) (v : Int32) : uI (pa E M) a j v = pa (.inr (.inr (a, j, v)) :: E) M := rfl
theorem evC_cn (s : am_S) (E : List Ev) : evC (.inl s :: E) = evC E + 1 := rfl
theorem evC_cr (x : Sum (Nat × Nat × Nat) (Nat × Nat × Int32)) (E : List Ev) : evC (.inr x :: E) = evC E := rfl
theorem evC_0 : evC [] = 0 := rfl
theorem evC_app : ∀ (A B : List Ev), evC (A ++ B) = evC A + evC B := by
  intro A B
  induction A with
  | nil => show evC B = 0 + evC B; omega
  | cons e r ih =>
    match e with
    | .inl s => show evC (r ++ B) + 1 = evC r + 1 + evC B; rw [ih]; omega
    | .inr s => exact ih
theorem evC_row (A : Nat) (f : Nat → Int32) : ∀ n, evC (rowE A f n) = 0 := by
  intro n
  induction n with
  | zero => rfl
  | succ n ih => exact ih
theorem k_wat (d i : Nat) (E : List Ev) (M : am_M) (Q : Option Value → am_M → Prop) (h1 : i < evC E) (h2 : (kdE E i).1 = 19) : am_E am_P0 d 101 [.ref (mC M + i)] (pa E M) Q ↔ Q none (pa (watE (mC M + i) (mC M + evC E) ++ E) M) := by
  rw [c_wat d (mC M + i) (pa E M) Q (by rw [(pa_K2 E M i h1).1]; exact h2) (by rw [pa_C]; omega), pa_C, pa_app]
theorem k_lin (d i : Nat) (E : List Ev) (M : am_M) (Q : Option Value → am_M → Prop) (h1 : i < evC E) (h2 : (kdE E i).1 = 11) : am_E am_P0 d 5 [.ref (mC M + i)] (pa E M) Q ↔ Q none (pa (linE (mC M + i) (mC M + evC E) ++ E) M) := by
  rw [c_lin d (mC M + i) (pa E M) Q (by rw [(pa_K2 E M i h1).1]; exact h2) (by rw [pa_C]; omega), pa_C, pa_app]
theorem k_sgt (d i : Nat) (E : List Ev) (M : am_M) (Q : Option Value → am_M → Prop) (h1 : i < evC E) (h2 : (kdE E i).1 = 17) : am_E am_P0 d 70 [.ref (mC M + i)] (pa E M) Q ↔ Q none (pa (sgtE (mC M + i) (mC M + evC E) ++ E) M) := by
  rw [c_sgt d (mC M + i) (pa E M) Q (by rw [(pa_K2 E M i h1).1]; exact h2) (by rw [pa_C]; omega), pa_C, pa_app]
theorem k_frm (d i : Nat) (E : List Ev) (M : am_M) (Q : Option Value → am_M → Prop) (h1 : i < evC E) (h2 : (kdE E i).1 = 10) : am_E am_P0 d 0 [.ref (mC M + i)] (pa E M) Q ↔ Q none (pa (frmE (mC M + i) (mC M + evC E) ++ E) M) := by
  rw [c_frm d (mC M + i) (pa E M) Q (by rw [(pa_K2 E M i h1).1]; exact h2) (by rw [pa_C]; omega), pa_C, pa_app]
theorem k_rul (d i m : Nat) (E : List Ev) (M : am_M) (Q : Option Value → am_M → Prop) (hm : m ≤ 12) (h1 : i < evC E) (h2 : (kdE E i).1 = 14) : am_E am_P0 d 46 [.ref (mC M + i), .int (nI m)] (pa E M) Q ↔ Q none (pa (rulE (mC M + i) (mC M + evC E) m ++ E) M) := by
  rw [c_rul d (mC M + i) m (pa E M) Q (by rw [(pa_K2 E M i h1).1]; exact h2) (by rw [pa_C]; omega) hm, pa_C, pa_app]
def prsE (p n s : Nat) : List Ev := [pR p 1 s, pR p 0 n] ++ (rdrE n (n + 1) ++ [nw 13 10])
theorem c_prs (d p s : Nat) (M : am_M) (Q : Option Value → am_M → Prop) (hk : mK M p = 12) (hp : p < mC M) (hQ : Q none (pa (prsE p (mC M) s) M)) : am_E am_P0 (d + 5) 9 [.ref p, .ref s] M Q := by
  have h1 := uN_K0 M (13, 10)
  rw [eX2_init]
  simp +decide (disch := first | omega | (simp only [uN_C, uR_C, uI_C]; omega)) only [qX2_init, uN_K, uN_C, uR_C, uI_C, hk, h1, am_w1_i, am_w1_r, am_w1_x, am_w1_l, am_w1_w, va_rf_s, am_push_n, am_push_s, am_cs_0, am_cs_i, am_cs_l, am_cs_r, m_uI_K, m_uI_N, m_uI_R, m_uI_L, m_uI_I, m_uL_K, m_uL_N, m_uL_R, m_uL_I, m_uL_L, m_uR_K, m_uR_N, m_uR_I, m_uR_L, m_uR_R, true_and, and_true, true_implies, false_implies, not_true_eq_false, not_false_eq_true, if_true, if_false, false_and, and_false]
  have e : pa (rdrE (mC M) (mC M + 1)) (uN M (13, 10)) = pa (rdrE (mC M) (mC M + 1) ++ [nw 13 10]) M := by rw [pa_app]; rfl
  refine c_rdr d (mC M) (uN M (13, 10)) _ h1 (by rw [uN_C]; omega) ?_
  rw [uN_C, e]
  have hk2 := ((pa_K (rdrE (mC M) (mC M + 1) ++ [nw 13 10]) M p hp).1.trans hk)
  simp +decide (disch := first | omega | (simp only [uN_C, uR_C, uI_C]; omega)) only [qX2_init, hk2, am_w1_i, am_w1_r, am_w1_x, am_w1_l, am_w1_w, va_rf_s, am_push_n, am_push_s, am_cs_0, am_cs_i, am_cs_l, am_cs_r, m_uI_K, m_uI_N, m_uI_R, m_uI_L, m_uI_I, m_uL_K, m_uL_N, m_uL_R, m_uL_I, m_uL_L, m_uR_K, m_uR_N, m_uR_I, m_uR_L, m_uR_R, true_and, and_true, true_implies, false_implies, not_true_eq_false, not_false_eq_true, if_true, if_false, false_and, and_false]
  exact hQ
def trkE (a n z g : Nat) : List Ev := [pR a 0 g, pR a 1 z, pR a 16 (n + 11), nw 0 48, pR a 15 (n + 10), nw 0 48, pR a 12 (n + 9), nw 1 192, pR a 10 (n + 8), nw 2 48, pR a 9 (n + 7), nw 2 48, pR a 3 (n + 5), pR (n + 5) 0 (n + 6), nw 0 48, nw 11 1, pR a 2 n, pR n 4 (n + 4), nw 1 4, pR n 3 (n + 3), nw 2 256, pR n 2 (n + 2), nw 5 256, pI n 1 1, pR n 0 (n + 1), nw 1 4, nw 19 5]
theorem evC_trk (a n z g : Nat) : evC (trkE a n z g) = 12 := rfl
theorem c_trk (d a z g : Nat) (M : am_M) (Q : Option Value → am_M → Prop) (hk : mK M a = 18) (ha : a < mC M) (hQ : Q none (pa (trkE a (mC M) z g) M)) : am_E am_P0 (d + 1) 72 [.ref a, .ref z, .ref g] M Q := by
  have K0 : ∀ E, mK (pa E M) a = 18 := fun E => (pa_K E M a ha).1.trans hk
  have N0 : ∀ sh, uN M sh = pa [.inl sh] M := fun _ => rfl
  have KK : ∀ E i k, i < evC E → (kdE E i).1 = k → mK (pa E M) (mC M + i) = k := fun E i k h h2 => ((pa_K2 E M i h).1).trans h2
  have W0 : ∀ Q, am_E am_P0 d 101 [.ref (mC M)] (pa [.inl (19, 5)] M) Q ↔ Q none (pa (watE (mC M) (mC M + 1) ++ [.inl (19, 5)]) M) := fun Q => k_wat d 0 [.inl (19, 5)] M Q (by show 0 < 1; omega) rfl
  have W1 : mK (pa [.inl (19, 5)] M) (mC M) = 19 := (pa_K2 [.inl (19, 5)] M 0 (by decide)).1
  rw [eX8_init]
  simp +decide (disch := omega) only [qX8_init, K0, N0, W0, W1, hk, watE, List.cons_append, List.nil_append, pa_uN, pa_uR, pa_uI, pa_C, evC_cn, evC_cr, evC_0, Nat.reduceAdd, am_w1_i, am_w1_r, am_w1_x, am_w1_l, am_w1_w, va_rf_s, am_push_n, am_push_s, am_cs_0, am_cs_i, am_cs_l, am_cs_r, m_uI_K, m_uI_N, m_uI_R, m_uI_L, m_uI_I, m_uL_K, m_uL_N, m_uL_R, m_uL_I, m_uL_L, m_uR_K, m_uR_N, m_uR_I, m_uR_L, m_uR_R, true_and, and_true, true_implies, false_implies, not_true_eq_false, not_false_eq_true, if_true, if_false, false_and, and_false]
  refine ⟨KK _ 5 11 (by show 5 < 6; omega) rfl, ?_⟩
  rw [k_lin d 5 _ M _ (by show 5 < 6; omega) rfl]
  simp +decide (disch := omega) only [qX8_init, K0, linE, List.cons_append, List.nil_append, pa_uN, pa_uR, pa_uI, pa_C, evC_cn, evC_cr, evC_0, Nat.reduceAdd, am_w1_i, am_w1_r, am_w1_x, am_w1_l, am_w1_w, va_rf_s, am_push_n, am_push_s, am_cs_0, am_cs_i, am_cs_l, am_cs_r, m_uI_K, m_uI_N, m_uI_R, m_uI_L, m_uI_I, m_uL_K, m_uL_N, m_uL_R, m_uL_I, m_uL_L, m_uR_K, m_uR_N, m_uR_I, m_uR_L, m_uR_R, true_and, and_true, true_implies, false_implies, not_true_eq_false, not_false_eq_true, if_true, if_false, false_and, and_false]
  exact hQ
def se0E (a n : Nat) : List Ev := [pR a 13 (n + 23), nw 1 192, pR a 12 (n + 22), nw 1 192, pR a 11 (n + 21), nw 0 256, pR a 10 (n + 20), nw 0 256, pR a 9 (n + 16), pR (n + 16) 3 (n + 19), nw 0 6, pR (n + 16) 2 (n + 18), nw 0 6, pR (n + 16) 1 (n + 17), nw 0 6, nw 14 4, pR a 8 (n + 12), pR (n + 12) 3 (n + 15), nw 0 12, pR (n + 12) 2 (n + 14), nw 0 12, pR (n + 12) 1 (n + 13), nw 0 12, nw 14 4, pR a 7 (n + 8), pR (n + 8) 3 (n + 11), nw 0 12, pR (n + 8) 2 (n + 10), nw 0 12, pR (n + 8) 1 (n + 9), nw 0 12, nw 14 4, pR a 6 (n + 5), pR (n + 5) 2 (n + 7), nw 0 64, pR (n + 5) 0 (n + 6), nw 0 1800, nw 10 3, pR a 5 (n + 1), pR (n + 1) 3 (n + 4), nw 0 40, pR (n + 1) 2 (n + 3), nw 0 40, pR (n + 1) 1 (n + 2), nw 0 40, nw 17 4, pR a 4 n, nw 3 8, pI a 2 10]
theorem evC_se0 (a n : Nat) : evC (se0E a n) = 24 := rfl
def sp1E (A c s : Nat) : List Ev := [pR A s c] ++ (shpE c (c + 1) ++ [nw 16 13])
def spsE (A c : Nat) : Nat → List Ev
  | 0 => []
  | s + 1 => sp1E A (c + 7 * s) s ++ spsE A c s
def seaE (a n : Nat) : List Ev := spsE n (n + 24) 8 ++ se0E a n
theorem evC_sps (A c : Nat) : ∀ s, evC (spsE A c s) = 7 * s := by
  intro s
  induction s with
  | zero => rfl
  | succ s ih => show evC (sp1E A (c + 7 * s) s ++ spsE A c s) = _; rw [evC_app, ih]; show 7 + 7 * s = _; omega
theorem evC_sea (a n : Nat) : evC (seaE a n) = 80 := by unfold seaE; rw [evC_app, evC_se0, evC_sps]
theorem l_sea118 (d a A : Nat) (M0 : am_M) (Q : Option Value → am_M → Prop) (hk : mK M0 a = 15) (ha : a < mC M0) (hA : A < mC M0) (hAa : ¬ a = A) (hr : mR M0 a 4 = some A) (hAk : mK M0 A = 3) (hAn : mN M0 A = 8) (hQ : Q none (pa (spsE A (mC M0) 8) M0)) :
    ∀ (m s : Nat), s + m = 8 → ∀ (M : am_M), M = pa (spsE A (mC M0) s) M0 → mR M a 4 = some A → am_P am_P0 (d + 1) (am_look tX5_init) 118 [.ref a, .int (nI s)] [] M Q := by
  intro m
  induction m with
  | zero =>
    intro s hs M hM hR
    have e : s = 8 := by omega
    subst e
    rw [← hM] at hQ
    rw [hX5_init_118]
    have hle : (8 : Int32) ≤ nI 8 := by decide
    simp +decide (disch := omega) only [qX5_init_0, qX5_init_1, am_w1_i, am_w1_r, am_w1_x, am_w1_l, am_w1_w, va_rf_s, am_push_n, am_push_s, am_cs_0, am_cs_i, am_cs_l, am_cs_r, m_uI_K, m_uI_N, m_uI_R, m_uI_L, m_uI_I, m_uL_K, m_uL_N, m_uL_R, m_uL_I, m_uL_L, m_uR_K, m_uR_N, m_uR_I, m_uR_L, m_uR_R, true_and, and_true, true_implies, false_implies, not_true_eq_false, not_false_eq_true, if_true, if_false, false_and, and_false]
    first | exact hQ | (rw [br_p hle]; exact hQ)
  | succ m ih =>
    intro s hs M hM hR
    have hlt : ¬ (8 : Int32) ≤ nI s := by rw [show (8 : Int32) = nI 8 from rfl, ni_le (by omega) (by omega)]; omega
    have hC : mC M = mC M0 + 7 * s := by rw [hM, pa_C, evC_sps]
    have k1 : mK M a = 15 ∧ mK M A = 3 ∧ mN M A = 8 := by
      rw [hM]
      exact ⟨(pa_K _ M0 a ha).1.trans hk, (pa_K _ M0 A hA).1.trans hAk, (pa_K _ M0 A hA).2.trans hAn⟩
    have N0 : ∀ sh, uN M sh = pa [.inl sh] M := fun _ => rfl
    have W1 : mK (pa [.inl (16, 13)] M) (mC M) = 16 := (pa_K2 [.inl (16, 13)] M 0 (by decide)).1
    have W0 : ∀ Q, am_E am_P0 d 64 [.ref (mC M)] (pa [.inl (16, 13)] M) Q ↔ Q none (pa (shpE (mC M) (mC M + 1) ++ [nw 16 13]) M) := fun Q => by
      rw [c_shp d (mC M) (pa [.inl (16, 13)] M) Q W1 (by rw [pa_C]; show mC M < mC M + 1; omega), pa_C, pa_app]
      exact Iff.rfl
    have k2 : ∀ E, mK (pa E M) A = 3 ∧ mN (pa E M) A = 8 := fun E => ⟨(pa_K E M A (by omega)).1.trans k1.2.1, (pa_K E M A (by omega)).2.trans k1.2.2⟩
    have k3 : mK (pa (shpE (mC M) (mC M + 1) ++ [nw 16 13]) M) (mC M) = 16 := (pa_K2 (shpE (mC M) (mC M + 1) ++ [nw 16 13]) M 0 (by show 0 < 7; omega)).1
    have h0 := ih (s + 1) (by omega) (pa (sp1E A (mC M) s) M) (by
      show _ = pa (sp1E A (mC M0 + 7 * s) s ++ spsE A (mC M0) s) M0
      rw [pa_app, ← hM, ← hC]) (by
      rw [pa_R, hR]
      have n0 : ∀ i, ¬ a = mC M + i := fun i => by omega
      have n1 : ¬ a = mC M := by omega
      simp only [sp1E, shpE, nw, pR, List.cons_append, List.nil_append, rvR, n0, n1, hAa, false_and, if_false])
    rw [hX5_init_118]
    simp +decide (disch := first | omega | rfl) only [qX5_init_0, qX5_init_1, k1, hR, N0, W0, W1, k2, k3, pa_uN, pa_uR, pa_uI, hlt, ni_in_t, ni_tn, ni_add1, am_w1_i, am_w1_r, am_w1_x, am_w1_l, am_w1_w, va_rf_s, am_push_n, am_push_s, am_cs_0, am_cs_i, am_cs_l, am_cs_r, m_uI_K, m_uI_N, m_uI_R, m_uI_L, m_uI_I, m_uL_K, m_uL_N, m_uL_R, m_uL_I, m_uL_L, m_uR_K, m_uR_N, m_uR_I, m_uR_L, m_uR_R, true_and, and_true, true_implies, false_implies, not_true_eq_false, not_false_eq_true, if_true, if_false, false_and, and_false]
    exact h0
theorem c_sea (d a : Nat) (M : am_M) (Q : Option Value → am_M → Prop) (hk : mK M a = 15) (ha : a < mC M) (hQ : Q none (pa (seaE a (mC M)) M)) : am_E am_P0 (d + 1) 51 [.ref a] M Q := by
  have K0 : ∀ E, mK (pa E M) a = 15 := fun E => (pa_K E M a ha).1.trans hk
  have I0 : ∀ b j v, uI M b j v = pa [.inr (.inr (b, j, v))] M := fun _ _ _ => rfl
  have KK : ∀ E i k, i < evC E → (kdE E i).1 = k → mK (pa E M) (mC M + i) = k := fun E i k h h2 => ((pa_K2 E M i h).1).trans h2
  have R12 : ∀ (i : Nat) (E : List Ev) (Q : Option Value → am_M → Prop), i < evC E → (kdE E i).1 = 14 → (am_E am_P0 d 46 [.ref (mC M + i), .int 12] (pa E M) Q ↔ Q none (pa (rulE (mC M + i) (mC M + evC E) 12 ++ E) M)) := fun i E Q h1 h2 => k_rul d i 12 E M Q (by omega) h1 h2
  have R6 : ∀ (i : Nat) (E : List Ev) (Q : Option Value → am_M → Prop), i < evC E → (kdE E i).1 = 14 → (am_E am_P0 d 46 [.ref (mC M + i), .int 6] (pa E M) Q ↔ Q none (pa (rulE (mC M + i) (mC M + evC E) 6 ++ E) M)) := fun i E Q h1 h2 => k_rul d i 6 E M Q (by omega) h1 h2
  have rA : mR (pa (se0E a (mC M)) M) a 4 = some (mC M) := by
    rw [pa_R]
    have n0 : ∀ i, ¬ a = mC M + i := fun i => by omega
    have n1 : ¬ a = mC M := by omega
    simp +decide only [se0E, nw, pR, pI, rvR, n0, n1, false_and, and_false, and_self, if_false, if_true]
  have h0 := l_sea118 d a (mC M) (pa (se0E a (mC M)) M) Q (K0 _) (by rw [pa_C, evC_se0]; omega) (by rw [pa_C, evC_se0]; omega) (by omega) rA (pa_K2 (se0E a (mC M)) M 0 (by rw [evC_se0]; omega)).1 (pa_K2 (se0E a (mC M)) M 0 (by rw [evC_se0]; omega)).2 (by rw [pa_C, evC_se0, ← pa_app]; exact hQ) 8 0 (by omega) _ rfl rA
  rw [eX5_init]
  simp +decide (disch := omega) only [qX5_init_0, qX5_init_1, hk, K0, I0, pa_uN, pa_uR, pa_uI, pa_C, evC_cn, evC_cr, evC_0, Nat.reduceAdd, am_w1_i, am_w1_r, am_w1_x, am_w1_l, am_w1_w, va_rf_s, am_push_n, am_push_s, am_cs_0, am_cs_i, am_cs_l, am_cs_r, m_uI_K, m_uI_N, m_uI_R, m_uI_L, m_uI_I, m_uL_K, m_uL_N, m_uL_R, m_uL_I, m_uL_L, m_uR_K, m_uR_N, m_uR_I, m_uR_L, m_uR_R, true_and, and_true, true_implies, false_implies, not_true_eq_false, not_false_eq_true, if_true, if_false, false_and, and_false]
  refine ⟨KK _ 1 17 (by show 1 < 2; omega) rfl, ?_⟩
  rw [k_sgt d 1 _ M _ (by show 1 < 2; omega) rfl]
  simp +decide (disch := omega) only [qX5_init_0, qX5_init_1, K0, sgtE, List.cons_append, List.nil_append, pa_uN, pa_uR, pa_uI, pa_C, evC_cn, evC_cr, evC_0, Nat.reduceAdd, am_w1_i, am_w1_r, am_w1_x, am_w1_l, am_w1_w, va_rf_s, am_push_n, am_push_s, am_cs_0, am_cs_i, am_cs_l, am_cs_r, m_uI_K, m_uI_N, m_uI_R, m_uI_L, m_uI_I, m_uL_K, m_uL_N, m_uL_R, m_uL_I, m_uL_L, m_uR_K, m_uR_N, m_uR_I, m_uR_L, m_uR_R, true_and, and_true, true_implies, false_implies, not_true_eq_false, not_false_eq_true, if_true, if_false, false_and, and_false]
  refine ⟨KK _ 5 10 (by show 5 < 6; omega) rfl, ?_⟩
  rw [k_frm d 5 _ M _ (by show 5 < 6; omega) rfl]
  simp +decide (disch := omega) only [qX5_init_0, qX5_init_1, K0, frmE, List.cons_append, List.nil_append, pa_uN, pa_uR, pa_uI, pa_C, evC_cn, evC_cr, evC_0, Nat.reduceAdd, am_w1_i, am_w1_r, am_w1_x, am_w1_l, am_w1_w, va_rf_s, am_push_n, am_push_s, am_cs_0, am_cs_i, am_cs_l, am_cs_r, m_uI_K, m_uI_N, m_uI_R, m_uI_L, m_uI_I, m_uL_K, m_uL_N, m_uL_R, m_uL_I, m_uL_L, m_uR_K, m_uR_N, m_uR_I, m_uR_L, m_uR_R, true_and, and_true, true_implies, false_implies, not_true_eq_false, not_false_eq_true, if_true, if_false, false_and, and_false]
  refine ⟨KK _ 8 14 (by show 8 < 9; omega) rfl, ?_⟩
  rw [R12 8 _ _ (by show 8 < 9; omega) rfl]
  simp +decide (disch := omega) only [qX5_init_0, qX5_init_1, K0, rulE, List.cons_append, List.nil_append, pa_uN, pa_uR, pa_uI, pa_C, evC_cn, evC_cr, evC_0, Nat.reduceAdd, am_w1_i, am_w1_r, am_w1_x, am_w1_l, am_w1_w, va_rf_s, am_push_n, am_push_s, am_cs_0, am_cs_i, am_cs_l, am_cs_r, m_uI_K, m_uI_N, m_uI_R, m_uI_L, m_uI_I, m_uL_K, m_uL_N, m_uL_R, m_uL_I, m_uL_L, m_uR_K, m_uR_N, m_uR_I, m_uR_L, m_uR_R, true_and, and_true, true_implies, false_implies, not_true_eq_false, not_false_eq_true, if_true, if_false, false_and, and_false]
  refine ⟨KK _ 12 14 (by show 12 < 13; omega) rfl, ?_⟩
  rw [R12 12 _ _ (by show 12 < 13; omega) rfl]
  simp +decide (disch := omega) only [qX5_init_0, qX5_init_1, K0, rulE, List.cons_append, List.nil_append, pa_uN, pa_uR, pa_uI, pa_C, evC_cn, evC_cr, evC_0, Nat.reduceAdd, am_w1_i, am_w1_r, am_w1_x, am_w1_l, am_w1_w, va_rf_s, am_push_n, am_push_s, am_cs_0, am_cs_i, am_cs_l, am_cs_r, m_uI_K, m_uI_N, m_uI_R, m_uI_L, m_uI_I, m_uL_K, m_uL_N, m_uL_R, m_uL_I, m_uL_L, m_uR_K, m_uR_N, m_uR_I, m_uR_L, m_uR_R, true_and, and_true, true_implies, false_implies, not_true_eq_false, not_false_eq_true, if_true, if_false, false_and, and_false]
  refine ⟨KK _ 16 14 (by show 16 < 17; omega) rfl, ?_⟩
  rw [R6 16 _ _ (by show 16 < 17; omega) rfl]
  simp +decide (disch := omega) only [qX5_init_0, qX5_init_1, K0, rulE, List.cons_append, List.nil_append, pa_uN, pa_uR, pa_uI, pa_C, evC_cn, evC_cr, evC_0, Nat.reduceAdd, am_w1_i, am_w1_r, am_w1_x, am_w1_l, am_w1_w, va_rf_s, am_push_n, am_push_s, am_cs_0, am_cs_i, am_cs_l, am_cs_r, m_uI_K, m_uI_N, m_uI_R, m_uI_L, m_uI_I, m_uL_K, m_uL_N, m_uL_R, m_uL_I, m_uL_L, m_uR_K, m_uR_N, m_uR_I, m_uR_L, m_uR_R, true_and, and_true, true_implies, false_implies, not_true_eq_false, not_false_eq_true, if_true, if_false, false_and, and_false]
  exact h0
end
section
/-! making: the class -/
theorem z0_C : mC am_M0 = 0 := rfl
theorem pz_C (E : List Ev) : mC (pa E am_M0) = evC E := by rw [pa_C, z0_C, Nat.zero_add]
theorem pz_K (E : List Ev) (i : Nat) (h : i < evC E) : mK (pa E am_M0) i = (kdE E i).1 ∧ mN (pa E am_M0) i = (kdE E i).2 := by
  have := pa_K2 E am_M0 i h
  rw [z0_C, Nat.zero_add] at this
  exact this
theorem pz_R (E : List Ev) (a j : Nat) : mR (pa E am_M0) a j = rvR a j 0 none E := pa_R a j E am_M0
theorem pz_I (E : List Ev) (a j : Nat) : mI (pa E am_M0) a j = rvI a j 0 0 E := pa_I a j E am_M0
def xA : List Ev := [pR 0 0 1, nw 0 1800, nw 20 17]
def x1 : List Ev := pR 0 2 2 :: (seaE 2 3 ++ (nw 15 14 :: xA))
def x2 : List Ev := pR 0 3 83 :: (seaE 83 84 ++ (nw 15 14 :: x1))
def x3 : List Ev := pR 0 4 164 :: (prsE 164 165 83 ++ (nw 12 2 :: x2))
def x4 : List Ev := pI 0 15 (-1) :: pI 0 14 (-1) :: pR 0 12 172 :: nw 1 36 :: pR 0 11 171 :: nw 1 48 :: pR 0 9 170 :: nw 0 507 :: pR 0 8 169 :: nw 0 5 :: pR 0 7 168 :: nw 4 8 :: pI 0 6 (-1) :: x3
def tr1E (s : Nat) : List Ev := pR 168 s (173 + 13 * s) :: (trkE (173 + 13 * s) (174 + 13 * s) 2 (27 + 7 * s) ++ [nw 18 17])
def trsE : Nat → List Ev
  | 0 => []
  | s + 1 => tr1E s ++ trsE s
def x10 : List Ev := trsE 8 ++ x4
theorem evC_x1 : evC x1 = 83 := by show evC (seaE 2 3 ++ (nw 15 14 :: xA)) = 83; rw [evC_app, evC_sea]; rfl
theorem evC_x2 : evC x2 = 164 := by show evC (seaE 83 84 ++ (nw 15 14 :: x1)) = 164; rw [evC_app, evC_sea, evC_cn, evC_x1]
theorem evC_prs (p n s : Nat) : evC (prsE p n s) = 3 := by unfold prsE rdrE; rw [evC_app, evC_app, evC_app, evC_row]; rfl
theorem evC_x3 : evC x3 = 168 := by show evC (prsE 164 165 83 ++ (nw 12 2 :: x2)) = 168; rw [evC_app, evC_prs, evC_cn, evC_x2]
theorem evC_x4 : evC x4 = 173 := by unfold x4; simp only [nw, pR, pI, evC_cn, evC_cr, evC_x3]
theorem evC_trs : ∀ s, evC (trsE s) = 13 * s := by
  intro s
  induction s with
  | zero => rfl
  | succ s ih =>
    show evC (tr1E s ++ trsE s) = _
    rw [evC_app, ih]
    have : evC (tr1E s) = 13 := by unfold tr1E; rw [evC_cr, evC_app, evC_trk]; rfl
    omega
theorem trs_ok : ∀ s, s < 8 → rvR 0 7 0 none (trsE s ++ x4) = some 168 ∧ rvR 0 2 0 none (.inl (18, 17) :: (trsE s ++ x4)) = some 2 ∧ rvR 2 4 0 none (.inl (18, 17) :: (trsE s ++ x4)) = some 3 ∧ rvR 3 s 0 none (.inl (18, 17) :: (trsE s ++ x4)) = some (27 + 7 * s) := by decide +kernel
theorem trs_kd : kdE x4 0 = (20, 17) ∧ kdE x4 168 = (4, 8) ∧ kdE x4 2 = (15, 14) ∧ kdE x4 3 = (3, 8) := by decide +kernel
theorem l_x10 (d : Nat) (Q : Option Value → am_M → Prop) (hQ : Q none (pa x10 am_M0)) : ∀ (m s : Nat), s + m = 8 → am_P am_P0 (d + 2) (am_look tX10_init) 108 [.ref 0, .int (nI s)] [] (pa (trsE s ++ x4) am_M0) Q := by
  have k4 : ∀ E, mK (pa E (pa x4 am_M0)) 0 = 20 ∧ mK (pa E (pa x4 am_M0)) 168 = 4 ∧ mN (pa E (pa x4 am_M0)) 168 = 8 ∧ mK (pa E (pa x4 am_M0)) 2 = 15 ∧ mK (pa E (pa x4 am_M0)) 3 = 3 ∧ mN (pa E (pa x4 am_M0)) 3 = 8 := fun E => by
    have c4 : mC (pa x4 am_M0) = 173 := by rw [pz_C, evC_x4]
    obtain ⟨t1, t2, t3, t4⟩ := trs_kd
    have q := fun i (hi : i < 173) => pa_K E (pa x4 am_M0) i (by rw [c4]; exact hi)
    have w := fun i (hi : i < 173) => pz_K x4 i (by rw [evC_x4]; exact hi)
    refine ⟨?_, ?_, ?_, ?_, ?_, ?_⟩
    · rw [(q 0 (by omega)).1, (w 0 (by omega)).1, t1]
    · rw [(q 168 (by omega)).1, (w 168 (by omega)).1, t2]
    · rw [(q 168 (by omega)).2, (w 168 (by omega)).2, t2]
    · rw [(q 2 (by omega)).1, (w 2 (by omega)).1, t3]
    · rw [(q 3 (by omega)).1, (w 3 (by omega)).1, t4]
    · rw [(q 3 (by omega)).2, (w 3 (by omega)).2, t4]
  intro m
  induction m with
  | zero =>
    intro s hs
    have e : s = 8 := by omega
    subst e
    have hle : (8 : Int32) ≤ nI 8 := by decide
    have hQ : Q none (pa (trsE 8 ++ x4) am_M0) := hQ
    obtain ⟨M, hM⟩ : ∃ M, M = pa (trsE 8 ++ x4) am_M0 := ⟨_, rfl⟩
    rw [← hM] at hQ ⊢
    rw [hX10_init_108]
    simp +decide (disch := omega) only [qX10_init_0, qX10_init_1, am_w1_i, am_w1_r, am_w1_x, am_w1_l, am_w1_w, va_rf_s, am_push_n, am_push_s, am_cs_0, am_cs_i, am_cs_l, am_cs_r, m_uI_K, m_uI_N, m_uI_R, m_uI_L, m_uI_I, m_uL_K, m_uL_N, m_uL_R, m_uL_I, m_uL_L, m_uR_K, m_uR_N, m_uR_I, m_uR_L, m_uR_R, true_and, and_true, true_implies, false_implies, not_true_eq_false, not_false_eq_true, if_true, if_false, false_and, and_false]
    first | exact hQ | (rw [br_p hle]; exact hQ)
  | succ m ih =>
    intro s hs
    have hlt : ¬ (8 : Int32) ≤ nI s := by rw [show (8 : Int32) = nI 8 from rfl, ni_le (by omega) (by omega)]; omega
    obtain ⟨o1, o2, o3, o4⟩ := trs_ok s (by omega)
    obtain ⟨M, hM⟩ : ∃ M, M = pa (trsE s ++ x4) am_M0 := ⟨_, rfl⟩
    obtain ⟨M1, hM1⟩ : ∃ M1, M1 = uN M (18, 17) := ⟨_, rfl⟩
    have cM : mC M = 173 + 13 * s := by rw [hM, pz_C, evC_app, evC_trs, evC_x4]; omega
    have cM1 : mC M1 = 174 + 13 * s := by rw [hM1, uN_C, cM]; omega
    have kM := k4 (trsE s)
    rw [← pa_app, ← hM] at kM
    have kM1 := k4 (.inl (18, 17) :: trsE s)
    rw [← pa_app] at kM1
    have eM1 : M1 = pa (.inl (18, 17) :: (trsE s ++ x4)) am_M0 := by rw [hM1, hM]; rfl
    have eM1' : M1 = pa (.inl (18, 17) :: trsE s ++ x4) am_M0 := eM1
    rw [← eM1'] at kM1
    have kT : mK M1 (173 + 13 * s) = 18 := by rw [hM1, ← cM]; exact uN_K0 M (18, 17)
    have r7 : mR M 0 7 = some 168 := by rw [hM, pz_R]; exact o1
    have r2 : mR M1 0 2 = some 2 := by rw [eM1, pz_R]; exact o2
    have r3 : mR M1 2 4 = some 3 := by rw [eM1, pz_R]; exact o3
    have r4 : mR M1 3 s = some (27 + 7 * s) := by rw [eM1, pz_R]; exact o4
    have h0 := ih (s + 1) (by omega)
    rw [hX10_init_108, ← hM]
    simp +decide (disch := omega) only [qX10_init_0, qX10_init_1, kM, r7, cM, am_w1_i, am_w1_r, am_w1_x, am_w1_l, am_w1_w, va_rf_s, am_push_n, am_push_s, am_cs_0, am_cs_i, am_cs_l, am_cs_r, m_uI_K, m_uI_N, m_uI_R, m_uI_L, m_uI_I, m_uL_K, m_uL_N, m_uL_R, m_uL_I, m_uL_L, m_uR_K, m_uR_N, m_uR_I, m_uR_L, m_uR_R, true_and, and_true, true_implies, false_implies, not_true_eq_false, not_false_eq_true, if_true, if_false, false_and, and_false, ← hM1, kM1, kT, r2, r3, r4, hlt, ni_in_t, ni_tn]
    refine c_trk d (173 + 13 * s) 2 (27 + 7 * s) M1 _ kT (by omega) ?_
    have kk := fun E i (hi : i < mC M1) => pa_K E M1 i hi
    have k2 := (kk (trkE (173 + 13 * s) (mC M1) 2 (27 + 7 * s)) 168 (by omega)).1.trans kM1.2.1
    have k3 := (kk (trkE (173 + 13 * s) (mC M1) 2 (27 + 7 * s)) 168 (by omega)).2.trans kM1.2.2.1
    have k5 := (kk (trkE (173 + 13 * s) (mC M1) 2 (27 + 7 * s)) (173 + 13 * s) (by omega)).1.trans kT
    have e9 : uR (pa (trkE (173 + 13 * s) (mC M1) 2 (27 + 7 * s)) M1) 168 s (some (173 + 13 * s)) = pa (trsE (s + 1) ++ x4) am_M0 := by
      show _ = pa (tr1E s ++ trsE s ++ x4) am_M0
      rw [cM1, eM1, List.append_assoc, pa_app]
      unfold tr1E
      show _ = ev1 (pa (trkE (173 + 13 * s) (174 + 13 * s) 2 (27 + 7 * s) ++ [nw 18 17]) (pa (trsE s ++ x4) am_M0)) _
      rw [pa_app]
      rfl
    simp +decide (disch := omega) only [qX10_init_0, qX10_init_1, k2, k3, k5, ni_in_t, ni_tn, ni_add1, e9, am_w1_i, am_w1_r, am_w1_x, am_w1_l, am_w1_w, va_rf_s, am_push_n, am_push_s, am_cs_0, am_cs_i, am_cs_l, am_cs_r, m_uI_K, m_uI_N, m_uI_R, m_uI_L, m_uI_I, m_uL_K, m_uL_N, m_uL_R, m_uL_I, m_uL_L, m_uR_K, m_uR_N, m_uR_I, m_uR_L, m_uR_R, true_and, and_true, true_implies, false_implies, not_true_eq_false, not_false_eq_true, if_true, if_false, false_and, and_false]
    exact h0
theorem x_kd : kdE [nw 20 17] 0 = (20, 17) ∧ kdE (nw 15 14 :: xA) 2 = (15, 14) ∧ kdE (seaE 2 3 ++ (nw 15 14 :: xA)) 0 = (20, 17) ∧ kdE (nw 15 14 :: x1) 83 = (15, 14) ∧ kdE (seaE 83 84 ++ (nw 15 14 :: x1)) 0 = (20, 17) ∧ kdE (nw 12 2 :: x2) 164 = (12, 2) ∧ kdE (prsE 164 165 83 ++ (nw 12 2 :: x2)) 0 = (20, 17) := by decide +kernel
theorem x_rf : rvR 0 3 0 none (nw 12 2 :: x2) = some 83 := by decide +kernel
theorem c_x10 (d : Nat) (Q : Option Value → am_M → Prop) (hQ : Q none (pa x10 am_M0)) : am_E am_P0 (d + 6) 108 [.ref 0] (pa [nw 20 17] am_M0) Q := by
  have h0 := l_x10 (d + 4) Q hQ 8 0 (by omega)
  obtain ⟨u1, u2, u3, u4, u5, u6, u7⟩ := x_kd
  obtain ⟨A, hA⟩ : ∃ A, A = pa [nw 20 17] am_M0 := ⟨_, rfl⟩
  have kA : mK A 0 = 20 := by rw [hA, (pz_K _ 0 (by show 0 < 1; omega)).1, u1]
  have cA : mC A = 1 := by rw [hA, pz_C]; rfl
  have eB : uN (uR (uN A (0, (Int32.toInt 1800).toNat)) 0 0 (some 1)) (15, 14) = pa (nw 15 14 :: xA) am_M0 := by rw [hA]; rfl
  have kB : mK (pa (nw 15 14 :: xA) am_M0) 2 = 15 := by rw [(pz_K _ 2 (by show 2 < 3; omega)).1, u2]
  have cB : mC (pa (nw 15 14 :: xA) am_M0) = 3 := by rw [pz_C]; rfl
  have e1 : pa (seaE 2 3) (pa (nw 15 14 :: xA) am_M0) = pa (seaE 2 3 ++ (nw 15 14 :: xA)) am_M0 := (pa_app _ _ _).symm
  obtain ⟨B1, hB1⟩ : ∃ B1, B1 = pa (seaE 2 3 ++ (nw 15 14 :: xA)) am_M0 := ⟨_, rfl⟩
  have c1 : evC (seaE 2 3 ++ (nw 15 14 :: xA)) = 83 := evC_x1
  have kB1 : mK B1 0 = 20 := by rw [hB1, (pz_K _ 0 (by rw [c1]; omega)).1, u3]
  have cB1 : mC B1 = 83 := by rw [hB1, pz_C, c1]
  have eC : uN (uR B1 0 2 (some 2)) (15, 14) = pa (nw 15 14 :: x1) am_M0 := by rw [hB1]; rfl
  have kC : mK (pa (nw 15 14 :: x1) am_M0) 83 = 15 := by rw [(pz_K _ 83 (by rw [evC_cn, evC_x1]; omega)).1, u4]
  have cC : mC (pa (nw 15 14 :: x1) am_M0) = 84 := by rw [pz_C, evC_cn, evC_x1]
  have e2 : pa (seaE 83 84) (pa (nw 15 14 :: x1) am_M0) = pa (seaE 83 84 ++ (nw 15 14 :: x1)) am_M0 := (pa_app _ _ _).symm
  obtain ⟨C1, hC1⟩ : ∃ C1, C1 = pa (seaE 83 84 ++ (nw 15 14 :: x1)) am_M0 := ⟨_, rfl⟩
  have c2 : evC (seaE 83 84 ++ (nw 15 14 :: x1)) = 164 := evC_x2
  have kC1 : mK C1 0 = 20 := by rw [hC1, (pz_K _ 0 (by rw [c2]; omega)).1, u5]
  have cC1 : mC C1 = 164 := by rw [hC1, pz_C, c2]
  obtain ⟨D, hD⟩ : ∃ D, D = pa (nw 12 2 :: x2) am_M0 := ⟨_, rfl⟩
  have eD : uN (uR C1 0 3 (some 83)) (12, 2) = D := by rw [hC1, hD]; rfl
  have kD : mK D 164 = 12 := by rw [hD, (pz_K _ 164 (by rw [evC_cn, evC_x2]; omega)).1, u6]
  have kD0 : mK D 0 = 20 := by
    rw [← eD, uN_K (by show 0 < mC C1; omega)]
    exact kC1
  have cD : mC D = 165 := by rw [hD, pz_C, evC_cn, evC_x2]
  have rD : mR D 0 3 = some 83 := by rw [hD, pz_R]; exact x_rf
  have e3 : pa (prsE 164 165 83) D = pa (prsE 164 165 83 ++ (nw 12 2 :: x2)) am_M0 := by rw [hD]; exact (pa_app _ _ _).symm
  obtain ⟨D1, hD1⟩ : ∃ D1, D1 = pa (prsE 164 165 83 ++ (nw 12 2 :: x2)) am_M0 := ⟨_, rfl⟩
  have c3 : evC (prsE 164 165 83 ++ (nw 12 2 :: x2)) = 168 := evC_x3
  have kD1 : mK D1 0 = 20 := by rw [hD1, (pz_K _ 0 (by rw [c3]; omega)).1, u7]
  have cD1 : mC D1 = 168 := by rw [hD1, pz_C, c3]
  have e4 : pa (trsE 0 ++ x4) am_M0 = uI (uI (uR (uN (uR (uN (uR (uN (uR (uN (uR (uN (uI (uR D1 0 4 (some 164)) 0 6 (-1)) (4, (Int32.toInt 8).toNat)) 0 7 (some 168)) (0, (Int32.toInt 5).toNat)) 0 8 (some 169)) (0, (Int32.toInt 507).toNat)) 0 9 (some 170)) (1, (Int32.toInt 48).toNat)) 0 11 (some 171)) (1, (Int32.toInt 36).toNat)) 0 12 (some 172)) 0 14 (-1)) 0 15 (-1) := by rw [hD1]; rfl
  rw [e4] at h0
  rw [← hA, eX10_init]
  simp +decide (disch := first | omega | (simp only [uN_C, uR_C, uI_C]; omega)) only [qX10_init_0, qX10_init_1, kA, cA, uN_K, uN_C, uR_C, uI_C, Nat.reduceAdd, am_w1_i, am_w1_r, am_w1_x, am_w1_l, am_w1_w, va_rf_s, am_push_n, am_push_s, am_cs_0, am_cs_i, am_cs_l, am_cs_r, m_uI_K, m_uI_N, m_uI_R, m_uI_L, m_uI_I, m_uL_K, m_uL_N, m_uL_R, m_uL_I, m_uL_L, m_uR_K, m_uR_N, m_uR_I, m_uR_L, m_uR_R, true_and, and_true, true_implies, false_implies, not_true_eq_false, not_false_eq_true, if_true, if_false, false_and, and_false]
  rw [eB]
  refine ⟨kB, c_sea (d + 4) 2 _ _ kB (by rw [cB]; omega) ?_⟩
  rw [cB, e1, ← hB1]
  simp +decide (disch := first | omega | (simp only [uN_C, uR_C, uI_C]; omega)) only [qX10_init_0, qX10_init_1, kB1, cB1, uN_K, uN_C, uR_C, uI_C, Nat.reduceAdd, am_w1_i, am_w1_r, am_w1_x, am_w1_l, am_w1_w, va_rf_s, am_push_n, am_push_s, am_cs_0, am_cs_i, am_cs_l, am_cs_r, m_uI_K, m_uI_N, m_uI_R, m_uI_L, m_uI_I, m_uL_K, m_uL_N, m_uL_R, m_uL_I, m_uL_L, m_uR_K, m_uR_N, m_uR_I, m_uR_L, m_uR_R, true_and, and_true, true_implies, false_implies, not_true_eq_false, not_false_eq_true, if_true, if_false, false_and, and_false]
  rw [eC]
  refine ⟨kC, c_sea (d + 4) 83 _ _ kC (by rw [cC]; omega) ?_⟩
  rw [cC, e2, ← hC1]
  simp +decide (disch := first | omega | (simp only [uN_C, uR_C, uI_C]; omega)) only [qX10_init_0, qX10_init_1, kC1, cC1, uN_K, uN_C, uR_C, uI_C, eD, kD, kD0, rD, Nat.reduceAdd, am_w1_i, am_w1_r, am_w1_x, am_w1_l, am_w1_w, va_rf_s, am_push_n, am_push_s, am_cs_0, am_cs_i, am_cs_l, am_cs_r, m_uI_K, m_uI_N, m_uI_R, m_uI_L, m_uI_I, m_uL_K, m_uL_N, m_uL_R, m_uL_I, m_uL_L, m_uR_K, m_uR_N, m_uR_I, m_uR_L, m_uR_R, true_and, and_true, true_implies, false_implies, not_true_eq_false, not_false_eq_true, if_true, if_false, false_and, and_false]
  refine c_prs d 164 83 D _ kD (by omega) ?_
  rw [cD, e3, ← hD1]
  simp +decide (disch := first | omega | (simp only [uN_C, uR_C, uI_C]; omega)) only [qX10_init_0, qX10_init_1, kD1, cD1, uN_K, uN_C, uR_C, uI_C, Nat.reduceAdd, am_w1_i, am_w1_r, am_w1_x, am_w1_l, am_w1_w, va_rf_s, am_push_n, am_push_s, am_cs_0, am_cs_i, am_cs_l, am_cs_r, m_uI_K, m_uI_N, m_uI_R, m_uI_L, m_uI_I, m_uL_K, m_uL_N, m_uL_R, m_uL_I, m_uL_L, m_uR_K, m_uR_N, m_uR_I, m_uR_L, m_uR_R, true_and, and_true, true_implies, false_implies, not_true_eq_false, not_false_eq_true, if_true, if_false, false_and, and_false]
  exact h0
end
section
/-! making: the model -/
def md1 : List Ev := [pI 277 82 0, pR 277 81 335, nw 0 520, pR 277 80 334, nw 0 12288, pR 277 79 333, nw 1 50, pR 277 78 332, nw 0 40, pR 277 77 331, nw 2 48, pR 277 76 330, nw 2 12288, pR 277 75 329, nw 0 48, pR 277 74 328, nw 0 48, pI 277 73 0, pR 277 72 327, nw 0 15360, pR 277 71 326, nw 0 48, pR 277 70 325, nw 2 2304, pR 277 69 324, nw 2 48, pR 277 68 323, nw 2 48, pR 277 67 322, nw 0 48, pI 277 66 0, pI 277 65 0, pI 277 64 0, pR 277 63 321, nw 0 120, pR 277 62 320, nw 0 120, pR 277 61 319, nw 0 120, pI 277 60 0, pI 277 59 0, pR 277 58 318, nw 0 256, pR 277 57 317, nw 0 256, pR 277 56 316, nw 0 256, pR 277 55 315, nw 0 256, pR 277 54 314, nw 0 10, pR 277 53 313, nw 1 1850, pR 277 52 312, nw 0 5, pI 277 51 0, pI 277 50 0, pR 277 49 311, nw 0 500, pI 277 48 0, pI 277 47 0, pR 277 46 310, nw 0 20, pR 277 45 309, nw 0 20, pR 277 44 308, nw 2 20, pR 277 43 307, nw 0 20, pR 277 42 306, nw 0 20, pI 277 41 1, pI 277 40 0, pR 277 39 305, nw 0 3600, pR 277 38 304, nw 0 3600, pR 277 37 303, nw 0 2, pR 277 36 302, nw 0 80, pR 277 35 301, nw 0 80, pR 277 34 300, nw 0 80, pR 277 33 299, nw 0 2, pR 277 32 298, nw 0 24, pR 277 31 297, nw 0 24, pR 277 30 296, nw 0 24, pR 277 29 295, nw 0 24, pR 277 28 294, nw 0 2, pR 277 27 293, nw 2 768, pR 277 26 292, nw 0 768, pR 277 25 291, nw 0 2, pR 277 24 290, nw 0 16, pR 277 23 289, nw 0 16, pR 277 22 288, nw 0 16, pR 277 21 287, nw 0 16, pR 277 20 286, nw 1 16, pR 277 19 285, nw 0 2, pR 277 18 284, nw 0 60, pR 277 17 283, nw 0 60, pR 277 16 282, nw 0 60, pR 277 15 281, nw 0 6, pR 277 14 280, nw 0 2, pR 277 13 279, nw 0 2, pI 277 12 0, pI 277 11 (-1), pI 277 10 0, pI 277 9 (-1), pI 277 8 0, pI 277 6 0, pI 277 5 0, pI 277 4 0, pI 277 3 0, pI 277 2 0, pI 277 1 0, pR 277 0 278, nw 0 1800]
theorem evC_md1 : evC md1 = 58 := rfl
def y0 : List Ev := nw 21 83 :: x10
def y1 : List Ev := md1 ++ y0
def y2 : List Ev := pI 303 0 10 :: y1
def x11 : List Ev := rowE 292 (fun _ => -1) 384 ++ y2
theorem evC_x10 : evC x10 = 277 := by unfold x10; rw [evC_app, evC_trs, evC_x4]
theorem evC_y0 : evC y0 = 278 := by unfold y0; rw [evC_cn, evC_x10]
theorem evC_y1 : evC y1 = 336 := by unfold y1; rw [evC_app, evC_md1, evC_y0]
theorem y_kd : kdE y0 277 = (21, 83) ∧ kdE y1 277 = (21, 83) ∧ kdE y1 303 = (0, 2) ∧ kdE y1 292 = (0, 768) := by decide +kernel
theorem y_rf : rvR 277 37 0 none y1 = some 303 ∧ rvR 277 26 0 none y2 = some 292 := by decide +kernel
theorem uL_z {M : am_M} {a j : Nat} (h : mL M a j = 0) : uL M a j 0 = M := by
  refine am_ext (fun _ _ => rfl) (fun b k => ?_) (fun _ _ => rfl) rfl
  show (if b = a ∧ k = j then (0 : Int64) else mL M b k) = mL M b k
  by_cases c : b = a ∧ k = j
  · rw [if_pos c, c.1, c.2, h]
  · rw [if_neg c]
theorem l_x11 (d : Nat) (M0 : am_M) (Q : Option Value → am_M → Prop) (hk : mK M0 277 = 21) (hr : mR M0 277 26 = some 292) (hK : mK M0 292 = 0) (hN : mN M0 292 = 768) (hQ : Q none (pa (rowE 292 (fun _ => -1) 384) M0)) : ∀ (m i : Nat), i + m = 384 → ∀ (M : am_M), M = pa (rowE 292 (fun _ => -1) i) M0 → am_P am_P0 d (am_look tX11_init) 611 [.ref 277, .int (nI i)] [] M Q := by
  intro m
  induction m with
  | zero =>
    intro i hi M hM
    have e : i = 384 := by omega
    subst e
    have hle : (384 : Int32) ≤ nI 384 := by decide
    rw [← hM] at hQ
    rw [hX11_init_611]
    simp +decide (disch := omega) only [qX11_init_0, qX11_init_1, qX11_init_2, qX11_init_3, qX11_init_4, qX11_init_5, qX11_init_6, qX11_init_7, qX11_init_8, am_w1_i, am_w1_r, am_w1_x, am_w1_l, am_w1_w, va_rf_s, am_push_n, am_push_s, am_cs_0, am_cs_i, am_cs_l, am_cs_r, m_uI_K, m_uI_N, m_uI_R, m_uI_L, m_uI_I, m_uL_K, m_uL_N, m_uL_R, m_uL_I, m_uL_L, m_uR_K, m_uR_N, m_uR_I, m_uR_L, m_uR_R, true_and, and_true, true_implies, false_implies, not_true_eq_false, not_false_eq_true, if_true, if_false, false_and, and_false]
    first | exact hQ | (rw [br_p hle]; exact hQ)
  | succ m ih =>
    intro i hi M hM
    obtain ⟨-, -, r3, r4⟩ := pa_row 292 (fun _ => -1) M0 i
    rw [← hM] at r3 r4
    have kk : mK M 277 = 21 ∧ mK M 292 = 0 ∧ mN M 292 = 768 := by
      unfold mK mN at *
      rw [r4]
      exact ⟨hk, hK, hN⟩
    have rr : mR M 277 26 = some 292 := by rw [r3]; exact hr
    have hlt : ¬ (384 : Int32) ≤ nI i := by rw [show (384 : Int32) = nI 384 from rfl, ni_le (by omega) (by omega)]; omega
    have h0 := ih (i + 1) (by omega) (uI M 292 i (-1)) (by rw [hM]; rfl)
    rw [hX11_init_611]
    simp +decide (disch := omega) only [qX11_init_0, qX11_init_1, qX11_init_2, qX11_init_3, qX11_init_4, qX11_init_5, qX11_init_6, qX11_init_7, qX11_init_8, kk, rr, hlt, ni_in_t, ni_tn, ni_add1, am_w1_i, am_w1_r, am_w1_x, am_w1_l, am_w1_w, va_rf_s, am_push_n, am_push_s, am_cs_0, am_cs_i, am_cs_l, am_cs_r, m_uI_K, m_uI_N, m_uI_R, m_uI_L, m_uI_I, m_uL_K, m_uL_N, m_uL_R, m_uL_I, m_uL_L, m_uR_K, m_uR_N, m_uR_I, m_uR_L, m_uR_R, true_and, and_true, true_implies, false_implies, not_true_eq_false, not_false_eq_true, if_true, if_false, false_and, and_false]
    exact h0
set_option maxRecDepth 100000 in
theorem c_x11 (d : Nat) (Q : Option Value → am_M → Prop) (hQ : Q none (pa x11 am_M0)) : am_E am_P0 d 166 [.ref 277] (pa y0 am_M0) Q := by
  obtain ⟨k0, k1, k2, k3⟩ := y_kd
  obtain ⟨f1, f2⟩ := y_rf
  obtain ⟨M, hM⟩ : ∃ M, M = pa y0 am_M0 := ⟨_, rfl⟩
  have cM : mC M = 278 := by rw [hM, pz_C, evC_y0]
  have kM : mK M 277 = 21 := by rw [hM, (pz_K _ 277 (by rw [evC_y0]; omega)).1, k0]
  have K0 : ∀ E, mK (pa E M) 277 = 21 := fun E => (pa_K E M 277 (by omega)).1.trans kM
  have N0 : ∀ sh, uN M sh = pa [.inl sh] M := fun _ => rfl
  have mL0 : ∀ a j, mL M a j = 0 := fun a j => by rw [hM]; exact pa_L a j y0 am_M0 rfl
  have L0 : ∀ E, uL (pa E M) 277 7 0 = pa E M := fun E => uL_z (pa_L 277 7 E M (mL0 _ _))
  obtain ⟨B, hB⟩ : ∃ B, B = pa y1 am_M0 := ⟨_, rfl⟩
  have eB : pa md1 M = B := by rw [hB, hM]; exact (pa_app _ _ _).symm
  have kB : mK B 277 = 21 ∧ mK B 303 = 0 ∧ mN B 303 = 2 := by
    rw [hB]
    exact ⟨by rw [(pz_K y1 277 (by rw [evC_y1]; omega)).1, k1], by rw [(pz_K y1 303 (by rw [evC_y1]; omega)).1, k2], by rw [(pz_K y1 303 (by rw [evC_y1]; omega)).2, k2]⟩
  have rB : mR B 277 37 = some 303 := by rw [hB, pz_R]; exact f1
  obtain ⟨C, hC⟩ : ∃ C, C = pa y2 am_M0 := ⟨_, rfl⟩
  have eC : uI B 303 0 10 = C := by rw [hB, hC]; rfl
  have kC : mK C 277 = 21 ∧ mK C 292 = 0 ∧ mN C 292 = 768 := by
    rw [hC]
    have e : evC y2 = 336 := evC_y1
    exact ⟨by rw [(pz_K y2 277 (by rw [e]; omega)).1]; exact congrArg Prod.fst k1, by rw [(pz_K y2 292 (by rw [e]; omega)).1]; exact congrArg Prod.fst k3, by rw [(pz_K y2 292 (by rw [e]; omega)).2]; exact congrArg Prod.snd k3⟩
  have rC : mR C 277 26 = some 292 := by rw [hC, pz_R]; exact f2
  have h0 := l_x11 d C Q kC.1 rC kC.2.1 kC.2.2 (by rw [hC, ← pa_app]; exact hQ) 384 0 (by omega) C rfl
  have hin : (0 : Int32).toInt.toNat = 0 := rfl
  rw [← hM, eX11_init]
  simp +decide (disch := omega) only [qX11_init_0, qX11_init_1, qX11_init_2, qX11_init_3, qX11_init_4, qX11_init_5, qX11_init_6, qX11_init_7, qX11_init_8, kM, K0, N0, L0, cM, pa_uN, pa_uR, pa_uI, pa_C, evC_cn, evC_cr, evC_0, Nat.reduceAdd, am_w1_i, am_w1_r, am_w1_x, am_w1_l, am_w1_w, va_rf_s, am_push_n, am_push_s, am_cs_0, am_cs_i, am_cs_l, am_cs_r, m_uI_K, m_uI_N, m_uI_R, m_uI_L, m_uI_I, m_uL_K, m_uL_N, m_uL_R, m_uL_I, m_uL_L, m_uR_K, m_uR_N, m_uR_I, m_uR_L, m_uR_R, true_and, and_true, true_implies, false_implies, not_true_eq_false, not_false_eq_true, if_true, if_false, false_and, and_false]
  change am_P am_P0 d (am_look tX11_init) 608 [.ref 277, am_x] [.int 10, .int 0, va_rf (mR (pa md1 M) 277 37)] (pa md1 M) Q
  rw [eB, rB]
  simp +decide (disch := omega) only [qX11_init_0, qX11_init_1, qX11_init_2, qX11_init_3, qX11_init_4, qX11_init_5, qX11_init_6, qX11_init_7, qX11_init_8, kB, hin, eC, am_w1_i, am_w1_r, am_w1_x, am_w1_l, am_w1_w, va_rf_s, am_push_n, am_push_s, am_cs_0, am_cs_i, am_cs_l, am_cs_r, m_uI_K, m_uI_N, m_uI_R, m_uI_L, m_uI_I, m_uL_K, m_uL_N, m_uL_R, m_uL_I, m_uL_L, m_uR_K, m_uR_N, m_uR_I, m_uR_L, m_uR_R, true_and, and_true, true_implies, false_implies, not_true_eq_false, not_false_eq_true, if_true, if_false, false_and, and_false]
  exact h0
end
section
/-! what is made holds what holds between calls -/
def fR (a j : Nat) : List Ev → Nat → Option Nat
  | [], _ => none
  | .inl _ :: r, n => if a = n - 1 then none else fR a j r (n - 1)
  | .inr (.inl q) :: r, n => if a = q.1 ∧ j = q.2.1 then some q.2.2 else fR a j r n
  | .inr (.inr _) :: r, n => fR a j r n
theorem fR_eq (a j : Nat) : ∀ (E : List Ev), rvR a j 0 none E = fR a j E (evC E) := by
  intro E
  induction E with
  | nil => rfl
  | cons e r ih =>
    match e with
    | .inl s =>
      show (if a = 0 + evC r then none else rvR a j 0 none r) = (if a = evC r + 1 - 1 then none else fR a j r (evC r + 1 - 1))
      rw [Nat.add_sub_cancel, Nat.zero_add, ih]
    | .inr (.inl q) =>
      show (if a = q.1 ∧ j = q.2.1 then some q.2.2 else rvR a j 0 none r) = (if a = q.1 ∧ j = q.2.1 then some q.2.2 else fR a j r (evC r))
      rw [ih]
    | .inr (.inr q) => exact ih
def fI (a j : Nat) : List Ev → Nat → Int32
  | [], _ => 0
  | .inl _ :: r, n => if a = n - 1 then 0 else fI a j r (n - 1)
  | .inr (.inl _) :: r, n => fI a j r n
  | .inr (.inr q) :: r, n => if a = q.1 ∧ j = q.2.1 then q.2.2 else fI a j r n
theorem fI_eq (a j : Nat) : ∀ (E : List Ev), rvI a j 0 0 E = fI a j E (evC E) := by
  intro E
  induction E with
  | nil => rfl
  | cons e r ih =>
    match e with
    | .inl s =>
      show (if a = 0 + evC r then 0 else rvI a j 0 0 r) = (if a = evC r + 1 - 1 then 0 else fI a j r (evC r + 1 - 1))
      rw [Nat.add_sub_cancel, Nat.zero_add, ih]
    | .inr (.inr q) =>
      show (if a = q.1 ∧ j = q.2.1 then q.2.2 else rvI a j 0 0 r) = (if a = q.1 ∧ j = q.2.1 then q.2.2 else fI a j r (evC r))
      rw [ih]
    | .inr (.inl q) => exact ih
theorem evC_y2 : evC y2 = 336 := evC_y1
theorem in_S : (evS y2).reverse = ly_S := by decide +kernel
theorem in_F : ∀ q ∈ ly_F, fR q.1 q.2.1 y2 336 = some q.2.2 := by decide +kernel
theorem in_2 : fR 0 2 y2 336 = some 2 ∧ fR 0 3 y2 336 = some 83 := by decide +kernel
theorem in_M : ∀ s, s < 8 → evM (176 + 13 * s) y2 = true := by decide +kernel
theorem in_N : ∀ a ∈ [1, 4, 11, 15, 19, 23, 24, 169, 278, 279, 280, 281, 285, 291, 294, 299, 312], evN a y2 = true := by decide +kernel
theorem in_O : ∀ k, k < 27 → fI 166 k y2 336 = owF k := by decide +kernel
theorem in_I : fI 0 1 y2 336 = 0 ∧ fI 0 5 y2 336 = 0 ∧ fI 0 6 y2 336 = -1 ∧ fI 0 10 y2 336 = 0 ∧ fI 0 13 y2 336 = 0 ∧ fI 2 0 y2 336 = 0 ∧ fI 2 1 y2 336 = 0 ∧ fI 2 2 y2 336 = 10 ∧ fI 2 3 y2 336 = 0 ∧ fI 8 1 y2 336 = 0 ∧ fI 277 1 y2 336 = 0 ∧ fI 277 10 y2 336 = 0 ∧ fI 277 11 y2 336 = -1 ∧ fI 277 12 y2 336 = 0 ∧ fI 277 82 y2 336 = 0 ∧ fI 303 0 y2 336 = 10 := by decide +kernel
theorem dOK_0 : dOK dat0 := by
  refine ⟨⟨⟨by show 0 ≤ 16; omega, by show 0 ≤ 16; omega⟩, by show 10 ≤ 100; omega, ⟨by show 0 ≤ 8; omega, rfl, fun s hs => by cases hs⟩, fun s y hy => ?_, fun s => ?_, by show 0 ≤ 96; omega, ⟨⟨by show 0 ≤ 12; omega, fun k hk => by cases hk⟩, fun k hk => by cases hk⟩, ⟨by show 0 ≤ 40; omega, fun g hg => by cases hg⟩, ⟨by show 0 ≤ 12; omega, fun r hr => by cases hr⟩, ⟨by show 0 ≤ 12; omega, fun r hr => by cases hr⟩, ⟨by show 0 ≤ 6; omega, fun r hr => by cases hr⟩⟩, Or.inr ⟨rfl, rfl, rfl, rfl⟩⟩
  · have e : dY dat0 s = [] := by unfold dY; rfl
    rw [e] at hy
    cases hy
  · have e : dY dat0 s = [] := by unfold dY; rfl
    rw [e]
    exact List.Pairwise.nil
/-- and of the places of faults -/
theorem inv0F : mI (pa x11 am_M0) 0 6 = mI (pa x11 am_M0) 277 11 := by
  obtain ⟨C, hC⟩ : ∃ C, C = pa y2 am_M0 := ⟨_, rfl⟩
  obtain ⟨F, hF⟩ : ∃ F, F = pa x11 am_M0 := ⟨_, rfl⟩
  have eF : F = pa (rowE 292 (fun _ => -1) 384) C := by rw [hF, hC]; exact pa_app _ _ _
  obtain ⟨w1, w2, w3, w4⟩ := pa_row 292 (fun _ => -1) C 384
  rw [← eF] at w1
  have iC : ∀ a j, mI C a j = fI a j y2 336 := fun a j => by rw [hC, pz_I, fI_eq, evC_y2]
  have iF : ∀ a j, ¬ a = 292 → mI F a j = fI a j y2 336 := fun a j h => by rw [w1, if_neg (fun q => h q.1), iC]
  obtain ⟨i1, i2, i3, i4, i5, i6, i7, i8, i9, i10, i11, i12, i13, i14, i15, i16⟩ := in_I
  rw [← hF, iF _ _ (by omega), iF _ _ (by omega), i3, i13]
theorem inv0 : Inv (pa x11 am_M0) := by
  obtain ⟨C, hC⟩ : ∃ C, C = pa y2 am_M0 := ⟨_, rfl⟩
  obtain ⟨F, hF⟩ : ∃ F, F = pa x11 am_M0 := ⟨_, rfl⟩
  have eF : F = pa (rowE 292 (fun _ => -1) 384) C := by rw [hF, hC]; exact pa_app _ _ _
  obtain ⟨w1, w2, w3, w4⟩ := pa_row 292 (fun _ => -1) C 384
  rw [← eF] at w1 w2 w3 w4
  have iC : ∀ a j, mI C a j = fI a j y2 336 := fun a j => by rw [hC, pz_I, fI_eq, evC_y2]
  have iF : ∀ a j, ¬ a = 292 → mI F a j = fI a j y2 336 := fun a j h => by rw [w1, if_neg (fun q => h q.1), iC]
  have rF : ∀ a j, mR F a j = fR a j y2 336 := fun a j => by rw [w3, hC, pz_R, fR_eq, evC_y2]
  have lF : ∀ a j, mL F a j = 0 := fun a j => by rw [w2, hC]; exact pa_L a j y2 am_M0 rfl
  have zF : ∀ a j, a ∈ [1, 4, 11, 15, 19, 23, 24, 169, 278, 279, 280, 281, 285, 291, 294, 299, 312] → mI F a j = nI 0 := fun a j h => by
    have hn : ¬ a = 292 := fun q => by rw [q] at h; revert h; decide
    rw [iF a j hn, ← evC_y2, ← fI_eq]
    exact rvI_0 a j 0 y2 (in_N a h)
  have sF : mS F = ly_S := by
    rw [w4, hC, pa_S, in_S]
    rfl
  have hL : Lay F := ⟨⟨0, by omega, by rw [sF]; show ly_S = ly_S ++ []; rw [List.append_nil]⟩, fun q hq => by rw [rF]; exact in_F q hq⟩
  have rg : ∀ s p, s < 8 → mR F (176 + 13 * s) p = none := fun s p hs => by
    rw [rF, ← evC_y2, ← fR_eq]
    exact rvR_0 _ _ _ _ (in_M s hs)
  have hI : RInv F := by
    refine ⟨fun s p r hs hp q => (by rw [rg s p hs] at q; cases q), fun s p s' p' r hs hp hs' hp' q => (by rw [rg s p hs] at q; cases q), ?_⟩
    have e : cnt (rgC F) 2048 = 0 := cnt_0 (fun t q => by
      unfold rgC at q
      rw [Bool.and_eq_true] at q
      have ht := of_decide_eq_true q.1
      rw [rg _ _ (by omega)] at q
      exact absurd q.2 (by decide)) 2048
    rw [e]
    unfold mC
    rw [sF]
    exact ly_len
  obtain ⟨i1, i2, i3, i4, i5, i6, i7, i8, i9, i10, i11, i12, i13, i14, i15, i16⟩ := in_I
  have v0 : ∀ p, dDp dat0 p = 0 := fun p => dDp_v (fun q => absurd q.1 (Nat.not_lt_zero _))
  have c0 : ∀ p, dCs dat0 p = 0 := fun p => rfl
  have hX : XR F 2 dat0 := by
    refine ⟨⟨hL, hI, Or.inl rfl, by rw [rF]; exact in_2.1, by rw [rF]; exact in_2.2, fun k hk => by rw [iF _ _ (by omega)]; exact in_O k hk⟩, ⟨0, ⟨⟨by rw [iF _ _ (by omega)]; exact i6, by rw [iF _ _ (by omega)]; exact i7, by rw [iF _ _ (by omega)]; exact i8, by rw [iF _ _ (by omega)]; exact i9⟩, fun s sp hs => (by cases hs), ⟨zF 4 0 (by decide), fun i g hi => by cases hi⟩, ⟨⟨zF 11 0 (by decide), fun k r hr => by cases hr⟩, ⟨zF 15 0 (by decide), fun k r hr => by cases hr⟩, ⟨zF 19 0 (by decide), fun k r hr => by cases hr⟩⟩, ⟨by rw [iF _ _ (by omega)]; exact i10, by omega⟩⟩⟩, ⟨⟨[], ⟨zF 15 0 (by decide), by show 0 ≤ 12; omega, fun k r hr => by cases hr⟩, fun p hp => rfl⟩, ⟨[], ⟨zF 19 0 (by decide), by show 0 ≤ 12; omega, fun k r hr => by cases hr⟩, by show 0 ≤ 6; omega, fun p h hp hh => Iff.rfl⟩, fun p hp => ⟨by rw [v0]; omega, by rw [v0]; exact zF 23 p (by decide)⟩, fun p hp => Or.inr (by rw [c0]; exact zF 24 p (by decide)), fun h p hh hp => ?_⟩, fun s hs => absurd hs (Nat.not_lt_zero _), Or.inl (by rw [iF _ _ (by omega)]; exact i5)⟩
    rw [lF, lF, sb_0]
    exact ⟨fun q => absurd q (by decide), fun q => absurd q (by decide)⟩
  have hM : MdM F 0 dat0 := by
    refine ⟨⟨by rw [iF _ _ (by omega)]; exact i14, by omega⟩, ⟨zF 279 0 (by decide), zF 280 0 (by decide)⟩, by rw [iF _ _ (by omega)]; exact i16, ⟨zF 285 0 (by decide), fun s sp hs => by cases hs⟩, ⟨zF 291 0 (by decide), fun s hs => ?_⟩, ⟨zF 294 0 (by decide), fun i k hi => by cases hi⟩, ⟨zF 299 0 (by decide), fun i g hi => by cases hi⟩, ⟨⟨⟨by show 0 ≤ 12; omega, by show 12 * 0 + 0 ≤ 30; omega⟩, zF 281 (3 * 0 + 0) (by decide), fun k r hr => by cases hr⟩, ⟨⟨by show 0 ≤ 12; omega, by show 12 * 1 + 0 ≤ 30; omega⟩, zF 281 (3 * 0 + 1) (by decide), fun k r hr => by cases hr⟩, ⟨⟨by show 0 ≤ 12; omega, by show 12 * 2 + 0 ≤ 30; omega⟩, zF 281 (3 * 0 + 2) (by decide), fun k r hr => by cases hr⟩⟩, fun p hp => absurd hp.1 (Nat.not_lt_zero _)⟩
    have e : dY dat0 s = [] := by unfold dY; rfl
    rw [e]
    exact ⟨List.Pairwise.nil, fun y hy => (by cases hy), fun t ht => Or.inr ⟨fun y hy => (by cases hy), by rw [w1, if_pos ⟨rfl, by omega⟩]⟩⟩
  rw [← hF]
  refine ⟨2, 0, dat0, dOK_0, hX, hM, ⟨fun _ => 0, 0, by omega, by rw [iF _ _ (by omega)]; exact i1, by rw [iF _ _ (by omega)]; exact i11, fun j hj => ⟨by show 0 < 256; omega, zF 1 j (by decide), zF 278 j (by decide)⟩⟩, fun j hj => by rw [zF 169 j (by decide), zF 312 j (by decide)], ⟨by rw [iF _ _ (by omega), iF _ _ (by omega), i2, i12], trivial⟩, ⟨0, by omega, by rw [iF _ _ (by omega)]; exact i4, by rw [iF _ _ (by omega)]; exact i15, fun j hj => by omega⟩⟩
end
