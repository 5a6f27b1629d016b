/-! on: the class takes an image -/
def sTi (z a j : Nat) : Prop := (z + 2 ≤ a ∧ a ≤ z + 5) ∨ ∃ s, s < 8 ∧ sIn (z + 25 + 7 * s) a j
theorem sTi_no {z a j : Nat} (h : sTi z a j) : z + 2 ≤ a ∧ a ≤ z + 80 ∧ ¬ (z + 6 ≤ a ∧ a ≤ z + 24) := by
  rcases h with q | ⟨s, hs, q⟩
  · omega
  · unfold sIn at q; omega
theorem gF_in {z s : Nat} {M M' : am_M} (hs : s < 8) (g : gF (sIn (z + 25 + 7 * s)) nT M M') : gF (sTi z) nT M M' := gF_up g (fun a j q => Or.inr ⟨s, hs, q⟩) (fun _ _ q => q)
theorem gF_sg {z : Nat} {M M' : am_M} (g : gF (fun a j => z + 2 ≤ a ∧ a ≤ z + 5) nT M M') : gF (sTi z) nT M M' := gF_up g (fun a j q => Or.inl q) (fun _ _ q => q)
/-- what is read while an image is taken -/
def TiR (M : am_M) (z : Nat) (D : Dat) (T : Nat → Nat) : Prop := Lay M ∧ mR M 0 2 = some z ∧ mI M z 0 = nI (dC D) ∧ mI M z 1 = nI (dR D) ∧ mI M z 3 = nI (dN D) ∧ TpT T M
theorem TiR_g {M M' : am_M} {z : Nat} {D : Dat} {T : Nat → Nat} (hz : z = 2 ∨ z = 83) (h : TiR M z D T) (g : gF (sTi z) nT M M') : TiR M' z D T := by
  obtain ⟨h1, h2, h3, h4, h5, h6⟩ := h
  have k : ∀ a j, ¬ (z + 2 ≤ a ∧ a ≤ z + 80) → mI M' a j = mI M a j := fun a j q => g.1 a j (fun w => by have := sTi_no w; omega)
  exact ⟨gF_LayN g h1, by rw [g.2.2.1 _ _ (fun w => w)]; exact h2, by rw [k _ _ (by omega)]; exact h3, by rw [k _ _ (by omega)]; exact h4, by rw [k _ _ (by omega)]; exact h5, fun j hj => ⟨(h6 j hj).1, by rw [k _ _ (by omega)]; exact (h6 j hj).2⟩⟩
theorem l_x_ti2 (d z : Nat) (D : Dat) (T : Nat → Nat) (M0 : am_M) (Q : Option Value → am_M → Prop) (hD : dOK D) (hz : z = 2 ∨ z = 83) (hR0 : TiR M0 z D T) (h96 : T 0 ≤ 96)
    (hQ : ∀ M', gF (sTi z) nT M0 M' → (∀ t, t < dN D → mI M' (z + 25 + 7 * t) 5 = 0) → am_P am_P0 (d + 1) (am_look tX10_takeImage) 45 [.ref 0, .int (nI (1 + 4 * T 0)), .int (nI 1), am_x] [] M' Q) :
    ∀ (m s : Nat), s + m = dN D → ∀ (M : am_M), gF (sTi z) nT M0 M → (∀ t, t < s → mI M (z + 25 + 7 * t) 5 = 0) → am_P am_P0 (d + 1) (am_look tX10_takeImage) 2 [.ref 0, .int (nI s), am_x, am_x] [] M Q := by
  have n8 := dN_8 hD
  intro m
  induction m with
  | zero =>
    intro s hs M g h5
    obtain ⟨hL, r2, c0, c1, c3, hT⟩ := TiR_g hz hR0 g
    have e : s = dN D := by omega
    subst e
    have hle : nI (dN D) ≤ nI (dN D) := (ni_le (by omega) (by omega)).mpr (Nat.le_refl _)
    have h0 := hQ M g h5
    obtain ⟨u0, a0⟩ := hT 0 (by omega)
    have hin : (0 : Int32).toInt.toNat = 0 := rfl
    have ek : (1 : Int32) + 4 * nI (T 0) = nI (1 + 4 * T 0) := by rw [show (1 : Int32) = nI 1 from rfl, show (4 : Int32) = nI 4 from rfl, ni_mul, ni_add]
    rw [hX10_takeImage_2]
    simp +decide (disch := omega) only [qX10_takeImage_0, qX10_takeImage_1, qX10_takeImage_2, lx hL, lz hL hz, r2, c3, a0, ek, hin, ni_in_t, ni_tn, am_w1_i, am_w1_r, am_w1_x, am_w1_l, am_w1_w, va_rf_s, am_push_n, am_push_s, am_cs_0, am_cs_i, am_cs_l, am_cs_r, m_uI_K, m_uI_N, m_uI_R, m_uI_L, m_uI_I, m_uL_K, m_uL_N, m_uL_R, m_uL_I, m_uL_L, m_uR_K, m_uR_N, m_uR_I, m_uR_L, m_uR_R, true_and, and_true, true_implies, false_implies, not_true_eq_false, not_false_eq_true, if_true, if_false, false_and, and_false]
    rw [br_p hle]
    exact h0
  | succ m ih =>
    intro s hs M g h5
    obtain ⟨hL, r2, c0, c1, c3, hT⟩ := TiR_g hz hR0 g
    have hlt : ¬ nI (dN D) ≤ nI s := by rw [ni_le (by omega) (by omega)]; omega
    have hsh := lsh hL hz (s := s) (by omega)
    have hg := isSh_z (z := z) (s := s) hz (by omega)
    have h0 := ih (s + 1) (by omega) (uI M (z + 25 + 7 * s) 5 0) (gF_trans g (gF_in (s := s) (by omega) (gF_i _ (Or.inl ⟨rfl, rfl⟩)))) (fun t ht => by
      by_cases e : t = s
      · rw [e, m_uI_I, if_pos ⟨rfl, rfl⟩]
      · rw [m_uI_I, if_neg (by omega)]; exact h5 t (by omega))
    rw [hX10_takeImage_2]
    simp +decide (disch := omega) only [qX10_takeImage_0, qX10_takeImage_1, qX10_takeImage_2, lx hL, lz hL hz, lw_ hL hg, r2, c3, hsh, ni_in_t, ni_tn, ni_add1, am_w1_i, am_w1_r, am_w1_x, am_w1_l, am_w1_w, va_rf_s, am_push_n, am_push_s, am_cs_0, am_cs_i, am_cs_l, am_cs_r, m_uI_K, m_uI_N, m_uI_R, m_uI_L, m_uI_I, m_uL_K, m_uL_N, m_uL_R, m_uL_I, m_uL_L, m_uR_K, m_uR_N, m_uR_I, m_uR_L, m_uR_R, true_and, and_true, true_implies, false_implies, not_true_eq_false, not_false_eq_true, if_true, if_false, false_and, and_false]
    rw [br_n hlt]
    exact h0
theorem l_x_ti45 (d z : Nat) (D : Dat) (T : Nat → Nat) (M0 : am_M) (Q : Option Value → am_M → Prop) (hD : dOK D) (hz : z = 2 ∨ z = 83) (hR0 : TiR M0 z D T) (h96 : T 0 ≤ 96) (hrow : ∀ i, i < T 0 → rowOK (dN D) (dC D * dR D) T i) (h40 : T (1 + 4 * T 0) ≤ 40)
    (hQ : ∀ M', gF (sTi z) nT M0 M' → (∀ t, t < dN D → SyX M' (z + 25 + 7 * t) (onY (dC D) T (T 0) t)) → mI M' (z + 2) 0 = 0 → am_P am_P0 (d + 1) (am_look tX10_takeImage) 142 [.ref 0, .int (nI (1 + 4 * T 0)), .int (nI (1 + 4 * T 0 + 1 + 3 * T (1 + 4 * T 0))), .int (nI (1 + 4 * T 0 + 1))] [] M' Q) :
    ∀ (m i : Nat), i + m = T 0 → ∀ (M : am_M), gF (sTi z) nT M0 M → (∀ t, t < dN D → SyX M (z + 25 + 7 * t) (onY (dC D) T i t)) → am_P am_P0 (d + 1) (am_look tX10_takeImage) 45 [.ref 0, .int (nI (1 + 4 * T 0)), .int (nI (1 + 4 * i)), am_x] [] M Q := by
  have n8 := dN_8 hD
  intro m
  induction m with
  | zero =>
    intro i hi M g hY
    obtain ⟨hL, r2, c0, c1, c3, hT⟩ := TiR_g hz hR0 g
    have e : i = T 0 := by omega
    subst e
    obtain ⟨k, hk⟩ : ∃ k, k = 1 + 4 * T 0 := ⟨_, rfl⟩
    rw [← hk] at hQ h40 ⊢
    obtain ⟨uk, ak⟩ := hT k (by omega)
    have hle : nI k ≤ nI k := (ni_le (by omega) (by omega)).mpr (Nat.le_refl _)
    have g2 : gF (fun a j => z + 2 ≤ a ∧ a ≤ z + 5) nT M (uI M (z + 2) 0 0) := gF_i _ (by omega)
    have h0 := hQ (uI M (z + 2) 0 0) (gF_trans g (gF_sg g2)) (fun t ht => SyX_gF (hY t ht) g2 (fun a j q1 q2 q3 => by omega)) (by rw [m_uI_I, if_pos ⟨rfl, rfl⟩])
    have e3 : nI (k + 1) + 3 * nI (T k) = nI (k + 1 + 3 * T k) := by rw [show (3 : Int32) = nI 3 from rfl, ni_mul, ni_add]
    have n1 : ¬ (1 = z + 2) := by omega
    rw [hX10_takeImage_45]
    simp +decide (disch := omega) only [qX10_takeImage_0, qX10_takeImage_1, qX10_takeImage_2, lx hL, lz hL hz, r2, ak, e3, n1, false_and, if_false, ni_in_t, ni_tn, ni_add1, am_w1_i, am_w1_r, am_w1_x, am_w1_l, am_w1_w, va_rf_s, am_push_n, am_push_s, am_cs_0, am_cs_i, am_cs_l, am_cs_r, m_uI_K, m_uI_N, m_uI_R, m_uI_L, m_uI_I, m_uL_K, m_uL_N, m_uL_R, m_uL_I, m_uL_L, m_uR_K, m_uR_N, m_uR_I, m_uR_L, m_uR_R, true_and, and_true, true_implies, false_implies, not_true_eq_false, not_false_eq_true, if_true, if_false, false_and, and_false]
    rw [br_p hle]
    exact h0
  | succ m ih =>
    intro i hi M g hY
    obtain ⟨hL, r2, c0, c1, c3, hT⟩ := TiR_g hz hR0 g
    have hlt : ¬ nI (1 + 4 * T 0) ≤ nI (1 + 4 * i) := by rw [ni_le (by omega) (by omega)]; omega
    obtain ⟨q1, q2, q3, q4, q5⟩ := hrow i (by omega)
    have hno := onY_no (C := dC D) hrow (i := i) (by omega)
    have hsr := onY_srt (C := dC D) hrow (T (1 + 4 * i)) i (by omega)
    have hok := onY_ok hD hrow (i := i) (s := T (1 + 4 * i)) (by omega)
    have hall' : ∀ u, u ∈ inY (onY (dC D) T i (T (1 + 4 * i))) (onR (dC D) T i) → u.1 < 48 := fun u hu => by
      rcases inY_mem.mp hu with rfl | w
      · exact q2
      · exact (hok u w).1
    have hl48 := len_48 (inY_srt hsr hno) hall'
    rw [inY_len] at hl48
    have hpl := pl_n1 hD q3
    have key := fun (M1 : am_M) (g1 : gF (sIn (z + 25 + 7 * T (1 + 4 * i))) nT M M1) (y1 : SyX M1 (z + 25 + 7 * T (1 + 4 * i)) (inY (onY (dC D) T i (T (1 + 4 * i))) (onR (dC D) T i))) => ih (i + 1) (by omega) M1 (gF_trans g (gF_in (s := T (1 + 4 * i)) (by omega) g1)) (fun t ht => by
      by_cases e : T (1 + 4 * i) = t
      · rw [onY_t e, ← e]; exact y1
      · rw [onY_f e]
        exact SyX_gF (hY t ht) g1 (fun a j w1 w2 w3 => by unfold sIn at w3; omega))
    obtain ⟨p, hp⟩ : ∃ p, p = 1 + 4 * i := ⟨_, rfl⟩
    have eR : onR (dC D) T i = (T (p + 1), plc (dC D) (T (p + 2)), T (p + 3) == 1) := by unfold onR; rw [hp]
    rw [← hp] at q1 q2 q3 q4 hlt hsr hno hl48 key hpl ⊢
    rw [eR] at key hno
    rw [show 1 + 4 * (i + 1) = p + 4 by omega] at key
    obtain ⟨s, es⟩ : ∃ s, s = T p := ⟨_, rfl⟩
    obtain ⟨u0, a0⟩ := hT p (by omega)
    obtain ⟨u1, a1⟩ := hT (p + 1) (by omega)
    obtain ⟨u2, a2⟩ := hT (p + 2) (by omega)
    obtain ⟨u3, a3⟩ := hT (p + 3) (by omega)
    rw [← es] at key hsr hno hl48 q1 a0
    have hS := hY s q1
    have hsh := lsh hL hz (s := s) (by omega)
    have hg := isSh_z (z := z) (s := s) hz (by omega)
    have eP := fun Q => c_x_placeOf d (T (p + 2)) z (dC D) (dR D) M Q hL hz c0 c1 hD.1.1.1 hD.1.1.2 u2
    rw [if_pos q3] at eP
    have fin : ∀ (w : Int32), w = b01 (T (p + 3) == 1) → am_E am_P0 d 66 [.ref (z + 25 + 7 * s), .int (nI (T (p + 1))), .int (nI (plc (dC D) (T (p + 2)))), .int w] M (fun r M1 => am_P am_P0 (d + 1) (am_look tX10_takeImage) 107 [.ref 0, .int (nI (1 + 4 * T 0)), .int (nI p), am_x] (am_push r []) M1 Q) := fun w hw => by
      rw [hw]
      refine c_x_insert d (z + 25 + 7 * s) (onY (dC D) T i s) (T (p + 1), plc (dC D) (T (p + 2)), T (p + 3) == 1) M _ hL hg hS (by omega) q2 hpl.2.2.2.1 hsr hno (fun M1 g1 y1 => ?_)
      have h0 := key M1 g1 y1
      simp +decide (disch := omega) only [qX10_takeImage_0, qX10_takeImage_1, qX10_takeImage_2, ni_a4, am_w1_i, am_w1_r, am_w1_x, am_w1_l, am_w1_w, va_rf_s, am_push_n, am_push_s, am_cs_0, am_cs_i, am_cs_l, am_cs_r, m_uI_K, m_uI_N, m_uI_R, m_uI_L, m_uI_I, m_uL_K, m_uL_N, m_uL_R, m_uL_I, m_uL_L, m_uR_K, m_uR_N, m_uR_I, m_uR_L, m_uR_R, true_and, and_true, true_implies, false_implies, not_true_eq_false, not_false_eq_true, if_true, if_false, false_and, and_false]
      exact h0
    rw [hX10_takeImage_45]
    by_cases cl : T (p + 3) = 1
    · have h0 := fin 1 (by rw [cl]; rfl)
      have a3' : mI M 1 (p + 3) = 1 := by rw [a3, cl]; rfl
      simp +decide (disch := omega) only [qX10_takeImage_0, qX10_takeImage_1, qX10_takeImage_2, lx hL, lz hL hz, lw_ hL hg, r2, a0, a1, a2, a3', hsh, eP, ni_in_t, ni_tn, ni_add1, ni_a2, ni_a3, ni_a4, am_w1_i, am_w1_r, am_w1_x, am_w1_l, am_w1_w, va_rf_s, am_push_n, am_push_s, am_cs_0, am_cs_i, am_cs_l, am_cs_r, m_uI_K, m_uI_N, m_uI_R, m_uI_L, m_uI_I, m_uL_K, m_uL_N, m_uL_R, m_uL_I, m_uL_L, m_uR_K, m_uR_N, m_uR_I, m_uR_L, m_uR_R, true_and, and_true, true_implies, false_implies, not_true_eq_false, not_false_eq_true, if_true, if_false, false_and, and_false] at h0 ⊢
      rw [br_n hlt]
      exact h0
    · have h0 := fin 0 (by rw [show (T (p + 3) == 1) = false from beq_false_of_ne cl]; rfl)
      have a3' : mI M 1 (p + 3) = 0 := by rw [a3, show T (p + 3) = 0 by omega]; rfl
      simp +decide (disch := omega) only [qX10_takeImage_0, qX10_takeImage_1, qX10_takeImage_2, lx hL, lz hL hz, lw_ hL hg, r2, a0, a1, a2, a3', hsh, eP, ni_in_t, ni_tn, ni_add1, ni_a2, ni_a3, ni_a4, am_w1_i, am_w1_r, am_w1_x, am_w1_l, am_w1_w, va_rf_s, am_push_n, am_push_s, am_cs_0, am_cs_i, am_cs_l, am_cs_r, m_uI_K, m_uI_N, m_uI_R, m_uI_L, m_uI_I, m_uL_K, m_uL_N, m_uL_R, m_uL_I, m_uL_L, m_uR_K, m_uR_N, m_uR_I, m_uR_L, m_uR_R, true_and, and_true, true_implies, false_implies, not_true_eq_false, not_false_eq_true, if_true, if_false, false_and, and_false] at h0 ⊢
      rw [br_n hlt]
      exact h0
theorem l_x_ti142 (d z k : Nat) (D : Dat) (T : Nat → Nat) (M0 : am_M) (Q : Option Value → am_M → Prop) (hD : dOK D) (hz : z = 2 ∨ z = 83) (hR0 : TiR M0 z D T) (hk : k ≤ 385) (h40 : T k ≤ 40) (hsg : ∀ j, j < T k → sgrOK (dC D * dR D) T k j)
    (hQ : ∀ M', gF (fun a j => z + 2 ≤ a ∧ a ≤ z + 5) nT M0 M' → SgX M' z (onG (dC D) T k (T k)) → Q none M') :
    ∀ (m j : Nat), j + m = T k → ∀ (M : am_M), gF (fun a j => z + 2 ≤ a ∧ a ≤ z + 5) nT M0 M → SgX M z (onG (dC D) T k j) → am_P am_P0 (d + 1) (am_look tX10_takeImage) 142 [.ref 0, .int (nI k), .int (nI (k + 1 + 3 * T k)), .int (nI (k + 1 + 3 * j))] [] M Q := by
  intro m
  induction m with
  | zero =>
    intro j hj M g hS
    have e : j = T k := by omega
    subst e
    have hle : nI (k + 1 + 3 * T k) ≤ nI (k + 1 + 3 * T k) := (ni_le (by omega) (by omega)).mpr (Nat.le_refl _)
    have h0 := hQ M g hS
    rw [hX10_takeImage_142]
    simp +decide (disch := omega) only [qX10_takeImage_0, qX10_takeImage_1, qX10_takeImage_2, am_w1_i, am_w1_r, am_w1_x, am_w1_l, am_w1_w, va_rf_s, am_push_n, am_push_s, am_cs_0, am_cs_i, am_cs_l, am_cs_r, m_uI_K, m_uI_N, m_uI_R, m_uI_L, m_uI_I, m_uL_K, m_uL_N, m_uL_R, m_uL_I, m_uL_L, m_uR_K, m_uR_N, m_uR_I, m_uR_L, m_uR_R, true_and, and_true, true_implies, false_implies, not_true_eq_false, not_false_eq_true, if_true, if_false, false_and, and_false]
    rw [br_p hle]
    exact h0
  | succ m ih =>
    intro j hj M g hS
    obtain ⟨hL, r2, c0, c1, c3, hT⟩ := TiR_g hz hR0 (gF_sg g)
    have hlt : ¬ nI (k + 1 + 3 * T k) ≤ nI (k + 1 + 3 * j) := by rw [ni_le (by omega) (by omega)]; omega
    obtain ⟨q1, q2, q3⟩ := hsg j (by omega)
    have hln := onG_len (dC D) T k j
    have hS1 := SgX_app (a := T (k + 1 + 3 * j)) (p := plc (dC D) (T (k + 1 + 3 * j + 1))) (t := T (k + 1 + 3 * j + 2)) hS
    have hn := hS.1
    rw [hln] at hS1 hn
    have g2 : gF (fun a j => z + 2 ≤ a ∧ a ≤ z + 5) nT M (spX M z j (nI (T (k + 1 + 3 * j))) (nI (plc (dC D) (T (k + 1 + 3 * j + 1)))) (nI (T (k + 1 + 3 * j + 2)))) := gF_trans (gF_trans (gF_trans (gF_i _ (by omega)) (gF_i _ (by omega))) (gF_i _ (by omega))) (gF_i _ (by omega))
    have h0 := ih (j + 1) (by omega) _ (gF_trans g g2) hS1
    obtain ⟨p, hp⟩ : ∃ p, p = k + 1 + 3 * j := ⟨_, rfl⟩
    rw [show k + 1 + 3 * (j + 1) = p + 3 by omega, ← hp] at h0
    rw [← hp] at hlt q1 q2 q3 ⊢
    obtain ⟨u0, a0⟩ := hT p (by omega)
    obtain ⟨u1, a1⟩ := hT (p + 1) (by omega)
    obtain ⟨u2, a2⟩ := hT (p + 2) (by omega)
    have eP := fun Q => c_x_placeOf d (T (p + 1)) z (dC D) (dR D) M Q hL hz c0 c1 hD.1.1.1 hD.1.1.2 u1
    rw [if_pos q2] at eP
    have eA := fun Q => c_x_append d (nI (T p)) (nI (plc (dC D) (T (p + 1)))) (nI (T (p + 2))) M Q hL z j hz hn (by omega)
    rw [hX10_takeImage_142]
    simp +decide (disch := omega) only [qX10_takeImage_0, qX10_takeImage_1, qX10_takeImage_2, lx hL, lz hL hz, r2, a0, a1, a2, eP, eA, ni_in_t, ni_tn, ni_add1, ni_a2, ni_a3, am_w1_i, am_w1_r, am_w1_x, am_w1_l, am_w1_w, va_rf_s, am_push_n, am_push_s, am_cs_0, am_cs_i, am_cs_l, am_cs_r, m_uI_K, m_uI_N, m_uI_R, m_uI_L, m_uI_I, m_uL_K, m_uL_N, m_uL_R, m_uL_I, m_uL_L, m_uR_K, m_uR_N, m_uR_I, m_uR_L, m_uR_R, true_and, and_true, true_implies, false_implies, not_true_eq_false, not_false_eq_true, if_true, if_false, false_and, and_false]
    rw [br_n hlt]
    exact h0
theorem c_x_takeImage (d z n : Nat) (D : Dat) (T : Nat → Nat) (M : am_M) (Q : Option Value → am_M → Prop) (hD : dOK D) (hz : z = 2 ∨ z = 83) (hR0 : TiR M z D T) (h : imOK (dN D) (dC D * dR D) T n)
    (hQ : ∀ M', gF (sTi z) nT M M' → (∀ t, t < dN D → SyX M' (z + 25 + 7 * t) (onY (dC D) T (T 0) t)) → SgX M' z (onG (dC D) T (1 + 4 * T 0) (T (1 + 4 * T 0))) → Q none M') : am_E am_P0 (d + 1) 165 [.ref 0] M Q := by
  obtain ⟨⟨h1, h2⟩, ⟨h3, h4, h5⟩, h6, h7, h8⟩ := h
  rw [eX10_takeImage]
  simp +decide (disch := omega) only [qX10_takeImage_0, qX10_takeImage_1, qX10_takeImage_2, am_w1_i, am_w1_r, am_w1_x, am_w1_l, am_w1_w, va_rf_s, am_push_n, am_push_s, am_cs_0, am_cs_i, am_cs_l, am_cs_r, m_uI_K, m_uI_N, m_uI_R, m_uI_L, m_uI_I, m_uL_K, m_uL_N, m_uL_R, m_uL_I, m_uL_L, m_uR_K, m_uR_N, m_uR_I, m_uR_L, m_uR_R, true_and, and_true, true_implies, false_implies, not_true_eq_false, not_false_eq_true, if_true, if_false, false_and, and_false]
  refine l_x_ti2 d z D T M Q hD hz hR0 h2 (fun M1 g1 k1 => ?_) (dN D) 0 (by omega) M (gF_refl _ _ _) (fun t ht => by omega)
  refine l_x_ti45 d z D T M Q hD hz hR0 h2 h7 h4 (fun M2 g2 k2 k2' => ?_) (T 0) 0 (by omega) M1 g1 (fun t ht => ⟨k1 t ht, by show 0 ≤ 48; omega, fun i y hy => by simp [onY] at hy⟩)
  exact l_x_ti142 d z (1 + 4 * T 0) D T M2 Q hD hz (TiR_g hz hR0 g2) (by omega) h4 h8 (fun M3 g3 k3 => hQ M3 (gF_trans g2 (gF_sg g3)) (fun t ht => SyX_gF (k2 t ht) g3 (fun a j q1 q2 q3 => by omega)) k3) (T (1 + 4 * T 0)) 0 (by omega) M2 (gF_refl _ _ _) ⟨k2', fun i g hi => by simp [onG] at hi⟩
