/-! the class: findLook, next -/
/-- the best of a set of looks, as it lies in the fields -/
def BsX (M : am_M) (D : Dat) (A : Nat → Nat → Prop) (lst : Int32) : Prop := (mI M 0 16 = 0 ∧ ∀ h p, A h p → stN D h p = 0) ∨ ∃ h0 p0, h0 < 48 ∧ p0 < 256 ∧ A h0 p0 ∧ 0 < stN D h0 p0 ∧ mI M 0 14 = nI h0 ∧ mI M 0 15 = nI p0 ∧ mI M 0 16 = nI (stN D h0 p0) ∧ lst = nI (dCs D p0) ∧ ∀ h p, A h p → dom D h0 p0 h p
def aH (t h p : Nat) : Prop := h < t ∧ p < 256
def aP (D : Dat) (t mo q h p : Nat) : Prop := (h < t ∧ p < 256) ∨ (h = t ∧ p < q ∧ stN D t p = mo)
def sFl (z a j : Nat) : Prop := sMm z a j ∨ a = 172 ∨ (a = 0 ∧ 14 ≤ j ∧ j ≤ 16)
theorem sFl_q {z a j : Nat} (h : sFl z a j) : sXq z a j := by unfold sFl sMm at h; unfold sXq sMm; omega
/-- while it is looked for -/
def LfX (M : am_M) (z : Nat) (D : Dat) : Prop := XR M z D ∧ AllS M D ∧ mI M 0 13 = 0
theorem LfX_z {M M' : am_M} {z : Nat} {D : Dat} (hD : dOK D) (h : LfX M z D) (hf : zF (sFl z) M M') (hq : SqX M' z (dDp D) (dCs D) (dQt D)) : LfX M' z D := by
  obtain ⟨hX, hA, h13⟩ := h
  have h0 := hX
  obtain ⟨⟨hL, hI, hz, r2, r3, hO⟩, ⟨c, hP⟩, hS1, hTk, hLk⟩ := h0
  have n8 := dN_8 hD
  have h13' : mI M' 0 13 = 0 := by rw [hf.2.2.2.1 _ _ (by omega) (fun s' q w => by omega) (fun w => by unfold sFl sMm at w; omega)]; exact h13
  refine ⟨XR_z (s0 := 0) hD hX hf (fun a j q => Or.inl (by unfold sFl sMm at q; unfold sQ1 sMm; omega)) (fun q => XTk_z hz (by omega) (hTk 0 q) hf (fun a j q w => by unfold sFl sMm at w; unfold sTc at q; omega) (fun a j q w => by unfold sFl sMm at w; omega)) hq (Or.inl h13'), fun s hs => SetX_z (by omega) (hA s hs) hf (fun a j q w => by unfold sFl sMm at w; omega), h13'⟩
theorem zF_fl {M M' : am_M} {z : Nat} (h : zF (sMm z) M M') : zF (sFl z) M M' := zF_up h (fun a j q => Or.inl q)
theorem l_x_look3 (d z t mo : Nat) (D : Dat) (M0 : am_M) (Q : Option Value → am_M → Prop) (hD : dOK D) (ht : t < 48) (hmo : 0 < mo) (hmo8 : mo ≤ 8) (hmx : ∀ p, p < 256 → stN D t p ≤ mo)
    (hN : ∀ M' lst v4 v5, zF (sFl z) M0 M' → LfX M' z D → jk v4 → jk v5 → BsX M' D (aP D t mo 256) lst → am_P am_P0 (d + 6) (am_look tX10_findLook) 155 [.ref 0, .int lst, .int (nI t), .int (nI mo), v4, v5] [] M' Q) :
    ∀ (m p : Nat), p + m = 256 → ∀ (M : am_M) (lst : Int32) (v5 : Value), jk v5 → zF (sFl z) M0 M → LfX M z D → (∀ q, q < 256 → (lvB M mo q ↔ mo ≤ stN D t q)) → (mI M 0 16).toInt ≤ mo → BsX M D (aP D t mo p) lst → am_P am_P0 (d + 6) (am_look tX10_findLook) 67 [.ref 0, .int lst, .int (nI t), .int (nI mo), .int (nI p), v5] [] M Q := by
  intro m
  induction m with
  | zero =>
    intro p hp M lst v5 j5 hM hF hlv h16 hB
    have ep : p = 256 := by omega
    subst ep
    have h0 := hN M lst (.int (nI 256)) v5 hM hF (Or.inr ⟨_, rfl⟩) j5 hB
    rw [hX10_findLook_67]
    simp +decide only [qX10_findLook_0, qX10_findLook_1, qX10_findLook_2, show nI 256 = (256 : Int32) from rfl, jk_w j5, am_w1_i, am_w1_r, am_w1_x, am_w1_l, am_w1_w, va_rf_s, am_push_n, am_push_s, am_cs_0, am_cs_i, am_cs_l, am_cs_r, m_uI_K, m_uI_N, m_uI_R, m_uI_L, m_uI_I, m_uL_K, m_uL_N, m_uL_R, m_uL_I, m_uL_L, m_uR_K, m_uR_N, m_uR_I, m_uR_L, m_uR_R, true_and, and_true, true_implies, false_implies, not_true_eq_false, not_false_eq_true, if_true, if_false, false_and, and_false] at h0 ⊢
    exact h0
  | succ m ih =>
    intro p hp M lst v5 j5 hM hF hlv h16 hB
    obtain ⟨hX, hA, h13⟩ := id hF
    have hz := hX.1.2.2.1
    have hL := hX.1.1
    have hr := hX.1.2.2.2.1
    have hlt : ¬ (256 : Int32) ≤ nI p := by rw [show (256 : Int32) = nI 256 from rfl, ni_le (by omega) (by omega)]; omega
    have e4 : nI mo * 4 + nI (p / 64) = nI (4 * mo + p / 64) := by rw [show (4 : Int32) = nI 4 from rfl, ni_mul, ni_add]; congr 1; omega
    have hbt := bt_test (mL M 172 (4 * mo + p / 64)) (i := p % 64) (by omega)
    have hlp := hlv p (by omega)
    unfold lvB at hlp
    rw [hX10_findLook_67]
    simp +decide (disch := omega) only [qX10_findLook_0, qX10_findLook_1, qX10_findLook_2, lx hL, sr6 p (by omega), an63 p (by omega), e4, lgc_0, hbt, jk_w j5, ni_in_t, ni_tn, ni_add1, Classical.not_not, am_w1_i, am_w1_r, am_w1_x, am_w1_l, am_w1_w, va_rf_s, am_push_n, am_push_s, am_cs_0, am_cs_i, am_cs_l, am_cs_r, m_uI_K, m_uI_N, m_uI_R, m_uI_L, m_uI_I, m_uL_K, m_uL_N, m_uL_R, m_uL_I, m_uL_L, m_uR_K, m_uR_N, m_uR_I, m_uR_L, m_uR_R, true_and, and_true, true_implies, false_implies, not_true_eq_false, not_false_eq_true, if_true, if_false, false_and, and_false]
    first | rw [br_n (hlt)] | rw [br_q (hlt)] | rw [br_u (hlt)]
    by_cases c : sbit (mL M 172 (4 * mo + p / 64)) (p % 64) = true
    · first | rw [br_p (c)] | rw [br_r (c)] | rw [br_s (c)]
      have hst : stN D t p = mo := by have := hlp.mp c; have := hmx p (by omega); omega
      simp +decide only [qX10_findLook_0, qX10_findLook_1, qX10_findLook_2, lx hL, lz hL hz, hr, am_w1_i, am_w1_r, am_w1_x, am_w1_l, am_w1_w, va_rf_s, am_push_n, am_push_s, am_cs_0, am_cs_i, am_cs_l, am_cs_r, m_uI_K, m_uI_N, m_uI_R, m_uI_L, m_uI_I, m_uL_K, m_uL_N, m_uL_R, m_uL_I, m_uL_L, m_uR_K, m_uR_N, m_uR_I, m_uR_L, m_uR_R, true_and, and_true, true_implies, false_implies, not_true_eq_false, not_false_eq_true, if_true, if_false, false_and, and_false]
      refine c_x_costAt (d + 0) z p (dDp D) (dCs D) (dQt D) M _ hL hX.1.2.1 hz (by omega) hX.2.2.1 (fun M1 f1 s1 => ?_)
      have F1 := LfX_z hD hF (zF_fl f1) s1
      have L1 := F1.1.1.1
      have k1 : ∀ j, 13 ≤ j → mI M1 0 j = mI M 0 j := fun j hj => f1.2.2.2.1 _ _ (by omega) (fun s' q w => by omega) (fun w => by unfold sMm at w; omega)
      have kl : ∀ j, mL M1 172 j = mL M 172 j := fun j => f1.2.2.2.2.1 _ _ (by omega) (fun w => by unfold sMm at w; omega)
      have hlv1 : ∀ q, q < 256 → (lvB M1 mo q ↔ mo ≤ stN D t q) := fun q hq => by unfold lvB; rw [kl]; exact hlv q hq
      have h99 := dCs_99 D p
      have B1 : BsX M1 D (aP D t mo p) lst := by unfold BsX; rw [k1 14 (by omega), k1 15 (by omega), k1 16 (by omega)]; exact hB
      -- taken
      obtain ⟨A, hA'⟩ : ∃ A, A = uI (uI (uI M1 0 16 (nI mo)) 0 14 (nI t)) 0 15 (nI p) := ⟨_, rfl⟩
      have gA : gF (sFl z) nT M1 A := by rw [hA']; exact gF_trans (gF_trans (gF_i _ (by unfold sFl; omega)) (gF_i _ (by unfold sFl; omega))) (gF_i _ (by unfold sFl; omega))
      have zA := zF_g L1 F1.1.1.2.1 gA (fun a j s' q w => by unfold sFl sMm at w; omega) (fun a j w => by unfold sFl sMm at w; omega)
      have take : (∀ h' p', aP D t mo p h' p' → dom D t p h' p') → am_P am_P0 (d + 6) (am_look tX10_findLook) 67 [.ref 0, .int (nI (dCs D p)), .int (nI t), .int (nI mo), .int (nI (p + 1)), .int (nI (dCs D p))] [] A Q := fun hd => by
        have SA : SqX A z (dDp D) (dCs D) (dQt D) := SqX_u s1 (fun a j q1 q2 q3 => by rw [hA', m_uI_I, if_neg (by omega), m_uI_I, if_neg (by omega), m_uI_I, if_neg (by omega)]) (fun a j _ => by rw [hA']; rfl)
        refine ih (p + 1) (by omega) A _ _ (Or.inr ⟨_, rfl⟩) (zF_trans hM (zF_trans (zF_fl f1) zA)) (LfX_z hD F1 zA SA) (fun q hq => by unfold lvB; rw [hA']; exact hlv1 q hq) (by rw [hA', m_uI_I, if_neg (by omega), m_uI_I, if_neg (by omega), m_uI_I, if_pos ⟨rfl, rfl⟩, ni_ti (by omega)]; omega) ?_
        refine Or.inr ⟨t, p, ht, by omega, Or.inr ⟨rfl, by omega, hst⟩, by omega, ?_, ?_, ?_, rfl, fun h' p' a1 => ?_⟩
        · rw [hA', m_uI_I, if_neg (by omega), m_uI_I, if_pos ⟨rfl, rfl⟩]
        · rw [hA', m_uI_I, if_pos ⟨rfl, rfl⟩]
        · rw [hA', m_uI_I, if_neg (by omega), m_uI_I, if_neg (by omega), m_uI_I, if_pos ⟨rfl, rfl⟩, hst]
        · by_cases e : h' = t ∧ p' = p
          · rw [e.1, e.2]; unfold dom; omega
          · exact hd h' p' (by unfold aP at a1 ⊢; omega)
      have keep : (∀ h0 p0, h0 < 48 → p0 < 256 → aP D t mo p h0 p0 → 0 < stN D h0 p0 → lst = nI (dCs D p0) → mI M 0 16 = nI (stN D h0 p0) → dom D h0 p0 t p) → ¬ (mI M 0 16 = 0 ∧ ∀ h p', aP D t mo p h p' → stN D h p' = 0) → am_P am_P0 (d + 6) (am_look tX10_findLook) 67 [.ref 0, .int lst, .int (nI t), .int (nI mo), .int (nI (p + 1)), .int (nI (dCs D p))] [] M1 Q := fun hd hno => by
        refine ih (p + 1) (by omega) M1 lst _ (Or.inr ⟨_, rfl⟩) (zF_trans hM (zF_fl f1)) F1 hlv1 (by rw [k1 16 (by omega)]; exact h16) ?_
        rcases hB with q | ⟨h0, p0, q1, q2, q3, q4, q5, q6, q7, q8, q9⟩
        · exact absurd q hno
        · refine Or.inr ⟨h0, p0, q1, q2, by unfold aP at q3 ⊢; omega, q4, by rw [k1 14 (by omega)]; exact q5, by rw [k1 15 (by omega)]; exact q6, by rw [k1 16 (by omega)]; exact q7, q8, fun h' p' a1 => ?_⟩
          by_cases e : h' = t ∧ p' = p
          · rw [e.1, e.2]; exact hd h0 p0 q1 q2 q3 q4 q8 q7
          · exact q9 h' p' (by unfold aP at a1 ⊢; omega)
      simp +decide (disch := omega) only [qX10_findLook_0, qX10_findLook_1, qX10_findLook_2, lx L1, k1 16 (by omega), am_w1_i, am_w1_r, am_w1_x, am_w1_l, am_w1_w, va_rf_s, am_push_n, am_push_s, am_cs_0, am_cs_i, am_cs_l, am_cs_r, m_uI_K, m_uI_N, m_uI_R, m_uI_L, m_uI_I, m_uL_K, m_uL_N, m_uL_R, m_uL_I, m_uL_L, m_uR_K, m_uR_N, m_uR_I, m_uR_L, m_uR_R, true_and, and_true, true_implies, false_implies, not_true_eq_false, not_false_eq_true, if_true, if_false, false_and, and_false, ← hA', ni_add1]
      by_cases c1 : mI M 0 16 < nI mo
      · first | rw [br_p (c1)] | rw [br_r (c1)] | rw [br_s (c1)]
        exact take (fun h' p' a1 => by
          rcases hB with ⟨q1, q2⟩ | ⟨h0, p0, q1, q2, q3, q4, q5, q6, q7, q8, q9⟩
          · have := q2 h' p' a1; unfold dom; omega
          · have := q9 h' p' a1
            rw [q7, ni_lt (by have := stN_8 hD h0 p0; omega) (by omega)] at c1
            unfold dom at this ⊢
            omega)
      · first | rw [br_n (c1)] | rw [br_q (c1)] | rw [br_u (c1)]
        rcases id hB with ⟨q1, q2⟩ | ⟨h0, p0, q1, q2, q3, q4, q5, q6, q7, q8, q9⟩
        · exfalso
          rw [q1, lt32, z32, ni_ti (by omega)] at c1
          omega
        · have h80 := stN_8 hD h0 p0
          have h990 := dCs_99 D p0
          have e16 : stN D h0 p0 = mo := by
            rw [q7, ni_lt (by omega) (by omega)] at c1
            rw [q7, ni_ti (by omega)] at h16
            omega
          have hno : ¬ (mI M 0 16 = 0 ∧ ∀ h p', aP D t mo p h p' → stN D h p' = 0) := fun q => by have := q.2 h0 p0 q3; omega
          rw [q8, ni_le (by omega) (by omega)]
          by_cases c2 : dCs D p0 ≤ dCs D p
          · first | rw [br_p (c2)] | rw [br_r (c2)] | rw [br_s (c2)]
            have hk := keep (fun h1 p1 a1 a2 a3 a4 a5 a6 => by
              have e1 : dCs D p1 = dCs D p0 := by
                rw [q8, ni_eq (by omega) (by have := dCs_99 D p1; omega)] at a5
                omega
              have e2 : stN D h1 p1 = mo := by
                rw [q7, ni_eq (by omega) (by have := stN_8 hD h1 p1; omega)] at a6
                omega
              unfold dom
              unfold aP at a3
              omega) hno
            rw [q8] at hk
            exact hk
          · first | rw [br_n (c2)] | rw [br_q (c2)] | rw [br_u (c2)]
            exact take (fun h' p' a1 => by have := q9 h' p' a1; unfold dom at this ⊢; omega)
    · first | rw [br_n (c)] | rw [br_q (c)] | rw [br_u (c)]
      have hst : ¬ stN D t p = mo := fun q => c (hlp.mpr (by omega))
      exact ih (p + 1) (by omega) M lst v5 j5 hM hF hlv h16 (by
        rcases hB with ⟨q1, q2⟩ | ⟨h0, p0, q1, q2, q3, q4, q5, q6, q7, q8, q9⟩
        · exact Or.inl ⟨q1, fun h' p' a1 => q2 h' p' (by
            unfold aP at a1 ⊢
            by_cases e : h' = t ∧ p' = p
            · obtain ⟨rfl, rfl⟩ := e; omega
            · omega)⟩
        · exact Or.inr ⟨h0, p0, q1, q2, by unfold aP at q3 ⊢; omega, q4, q5, q6, q7, q8, fun h' p' a1 => q9 h' p' (by
            unfold aP at a1 ⊢
            by_cases e : h' = t ∧ p' = p
            · obtain ⟨rfl, rfl⟩ := e; omega
            · omega)⟩)
theorem l_x_look2 (d z : Nat) (D : Dat) (M0 : am_M) (Q : Option Value → am_M → Prop) (hD : dOK D) (hQ : ∀ M' lst, zF (sFl z) M0 M' → LfX M' z D → BsX M' D (aH 48) lst → Q none M') :
    ∀ (m t : Nat), t + m = 48 → ∀ (M : am_M) (lst : Int32) (v3 v4 v5 : Value), jk v3 → jk v4 → jk v5 → zF (sFl z) M0 M → LfX M z D → BsX M D (aH t) lst → am_P am_P0 (d + 6) (am_look tX10_findLook) 37 [.ref 0, .int lst, .int (nI t), v3, v4, v5] [] M Q := by
  have n8 := dN_8 hD
  intro m
  induction m with
  | zero =>
    intro t ht M lst v3 v4 v5 j3 j4 j5 hM hF hB
    have et : t = 48 := by omega
    subst et
    have h0 := hQ M lst hM hF hB
    rw [hX10_findLook_37]
    simp +decide only [qX10_findLook_0, qX10_findLook_1, qX10_findLook_2, show nI 48 = (48 : Int32) from rfl, am_w1_i, am_w1_r, am_w1_x, am_w1_l, am_w1_w, va_rf_s, am_push_n, am_push_s, am_cs_0, am_cs_i, am_cs_l, am_cs_r, m_uI_K, m_uI_N, m_uI_R, m_uI_L, m_uI_I, m_uL_K, m_uL_N, m_uL_R, m_uL_I, m_uL_L, m_uR_K, m_uR_N, m_uR_I, m_uR_L, m_uR_R, true_and, and_true, true_implies, false_implies, not_true_eq_false, not_false_eq_true, if_true, if_false, false_and, and_false]
    exact h0
  | succ m ih =>
    intro t ht M lst v3 v4 v5 j3 j4 j5 hM hF hB
    obtain ⟨hX, hA, h13⟩ := id hF
    have hL := hX.1.1
    have hlt : ¬ (48 : Int32) ≤ nI t := by rw [show (48 : Int32) = nI 48 from rfl, ni_le (by omega) (by omega)]; omega
    rw [hX10_findLook_37]
    simp +decide (disch := omega) only [qX10_findLook_0, qX10_findLook_1, qX10_findLook_2, lx hL, jk_w j3, jk_w j4, jk_w j5, am_w1_i, am_w1_r, am_w1_x, am_w1_l, am_w1_w, va_rf_s, am_push_n, am_push_s, am_cs_0, am_cs_i, am_cs_l, am_cs_r, m_uI_K, m_uI_N, m_uI_R, m_uI_L, m_uI_I, m_uL_K, m_uL_N, m_uL_R, m_uL_I, m_uL_L, m_uR_K, m_uR_N, m_uR_I, m_uR_L, m_uR_R, true_and, and_true, true_implies, false_implies, not_true_eq_false, not_false_eq_true, if_true, if_false, false_and, and_false]
    first | rw [br_n (hlt)] | rw [br_q (hlt)] | rw [br_u (hlt)]
    refine x_pileUp hD hX hA (by omega) (d + 2) _ (fun M1 mo g1 mx lv => ?_)
    have f1 : zF (sFl z) M M1 := zF_g hL hX.1.2.1 (gF_up g1 (fun a j q => Or.inr (Or.inl q)) (fun _ _ q => q)) (fun a j s' q w => by unfold sFl sMm at w; have := hX.1.2.2.1; omega) (fun a j w => by unfold sFl sMm at w; have := hX.1.2.2.1; omega)
    have s1 : SqX M1 z (dDp D) (dCs D) (dQt D) := SqX_z hX.1.2.2.1 hX.2.2.1 (zF_g hL hX.1.2.1 g1 (fun a j s' q w => by unfold s172 at w; omega) (fun a j w => by unfold s172 at w; omega)) (fun a j q1 q2 q3 w => by unfold s172 at w; have := hX.1.2.2.1; omega)
    have F1 := LfX_z hD hF f1 s1
    have L1 := F1.1.1.1
    have k1 : ∀ j, mI M1 0 j = mI M 0 j := fun j => g1.1 _ _ (by unfold s172; omega)
    have B1 : BsX M1 D (aH t) lst := by unfold BsX; rw [k1, k1, k1]; exact hB
    have hmo : mo ≤ 8 := by have := mx.2.2; omega
    have ez : nI mo = 0 ↔ mo = 0 := by rw [show (0 : Int32) = nI 0 from rfl, ni_eq (by omega) (by omega)]
    -- an hour that brings nothing
    have skip : (∀ h0 p0, aH t h0 p0 → 0 < stN D h0 p0 → mI M 0 16 = nI (stN D h0 p0) → mo < stN D h0 p0 ∨ mo = 0) → (mI M 0 16 = 0 → mo = 0) → ∀ v3', jk v3' → am_P am_P0 (d + 6) (am_look tX10_findLook) 37 [.ref 0, .int lst, .int (nI (t + 1)), v3', v4, v5] [] M1 Q := fun h1 h2 v3' j3' => by
      refine ih (t + 1) (by omega) M1 lst v3' v4 v5 j3' j4 j5 (zF_trans hM f1) F1 ?_
      rcases B1 with ⟨q1, q2⟩ | ⟨h0, p0, q1, q2, q3, q4, q5, q6, q7, q8, q9⟩
      · refine Or.inl ⟨q1, fun h' p' a1 => ?_⟩
        by_cases e : h' = t
        · subst e
          have := mx.1 p' a1.2
          rw [stK_e] at this
          have := h2 (by rw [← k1]; exact q1)
          omega
        · exact q2 h' p' (by unfold aH at a1 ⊢; omega)
      · refine Or.inr ⟨h0, p0, q1, q2, by unfold aH at q3 ⊢; omega, q4, q5, q6, q7, q8, fun h' p' a1 => ?_⟩
        by_cases e : h' = t
        · subst e
          have := mx.1 p' a1.2
          rw [stK_e] at this
          have := h1 h0 p0 q3 q4 (by rw [← k1]; exact q7)
          unfold dom
          omega
        · exact q9 h' p' (by unfold aH at a1 ⊢; omega)
    simp +decide (disch := omega) only [qX10_findLook_0, qX10_findLook_1, qX10_findLook_2, lx L1, k1, ez, jk_w j4, jk_w j5, ni_add1, am_w1_i, am_w1_r, am_w1_x, am_w1_l, am_w1_w, va_rf_s, am_push_n, am_push_s, am_cs_0, am_cs_i, am_cs_l, am_cs_r, m_uI_K, m_uI_N, m_uI_R, m_uI_L, m_uI_I, m_uL_K, m_uL_N, m_uL_R, m_uL_I, m_uL_L, m_uR_K, m_uR_N, m_uR_I, m_uR_L, m_uR_R, true_and, and_true, true_implies, false_implies, not_true_eq_false, not_false_eq_true, if_true, if_false, false_and, and_false]
    by_cases c0 : mo = 0
    · first | rw [br_p (c0)] | rw [br_r (c0)] | rw [br_s (c0)]
      exact skip (fun _ _ _ _ _ => Or.inr c0) (fun _ => c0) _ (Or.inr ⟨_, rfl⟩)
    · first | rw [br_n (c0)] | rw [br_q (c0)] | rw [br_u (c0)]
      by_cases c1 : mI M 0 16 ≤ nI mo
      · first | rw [br_p (c1)] | rw [br_r (c1)] | rw [br_s (c1)]
        have h16 : (mI M1 0 16).toInt ≤ mo := by rw [k1]; rw [le32, ni_ti (by omega)] at c1; exact c1
        refine l_x_look3 d z t mo D M0 Q hD (by omega) (by omega) hmo (fun p hp => by have := mx.1 p hp; rw [stK_e] at this; exact this) (fun M' lst' v4' v5' a1 a2 a3 a4 a5 => ?_) 256 0 (by omega) M1 lst v5 j5 (zF_trans hM f1) F1 (fun q hq => by have := lv mo q hmo hq; rw [stK_e] at this; exact this) h16 ?_
        · have h0 := ih (t + 1) (by omega) M' lst' (.int (nI mo)) v4' v5' (Or.inr ⟨_, rfl⟩) a3 a4 a1 a2 (by
            obtain ⟨pm, pm1, pm2⟩ : ∃ p, p < 256 ∧ stN D t p = mo := by
              rcases mx.2.1 with q | ⟨p, p1, p2⟩
              · omega
              · exact ⟨p, p1, by rw [stK_e] at p2; exact p2⟩
            rcases a5 with ⟨q1, q2⟩ | ⟨h0, p0, q1, q2, q3, q4, q5, q6, q7, q8, q9⟩
            · have := q2 t pm (Or.inr ⟨rfl, pm1, pm2⟩)
              omega
            · refine Or.inr ⟨h0, p0, q1, q2, by unfold aP at q3; unfold aH; omega, q4, q5, q6, q7, q8, fun h' p' b1 => ?_⟩
              by_cases e : h' = t
              · subst e
                have hle := mx.1 p' b1.2
                rw [stK_e] at hle
                by_cases e2 : stN D h' p' = mo
                · exact q9 h' p' (Or.inr ⟨rfl, b1.2, e2⟩)
                · have := q9 h' pm (Or.inr ⟨rfl, pm1, pm2⟩)
                  unfold dom at this ⊢
                  omega
              · exact q9 h' p' (Or.inl ⟨by unfold aH at b1; omega, b1.2⟩))
          simp +decide only [qX10_findLook_0, qX10_findLook_1, qX10_findLook_2, ni_add1, jk_w a3, jk_w a4, am_w1_i, am_w1_r, am_w1_x, am_w1_l, am_w1_w, va_rf_s, am_push_n, am_push_s, am_cs_0, am_cs_i, am_cs_l, am_cs_r, m_uI_K, m_uI_N, m_uI_R, m_uI_L, m_uI_I, m_uL_K, m_uL_N, m_uL_R, m_uL_I, m_uL_L, m_uR_K, m_uR_N, m_uR_I, m_uR_L, m_uR_R, true_and, and_true, true_implies, false_implies, not_true_eq_false, not_false_eq_true, if_true, if_false, false_and, and_false]
          exact h0
        · rcases B1 with ⟨q1, q2⟩ | ⟨h0, p0, q1, q2, q3, q4, q5, q6, q7, q8, q9⟩
          · exact Or.inl ⟨q1, fun h' p' b1 => q2 h' p' (by unfold aP at b1; unfold aH; omega)⟩
          · exact Or.inr ⟨h0, p0, q1, q2, Or.inl q3, q4, q5, q6, q7, q8, fun h' p' b1 => q9 h' p' (by unfold aP at b1; unfold aH; omega)⟩
      · first | rw [br_n (c1)] | rw [br_q (c1)] | rw [br_u (c1)]
        refine skip (fun h0 p0 a1 a2 a3 => ?_) (fun a1 => ?_) _ (Or.inr ⟨_, rfl⟩)
        · rw [a3, ni_le (by have := stN_8 hD h0 p0; omega) (by omega)] at c1
          omega
        · rw [a1, le32, z32, ni_ti (by omega)] at c1
          omega
theorem l_x_look1 (d z : Nat) (D : Dat) (M0 : am_M) (Q : Option Value → am_M → Prop) (hD : dOK D) (hN : ∀ M', zF (sXq z) M0 M' → XR M' z D → AllS M' D → mI M' 0 13 = 0 → mI M' 0 16 = 0 → am_P am_P0 (d + 5) (am_look tX10_findLook) 37 [.ref 0, .int 0, .int 0, am_x, am_x, am_x] [] M' Q) :
    ∀ (m s : Nat), s + m = dN D → ∀ (M : am_M), zF (sXq z) M0 M → XR M z D → mI M 0 13 = 0 → mI M 0 16 = 0 → (∀ s', s' < s → dSX M D s') → am_P am_P0 (d + 5) (am_look tX10_findLook) 9 [.ref 0, .int 0, .int (nI s), am_x, am_x, am_x] [] M Q := by
  have n8 := dN_8 hD
  intro m
  induction m with
  | zero =>
    intro s hs M hM h h13 h16 hb
    have hz := h.1.2.2.1
    have hL := h.1.1
    have hr := h.1.2.2.2.1
    have hle : nI (dN D) ≤ nI s := (ni_le (by omega) (by omega)).mpr (by omega)
    have h0 := hN M hM h (fun s' hs' => hb s' (by omega)) h13 h16
    rw [hX10_findLook_9]
    simp +decide only [qX10_findLook_0, qX10_findLook_1, qX10_findLook_2, lx hL, lz hL hz, hr, (x_n h).1, am_w1_i, am_w1_r, am_w1_x, am_w1_l, am_w1_w, va_rf_s, am_push_n, am_push_s, am_cs_0, am_cs_i, am_cs_l, am_cs_r, m_uI_K, m_uI_N, m_uI_R, m_uI_L, m_uI_I, m_uL_K, m_uL_N, m_uL_R, m_uL_I, m_uL_L, m_uR_K, m_uR_N, m_uR_I, m_uR_L, m_uR_R, true_and, and_true, true_implies, false_implies, not_true_eq_false, not_false_eq_true, if_true, if_false, false_and, and_false]
    first | rw [br_p (hle)] | rw [br_r (hle)] | rw [br_s (hle)]
    exact h0
  | succ m ih =>
    intro s hs M hM h h13 h16 hb
    have hz := h.1.2.2.1
    have hL := h.1.1
    have hr := h.1.2.2.2.1
    have hlt : ¬ nI (dN D) ≤ nI s := by rw [ni_le (by omega) (by omega)]; omega
    have htr := ltr hL (show s < 8 by omega)
    have hst := lt_ hL (isTr_of (show s < 8 by omega))
    rw [hX10_findLook_9]
    simp +decide (disch := omega) only [qX10_findLook_0, qX10_findLook_1, qX10_findLook_2, lx hL, lz hL hz, hr, (x_n h).1, htr, hst, ni_in_t, ni_tn, am_w1_i, am_w1_r, am_w1_x, am_w1_l, am_w1_w, va_rf_s, am_push_n, am_push_s, am_cs_0, am_cs_i, am_cs_l, am_cs_r, m_uI_K, m_uI_N, m_uI_R, m_uI_L, m_uI_I, m_uL_K, m_uL_N, m_uL_R, m_uL_I, m_uL_L, m_uR_K, m_uR_N, m_uR_I, m_uR_L, m_uR_R, true_and, and_true, true_implies, false_implies, not_true_eq_false, not_false_eq_true, if_true, if_false, false_and, and_false]
    first | rw [br_n (hlt)] | rw [br_q (hlt)] | rw [br_u (hlt)]
    refine x_settledF hD h d (by omega) _ (fun M1 f1 X1 _ S1 => ?_)
    have k1 : ∀ j, mI M1 0 j = mI M 0 j := fun j => f1.2.2.2.1 _ _ (by omega) (fun s' q w => by omega) (fun w => by unfold sSt at w; omega)
    have h0 := ih (s + 1) (by omega) M1 (zF_trans hM (zF_up f1 (fun a j q => sSt_q (by omega) q))) X1 (by rw [k1]; exact h13) (by rw [k1]; exact h16) (fun s' hs' => by
      by_cases e : s' = s
      · subst e; exact S1
      · exact SetX_z (by omega) (hb s' (by omega)) f1 (fun a j q w => by unfold sSt at w; omega))
    simp +decide only [qX10_findLook_0, qX10_findLook_1, qX10_findLook_2, ni_add1, am_w1_i, am_w1_r, am_w1_x, am_w1_l, am_w1_w, va_rf_s, am_push_n, am_push_s, am_cs_0, am_cs_i, am_cs_l, am_cs_r, m_uI_K, m_uI_N, m_uI_R, m_uI_L, m_uI_I, m_uL_K, m_uL_N, m_uL_R, m_uL_I, m_uL_L, m_uR_K, m_uR_N, m_uR_I, m_uR_L, m_uR_R, true_and, and_true, true_implies, false_implies, not_true_eq_false, not_false_eq_true, if_true, if_false, false_and, and_false]
    exact h0
theorem x_findLook {M : am_M} {z : Nat} {D : Dat} (hD : dOK D) (h : XR M z D) (h13 : mI M 0 13 = 0) (d : Nat) (Q : Option Value → am_M → Prop) (hQ : ∀ M' lst, zF (sXq z) M M' → XR M' z D → BsX M' D (aH 48) lst → Q none M') : am_E am_P0 (d + 6) 160 [.ref 0] M Q := by
  have hL := h.1.1
  have hz := h.1.2.2.1
  obtain ⟨A, hA⟩ : ∃ A, A = uI M 0 16 0 := ⟨_, rfl⟩
  have gA : gF (sFl z) nT M A := by rw [hA]; exact gF_i _ (by unfold sFl; omega)
  have zA := zF_g hL h.1.2.1 gA (fun a j s' q w => by unfold sFl sMm at w; omega) (fun a j w => by unfold sFl sMm at w; omega)
  have h16 : mI A 0 16 = 0 := by rw [hA, m_uI_I, if_pos ⟨rfl, rfl⟩]
  have h13' : mI A 0 13 = 0 := by rw [hA, m_uI_I, if_neg (by omega)]; exact h13
  have h0 := h
  obtain ⟨⟨-, hI, -, r2, r3, hO⟩, ⟨c, hP⟩, hS1, hTk, hLk⟩ := h0
  have n8 := dN_8 hD
  have SA : SqX A z (dDp D) (dCs D) (dQt D) := SqX_u hS1 (fun a j q1 q2 q3 => by rw [hA, m_uI_I, if_neg (by omega)]) (fun a j _ => by rw [hA]; rfl)
  have XA : XR A z D := XR_z (s0 := 0) hD h zA (fun a j q => Or.inl (by unfold sFl sMm at q; unfold sQ1 sMm; omega)) (fun q => XTk_z hz (by omega) (hTk 0 q) zA (fun a j q w => by unfold sFl sMm at w; unfold sTc at q; omega) (fun a j q w => by unfold sFl sMm at w; omega)) SA (Or.inl h13')
  have h9 := l_x_look1 (d + 1) z D A Q hD (fun M1 f1 X1 A1 q13 q16 => by
    have h8 := l_x_look2 d z D M1 Q hD (fun M2 lst f2 F2 B2 => hQ M2 lst (zF_trans (zF_up zA (fun a j q => sFl_q q)) (zF_trans f1 (zF_up f2 (fun a j q => sFl_q q)))) F2.1 B2) 48 0 (by omega) M1 0 am_x am_x am_x (Or.inl rfl) (Or.inl rfl) (Or.inl rfl) (zF_refl X1.1.1 X1.1.2.1) ⟨X1, A1, q13⟩ (Or.inl ⟨q16, fun h' p' a1 => by have := a1.1; omega⟩)
    exact h8) (dN D) 0 (by omega) A (zF_refl XA.1.1 XA.1.2.1) XA h13' h16 (fun s' hs' => by omega)
  rw [eX10_findLook]
  simp +decide only [qX10_findLook_0, qX10_findLook_1, qX10_findLook_2, lx hL, ← hA, am_w1_i, am_w1_r, am_w1_x, am_w1_l, am_w1_w, va_rf_s, am_push_n, am_push_s, am_cs_0, am_cs_i, am_cs_l, am_cs_r, m_uI_K, m_uI_N, m_uI_R, m_uI_L, m_uI_I, m_uL_K, m_uL_N, m_uL_R, m_uL_I, m_uL_L, m_uR_K, m_uR_N, m_uR_I, m_uR_L, m_uR_R, true_and, and_true, true_implies, false_implies, not_true_eq_false, not_false_eq_true, if_true, if_false, false_and, and_false]
  exact h9
theorem x_next (w : Int32) : XqO 138 [.int w] (aNxt w) := by
  intro d M z D Q hD h hQ
  have hz := h.1.2.2.1
  have hL := h.1.1
  have hr := h.1.2.2.2.1
  have e2 : (2 : Int32).toInt = 2 := rfl
  unfold aNxt at hQ
  rw [eX10_next]
  simp +decide only [qX10_next, lx hL, Classical.not_not, am_w1_i, am_w1_r, am_w1_x, am_w1_l, am_w1_w, va_rf_s, am_push_n, am_push_s, am_cs_0, am_cs_i, am_cs_l, am_cs_r, m_uI_K, m_uI_N, m_uI_R, m_uI_L, m_uI_I, m_uL_K, m_uL_N, m_uL_R, m_uL_I, m_uL_L, m_uR_K, m_uR_N, m_uR_I, m_uR_L, m_uR_R, true_and, and_true, true_implies, false_implies, not_true_eq_false, not_false_eq_true, if_true, if_false, false_and, and_false]
  by_cases w0 : w < 0
  · have h0 := hQ M (XR_2 h) h
    rw [if_neg (fun q => by rw [lt32, z32] at w0; omega)] at h0
    first | rw [br_p (w0)] | rw [br_r (w0)] | rw [br_s (w0)]
    exact h0
  · first | rw [br_n (w0)] | rw [br_q (w0)] | rw [br_u (w0)]
    rw [lt32, z32] at w0
    by_cases w2 : w ≤ 2
    · first | rw [br_p (w2)] | rw [br_r (w2)] | rw [br_s (w2)]
      rw [le32, e2] at w2
      rw [if_pos ⟨by omega, by omega⟩] at hQ
      -- behind the search
      have key : ∀ M', zF (sXq z) M M' → XR M' z D → mI M' 0 13 = 1 → am_P am_P0 (d + 20) (am_look tX10_next) 27 [.ref 0, .int w] [] M' Q := fun M' f' X' h13 => by
        have L' := X'.1.1
        have hr' := X'.1.2.2.2.1
        have h0 := hQ M' f' X'
        rcases X'.2.2.2.2 with q | ⟨-, ⟨q1, q2⟩ | ⟨h1, p1, b1, k14, k15, k16⟩⟩
        · rw [h13] at q; exact absurd q (by decide)
        · rw [the_e nxQ_1 (Or.inr ⟨q2, rfl⟩)] at h0
          simp +decide only [qX10_next, lx L', q1, am_w1_i, am_w1_r, am_w1_x, am_w1_l, am_w1_w, va_rf_s, am_push_n, am_push_s, am_cs_0, am_cs_i, am_cs_l, am_cs_r, m_uI_K, m_uI_N, m_uI_R, m_uI_L, m_uI_I, m_uL_K, m_uL_N, m_uL_R, m_uL_I, m_uL_L, m_uR_K, m_uR_N, m_uR_I, m_uR_L, m_uR_R, true_and, and_true, true_implies, false_implies, not_true_eq_false, not_false_eq_true, if_true, if_false, false_and, and_false]
          exact h0
        · rw [the_e nxQ_1 (Or.inl ⟨h1, p1, b1, rfl⟩)] at h0
          unfold nxA at h0
          have h8 := stN_8 hD h1 p1
          have hne : ¬ nI (stN D h1 p1) = 0 := by
            rw [show (0 : Int32) = nI 0 from rfl, ni_eq (by omega) (by omega)]
            have := b1.2.2.1
            omega
          have en := fun Q => x_numberOf X' (d + 19) p1 Q b1.2.1
          simp +decide only [qX10_next, lx L', lz L' hz, hr', k14, k15, k16, en, Classical.not_not, am_w1_i, am_w1_r, am_w1_x, am_w1_l, am_w1_w, va_rf_s, am_push_n, am_push_s, am_cs_0, am_cs_i, am_cs_l, am_cs_r, m_uI_K, m_uI_N, m_uI_R, m_uI_L, m_uI_I, m_uL_K, m_uL_N, m_uL_R, m_uL_I, m_uL_L, m_uR_K, m_uR_N, m_uR_I, m_uR_L, m_uR_R, true_and, and_true, true_implies, false_implies, not_true_eq_false, not_false_eq_true, if_true, if_false, false_and, and_false]
          first | rw [br_n (hne)] | rw [br_q (hne)] | rw [br_u (hne)]
          by_cases c : w = 0
          · rw [if_pos (by rw [c]; rfl)] at h0
            first | rw [br_p (c)] | rw [br_r (c)] | rw [br_s (c)]
            exact h0
          · have c' : ¬ w.toInt = 0 := fun q => c (Int32.toInt_inj.mp q)
            rw [if_neg c'] at h0
            first | rw [br_n (c)] | rw [br_q (c)] | rw [br_u (c)]
            by_cases c1 : w = 1
            · rw [if_pos (by rw [c1]; rfl)] at h0
              first | rw [br_p (c1)] | rw [br_r (c1)] | rw [br_s (c1)]
              exact h0
            · have c1' : ¬ w.toInt = 1 := fun q => c1 (Int32.toInt_inj.mp q)
              rw [if_neg c1'] at h0
              first | rw [br_n (c1)] | rw [br_q (c1)] | rw [br_u (c1)]
              exact h0
      rcases h.2.2.2.2 with h13 | ⟨h13, -⟩
      · first | rw [br_p (h13)] | rw [br_r (h13)] | rw [br_s (h13)]
        refine x_findLook hD h h13 (d + 13) _ (fun M1 lst f1 X1 B1 => ?_)
        have L1 := X1.1.1
        obtain ⟨A, hA⟩ : ∃ A, A = uI M1 0 13 1 := ⟨_, rfl⟩
        have gA : gF (fun a j => a = 0 ∧ j = 13) nT M1 A := by rw [hA]; exact gF_i _ ⟨rfl, rfl⟩
        have zA := zF_g L1 X1.1.2.1 gA (fun a j s' q w => by omega) (fun a j w => by omega)
        have kA : ∀ j, ¬ j = 13 → mI A 0 j = mI M1 0 j := fun j hj => by rw [hA, m_uI_I, if_neg (by omega)]
        have h13A : mI A 0 13 = 1 := by rw [hA, m_uI_I, if_pos ⟨rfl, rfl⟩]
        have n8 := dN_8 hD
        have XA : XR A z D := XR_z (s0 := 0) hD X1 zA (fun a j q => Or.inl (by unfold sQ1; omega)) (fun q => XTk_z hz (by omega) (X1.2.2.2.1 0 q) zA (fun a j q w => by unfold sTc at q; omega) (fun a j q w => by omega)) (SqX_z hz X1.2.2.1 zA (fun a j q1 q2 q3 w => by omega)) (Or.inr ⟨h13A, by
          rw [kA 14 (by omega), kA 15 (by omega), kA 16 (by omega)]
          rcases B1 with ⟨q1, q2⟩ | ⟨h0, p0, q1, q2, q3, q4, q5, q6, q7, q8, q9⟩
          · exact Or.inl ⟨q1, fun h' p' a1 a2 => q2 h' p' ⟨a1, a2⟩⟩
          · exact Or.inr ⟨h0, p0, bst_i q1 q2 q4 (fun h' p' a1 a2 => q9 h' p' ⟨a1, a2⟩), q5, q6, q7⟩⟩)
        have h9 := key A (zF_trans f1 (zq_up (s := 0) (by omega) zA (fun a j q => by unfold sQ1; omega))) XA h13A
        have rA : mR A 0 2 = mR M1 0 2 := by rw [hA]; rfl
        simp +decide only [qX10_next, lx L1, lx XA.1.1, ← hA, kA 14 (by omega), kA 15 (by omega), kA 16 (by omega), rA, Classical.not_not, am_w1_i, am_w1_r, am_w1_x, am_w1_l, am_w1_w, va_rf_s, am_push_n, am_push_s, am_cs_0, am_cs_i, am_cs_l, am_cs_r, m_uI_K, m_uI_N, m_uI_R, m_uI_L, m_uI_I, m_uL_K, m_uL_N, m_uL_R, m_uL_I, m_uL_L, m_uR_K, m_uR_N, m_uR_I, m_uR_L, m_uR_R, true_and, and_true, true_implies, false_implies, not_true_eq_false, not_false_eq_true, if_true, if_false, false_and, and_false] at h9 ⊢
        exact h9
      · have hne : ¬ mI M 0 13 = 0 := by rw [h13]; decide
        have h9 := key M (XR_2 h) h h13
        first | rw [br_n (hne)] | rw [br_q (hne)] | rw [br_u (hne)]
        simp +decide only [qX10_next, lx hL, Classical.not_not, am_w1_i, am_w1_r, am_w1_x, am_w1_l, am_w1_w, va_rf_s, am_push_n, am_push_s, am_cs_0, am_cs_i, am_cs_l, am_cs_r, m_uI_K, m_uI_N, m_uI_R, m_uI_L, m_uI_I, m_uL_K, m_uL_N, m_uL_R, m_uL_I, m_uL_L, m_uR_K, m_uR_N, m_uR_I, m_uR_L, m_uR_R, true_and, and_true, true_implies, false_implies, not_true_eq_false, not_false_eq_true, if_true, if_false, false_and, and_false] at h9 ⊢
        exact h9
    · have h0 := hQ M (XR_2 h) h
      rw [if_neg (fun q => w2 (by rw [le32, e2]; omega))] at h0
      first | rw [br_n (w2)] | rw [br_q (w2)] | rw [br_u (w2)]
      exact h0
theorem op_next (w : Int32) : OpI 138 289 [.int w] isI := op_z (fun D => ⟨_, rfl⟩) (x_next w) (m_next w)
