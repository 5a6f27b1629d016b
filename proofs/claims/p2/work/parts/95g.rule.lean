/-! the class's parser: rules -/
def isRq (z q N : Nat) : Prop := (q = z + 9 ∧ N = 12) ∨ (q = z + 13 ∧ N = 12) ∨ (q = z + 17 ∧ N = 6)
section
variable {T : Nat → Nat} {n z : Nat}
theorem lq_ {M : am_M} {q N : Nat} (hL : Lay M) (hz : z = 2 ∨ z = 83) (hq : isRq z q N) : mK M q = 14 ∧ mK M (q + 1) = 0 ∧ mN M (q + 1) = N ∧ mK M (q + 2) = 0 ∧ mN M (q + 2) = N ∧ mK M (q + 3) = 0 ∧ mN M (q + 3) = N ∧ mR M q 1 = some (q + 1) ∧ mR M q 2 = some (q + 2) ∧ mR M q 3 = some (q + 3) := by
  rcases hq with ⟨rfl, rfl⟩ | ⟨rfl, rfl⟩ | ⟨rfl, rfl⟩ <;> simp only [lz hL hz, Nat.add_assoc, and_self]
theorem c_x_isFull (d q N len : Nat) (M : am_M) (Q : Option Value → am_M → Prop) (hL : Lay M) (hz : z = 2 ∨ z = 83) (hq : isRq z q N) (h0 : mI M q 0 = nI len) (hl : len ≤ 12) : am_E am_P0 d 47 [.ref q] M Q ↔ Q (some (.int (b01 (decide (N ≤ len))))) M := by
  have hN : N = 12 ∨ N = 6 := by unfold isRq at hq; omega
  have hlt : nI len < Int32.ofNat N ↔ len < N := ni_lt (by omega) (by omega)
  rw [eX4_isFull]
  simp +decide only [qX4_isFull, lq_ hL hz hq, h0, am_w1_i, am_w1_r, am_w1_x, am_w1_l, am_w1_w, va_rf_s, am_push_n, am_push_s, am_cs_0, am_cs_i, am_cs_l, am_cs_r, m_uI_K, m_uI_N, m_uI_R, m_uI_L, m_uI_I, m_uL_K, m_uL_N, m_uL_R, m_uL_I, m_uL_L, m_uR_K, m_uR_N, m_uR_I, m_uR_L, m_uR_R, true_and, and_true, true_implies, false_implies, not_true_eq_false, not_false_eq_true, if_true, if_false, false_and, and_false]
  by_cases c : N ≤ len
  · rw [br_n (fun w => by have := hlt.mp w; omega), decide_eq_true c]; exact Iff.rfl
  · rw [br_p (hlt.mpr (by omega)), decide_eq_false c]; exact Iff.rfl
theorem c_x_appendR (d q N len : Nat) (x1 x2 x3 : Int32) (M : am_M) (Q : Option Value → am_M → Prop) (hL : Lay M) (hz : z = 2 ∨ z = 83) (hq : isRq z q N) (h0 : mI M q 0 = nI len) (hl : len < N) : am_E am_P0 (d + 1) 48 [.ref q, .int x1, .int x2, .int x3] M Q ↔ Q none (uI (uI (uI (uI M (q + 1) len x1) (q + 2) len x2) (q + 3) len x3) q 0 (nI (len + 1))) := by
  have hN : N = 12 ∨ N = 6 := by unfold isRq at hq; omega
  have hf := fun Q => c_x_isFull (z := z) d q N len M Q hL hz hq h0 (by omega)
  rw [decide_eq_false (by omega)] at hf
  have n1 : ¬ (q = q + 1) := by omega
  have n2 : ¬ (q = q + 2) := by omega
  have n3 : ¬ (q = q + 3) := by omega
  rw [eX4_append]
  simp +decide (disch := omega) only [qX4_append, lq_ hL hz hq, h0, hf, n1, n2, n3, Nat.add_left_cancel_iff, b01, ni_in_t, ni_tn, ni_add1, am_w1_i, am_w1_r, am_w1_x, am_w1_l, am_w1_w, va_rf_s, am_push_n, am_push_s, am_cs_0, am_cs_i, am_cs_l, am_cs_r, m_uI_K, m_uI_N, m_uI_R, m_uI_L, m_uI_I, m_uL_K, m_uL_N, m_uL_R, m_uL_I, m_uL_L, m_uR_K, m_uR_N, m_uR_I, m_uR_L, m_uR_R, true_and, and_true, true_implies, false_implies, not_true_eq_false, not_false_eq_true, if_true, if_false, false_and, and_false]
/-- what a rule's reading leaves -/
def RuX (T : Nat → Nat) (n z q : Nat) (sm : Bool) (R : Rls) (c : Nat) (t : Tok) (M M' : am_M) : Sum (Nat × Nat) (Tok × Den × Den) → Prop
  | .inl e => gF (sSea z) nT M M' ∧ FaX M' z T n e
  | .inr p => gF (fun a j => sPz z c a j ∨ (q ≤ a ∧ a ≤ q + 3)) nT M M' ∧ tS t < tS p.1 ∧ (sm = true → bdS p.2.1) ∧ bdT p.2.2 ∧ ∃ c', Lay M' ∧ mR M' 164 1 = some z ∧ RdX M' T n p.1 ∧ FmX M' z c' ∧ c ≤ c' ∧ c' ≤ tS p.1 ∧ RlC M' z q sm (R ++ [(p.2.1, p.2.2)]) c'
theorem ps_some {g : Nat} (t : Tok) (hg : g ≤ 9) (hE : tE t ≤ n) (v : Den) : ∃ res, ps T n (fuelP n) g 0 t v = some res := by
  have h1 : tR n t ≤ n + 1 := by unfold tR; split <;> omega
  have h2 : gW g ≤ 6 := by unfold gW; split <;> (try split) <;> (try split) <;> (try split) <;> (try split) <;> omega
  obtain ⟨q, hq, -⟩ := ps_tot (T := T) (n := n) (fuelP n) g 0 t v hg hE (by unfold fuelP; omega)
  exact ⟨q, hq⟩
/-- a sum, then the rest of the rule -/
def ruK (T : Nat → Nat) (n : Nat) (t2 : Tok) (v : Den) : Sum (Nat × Nat) (Tok × Den × Den) := bR (wordR T n 18 (.inr t2)) (fun t3 => psX T n 5 t3 (fun t4 w => .inr (t4, v, w)))
theorem l_x_rule2 (hz : z = 2 ∨ z = 83) (hn : n ≤ 1800) (d q N c c1 : Nat) (sm : Bool) (R : Rls) (t t2 : Tok) (v : Den) (M M1 : am_M) (Q : Option Value → am_M → Prop) (hq : isRq z q N) (hR12 : R.length < N) (hL : Lay M1) (hp : mR M1 164 1 = some z) (hR : RdX M1 T n t2) (hF : FmX M1 z c1) (hcc : c ≤ c1) (hct : c1 ≤ tS t2) (htt : tS t < tS t2) (hrl : RlC M1 z q sm R c) (hg : gF (sPz z c) nT M M1) (hsum : sm = true → CdX M1 z c c1 [v] ∧ bdS v) (v4 : Value) (j4 : jk v4)
    (hQ : ∀ M', RuX T n z q sm R c t M M' (ruK T n t2 v) → Q none M') : am_P am_P0 (d + 120) (am_look tX2_readRule) 32 [.ref 164, .ref q, .int (b01 sm), .int (nI c), v4] [] M1 Q := by
  have hst : StR M1 T n (.inr t2) := hR
  have hcl := hF.2
  have hN : N = 12 ∨ N = 6 := by unfold isRq at hq; omega
  -- the end after a fault
  have bad : ∀ M' e x4, ruK T n t2 v = .inl e → gF (sSea z) nT M M' → FaX M' z T n e → am_P am_P0 (d + 120) (am_look tX2_readRule) 58 [.ref 164, .ref q, .int (b01 sm), .int (nI c), .int x4] [] M' Q := fun M' e x4 he g F => by
    have L' : Lay M' := gF_LayN (gF_trans (gF_refl (sSea z) nT M') (gF_refl _ _ _)) (by
      have h1 := gF_LayN (S := sSea z) (M := M) (M' := M') g
      obtain ⟨⟨k, a1, a2⟩, a3⟩ := hL
      exact ⟨⟨k, a1, by rw [g.2.2.2, ← hg.2.2.2]; exact a2⟩, fun q hq => by rw [g.2.2.1 _ _ (fun z => z), ← hg.2.2.1 _ _ (fun z => z)]; exact a3 q hq⟩)
    have h8 := FtX_8 F.1
    have h9 := hQ M' (by rw [he]; exact ⟨g, F⟩)
    simp +decide only [qX2_readRule_0, qX2_readRule_1, lx L', am_w1_i, am_w1_r, am_w1_x, am_w1_l, am_w1_w, va_rf_s, am_push_n, am_push_s, am_cs_0, am_cs_i, am_cs_l, am_cs_r, m_uI_K, m_uI_N, m_uI_R, m_uI_L, m_uI_I, m_uL_K, m_uL_N, m_uL_R, m_uL_I, m_uL_L, m_uR_K, m_uR_N, m_uR_I, m_uR_L, m_uR_R, true_and, and_true, true_implies, false_implies, not_true_eq_false, not_false_eq_true, if_true, if_false, false_and, and_false]
    rw [br_p h8]
    exact h9
  simp +decide only [qX2_readRule_0, qX2_readRule_1, lx hL, am_w1_i, am_w1_r, am_w1_x, am_w1_l, am_w1_w, va_rf_s, am_push_n, am_push_s, am_cs_0, am_cs_i, am_cs_l, am_cs_r, m_uI_K, m_uI_N, m_uI_R, m_uI_L, m_uI_I, m_uL_K, m_uL_N, m_uL_R, m_uL_I, m_uL_L, m_uR_K, m_uR_N, m_uR_I, m_uR_L, m_uR_R, true_and, and_true, true_implies, false_implies, not_true_eq_false, not_false_eq_true, if_true, if_false, false_and, and_false]
  rw [show (18 : Int32) = nI 18 from rfl]
  refine c_x_takeWord (d + 117) n 18 T (.inr t2) M1 _ hL (by omega) hst (fun M2 g2 h2 => ?_)
  have L2 := gF_LayN g2 hL
  have p2 : mR M2 164 1 = some z := by rw [g2.2.2.1 _ _ (fun q => q)]; exact hp
  have F2 : FmX M2 z c1 := FmX_g hF g2 (fun q => by unfold sRd at q; omega)
  have rl2 : RlC M2 z q sm R c := RlC_g hrl g2 (fun a j q1 q2 w => by unfold sRd at w; unfold isRq at hq; omega) (fun j hj w => by unfold sRd at w; omega)
  have G2 := gF_trans hg (sRd_P (z := z) (c := c) g2)
  simp +decide only [qX2_readRule_0, qX2_readRule_1, lx L2, lz L2 hz, p2, F2.1, jk_w j4, am_w1_i, am_w1_r, am_w1_x, am_w1_l, am_w1_w, va_rf_s, am_push_n, am_push_s, am_cs_0, am_cs_i, am_cs_l, am_cs_r, m_uI_K, m_uI_N, m_uI_R, m_uI_L, m_uI_I, m_uL_K, m_uL_N, m_uL_R, m_uL_I, m_uL_L, m_uR_K, m_uR_N, m_uR_I, m_uR_L, m_uR_R, true_and, and_true, true_implies, false_implies, not_true_eq_false, not_false_eq_true, if_true, if_false, false_and, and_false]
  rw [show (0 : Int32) = nI 0 from rfl]
  cases hw : wordR T n 18 (.inr t2) with
  | inl e =>
    rw [hw] at h2
    refine f_test (d + 112) (nI 0) e M2 _ L2 hz ⟨h2, p2, c1, F2⟩ (fun M3 g3 F3 => ?_)
    have h9 := bad M3 e (nI c1) (by unfold ruK; rw [hw]; rfl) (gF_trans (sPz_S G2) (sFz_S g3)) F3
    simp +decide only [qX2_readRule_0, qX2_readRule_1, lx (gF_LayN g3 L2), am_w1_i, am_w1_r, am_w1_x, am_w1_l, am_w1_w, va_rf_s, am_push_n, am_push_s, am_cs_0, am_cs_i, am_cs_l, am_cs_r, m_uI_K, m_uI_N, m_uI_R, m_uI_L, m_uI_I, m_uL_K, m_uL_N, m_uL_R, m_uL_I, m_uL_L, m_uR_K, m_uR_N, m_uR_I, m_uR_L, m_uR_R, true_and, and_true, true_implies, false_implies, not_true_eq_false, not_false_eq_true, if_true, if_false, false_and, and_false] at h9 ⊢
    exact h9
  | inr t3 =>
    rw [hw] at h2
    have h2' : RdX M2 T n t3 := h2
    have hG3 := h2'.2.2.2.2.2.2.2.2.1
    have ht3 : tS t2 < tS t3 := by
      have e : wordR T n 18 (.inr t2) = if isW t2 (ownW.getD 18 []) = true then advR T n t2 else .inl (1, tS t2) := rfl
      rw [e] at hw
      by_cases cw : isW t2 (ownW.getD 18 []) = true
      · rw [if_pos cw] at hw
        have ha : AfR T n t2 (.inr t3) := by rw [← hw]; exact AfR_1 hR.2.2.2.2.2.2.2.2.1.1
        exact AfR_lt hR.2.2.2.2.2.2.2.2.1 (by have := (isW_1 cw).1; omega) ha
      · rw [if_neg cw] at hw; cases hw
    have hGo : GoX T n z M2 c1 c1 [] t3 := ⟨L2, p2, h2', F2, ⟨Nat.le_refl _, fun j hj => absurd hj (by omega), by rw [Nat.sub_self]; rfl⟩, by omega⟩
    obtain ⟨res, hres⟩ := ps_some (T := T) (n := n) (g := 5) t3 (by omega) hG3.1 (fun _ => 0)
    refine (g_all hz hn (fuelP n)).2.1 (d + 119) 0 t3 (fun _ => 0) c1 c1 [] M2 _ res (by omega) (by omega) hGo (by show 0 ≤ _; omega) hres (fun M3 P3 => ?_)
    have eK : ruK T n t2 v = psX T n 5 t3 (fun t4 w => .inr (t4, v, w)) := by unfold ruK; rw [hw]; rfl
    unfold psX at eK
    rw [hres] at eK
    cases res with
    | inl e =>
      obtain ⟨g3, F3⟩ : gF (sFz z) nT M2 M3 ∧ FaX M3 z T n e := P3
      have h9 := bad M3 e (nI c1) eK (gF_trans (sPz_S G2) (sFz_S g3)) F3
      simp +decide only [qX2_readRule_0, qX2_readRule_1, lx (gF_LayN g3 L2), am_w1_i, am_w1_r, am_w1_x, am_w1_l, am_w1_w, va_rf_s, am_push_n, am_push_s, am_cs_0, am_cs_i, am_cs_l, am_cs_r, m_uI_K, m_uI_N, m_uI_R, m_uI_L, m_uI_I, m_uL_K, m_uL_N, m_uL_R, m_uL_I, m_uL_L, m_uR_K, m_uR_N, m_uR_I, m_uR_L, m_uR_R, true_and, and_true, true_implies, false_implies, not_true_eq_false, not_false_eq_true, if_true, if_false, false_and, and_false] at h9 ⊢
      exact h9
    | inr p =>
      obtain ⟨g3, c3, G3, hc3, hc3'⟩ : gF (sPz z c1) nT M2 M3 ∧ ∃ c', GoX T n z M3 c1 c' [p.2] p.1 ∧ c1 ≤ c' ∧ c' + tS t3 ≤ c1 + tS p.1 := P3
      obtain ⟨L3, p3, R3, F3, C3, hc3t⟩ := G3
      have hbt := ((ps_typ (T := T) (n := n) (fuelP n)).2.2.2.2.2.1 0 t3 (fun _ => 0) (tkG_OK hG3) p.1 p.2 hres).2
      have rl3 : RlC M3 z q sm R c := RlC_g rl2 g3 (fun a j q1 q2 w => by unfold sPz at w; unfold isRq at hq; omega) (fun j hj w => by unfold sPz at w; omega)
      have h8 := R3.2.2.1
      have hr4 : mR M3 164 0 = some 165 := by simp only [lx L3]
      have C1 : sm = true → CdX M3 z c c1 [v] ∧ bdS v := fun hs => ⟨CdX_g (CdX_g (hsum hs).1 g2 (fun j _ w => by unfold sRd at w; omega)) g3 (fun j hj w => by unfold sPz at w; omega), (hsum hs).2⟩
      simp +decide only [qX2_readRule_0, qX2_readRule_1, lx L3, lz L3 hz, lq_ L3 hz hq, p3, h8, F3.1, am_w1_i, am_w1_r, am_w1_x, am_w1_l, am_w1_w, va_rf_s, am_push_n, am_push_s, am_cs_0, am_cs_i, am_cs_l, am_cs_r, m_uI_K, m_uI_N, m_uI_R, m_uI_L, m_uI_I, m_uL_K, m_uL_N, m_uL_R, m_uL_I, m_uL_L, m_uR_K, m_uR_N, m_uR_I, m_uR_L, m_uR_R, true_and, and_true, true_implies, false_implies, not_true_eq_false, not_false_eq_true, if_true, if_false, false_and, and_false]
      rw [c_x_appendR (z := z) (d + 118) q N R.length _ _ _ M3 _ L3 hz hq rl3.1 hR12]
      simp +decide only [qX2_readRule_0, qX2_readRule_1, am_w1_i, am_w1_r, am_w1_x, am_w1_l, am_w1_w, va_rf_s, am_push_n, am_push_s, am_cs_0, am_cs_i, am_cs_l, am_cs_r, m_uI_K, m_uI_N, m_uI_R, m_uI_L, m_uI_I, m_uL_K, m_uL_N, m_uL_R, m_uL_I, m_uL_L, m_uR_K, m_uR_N, m_uR_I, m_uR_L, m_uR_R, true_and, and_true, true_implies, false_implies, not_true_eq_false, not_false_eq_true, if_true, if_false, false_and, and_false]
      have G4 : gF (fun a j => q ≤ a ∧ a ≤ q + 3) nT M3 (uI (uI (uI (uI M3 (q + 1) R.length (nI c)) (q + 2) R.length (nI c1)) (q + 3) R.length (nI c3)) q 0 (nI (R.length + 1))) := gF_trans (gF_i _ ⟨by omega, by omega⟩) (gF_trans (gF_i _ ⟨by omega, by omega⟩) (gF_trans (gF_i _ ⟨by omega, by omega⟩) (gF_i _ ⟨by omega, by omega⟩)))
      obtain ⟨M4, hM4⟩ : ∃ M4, M4 = uI (uI (uI (uI M3 (q + 1) R.length (nI c)) (q + 2) R.length (nI c1)) (q + 3) R.length (nI c3)) q 0 (nI (R.length + 1)) := ⟨_, rfl⟩
      have v0 : mI M4 q 0 = nI (R.length + 1) := by rw [hM4, m_uI_I, if_pos ⟨rfl, rfl⟩]
      have v1 : ∀ j, mI M4 (q + 1) j = if j = R.length then nI c else mI M3 (q + 1) j := fun j => by
        rw [hM4, m_uI_I, if_neg (by omega), m_uI_I, if_neg (by omega), m_uI_I, if_neg (by omega), m_uI_I]
        by_cases e : j = R.length
        · rw [if_pos ⟨rfl, e⟩, if_pos e]
        · rw [if_neg (fun w => e w.2), if_neg e]
      have v2 : ∀ j, mI M4 (q + 2) j = if j = R.length then nI c1 else mI M3 (q + 2) j := fun j => by
        rw [hM4, m_uI_I, if_neg (by omega), m_uI_I, if_neg (by omega), m_uI_I]
        by_cases e : j = R.length
        · rw [if_pos ⟨rfl, e⟩, if_pos e]
        · rw [if_neg (fun w => e w.2), m_uI_I, if_neg (by omega), if_neg e]
      have v3 : ∀ j, mI M4 (q + 3) j = if j = R.length then nI c3 else mI M3 (q + 3) j := fun j => by
        rw [hM4, m_uI_I, if_neg (by omega), m_uI_I]
        by_cases e : j = R.length
        · rw [if_pos ⟨rfl, e⟩, if_pos e]
        · rw [if_neg (fun w => e w.2), m_uI_I, if_neg (by omega), m_uI_I, if_neg (by omega), if_neg e]
      rw [← hM4] at G4 ⊢
      have L4 := gF_LayN G4 L3
      have hq7 : ¬ (q ≤ z + 7 ∧ z + 7 ≤ q + 3) := by unfold isRq at hq; omega
      have e7 : insX M4 z = insX M3 z := funext fun k => by unfold insX; rw [G4.1 _ _ hq7]
      refine hQ M4 ?_
      rw [eK]
      refine ⟨gF_trans (gF_up G2 (fun a j w => Or.inl w) (fun _ _ w => w)) (gF_trans (gF_up (sPz_le (c := c) g3 hcc) (fun a j w => Or.inl w) (fun _ _ w => w)) (gF_up G4 (fun a j w => Or.inr w) (fun _ _ w => w))), by show tS t < tS p.1; omega, fun hs => (C1 hs).2, hbt, c3, L4, by rw [G4.2.2.1 _ _ (fun w => w)]; exact p3, RdX_g R3 G4 (fun a j w w2 => by unfold isRq at hq; omega) (fun w => w), FmX_g F3 G4 (fun w => by unfold isRq at hq; omega), by omega, hc3t, ?_, fun k r hr => ?_⟩
      · rw [v0, List.length_append]; rfl
      · by_cases ek : k < R.length
        · rw [List.getElem?_append_left ek] at hr
          obtain ⟨s0, s1, s2, b1, b2, b3, b4, b5, b6, b7⟩ := rl3.2 k r hr
          rw [e7]
          exact ⟨s0, s1, s2, b1, b2, by omega, by rw [v1, if_neg (by omega)]; exact b4, by rw [v2, if_neg (by omega)]; exact b5, by rw [v3, if_neg (by omega)]; exact b6, b7⟩
        · rw [List.getElem?_append_right (by omega)] at hr
          have hl := (List.getElem?_eq_some_iff.mp hr).1
          have e2 : k = R.length := by
            simp only [List.length_cons, List.length_nil] at hl
            omega
          subst e2
          rw [Nat.sub_self] at hr
          cases hr
          rw [e7]
          exact ⟨c, c1, c3, hcc, by omega, Nat.le_refl _, by rw [v1, if_pos rfl], by rw [v2, if_pos rfl], by rw [v3, if_pos rfl], C3.2.1, C3.2.2, fun hs => ⟨(C1 hs).1.2.1, (C1 hs).1.2.2⟩⟩
/-- the whole rule -/
def spRl (T : Nat → Nat) (n : Nat) (sm full : Bool) (t : Tok) : Sum (Nat × Nat) (Tok × Den × Den) := if full = true then .inl (5, tS t) else bR (advR T n t) (fun t1 => if sm = true then psX T n 0 t1 (fun t2 v => ruK T n t2 v) else ruK T n t1 (fun _ => 0))
theorem b_rule (hz : z = 2 ∨ z = 83) (hn : n ≤ 1800) (d q N c : Nat) (sm : Bool) (R : Rls) (t : Tok) (M : am_M) (Q : Option Value → am_M → Prop) (hq : isRq z q N) (hL : Lay M) (hp : mR M 164 1 = some z) (hR : RdX M T n t) (hF : FmX M z c) (hct : c ≤ tS t) (hrl : RlC M z q sm R c) (hR12 : R.length ≤ N) (h0 : ¬ t.1 = 0)
    (hQ : ∀ M', RuX T n z q sm R c t M M' (spRl T n sm (decide (N ≤ R.length)) t) → Q none M') : am_E am_P0 (d + 120) 14 [.ref 164, .ref q, .int (b01 sm)] M Q := by
  have hst : StR M T n (.inr t) := hR
  have hG := hR.2.2.2.2.2.2.2.2.1
  have hN : N = 12 ∨ N = 6 := by unfold isRq at hq; omega
  have hif := fun Q => c_x_isFull (z := z) (d + 119) q N R.length M Q hL hz hq hrl.1 (by omega)
  rw [eX2_readRule]
  simp +decide only [qX2_readRule_0, qX2_readRule_1, lx hL, lq_ hL hz hq, hif, am_w1_i, am_w1_r, am_w1_x, am_w1_l, am_w1_w, va_rf_s, am_push_n, am_push_s, am_cs_0, am_cs_i, am_cs_l, am_cs_r, m_uI_K, m_uI_N, m_uI_R, m_uI_L, m_uI_I, m_uL_K, m_uL_N, m_uL_R, m_uL_I, m_uL_L, m_uR_K, m_uR_N, m_uR_I, m_uR_L, m_uR_R, true_and, and_true, true_implies, false_implies, not_true_eq_false, not_false_eq_true, if_true, if_false, false_and, and_false]
  refine c_x_oneMore (d + 117) _ t M _ hL hst (fun M1 g1 h1 => ?_)
  have L1 := gF_LayN g1 hL
  have p1 : mR M1 164 1 = some z := by rw [g1.2.2.1 _ _ (fun q => q)]; exact hp
  have F1 : FmX M1 z c := FmX_g hF g1 (fun q => by unfold sRd at q; omega)
  unfold spRl at hQ
  by_cases cf : N ≤ R.length
  · rw [if_pos (decide_eq_true cf)] at h1 hQ
    have h9 := hQ M1 ⟨sRd_S g1, h1, p1, c, F1⟩
    simp +decide only [qX2_readRule_0, qX2_readRule_1, decide_eq_true cf, Bool.not_true, b01, am_w1_i, am_w1_r, am_w1_x, am_w1_l, am_w1_w, va_rf_s, am_push_n, am_push_s, am_cs_0, am_cs_i, am_cs_l, am_cs_r, m_uI_K, m_uI_N, m_uI_R, m_uI_L, m_uI_I, m_uL_K, m_uL_N, m_uL_R, m_uL_I, m_uL_L, m_uR_K, m_uR_N, m_uR_I, m_uR_L, m_uR_R, true_and, and_true, true_implies, false_implies, not_true_eq_false, not_false_eq_true, if_true, if_false, false_and, and_false]
    exact h9
  · rw [if_neg (by rw [decide_eq_false cf]; decide)] at h1 hQ
    have rl1 : RlC M1 z q sm R c := RlC_g hrl g1 (fun a j q1 q2 w => by unfold sRd at w; unfold isRq at hq; omega) (fun j hj w => by unfold sRd at w; omega)
    simp +decide only [qX2_readRule_0, qX2_readRule_1, lx L1, lz L1 hz, p1, F1.1, decide_eq_false cf, Bool.not_false, b01, am_w1_i, am_w1_r, am_w1_x, am_w1_l, am_w1_w, va_rf_s, am_push_n, am_push_s, am_cs_0, am_cs_i, am_cs_l, am_cs_r, m_uI_K, m_uI_N, m_uI_R, m_uI_L, m_uI_I, m_uL_K, m_uL_N, m_uL_R, m_uL_I, m_uL_L, m_uR_K, m_uR_N, m_uR_I, m_uR_L, m_uR_R, true_and, and_true, true_implies, false_implies, not_true_eq_false, not_false_eq_true, if_true, if_false, false_and, and_false]
    -- after a fault ahead of 'when'
    have tail : ∀ M' e, (∀ M'', gF (sFz z) nT M' M'' → FaX M'' z T n e → Q none M'') → Lay M' → FaX M' z T n e → am_P am_P0 (d + 120) (am_look tX2_readRule) 32 [.ref 164, .ref q, .int (b01 sm), .int (nI c), am_x] [] M' Q := fun M' e hQ' L' F' => by
      simp +decide only [qX2_readRule_0, qX2_readRule_1, lx L', am_w1_i, am_w1_r, am_w1_x, am_w1_l, am_w1_w, va_rf_s, am_push_n, am_push_s, am_cs_0, am_cs_i, am_cs_l, am_cs_r, m_uI_K, m_uI_N, m_uI_R, m_uI_L, m_uI_I, m_uL_K, m_uL_N, m_uL_R, m_uL_I, m_uL_L, m_uR_K, m_uR_N, m_uR_I, m_uR_L, m_uR_R, true_and, and_true, true_implies, false_implies, not_true_eq_false, not_false_eq_true, if_true, if_false, false_and, and_false]
      rw [show (18 : Int32) = nI 18 from rfl]
      refine c_x_takeWord (d + 117) n 18 T (.inl e) M' _ L' (by omega) F'.1 (fun M2 g2 h2 => ?_)
      have L2 := gF_LayN g2 L'
      have F2 : FaX M2 z T n e := FaX_r F' hz h2 g2
      obtain ⟨c2, hc2⟩ := F2.2.2
      simp +decide only [qX2_readRule_0, qX2_readRule_1, lx L2, lz L2 hz, F2.2.1, hc2.1, am_w1_i, am_w1_r, am_w1_x, am_w1_l, am_w1_w, va_rf_s, am_push_n, am_push_s, am_cs_0, am_cs_i, am_cs_l, am_cs_r, m_uI_K, m_uI_N, m_uI_R, m_uI_L, m_uI_I, m_uL_K, m_uL_N, m_uL_R, m_uL_I, m_uL_L, m_uR_K, m_uR_N, m_uR_I, m_uR_L, m_uR_R, true_and, and_true, true_implies, false_implies, not_true_eq_false, not_false_eq_true, if_true, if_false, false_and, and_false]
      refine f_test (d + 112) 0 e M2 _ L2 hz F2 (fun M3 g3 F3 => ?_)
      have L3 := gF_LayN g3 L2
      have h8 := FtX_8 F3.1
      have h9 := hQ' M3 (gF_trans (sRd_F g2) g3) F3
      simp +decide only [qX2_readRule_0, qX2_readRule_1, lx L3, am_w1_i, am_w1_r, am_w1_x, am_w1_l, am_w1_w, va_rf_s, am_push_n, am_push_s, am_cs_0, am_cs_i, am_cs_l, am_cs_r, m_uI_K, m_uI_N, m_uI_R, m_uI_L, m_uI_I, m_uL_K, m_uL_N, m_uL_R, m_uL_I, m_uL_L, m_uR_K, m_uR_N, m_uR_I, m_uR_L, m_uR_R, true_and, and_true, true_implies, false_implies, not_true_eq_false, not_false_eq_true, if_true, if_false, false_and, and_false]
      rw [br_p h8]
      exact h9
    cases ha : advR T n t with
    | inl e =>
      rw [ha] at h1 hQ
      have F1' : FaX M1 z T n e := ⟨h1, p1, c, F1⟩
      cases sm with
      | true =>
        simp +decide only [qX2_readRule_0, qX2_readRule_1, lx L1, b01, am_w1_i, am_w1_r, am_w1_x, am_w1_l, am_w1_w, va_rf_s, am_push_n, am_push_s, am_cs_0, am_cs_i, am_cs_l, am_cs_r, m_uI_K, m_uI_N, m_uI_R, m_uI_L, m_uI_I, m_uL_K, m_uL_N, m_uL_R, m_uL_I, m_uL_L, m_uR_K, m_uR_N, m_uR_I, m_uR_L, m_uR_R, true_and, and_true, true_implies, false_implies, not_true_eq_false, not_false_eq_true, if_true, if_false, false_and, and_false]
        refine f_sum (d + 115) 0 e M1 _ L1 hz F1' (fun M2 g2 F2 => ?_)
        have h9 := tail M2 e (fun M'' g'' F'' => hQ M'' ⟨gF_trans (sRd_S g1) (sFz_S (gF_trans g2 g'')), F''⟩) (gF_LayN g2 L1) F2
        simp +decide only [qX2_readRule_0, qX2_readRule_1, lx (gF_LayN g2 L1), b01, am_w1_i, am_w1_r, am_w1_x, am_w1_l, am_w1_w, va_rf_s, am_push_n, am_push_s, am_cs_0, am_cs_i, am_cs_l, am_cs_r, m_uI_K, m_uI_N, m_uI_R, m_uI_L, m_uI_I, m_uL_K, m_uL_N, m_uL_R, m_uL_I, m_uL_L, m_uR_K, m_uR_N, m_uR_I, m_uR_L, m_uR_R, true_and, and_true, true_implies, false_implies, not_true_eq_false, not_false_eq_true, if_true, if_false, false_and, and_false] at h9 ⊢
        exact h9
      | false =>
        have h9 := tail M1 e (fun M'' g'' F'' => hQ M'' ⟨gF_trans (sRd_S g1) (sFz_S g''), F''⟩) L1 F1'
        simp +decide only [qX2_readRule_0, qX2_readRule_1, lx L1, b01, am_w1_i, am_w1_r, am_w1_x, am_w1_l, am_w1_w, va_rf_s, am_push_n, am_push_s, am_cs_0, am_cs_i, am_cs_l, am_cs_r, m_uI_K, m_uI_N, m_uI_R, m_uI_L, m_uI_I, m_uL_K, m_uL_N, m_uL_R, m_uL_I, m_uL_L, m_uR_K, m_uR_N, m_uR_I, m_uR_L, m_uR_R, true_and, and_true, true_implies, false_implies, not_true_eq_false, not_false_eq_true, if_true, if_false, false_and, and_false] at h9 ⊢
        exact h9
    | inr t1 =>
      rw [ha] at h1 hQ
      have h1' : RdX M1 T n t1 := h1
      have hG1 := h1'.2.2.2.2.2.2.2.2.1
      have htt : tS t < tS t1 := AfR_lt hG h0 (by rw [← ha]; exact AfR_1 hG.1)
      cases sm with
      | false =>
        have h9 := l_x_rule2 hz hn d q N c c false R t t1 (fun _ => 0) M M1 Q hq (by omega) L1 p1 h1' F1 (Nat.le_refl _) (by omega) htt rl1 (sRd_P g1) (fun q => by cases q) am_x (Or.inl rfl) hQ
        simp +decide only [qX2_readRule_0, qX2_readRule_1, lx L1, b01, am_w1_i, am_w1_r, am_w1_x, am_w1_l, am_w1_w, va_rf_s, am_push_n, am_push_s, am_cs_0, am_cs_i, am_cs_l, am_cs_r, m_uI_K, m_uI_N, m_uI_R, m_uI_L, m_uI_I, m_uL_K, m_uL_N, m_uL_R, m_uL_I, m_uL_L, m_uR_K, m_uR_N, m_uR_I, m_uR_L, m_uR_R, true_and, and_true, true_implies, false_implies, not_true_eq_false, not_false_eq_true, if_true, if_false, false_and, and_false] at h9 ⊢
        exact h9
      | true =>
        have hGo : GoX T n z M1 c c [] t1 := ⟨L1, p1, h1', F1, ⟨Nat.le_refl _, fun j hj => absurd hj (by omega), by rw [Nat.sub_self]; rfl⟩, by omega⟩
        obtain ⟨res, hres⟩ := ps_some (T := T) (n := n) (g := 0) t1 (by omega) hG1.1 (fun _ => 0)
        have hQ' : ∀ M', RuX T n z q true R c t M M' (psX T n 0 t1 (fun t2 v => ruK T n t2 v)) → Q none M' := hQ
        unfold psX at hQ'
        rw [hres] at hQ'
        simp +decide only [qX2_readRule_0, qX2_readRule_1, lx L1, b01, am_w1_i, am_w1_r, am_w1_x, am_w1_l, am_w1_w, va_rf_s, am_push_n, am_push_s, am_cs_0, am_cs_i, am_cs_l, am_cs_r, m_uI_K, m_uI_N, m_uI_R, m_uI_L, m_uI_I, m_uL_K, m_uL_N, m_uL_R, m_uL_I, m_uL_L, m_uR_K, m_uR_N, m_uR_I, m_uR_L, m_uR_R, true_and, and_true, true_implies, false_implies, not_true_eq_false, not_false_eq_true, if_true, if_false, false_and, and_false]
        rw [show (0 : Int32) = nI 0 from rfl]
        refine (g_all hz hn (fuelP n)).1.1 (d + 119) 0 t1 (fun _ => 0) c c [] M1 _ res (by omega) (by omega) hGo (by show 0 ≤ _; omega) hres (fun M2 P2 => ?_)
        cases res with
        | inl e =>
          obtain ⟨g2, F2⟩ : gF (sFz z) nT M1 M2 ∧ FaX M2 z T n e := P2
          have h9 := tail M2 e (fun M'' g'' F'' => hQ' M'' ⟨gF_trans (sRd_S g1) (sFz_S (gF_trans g2 g'')), F''⟩) (gF_LayN g2 L1) F2
          simp +decide only [qX2_readRule_0, qX2_readRule_1, lx (gF_LayN g2 L1), b01, am_w1_i, am_w1_r, am_w1_x, am_w1_l, am_w1_w, va_rf_s, am_push_n, am_push_s, am_cs_0, am_cs_i, am_cs_l, am_cs_r, m_uI_K, m_uI_N, m_uI_R, m_uI_L, m_uI_I, m_uL_K, m_uL_N, m_uL_R, m_uL_I, m_uL_L, m_uR_K, m_uR_N, m_uR_I, m_uR_L, m_uR_R, true_and, and_true, true_implies, false_implies, not_true_eq_false, not_false_eq_true, if_true, if_false, false_and, and_false] at h9 ⊢
          exact h9
        | inr p =>
          obtain ⟨g2, c2, G2, hc2, hc2'⟩ : gF (sPz z c) nT M1 M2 ∧ ∃ c', GoX T n z M2 c c' [p.2] p.1 ∧ c ≤ c' ∧ c' + tS t1 ≤ c + tS p.1 := P2
          obtain ⟨L2, p2, R2, F2, C2, hc2t⟩ := G2
          have hbs := ((ps_typ (T := T) (n := n) (fuelP n)).1 0 t1 (fun _ => 0) (tkG_OK hG1) p.1 p.2 hres).2
          have rl2 : RlC M2 z q true R c := RlC_g rl1 g2 (fun a j q1 q2 w => by unfold sPz at w; unfold isRq at hq; omega) (fun j hj w => by unfold sPz at w; omega)
          have h9 := l_x_rule2 hz hn d q N c c2 true R t p.1 p.2 M M2 Q hq (by omega) L2 p2 R2 F2 hc2 hc2t (by omega) rl2 (gF_trans (sRd_P g1) g2) (fun _ => ⟨C2, hbs⟩) am_x (Or.inl rfl) hQ'
          simp +decide only [qX2_readRule_0, qX2_readRule_1, lx L2, b01, am_w1_i, am_w1_r, am_w1_x, am_w1_l, am_w1_w, va_rf_s, am_push_n, am_push_s, am_cs_0, am_cs_i, am_cs_l, am_cs_r, m_uI_K, m_uI_N, m_uI_R, m_uI_L, m_uI_I, m_uL_K, m_uL_N, m_uL_R, m_uL_I, m_uL_L, m_uR_K, m_uR_N, m_uR_I, m_uR_L, m_uR_R, true_and, and_true, true_implies, false_implies, not_true_eq_false, not_false_eq_true, if_true, if_false, false_and, and_false] at h9 ⊢
          exact h9
end
