/-! the model's statements: rules -/
theorem m_first (d k : Nat) (M : am_M) (Q : Option Value → am_M → Prop) : am_E am_P0 d 179 [.int (nI k)] M Q ↔ Q (some (.int (nI (12 * k)))) M := by
  have e : (12 : Int32) * nI k = nI (12 * k) := by rw [show (12 : Int32) = nI 12 from rfl, ni_mul]
  rw [eX11_firstRule]
  simp +decide only [qX11_firstRule, e, am_w1_i, am_w1_r, am_w1_x, am_w1_l, am_w1_w, va_rf_s, am_push_n, am_push_s, am_cs_0, am_cs_i, am_cs_l, am_cs_r, m_uI_K, m_uI_N, m_uI_R, m_uI_L, m_uI_I, m_uL_K, m_uL_N, m_uL_R, m_uL_I, m_uL_L, m_uR_K, m_uR_N, m_uR_I, m_uR_L, m_uR_R, true_and, and_true, true_implies, false_implies, not_true_eq_false, not_false_eq_true, if_true, if_false, false_and, and_false]
theorem m_most (d k : Nat) (M : am_M) (Q : Option Value → am_M → Prop) (hk : k ≤ 2) : am_E am_P0 d 180 [.int (nI k)] M Q ↔ Q (some (.int (nI (if k = 2 then 6 else 12)))) M := by
  have e2 : nI k = 2 ↔ k = 2 := ni_eq (a := k) (b := 2) (by omega) (by omega)
  rw [eX11_mostRules]
  simp +decide only [qX11_mostRules, e2, am_w1_i, am_w1_r, am_w1_x, am_w1_l, am_w1_w, va_rf_s, am_push_n, am_push_s, am_cs_0, am_cs_i, am_cs_l, am_cs_r, m_uI_K, m_uI_N, m_uI_R, m_uI_L, m_uI_I, m_uL_K, m_uL_N, m_uL_R, m_uL_I, m_uL_L, m_uR_K, m_uR_N, m_uR_I, m_uR_L, m_uR_R, true_and, and_true, true_implies, false_implies, not_true_eq_false, not_false_eq_true, if_true, if_false, false_and, and_false]
  by_cases c : k = 2
  · rw [br_r c, if_pos c]; exact Iff.rfl
  · rw [br_q c, if_neg c]; exact Iff.rfl
def sRu (z c J kd a j : Nat) : Prop := sFm z c a j ∨ ((282 ≤ a ∧ a ≤ 284) ∧ j = J) ∨ (a = 281 ∧ j = 3 * z + kd)
section
variable {T : Nat → Nat} {n z : Nat}
theorem advR_V {t t' : Tok} (hE : tE t ≤ n) (h : advR T n t = .inr t') : tkV T n t' := by
  unfold advR at h
  split at h
  · cases h
  · cases h; exact (tk_V T n (tE t) hE).1
theorem wordR_V {t t' : Tok} {k : Nat} (hE : tE t ≤ n) (h : wordR T n k (.inr t) = .inr t') : tkV T n t' ∧ advR T n t = .inr t' ∧ isW t (ownW.getD k []) = true := by
  have e : wordR T n k (.inr t) = if isW t (ownW.getD k []) = true then advR T n t else .inl (1, tS t) := rfl
  rw [e] at h
  split at h
  · rename_i q; exact ⟨advR_V hE h, h, q⟩
  · cases h
theorem advR_lt {t t' : Tok} (hG : tkG T n t) (h0 : ¬ t.1 = 0) (h : advR T n t = .inr t') : tS t < tS t' := AfR_lt hG h0 (by rw [← h]; exact AfR_1 hG.1)
def RuM (T : Nat → Nat) (n z kd : Nat) (sm : Bool) (R : Rls) (c J : Nat) (t : Tok) (M M' : am_M) : Sum (Nat × Nat) (Tok × Den × Den) → Prop
  | .inl e => gF (sSm z) nT M M' ∧ FtM M' T n e.1 e.2
  | .inr p => gF (sRu z c J kd) nT M M' ∧ tS t < tS p.1 ∧ (sm = true → bdS p.2.1) ∧ bdT p.2.2 ∧ ∃ c', RdM M' T n p.1 ∧ FmM M' z c' ∧ c ≤ c' ∧ c' ≤ tS p.1 ∧ RlM M' z kd sm (R ++ [p.2]) c'
theorem sRu_S {c J kd : Nat} {M M' : am_M} (h : gF (sRu z c J kd) nT M M') (hJ : 30 * z ≤ J ∧ J < 30 * z + 30) (hk : kd ≤ 2) : gF (sSm z) nT M M' := gF_up h (fun a j q => by
  rcases q with q | q | q
  · rcases q with q | q | q
    · exact sS_0 q
    · exact sS_8 (by omega)
    · exact sS_9 q
  · exact sS_3 (by omega)
  · exact sS_2 (by omega)) (fun _ _ q => q)
theorem k_rule (d c kd N : Nat) (sm : Bool) (R : Rls) (t : Tok) (M : am_M) (Q : Option Value → am_M → Prop) (hL : Lay M) (hR : RdM M T n t) (hF : FmM M z c) (hct : c ≤ tS t) (hk : (kd ≤ 1 ∧ sm = true ∧ N = 12) ∨ (kd = 2 ∧ sm = false ∧ N = 6)) (hrl : RlM M z kd sm R c) (hRN : R.length ≤ N) (h0 : ¬ t.1 = 0)
    (hQ : ∀ M', RuM T n z kd sm R c (30 * z + 12 * kd + R.length) t M M' (spRl T n sm (decide (N ≤ R.length)) t) → Q none M') : am_E am_P0 (d + 5) 198 [.ref 277, .int (nI kd)] M Q := by
  have hz := hF.2.2.2
  have hG : tkG T n t := hR.2.2.2.2.2.2.2.2
  have hEn := hG.1
  obtain ⟨m, hm⟩ : ∃ m, m = R.length := ⟨_, rfl⟩
  obtain ⟨J, hJ⟩ : ∃ J, J = 30 * z + 12 * kd + m := ⟨_, rfl⟩
  rw [← hm, ← hJ] at hQ
  rw [← hm] at hRN
  have hk2 : kd ≤ 2 := by omega
  have hN : N = if kd = 2 then 6 else 12 := by
    rcases hk with ⟨q1, -, q3⟩ | ⟨q1, -, q3⟩
    · rw [if_neg (by omega)]; exact q3
    · rw [if_pos q1]; exact q3
  have eK : (3 : Int32) * nI z + nI kd = nI (3 * z + kd) := by rw [show (3 : Int32) = nI 3 from rfl, ni_mul, ni_add]
  have hmN : nI m = nI N ↔ m = N := ni_eq (by omega) (by omega)
  have n0 := hrl.1
  rw [← hm] at n0
  -- the end after a fault, from the test on
  have badE : ∀ e M3, m < N → gF (sSm z) nT M M3 → FtM M3 T n e.1 e.2 → (∀ M', RuM T n z kd sm R c J t M M' (.inl e) → Q none M') → am_P am_P0 (d + 5) (am_look tX11_rule) 109 [.ref 277, .int (nI kd), .int (nI J)] [] M3 Q := by
    intro e M3 hmn G3 h3 hQ3
    have L3 := gF_LayN G3 hL
    have hg : gF (fun a j => a = 284 ∧ j = J) nT M3 (uI M3 284 J (mI M3 277 40)) := gF_i _ ⟨rfl, rfl⟩
    have h9 := hQ3 (uI M3 284 J (mI M3 277 40)) ⟨gF_trans G3 (gF_up hg (fun a j q => sS_3 (by omega)) (fun _ _ q => q)), FtM_g h3 hg (fun a j q w => by omega)⟩
    have hp := (FtM_pos h3).2.1
    simp +decide (disch := omega) only [qX11_rule_0, qX11_rule_1, qX11_rule_2, lm L3, ni_in_t, ni_tn, am_w1_i, am_w1_r, am_w1_x, am_w1_l, am_w1_w, va_rf_s, am_push_n, am_push_s, am_cs_0, am_cs_i, am_cs_l, am_cs_r, m_uI_K, m_uI_N, m_uI_R, m_uI_L, m_uI_I, m_uL_K, m_uL_N, m_uL_R, m_uL_I, m_uL_L, m_uR_K, m_uR_N, m_uR_I, m_uR_L, m_uR_R, true_and, and_true, true_implies, false_implies, not_true_eq_false, not_false_eq_true, if_true, if_false, false_and, and_false]
    rw [br_p hp]
    exact h9
  have bad80 : ∀ e M3, m < N → gF (sSm z) nT M M3 → FtM M3 T n e.1 e.2 → (∀ M', RuM T n z kd sm R c J t M M' (.inl e) → Q none M') → am_P am_P0 (d + 5) (am_look tX11_rule) 87 [.ref 277, .int (nI kd), .int (nI J)] [] M3 Q := by
    intro e M3 hmn G3 h3 hQ3
    have L3 := gF_LayN G3 hL
    have hg : gF (fun a j => a = 283 ∧ j = J) nT M3 (uI M3 283 J (mI M3 277 40)) := gF_i _ ⟨rfl, rfl⟩
    have hp := (FtM_pos h3).2.1
    have h9 := badE e (uI M3 283 J (mI M3 277 40)) hmn (gF_trans G3 (gF_up hg (fun a j q => sS_3 (by omega)) (fun _ _ q => q))) (FtM_g h3 hg (fun a j q w => by omega)) hQ3
    simp +decide (disch := omega) only [qX11_rule_0, qX11_rule_1, qX11_rule_2, lm L3, ni_in_t, ni_tn, am_w1_i, am_w1_r, am_w1_x, am_w1_l, am_w1_w, va_rf_s, am_push_n, am_push_s, am_cs_0, am_cs_i, am_cs_l, am_cs_r, m_uI_K, m_uI_N, m_uI_R, m_uI_L, m_uI_I, m_uL_K, m_uL_N, m_uL_R, m_uL_I, m_uL_L, m_uR_K, m_uR_N, m_uR_I, m_uR_L, m_uR_R, true_and, and_true, true_implies, false_implies, not_true_eq_false, not_false_eq_true, if_true, if_false, false_and, and_false] at h9 ⊢
    rw [br_p hp]
    exact h9
  -- from the word behind the sum on
  have tail : ∀ (t2 : Tok) (v : Den) (c1 : Nat) (M2 : am_M), m < N → gF (sRu z c J kd) nT M M2 → RdM M2 T n t2 → FmM M2 z c1 → c ≤ c1 → c1 ≤ tS t2 → tS t < tS t2 → mI M2 282 J = nI c → RlM M2 z kd sm R c → (sm = true → CdM M2 z c c1 [v] ∧ bdS v) → (∀ M', RuM T n z kd sm R c J t M M' (ruK T n t2 v) → Q none M') → am_P am_P0 (d + 5) (am_look tX11_rule) 80 [.ref 277, .int (nI kd), .int (nI J)] [] M2 Q := by
    intro t2 v c1 M2 hmn G2 R2 F2 hcc hct2 htt v282 rl2 hsum hQ2
    have L2 := gF_LayN G2 hL
    have hG2 : tkG T n t2 := R2.2.2.2.2.2.2.2.2
    have hcl := F2.2.1
    simp +decide (disch := omega) only [qX11_rule_0, qX11_rule_1, qX11_rule_2, lm L2, am_w1_i, am_w1_r, am_w1_x, am_w1_l, am_w1_w, va_rf_s, am_push_n, am_push_s, am_cs_0, am_cs_i, am_cs_l, am_cs_r, m_uI_K, m_uI_N, m_uI_R, m_uI_L, m_uI_I, m_uL_K, m_uL_N, m_uL_R, m_uL_I, m_uL_L, m_uR_K, m_uR_N, m_uR_I, m_uR_L, m_uR_R, true_and, and_true, true_implies, false_implies, not_true_eq_false, not_false_eq_true, if_true, if_false, false_and, and_false]
    refine m_word2 (d + 2) 18 2003330414 (.inr t2) M2 _ L2 (by omega) (by decide) R2 (fun M3 g3 s3 => ?_)
    have G3 := gF_trans G2 (gF_up g3 (fun a j q => Or.inl (by unfold sRm at q; unfold sFm; omega)) (fun _ _ q => q) : gF (sRu z c J kd) nT M2 M3)
    have L3 := gF_LayN G3 hL
    have F3 := FmM_R F2 g3
    unfold ruK at hQ2
    suffices key : am_P am_P0 (d + 5) (am_look tX11_rule) 87 [.ref 277, .int (nI kd), .int (nI J)] [] M3 Q by
      simp +decide (disch := omega) only [qX11_rule_0, qX11_rule_1, qX11_rule_2, lm L3, ni_in_t, ni_tn, am_w1_i, am_w1_r, am_w1_x, am_w1_l, am_w1_w, va_rf_s, am_push_n, am_push_s, am_cs_0, am_cs_i, am_cs_l, am_cs_r, m_uI_K, m_uI_N, m_uI_R, m_uI_L, m_uI_I, m_uL_K, m_uL_N, m_uL_R, m_uL_I, m_uL_L, m_uR_K, m_uR_N, m_uR_I, m_uR_L, m_uR_R, true_and, and_true, true_implies, false_implies, not_true_eq_false, not_false_eq_true, if_true, if_false, false_and, and_false] at key ⊢
      exact key
    cases hw : wordR T n 18 (.inr t2) with
    | inl e =>
      rw [hw] at s3 hQ2
      exact bad80 e M3 hmn (sRu_S G3 (by omega) hk2) s3 hQ2
    | inr t3 =>
      rw [hw] at s3 hQ2
      have R3 : RdM M3 T n t3 := s3
      obtain ⟨hV3, ha3, hw3⟩ := wordR_V hG2.1 hw
      have hlt3 := advR_lt hG2 (isW_n0 hw3) ha3
      have hG3 : tkG T n t3 := R3.2.2.2.2.2.2.2.2
      have wA : gF (fun a j => a = 283 ∧ j = J) nT M3 (uI M3 283 J (nI c1)) := gF_i _ ⟨rfl, rfl⟩
      obtain ⟨A3, hA3⟩ : ∃ A3, A3 = uI M3 283 J (nI c1) := ⟨_, rfl⟩
      rw [← hA3] at wA
      have GA := gF_trans G3 (gF_up wA (fun a j q => Or.inr (Or.inl (by omega))) (fun _ _ q => q) : gF (sRu z c J kd) nT M3 A3)
      have LA := gF_LayN wA L3
      have RA : RdM A3 T n t3 := RdM_g R3 wA (fun a j q w => by omega)
      have FA : FmM A3 z c1 := FmM_g F3 wA (fun j q w => by omega)
      have v283 : mI A3 283 J = nI c1 := by rw [hA3, m_uI_I, if_pos ⟨rfl, rfl⟩]
      have v282A : mI A3 282 J = nI c := by rw [hA3, m_uI_I, if_neg (by omega), g3.1 _ _ (fun w => by unfold sRm at w; omega)]; exact v282
      have rlA : RlM A3 z kd sm R c := RlM_g (RlM_g rl2 (by omega) g3 (fun w => by unfold sRm at w; omega) (fun a j q1 q2 q3 w => by unfold sRm at w; omega) (fun a j q1 q2 q3 w => by unfold sRm at w; omega)) (by omega) wA (fun w => by omega) (fun a j q1 q2 q3 w => by omega) (fun a j q1 q2 q3 w => by omega)
      have sumA : sm = true → CdM A3 z c c1 [v] ∧ bdS v := fun hs => ⟨CdM_g (CdM_g (hsum hs).1 g3 (fun a j q _ _ w => by unfold sRm at w; omega)) wA (fun a j q _ _ w => by omega), (hsum hs).2⟩
      obtain ⟨res, hres⟩ := ps_some (T := T) (n := n) (g := 5) t3 (by omega) hG3.1 (fun _ => 0)
      have hQ3 : ∀ M', RuM T n z kd sm R c J t M M' (psX T n 5 t3 (fun t4 w => .inr (t4, v, w))) → Q none M' := hQ2
      unfold psX at hQ3
      rw [hres] at hQ3
      simp +decide (disch := omega) only [qX11_rule_0, qX11_rule_1, qX11_rule_2, lm L3, F3.1, ni_in_t, ni_tn, R3.2.1, ← hA3, am_w1_i, am_w1_r, am_w1_x, am_w1_l, am_w1_w, va_rf_s, am_push_n, am_push_s, am_cs_0, am_cs_i, am_cs_l, am_cs_r, m_uI_K, m_uI_N, m_uI_R, m_uI_L, m_uI_I, m_uL_K, m_uL_N, m_uL_R, m_uL_I, m_uL_L, m_uR_K, m_uR_N, m_uR_I, m_uR_L, m_uR_R, true_and, and_true, true_implies, false_implies, not_true_eq_false, not_false_eq_true, if_true, if_false, false_and, and_false]
      simp +decide (disch := omega) only [qX11_rule_0, qX11_rule_1, qX11_rule_2, lm LA, RA.2.1, am_w1_i, am_w1_r, am_w1_x, am_w1_l, am_w1_w, va_rf_s, am_push_n, am_push_s, am_cs_0, am_cs_i, am_cs_l, am_cs_r, m_uI_K, m_uI_N, m_uI_R, m_uI_L, m_uI_I, m_uL_K, m_uL_N, m_uL_R, m_uL_I, m_uL_L, m_uR_K, m_uR_N, m_uR_I, m_uR_L, m_uR_R, true_and, and_true, true_implies, false_implies, not_true_eq_false, not_false_eq_true, if_true, if_false, false_and, and_false]
      refine m_reads d z c1 true t3 res A3 _ LA RA hV3 FA (by omega) hres (fun M4 g4 h4 => ?_)
      have G4 := gF_trans GA (gF_up g4 (fun a j q => Or.inl (by unfold sFm at q ⊢; omega)) (fun _ _ q => q) : gF (sRu z c J kd) nT A3 M4)
      have L4 := gF_LayN g4 LA
      suffices key : am_P am_P0 (d + 5) (am_look tX11_rule) 109 [.ref 277, .int (nI kd), .int (nI J)] [] M4 Q by
        simp +decide (disch := omega) only [qX11_rule_0, qX11_rule_1, qX11_rule_2, lm L4, ni_in_t, ni_tn, am_w1_i, am_w1_r, am_w1_x, am_w1_l, am_w1_w, va_rf_s, am_push_n, am_push_s, am_cs_0, am_cs_i, am_cs_l, am_cs_r, m_uI_K, m_uI_N, m_uI_R, m_uI_L, m_uI_I, m_uL_K, m_uL_N, m_uL_R, m_uL_I, m_uL_L, m_uR_K, m_uR_N, m_uR_I, m_uR_L, m_uR_R, true_and, and_true, true_implies, false_implies, not_true_eq_false, not_false_eq_true, if_true, if_false, false_and, and_false] at key ⊢
        exact key
      cases res with
      | inl e => exact badE e M4 hmn (sRu_S G4 (by omega) hk2) h4 hQ3
      | inr p =>
        obtain ⟨R4, ⟨c2, F4, C4, hc2⟩, htk4⟩ := h4
        have hbt := ((ps_typ (T := T) (n := n) (fuelP n)).2.2.2.2.2.1 0 t3 (fun _ => 0) (tkG_OK hG3) p.1 p.2 hres).2
        have i4 := F4.2.2.1
        have rl4 : RlM M4 z kd sm R c := RlM_g rlA (by omega) g4 (fun w => by unfold sFm at w; omega) (fun a j q1 q2 q3 w => by unfold sFm at w; omega) (fun a j q1 q2 q3 w => by unfold sFm at w; omega)
        have n4 := rl4.1
        rw [← hm] at n4
        have sum4 : sm = true → CdM M4 z c c1 [v] ∧ bdS v := fun hs => ⟨CdM_g (sumA hs).1 g4 (fun a j q q2 q3 w => by unfold sFm at w; omega), (sumA hs).2⟩
        have w5 : gF (fun a j => (a = 284 ∧ j = J) ∨ (a = 281 ∧ j = 3 * z + kd)) nT M4 (uI (uI M4 284 J (nI c2)) 281 (3 * z + kd) (nI (m + 1))) := gF_trans (gF_i _ (Or.inl ⟨rfl, rfl⟩)) (gF_i _ (Or.inr ⟨rfl, rfl⟩))
        have htt4 : tS t < tS p.1 := by omega
        have h9 := hQ3 (uI (uI M4 284 J (nI c2)) 281 (3 * z + kd) (nI (m + 1))) ⟨gF_trans G4 (gF_up w5 (fun a j q => Or.inr (by omega)) (fun _ _ q => q)), htt4, fun hs => (sum4 hs).2, hbt, c2, RdM_g R4 w5 (fun a j q w => by omega), FmM_g F4 w5 (fun j q w => by omega), by have := C4.1; show c ≤ c2; omega, hc2, ?_⟩
        · simp +decide (disch := omega) only [qX11_rule_0, qX11_rule_1, qX11_rule_2, lm L4, F4.1, i4, eK, n4, R4.2.1, ni_in_t, ni_tn, ni_add1, am_w1_i, am_w1_r, am_w1_x, am_w1_l, am_w1_w, va_rf_s, am_push_n, am_push_s, am_cs_0, am_cs_i, am_cs_l, am_cs_r, m_uI_K, m_uI_N, m_uI_R, m_uI_L, m_uI_I, m_uL_K, m_uL_N, m_uL_R, m_uL_I, m_uL_L, m_uR_K, m_uR_N, m_uR_I, m_uR_L, m_uR_R, true_and, and_true, true_implies, false_implies, not_true_eq_false, not_false_eq_true, if_true, if_false, false_and, and_false]
          exact h9
        · refine ⟨?_, fun k r hr => ?_⟩
          · rw [m_uI_I, if_pos ⟨rfl, rfl⟩, List.length_append, hm]; rfl
          · have eI : ∀ j, insM (uI (uI M4 284 J (nI c2)) 281 (3 * z + kd) (nI (m + 1))) z j = insM M4 z j := fun j => by unfold insM; rw [w5.1 _ _ (by omega), w5.1 _ _ (by omega)]
            have eI' : insM (uI (uI M4 284 J (nI c2)) 281 (3 * z + kd) (nI (m + 1))) z = insM M4 z := funext eI
            rw [eI']
            rcases getA (L := R) hr with ⟨q1, q2⟩ | ⟨q1, q2⟩
            · obtain ⟨s0, s1, s2, b1, b2, b3, b4, b5, b6, b7⟩ := rl4.2 k r q2
              exact ⟨s0, s1, s2, b1, b2, by have := C4.1; omega, by rw [w5.1 _ _ (by omega)]; exact b4, by rw [w5.1 _ _ (by omega)]; exact b5, by rw [w5.1 _ _ (by omega)]; exact b6, b7⟩
            · rw [q1, ← hm, ← hJ, q2]
              refine ⟨c, c1, c2, hcc, C4.1, Nat.le_refl _, ?_, ?_, ?_, C4.2.1, C4.2.2, fun hs => ⟨(sum4 hs).1.2.1, (sum4 hs).1.2.2⟩⟩
              · rw [w5.1 _ _ (by omega), g4.1 _ _ (fun w => by unfold sFm at w; omega)]; exact v282A
              · rw [w5.1 _ _ (by omega), g4.1 _ _ (fun w => by unfold sFm at w; omega)]; exact v283
              · rw [m_uI_I, if_neg (by omega), m_uI_I, if_pos ⟨rfl, rfl⟩]
  -- the rule
  have main : am_E am_P0 (d + 4) 193 [.ref 277, .int (b01 (decide (N ≤ m)))] M (fun r M2 => am_P am_P0 (d + 5) (am_look tX11_rule) 29 [.ref 277, .int (nI kd), am_x] (am_push r []) M2 Q) := by
    refine m_counts (d + 2) (decide (N ≤ m)) t M _ hL hR (fun M1 x1 g1 s1 f1 o1 => ?_)
    unfold spRl at hQ
    by_cases cf : N ≤ m
    · rw [if_pos (decide_eq_true cf)] at s1 f1 hQ
      have h9 := hQ M1 ⟨sRm_S g1, s1⟩
      simp +decide only [qX11_rule_0, qX11_rule_1, qX11_rule_2, f1 _ rfl, am_w1_i, am_w1_r, am_w1_x, am_w1_l, am_w1_w, va_rf_s, am_push_n, am_push_s, am_cs_0, am_cs_i, am_cs_l, am_cs_r, m_uI_K, m_uI_N, m_uI_R, m_uI_L, m_uI_I, m_uL_K, m_uL_N, m_uL_R, m_uL_I, m_uL_L, m_uR_K, m_uR_N, m_uR_I, m_uR_L, m_uR_R, true_and, and_true, true_implies, false_implies, not_true_eq_false, not_false_eq_true, if_true, if_false, false_and, and_false]
      exact h9
    · rw [if_neg (by rw [decide_eq_false cf]; decide)] at s1 f1 o1 hQ
      cases hr1 : advR T n t with
      | inl e =>
        rw [hr1] at s1 hQ
        have h9 := hQ M1 ⟨sRm_S g1, s1⟩
        simp +decide only [qX11_rule_0, qX11_rule_1, qX11_rule_2, f1 e hr1, am_w1_i, am_w1_r, am_w1_x, am_w1_l, am_w1_w, va_rf_s, am_push_n, am_push_s, am_cs_0, am_cs_i, am_cs_l, am_cs_r, m_uI_K, m_uI_N, m_uI_R, m_uI_L, m_uI_I, m_uL_K, m_uL_N, m_uL_R, m_uL_I, m_uL_L, m_uR_K, m_uR_N, m_uR_I, m_uR_L, m_uR_R, true_and, and_true, true_implies, false_implies, not_true_eq_false, not_false_eq_true, if_true, if_false, false_and, and_false]
        exact h9
      | inr t1 =>
        rw [hr1] at s1 hQ
        have R1 : RdM M1 T n t1 := s1
        have hV1 := advR_V hEn hr1
        have hlt1 := advR_lt hG h0 hr1
        have hG1 : tkG T n t1 := R1.2.2.2.2.2.2.2.2
        have L1 := gF_LayN g1 hL
        have F1 := FmM_R hF g1
        have rl1 : RlM M1 z kd sm R c := RlM_g hrl (by omega) g1 (fun w => by unfold sRm at w; omega) (fun a j q1 q2 q3 w => by unfold sRm at w; omega) (fun a j q1 q2 q3 w => by unfold sRm at w; omega)
        have n1 := rl1.1
        rw [← hm] at n1
        have i1 := F1.2.2.1
        have eJ : (30 : Int32) * nI z + nI (12 * kd) + nI m = nI J := by rw [show (30 : Int32) = nI 30 from rfl, ni_mul, ni_add, ni_add, hJ]
        have hfr := fun Q => m_first (d + 4) kd M1 Q
        have wA : gF (fun a j => a = 282 ∧ j = J) nT M1 (uI M1 282 J (nI c)) := gF_i _ ⟨rfl, rfl⟩
        obtain ⟨A1, hA1⟩ : ∃ A1, A1 = uI M1 282 J (nI c) := ⟨_, rfl⟩
        rw [← hA1] at wA
        have GA : gF (sRu z c J kd) nT M A1 := gF_trans (gF_up g1 (fun a j q => Or.inl (by unfold sRm at q; unfold sFm; omega)) (fun _ _ q => q)) (gF_up wA (fun a j q => Or.inr (Or.inl (by omega))) (fun _ _ q => q))
        have LA := gF_LayN wA L1
        have RA : RdM A1 T n t1 := RdM_g R1 wA (fun a j q w => by omega)
        have FA : FmM A1 z c := FmM_g F1 wA (fun j q w => by omega)
        have v282 : mI A1 282 J = nI c := by rw [hA1, m_uI_I, if_pos ⟨rfl, rfl⟩]
        have rlA : RlM A1 z kd sm R c := RlM_g rl1 (by omega) wA (fun w => by omega) (fun a j q1 q2 q3 w => by omega) (fun a j q1 q2 q3 w => by omega)
        have e2 : nI kd = 2 ↔ kd = 2 := ni_eq (a := kd) (b := 2) (by omega) (by omega)
        simp +decide (disch := omega) only [qX11_rule_0, qX11_rule_1, qX11_rule_2, o1 t1 hr1, lm L1, i1, hfr, eK, n1, eJ, F1.1, e2, ni_in_t, ni_tn, ← hA1, am_w1_i, am_w1_r, am_w1_x, am_w1_l, am_w1_w, va_rf_s, am_push_n, am_push_s, am_cs_0, am_cs_i, am_cs_l, am_cs_r, m_uI_K, m_uI_N, m_uI_R, m_uI_L, m_uI_I, m_uL_K, m_uL_N, m_uL_R, m_uL_I, m_uL_L, m_uR_K, m_uR_N, m_uR_I, m_uR_L, m_uR_R, true_and, and_true, true_implies, false_implies, not_true_eq_false, not_false_eq_true, if_true, if_false, false_and, and_false]
        rcases hk with ⟨q1, rfl, q3⟩ | ⟨q1, rfl, q3⟩
        · rw [br_n (by omega)]
          obtain ⟨res, hres⟩ := ps_some (T := T) (n := n) (g := 0) t1 (by omega) hG1.1 (fun _ => 0)
          have hQ' : ∀ M', RuM T n z kd true R c J t M M' (psX T n 0 t1 (fun t2 v => ruK T n t2 v)) → Q none M' := hQ
          unfold psX at hQ'
          rw [hres] at hQ'
          simp +decide (disch := omega) only [qX11_rule_0, qX11_rule_1, qX11_rule_2, lm LA, am_w1_i, am_w1_r, am_w1_x, am_w1_l, am_w1_w, va_rf_s, am_push_n, am_push_s, am_cs_0, am_cs_i, am_cs_l, am_cs_r, m_uI_K, m_uI_N, m_uI_R, m_uI_L, m_uI_I, m_uL_K, m_uL_N, m_uL_R, m_uL_I, m_uL_L, m_uR_K, m_uR_N, m_uR_I, m_uR_L, m_uR_R, true_and, and_true, true_implies, false_implies, not_true_eq_false, not_false_eq_true, if_true, if_false, false_and, and_false]
          refine m_reads d z c false t1 res A1 _ LA RA hV1 FA (by omega) hres (fun M2 g2 h2 => ?_)
          have G2 := gF_trans GA (gF_up g2 (fun a j q => Or.inl q) (fun _ _ q => q) : gF (sRu z c J kd) nT A1 M2)
          have L2 := gF_LayN g2 LA
          suffices key : am_P am_P0 (d + 5) (am_look tX11_rule) 80 [.ref 277, .int (nI kd), .int (nI J)] [] M2 Q by
            simp +decide (disch := omega) only [qX11_rule_0, qX11_rule_1, qX11_rule_2, lm L2, am_w1_i, am_w1_r, am_w1_x, am_w1_l, am_w1_w, va_rf_s, am_push_n, am_push_s, am_cs_0, am_cs_i, am_cs_l, am_cs_r, m_uI_K, m_uI_N, m_uI_R, m_uI_L, m_uI_I, m_uL_K, m_uL_N, m_uL_R, m_uL_I, m_uL_L, m_uR_K, m_uR_N, m_uR_I, m_uR_L, m_uR_R, true_and, and_true, true_implies, false_implies, not_true_eq_false, not_false_eq_true, if_true, if_false, false_and, and_false] at key ⊢
            exact key
          cases res with
          | inl e =>
            have h2' : FtM M2 T n e.1 e.2 := h2
            simp +decide (disch := omega) only [qX11_rule_0, qX11_rule_1, qX11_rule_2, lm L2, am_w1_i, am_w1_r, am_w1_x, am_w1_l, am_w1_w, va_rf_s, am_push_n, am_push_s, am_cs_0, am_cs_i, am_cs_l, am_cs_r, m_uI_K, m_uI_N, m_uI_R, m_uI_L, m_uI_I, m_uL_K, m_uL_N, m_uL_R, m_uL_I, m_uL_L, m_uR_K, m_uR_N, m_uR_I, m_uR_L, m_uR_R, true_and, and_true, true_implies, false_implies, not_true_eq_false, not_false_eq_true, if_true, if_false, false_and, and_false]
            refine m_word2 (d + 2) 18 2003330414 (.inl e) M2 _ L2 (by omega) (by decide) h2 (fun M3 g3 s3 => ?_)
            have h9 := bad80 e M3 (by omega) (gF_trans (sRu_S G2 (by omega) hk2) (sRm_S g3)) s3 hQ'
            simp +decide (disch := omega) only [qX11_rule_0, qX11_rule_1, qX11_rule_2, lm (gF_LayN g3 L2), ni_in_t, ni_tn, am_w1_i, am_w1_r, am_w1_x, am_w1_l, am_w1_w, va_rf_s, am_push_n, am_push_s, am_cs_0, am_cs_i, am_cs_l, am_cs_r, m_uI_K, m_uI_N, m_uI_R, m_uI_L, m_uI_I, m_uL_K, m_uL_N, m_uL_R, m_uL_I, m_uL_L, m_uR_K, m_uR_N, m_uR_I, m_uR_L, m_uR_R, true_and, and_true, true_implies, false_implies, not_true_eq_false, not_false_eq_true, if_true, if_false, false_and, and_false] at h9 ⊢
            exact h9
          | inr p =>
            obtain ⟨R2, ⟨c1, F2, C2, hc1⟩, htk2⟩ := h2
            have hbs := ((ps_typ (T := T) (n := n) (fuelP n)).1 0 t1 (fun _ => 0) (tkG_OK hG1) p.1 p.2 hres).2
            have rl2 : RlM M2 z kd true R c := RlM_g rlA (by omega) g2 (fun w => by unfold sFm at w; omega) (fun a j q1 q2 q3 w => by unfold sFm at w; omega) (fun a j q1 q2 q3 w => by unfold sFm at w; omega)
            exact tail p.1 p.2 c1 M2 (by omega) G2 R2 F2 C2.1 hc1 (by omega) (by rw [g2.1 _ _ (fun w => by unfold sFm at w; omega)]; exact v282) rl2 (fun _ => ⟨C2, hbs⟩) hQ'
        · rw [br_p q1]
          have h9 := tail t1 (fun _ => 0) c A1 (by omega) GA RA FA (Nat.le_refl _) (by omega) hlt1 v282 rlA (fun q => by cases q) hQ
          simp +decide (disch := omega) only [qX11_rule_0, qX11_rule_1, qX11_rule_2, lm LA, am_w1_i, am_w1_r, am_w1_x, am_w1_l, am_w1_w, va_rf_s, am_push_n, am_push_s, am_cs_0, am_cs_i, am_cs_l, am_cs_r, m_uI_K, m_uI_N, m_uI_R, m_uI_L, m_uI_I, m_uL_K, m_uL_N, m_uL_R, m_uL_I, m_uL_L, m_uR_K, m_uR_N, m_uR_I, m_uR_L, m_uR_R, true_and, and_true, true_implies, false_implies, not_true_eq_false, not_false_eq_true, if_true, if_false, false_and, and_false] at h9 ⊢
          exact h9
  rw [eX11_rule]
  have hmo := fun Q => m_most (d + 4) kd M Q hk2
  rw [← hN] at hmo
  simp +decide (disch := omega) only [qX11_rule_0, qX11_rule_1, qX11_rule_2, lm hL, hF.2.2.1, eK, n0, hmo, hmN, ni_in_t, ni_tn, am_w1_i, am_w1_r, am_w1_x, am_w1_l, am_w1_w, va_rf_s, am_push_n, am_push_s, am_cs_0, am_cs_i, am_cs_l, am_cs_r, m_uI_K, m_uI_N, m_uI_R, m_uI_L, m_uI_I, m_uL_K, m_uL_N, m_uL_R, m_uL_I, m_uL_L, m_uR_K, m_uR_N, m_uR_I, m_uR_L, m_uR_R, true_and, and_true, true_implies, false_implies, not_true_eq_false, not_false_eq_true, if_true, if_false, false_and, and_false]
  by_cases cf : N ≤ m
  · rw [decide_eq_true cf] at main
    rw [br_r (by omega)]
    exact main
  · rw [decide_eq_false cf] at main
    rw [br_q (by omega)]
    exact main
end
