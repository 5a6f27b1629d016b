/-! the model: a statement, the first one, all -/
section
variable {T : Nat → Nat} {n z : Nat}
theorem c_m_isWord (d : Nat) (w : Int64) (M : am_M) (Q : Option Value → am_M → Prop) (hL : Lay M) : am_E am_P0 d 176 [.ref 277, .long w] M Q ↔ Q (some (.int (bI (mI M 277 3 = 1 ∧ mL M 277 7 = w)))) M := by
  rw [eX11_isWord]
  simp +decide only [qX11_isWord, lm hL, lgc_0, am_w1_i, am_w1_r, am_w1_x, am_w1_l, am_w1_w, va_rf_s, am_push_n, am_push_s, am_cs_0, am_cs_i, am_cs_l, am_cs_r, m_uI_K, m_uI_N, m_uI_R, m_uI_L, m_uI_I, m_uL_K, m_uL_N, m_uL_R, m_uL_I, m_uL_L, m_uR_K, m_uR_N, m_uR_I, m_uR_L, m_uR_R, true_and, and_true, true_implies, false_implies, not_true_eq_false, not_false_eq_true, if_true, if_false, false_and, and_false]
  by_cases c : mI M 277 3 = 1
  · rw [br_r c]
    by_cases c2 : mL M 277 7 = w
    · rw [br_r c2, bI_t ⟨c, c2⟩]
    · rw [br_q c2, bI_f (fun q => c2 q.2)]
  · rw [br_q c, bI_f (fun q => c q.1)]
theorem sFm_R {c : Nat} {M M' : am_M} {D : Dat} {J kd c' m : Nat} (hg : gF (sRu z c J kd) nT M M') (hP : PdM M z D c) (hD : DOK D) (hF : FmM M' z c') (hc : c ≤ c') (hJ : J = 30 * z + 12 * kd + m) (hm : (kd = 0 ∧ m = (dRd D).length ∧ m < 12) ∨ (kd = 1 ∧ m = (dRc D).length ∧ m < 12) ∨ (kd = 2 ∧ m = (dRq D).length ∧ m < 6)) : (mI M' 279 z = nI (dC D) ∧ mI M' 280 z = nI (dR D)) ∧ mI M' 303 z = nI (dLk D) ∧ ShpM M' z (dSh D) ∧ SysM M' z D ∧ BkM M' z (dC D) (dBk D) ∧ SgM M' z (dC D) (dSg D) ∧ ((¬ kd = 0 → RlM M' z 0 true (dRd D) c') ∧ (¬ kd = 1 → RlM M' z 1 true (dRc D) c') ∧ (¬ kd = 2 → RlM M' z 2 false (dRq D) c')) := by
  obtain ⟨⟨a1, a2⟩, b1, b2, b3, b4, b5, ⟨r1, r2, r3⟩, f⟩ := hP
  have l1 := hD.2.2.2.2.2.2.2.2.1.1
  have l2 := hD.2.2.2.2.2.2.2.2.2.1.1
  have l3 := hD.2.2.2.2.2.2.2.2.2.2.1
  have hz := f.2.2.2
  have hcl := f.2.1
  exact ⟨⟨by rw [hg.1 _ _ (by unfold sRu sFm; omega)]; exact a1, by rw [hg.1 _ _ (by unfold sRu sFm; omega)]; exact a2⟩, by rw [hg.1 _ _ (by unfold sRu sFm; omega)]; exact b1, ShpM_g b2 hg (by unfold sRu sFm; omega) (fun a j q1 q2 q3 w => by unfold sRu sFm at w; omega), SysM_g b3 hg (by unfold sRu sFm; omega) (fun a j q w => by unfold sRu sFm at w; omega), BkM_gF b4 hg (by unfold sRu sFm; omega) (fun a j q1 q2 q3 w => by unfold sRu sFm at w; omega), SgM_g b5 hg (by unfold sRu sFm; omega) (fun a j q1 q2 q3 w => by unfold sRu sFm at w; omega), fun hn => RlM_le (RlM_g r1 l1 hg (by unfold sRu sFm; omega) (fun a j q1 q2 q3 w => by unfold sRu sFm at w; omega) (fun a j q1 q2 q3 w => by unfold sRu sFm at w; omega)) hc, fun hn => RlM_le (RlM_g r2 l2 hg (by unfold sRu sFm; omega) (fun a j q1 q2 q3 w => by unfold sRu sFm at w; omega) (fun a j q1 q2 q3 w => by unfold sRu sFm at w; omega)) hc, fun hn => RlM_le (RlM_g r3 (by omega) hg (by unfold sRu sFm; omega) (fun a j q1 q2 q3 w => by unfold sRu sFm at w; omega) (fun a j q1 q2 q3 w => by unfold sRu sFm at w; omega)) hc⟩
theorem k_stmt (d c : Nat) (D : Dat) (t : Tok) (M : am_M) (Q : Option Value → am_M → Prop) (hG : GdM T n z M D c t) (hC : 1 ≤ dC D) (hRr : 1 ≤ dR D) (h0 : ¬ t.1 = 0) (hQ : ∀ M', EdM T n z t M M' (spS1 T n D t) → Q none M') : am_E am_P0 (d + 6) 205 [.ref 277] M Q := by
  obtain ⟨hL, hR, hP, hD, hc⟩ := id hG
  -- from the statement's end on
  have fin : ∀ (r : Rq) M1, spSt T n D t = r → EdM T n z t M M1 r → am_P am_P0 (d + 6) (am_look tX11_statement) 148 [.ref 277] [] M1 Q := by
    intro r M1 hr hE
    cases r with
    | inl e =>
      obtain ⟨g1, h1⟩ := hE
      have L1 := gF_LayN g1 hL
      have h9 := hQ M1 (by unfold spS1; rw [hr]; exact ⟨g1, h1⟩)
      simp +decide only [qX11_statement_0, qX11_statement_1, lm L1, am_w1_i, am_w1_r, am_w1_x, am_w1_l, am_w1_w, va_rf_s, am_push_n, am_push_s, am_cs_0, am_cs_i, am_cs_l, am_cs_r, m_uI_K, m_uI_N, m_uI_R, m_uI_L, m_uI_I, m_uL_K, m_uL_N, m_uL_R, m_uL_I, m_uL_L, m_uR_K, m_uR_N, m_uR_I, m_uR_L, m_uR_R, true_and, and_true, true_implies, false_implies, not_true_eq_false, not_false_eq_true, if_true, if_false, false_and, and_false]
      rw [br_p (FtM_pos h1).2.1]
      exact h9
    | inr q =>
      obtain ⟨g1, ⟨c', L1, R1, P1, D1, hc1⟩, ht⟩ := hE
      have es : spS1 T n D t = bR (signR T n 59 (.inr q.1)) (fun t' => .inr (t', q.2)) := by unfold spS1; rw [hr]
      rw [es] at hQ
      simp +decide only [qX11_statement_0, qX11_statement_1, lm L1, R1.2.1, am_w1_i, am_w1_r, am_w1_x, am_w1_l, am_w1_w, va_rf_s, am_push_n, am_push_s, am_cs_0, am_cs_i, am_cs_l, am_cs_r, m_uI_K, m_uI_N, m_uI_R, m_uI_L, m_uI_I, m_uL_K, m_uL_N, m_uL_R, m_uL_I, m_uL_L, m_uR_K, m_uR_N, m_uR_I, m_uR_L, m_uR_R, true_and, and_true, true_implies, false_implies, not_true_eq_false, not_false_eq_true, if_true, if_false, false_and, and_false]
      rw [show (59 : Int32) = nI 59 from rfl]
      refine m_must (d + 3) 59 (.inr q.1) M1 _ L1 (by omega) R1 (fun M2 g2 s2 => ?_)
      have h9 := hQ M2
      simp +decide only [qX11_statement_0, qX11_statement_1, am_w1_i, am_w1_r, am_w1_x, am_w1_l, am_w1_w, va_rf_s, am_push_n, am_push_s, am_cs_0, am_cs_i, am_cs_l, am_cs_r, m_uI_K, m_uI_N, m_uI_R, m_uI_L, m_uI_I, m_uL_K, m_uL_N, m_uL_R, m_uL_I, m_uL_L, m_uR_K, m_uR_N, m_uR_I, m_uR_L, m_uR_R, true_and, and_true, true_implies, false_implies, not_true_eq_false, not_false_eq_true, if_true, if_false, false_and, and_false]
      refine h9 ?_
      cases hs : signR T n 59 (.inr q.1) with
      | inl e => rw [hs] at s2; exact ⟨gF_trans g1 (sRm_S g2), s2⟩
      | inr t' =>
        rw [hs] at s2
        have hG1 : tkG T n q.1 := R1.2.2.2.2.2.2.2.2
        have e2 : signR T n 59 (.inr q.1) = if isS q.1 59 = true then advR T n q.1 else .inl (1, tS q.1) := rfl
        rw [e2] at hs
        by_cases c9 : isS q.1 59 = true
        · rw [if_pos c9] at hs
          have hlt := advR_lt hG1 (isS_n0 c9) hs
          exact ⟨gF_trans g1 (sRm_S g2), ⟨c', gF_LayN g2 L1, s2, PdM_R P1 D1 g2, D1, by show c' ≤ tS t'; omega⟩, by show tS t < tS t'; omega⟩
        · rw [if_neg c9] at hs; cases hs
  have wd : ∀ k w, k < 27 → wdL (ownW.getD k []) = w → ∀ Q, am_E am_P0 (d + 5) 176 [.ref 277, .long w] M Q ↔ Q (some (.int (b01 (isW t (ownW.getD k []))))) M := fun k w hk hw Q => m_word1 (d + 5) k w _ t M Q hL hR hk rfl hw
  have w1 := wd 1 431198598248 (by omega) (by decide)
  have w2 := wd 2 1668248436 (by omega) (by decide)
  have w3 := wd 3 487301145972 (by omega) (by decide)
  have w4 := wd 4 1936222576 (by omega) (by decide)
  have w9 := wd 9 1935767923 (by omega) (by decide)
  have w12 := wd 12 1651470187 (by omega) (by decide)
  have w15 := wd 15 1936024942 (by omega) (by decide)
  have w17 := wd 17 1819632491 (by omega) (by decide)
  have l1 := hD.2.2.2.2.2.2.2.2.1.1
  have l2 := hD.2.2.2.2.2.2.2.2.2.1.1
  have l3 := hD.2.2.2.2.2.2.2.2.2.2.1
  have hz := hP.2.2.2.2.2.2.2.2.2.2
  rw [eX11_statement]
  by_cases c1 : isW t (ownW.getD 1 []) = true
  · have hsp : spSt T n D t = spDepth T n D t := by unfold spSt; rw [if_pos c1]
    simp +decide only [qX11_statement_0, qX11_statement_1, lm hL, w1, c1, b01, am_w1_i, am_w1_r, am_w1_x, am_w1_l, am_w1_w, va_rf_s, am_push_n, am_push_s, am_cs_0, am_cs_i, am_cs_l, am_cs_r, m_uI_K, m_uI_N, m_uI_R, m_uI_L, m_uI_I, m_uL_K, m_uL_N, m_uL_R, m_uL_I, m_uL_L, m_uR_K, m_uR_N, m_uR_I, m_uR_L, m_uR_R, true_and, and_true, true_implies, false_implies, not_true_eq_false, not_false_eq_true, if_true, if_false, false_and, and_false]
    refine k_rule d c 0 12 true (dRd D) t M _ hL hR hP.2.2.2.2.2.2.2 hc (Or.inl ⟨by omega, rfl, rfl⟩) hP.2.2.2.2.2.2.1.1 l1 h0 (fun M1 R1 => ?_)
    have h9 := fin _ M1 hsp (by
      unfold spDepth
      rw [spSum_r]
      cases hr : spRl T n true (decide (12 ≤ (dRd D).length)) t with
      | inl e => rw [hr] at R1; exact R1
      | inr p =>
        rw [hr] at R1
        obtain ⟨g1, ht, hb1, hb2, c', rd1, F1, hcc, hct, hrl⟩ := R1
        have hl : (dRd D).length < 12 := by
          unfold spRl at hr
          by_cases cf : 12 ≤ (dRd D).length
          · rw [if_pos (decide_eq_true cf)] at hr; cases hr
          · omega
        obtain ⟨k1, k2, k3, k4, k5, k6, k7, k8, k9⟩ := sFm_R g1 hP hD F1 hcc rfl (Or.inl ⟨rfl, rfl, hl⟩)
        refine ⟨sRu_S g1 (by omega) (by omega), ⟨c', gF_LayN g1 hL, rd1, ⟨k1, k2, k3, k4, k5, k6, ⟨hrl, k8 (by omega), k9 (by omega)⟩, F1⟩, ?_, hct⟩, ht⟩
        obtain ⟨d1, d2, d3, d4, d5, d6, d7, d8, d9, d10⟩ := hD
        exact ⟨d1, d2, d3, d4, d5, d6, d7, d8, rlOK_a d9 hl (hb1 rfl) hb2, d10⟩)
    simp +decide only [qX11_statement_0, qX11_statement_1, am_w1_i, am_w1_r, am_w1_x, am_w1_l, am_w1_w, va_rf_s, am_push_n, am_push_s, am_cs_0, am_cs_i, am_cs_l, am_cs_r, m_uI_K, m_uI_N, m_uI_R, m_uI_L, m_uI_I, m_uL_K, m_uL_N, m_uL_R, m_uL_I, m_uL_L, m_uR_K, m_uR_N, m_uR_I, m_uR_L, m_uR_R, true_and, and_true, true_implies, false_implies, not_true_eq_false, not_false_eq_true, if_true, if_false, false_and, and_false] at h9 ⊢
    exact h9
  have c1' : isW t (ownW.getD 1 []) = false := by simpa using c1
  by_cases c2 : isW t (ownW.getD 2 []) = true
  · have hsp : spSt T n D t = spCost T n D t := by unfold spSt; rw [if_neg c1, if_pos c2]
    simp +decide only [qX11_statement_0, qX11_statement_1, lm hL, w1, c1', w2, c2, b01, am_w1_i, am_w1_r, am_w1_x, am_w1_l, am_w1_w, va_rf_s, am_push_n, am_push_s, am_cs_0, am_cs_i, am_cs_l, am_cs_r, m_uI_K, m_uI_N, m_uI_R, m_uI_L, m_uI_I, m_uL_K, m_uL_N, m_uL_R, m_uL_I, m_uL_L, m_uR_K, m_uR_N, m_uR_I, m_uR_L, m_uR_R, true_and, and_true, true_implies, false_implies, not_true_eq_false, not_false_eq_true, if_true, if_false, false_and, and_false]
    refine k_rule d c 1 12 true (dRc D) t M _ hL hR hP.2.2.2.2.2.2.2 hc (Or.inl ⟨by omega, rfl, rfl⟩) hP.2.2.2.2.2.2.1.2.1 l2 h0 (fun M1 R1 => ?_)
    have h9 := fin _ M1 hsp (by
      unfold spCost
      rw [spSum_r]
      cases hr : spRl T n true (decide (12 ≤ (dRc D).length)) t with
      | inl e => rw [hr] at R1; exact R1
      | inr p =>
        rw [hr] at R1
        obtain ⟨g1, ht, hb1, hb2, c', rd1, F1, hcc, hct, hrl⟩ := R1
        have hl : (dRc D).length < 12 := by
          unfold spRl at hr
          by_cases cf : 12 ≤ (dRc D).length
          · rw [if_pos (decide_eq_true cf)] at hr; cases hr
          · omega
        obtain ⟨k1, k2, k3, k4, k5, k6, k7, k8, k9⟩ := sFm_R g1 hP hD F1 hcc rfl (Or.inr (Or.inl ⟨rfl, rfl, hl⟩))
        refine ⟨sRu_S g1 (by omega) (by omega), ⟨c', gF_LayN g1 hL, rd1, ⟨k1, k2, k3, k4, k5, k6, ⟨k7 (by omega), hrl, k9 (by omega)⟩, F1⟩, ?_, hct⟩, ht⟩
        obtain ⟨d1, d2, d3, d4, d5, d6, d7, d8, d9, d10, d11⟩ := hD
        exact ⟨d1, d2, d3, d4, d5, d6, d7, d8, d9, rlOK_a d10 hl (hb1 rfl) hb2, d11⟩)
    simp +decide only [qX11_statement_0, qX11_statement_1, am_w1_i, am_w1_r, am_w1_x, am_w1_l, am_w1_w, va_rf_s, am_push_n, am_push_s, am_cs_0, am_cs_i, am_cs_l, am_cs_r, m_uI_K, m_uI_N, m_uI_R, m_uI_L, m_uI_I, m_uL_K, m_uL_N, m_uL_R, m_uL_I, m_uL_L, m_uR_K, m_uR_N, m_uR_I, m_uR_L, m_uR_R, true_and, and_true, true_implies, false_implies, not_true_eq_false, not_false_eq_true, if_true, if_false, false_and, and_false] at h9 ⊢
    exact h9
  have c2' : isW t (ownW.getD 2 []) = false := by simpa using c2
  by_cases c3 : isW t (ownW.getD 3 []) = true
  · have hsp : spSt T n D t = spQuiet T n D t := by unfold spSt; rw [if_neg c1, if_neg c2, if_pos c3]
    simp +decide only [qX11_statement_0, qX11_statement_1, lm hL, w1, c1', w2, c2', w3, c3, b01, am_w1_i, am_w1_r, am_w1_x, am_w1_l, am_w1_w, va_rf_s, am_push_n, am_push_s, am_cs_0, am_cs_i, am_cs_l, am_cs_r, m_uI_K, m_uI_N, m_uI_R, m_uI_L, m_uI_I, m_uL_K, m_uL_N, m_uL_R, m_uL_I, m_uL_L, m_uR_K, m_uR_N, m_uR_I, m_uR_L, m_uR_R, true_and, and_true, true_implies, false_implies, not_true_eq_false, not_false_eq_true, if_true, if_false, false_and, and_false]
    refine k_rule d c 2 6 false (dRq D) t M _ hL hR hP.2.2.2.2.2.2.2 hc (Or.inr ⟨rfl, rfl, rfl⟩) hP.2.2.2.2.2.2.1.2.2 l3 h0 (fun M1 R1 => ?_)
    have h9 := fin _ M1 hsp (by
      unfold spQuiet
      rw [spTest_r]
      cases hr : spRl T n false (decide (6 ≤ (dRq D).length)) t with
      | inl e => rw [hr] at R1; exact R1
      | inr p =>
        rw [hr] at R1
        obtain ⟨g1, ht, hb1, hb2, c', rd1, F1, hcc, hct, hrl⟩ := R1
        have hl : (dRq D).length < 6 := by
          unfold spRl at hr
          by_cases cf : 6 ≤ (dRq D).length
          · rw [if_pos (decide_eq_true cf)] at hr; cases hr
          · omega
        obtain ⟨k1, k2, k3, k4, k5, k6, k7, k8, k9⟩ := sFm_R g1 hP hD F1 hcc rfl (Or.inr (Or.inr ⟨rfl, rfl, hl⟩))
        have hrl' : RlM M1 z 2 false (dRq D ++ [(fun _ => 0, p.2.2)]) c' := by
          refine ⟨by rw [hrl.1, List.length_append, List.length_append]; rfl, fun k r hr' => ?_⟩
          rcases getA hr' with ⟨q1, q2⟩ | ⟨q1, q2⟩
          · exact hrl.2 k r (by rw [List.getElem?_append_left q1]; exact q2)
          · obtain ⟨s0, s1, s2, b1, b2, b3, b4, b5, b6, b7, b8, b9⟩ := hrl.2 k p.2 (by rw [q1, List.getElem?_append_right (Nat.le_refl _), Nat.sub_self]; rfl)
            rw [q2]
            exact ⟨s0, s1, s2, b1, b2, b3, b4, b5, b6, b7, b8, fun q => by cases q⟩
        refine ⟨sRu_S g1 (by omega) (by omega), ⟨c', gF_LayN g1 hL, rd1, ⟨k1, k2, k3, k4, k5, k6, ⟨k7 (by omega), k8 (by omega), hrl'⟩, F1⟩, ?_, hct⟩, ht⟩
        obtain ⟨d1, d2, d3, d4, d5, d6, d7, d8, d9, d10, d11⟩ := hD
        exact ⟨d1, d2, d3, d4, d5, d6, d7, d8, d9, d10, rlOK_a d11 hl (fun e he => ⟨by show (-1000000 : Int) ≤ 0; omega, by show (0 : Int) ≤ 1000000; omega⟩) hb2⟩)
    simp +decide only [qX11_statement_0, qX11_statement_1, am_w1_i, am_w1_r, am_w1_x, am_w1_l, am_w1_w, va_rf_s, am_push_n, am_push_s, am_cs_0, am_cs_i, am_cs_l, am_cs_r, m_uI_K, m_uI_N, m_uI_R, m_uI_L, m_uI_I, m_uL_K, m_uL_N, m_uL_R, m_uL_I, m_uL_L, m_uR_K, m_uR_N, m_uR_I, m_uR_L, m_uR_R, true_and, and_true, true_implies, false_implies, not_true_eq_false, not_false_eq_true, if_true, if_false, false_and, and_false] at h9 ⊢
    exact h9
  have c3' : isW t (ownW.getD 3 []) = false := by simpa using c3
  by_cases c4 : isW t (ownW.getD 4 []) = true
  · have hsp : spSt T n D t = spShip T n D t := by unfold spSt; rw [if_neg c1, if_neg c2, if_neg c3, if_pos c4]
    simp +decide only [qX11_statement_0, qX11_statement_1, lm hL, w1, c1', w2, c2', w3, c3', w4, c4, b01, am_w1_i, am_w1_r, am_w1_x, am_w1_l, am_w1_w, va_rf_s, am_push_n, am_push_s, am_cs_0, am_cs_i, am_cs_l, am_cs_r, m_uI_K, m_uI_N, m_uI_R, m_uI_L, m_uI_I, m_uL_K, m_uL_N, m_uL_R, m_uL_I, m_uL_L, m_uR_K, m_uR_N, m_uR_I, m_uR_L, m_uR_R, true_and, and_true, true_implies, false_implies, not_true_eq_false, not_false_eq_true, if_true, if_false, false_and, and_false]
    refine k_ship (d + 1) c D t M _ hG hC hRr h0 (fun M1 E1 => ?_)
    have h9 := fin _ M1 hsp E1
    simp +decide only [qX11_statement_0, qX11_statement_1, am_w1_i, am_w1_r, am_w1_x, am_w1_l, am_w1_w, va_rf_s, am_push_n, am_push_s, am_cs_0, am_cs_i, am_cs_l, am_cs_r, m_uI_K, m_uI_N, m_uI_R, m_uI_L, m_uI_I, m_uL_K, m_uL_N, m_uL_R, m_uL_I, m_uL_L, m_uR_K, m_uR_N, m_uR_I, m_uR_L, m_uR_R, true_and, and_true, true_implies, false_implies, not_true_eq_false, not_false_eq_true, if_true, if_false, false_and, and_false] at h9 ⊢
    exact h9
  have c4' : isW t (ownW.getD 4 []) = false := by simpa using c4
  by_cases c5 : isW t (ownW.getD 9 []) = true
  · have hsp : spSt T n D t = spSay T n D t := by unfold spSt; rw [if_neg c1, if_neg c2, if_neg c3, if_neg c4, if_pos c5]
    simp +decide only [qX11_statement_0, qX11_statement_1, lm hL, w1, c1', w2, c2', w3, c3', w4, c4', w9, c5, b01, am_w1_i, am_w1_r, am_w1_x, am_w1_l, am_w1_w, va_rf_s, am_push_n, am_push_s, am_cs_0, am_cs_i, am_cs_l, am_cs_r, m_uI_K, m_uI_N, m_uI_R, m_uI_L, m_uI_I, m_uL_K, m_uL_N, m_uL_R, m_uL_I, m_uL_L, m_uR_K, m_uR_N, m_uR_I, m_uR_L, m_uR_R, true_and, and_true, true_implies, false_implies, not_true_eq_false, not_false_eq_true, if_true, if_false, false_and, and_false]
    refine k_say (d + 1) c D t M _ hG hC hRr h0 (fun M1 E1 => ?_)
    have h9 := fin _ M1 hsp E1
    simp +decide only [qX11_statement_0, qX11_statement_1, am_w1_i, am_w1_r, am_w1_x, am_w1_l, am_w1_w, va_rf_s, am_push_n, am_push_s, am_cs_0, am_cs_i, am_cs_l, am_cs_r, m_uI_K, m_uI_N, m_uI_R, m_uI_L, m_uI_I, m_uL_K, m_uL_N, m_uL_R, m_uL_I, m_uL_L, m_uR_K, m_uR_N, m_uR_I, m_uR_L, m_uR_R, true_and, and_true, true_implies, false_implies, not_true_eq_false, not_false_eq_true, if_true, if_false, false_and, and_false] at h9 ⊢
    exact h9
  have c5' : isW t (ownW.getD 9 []) = false := by simpa using c5
  by_cases c6 : isW t (ownW.getD 12 []) = true
  · have hsp : spSt T n D t = spBook T n D t := by unfold spSt; rw [if_neg c1, if_neg c2, if_neg c3, if_neg c4, if_neg c5, if_pos c6]
    simp +decide only [qX11_statement_0, qX11_statement_1, lm hL, w1, c1', w2, c2', w3, c3', w4, c4', w9, c5', w12, c6, b01, am_w1_i, am_w1_r, am_w1_x, am_w1_l, am_w1_w, va_rf_s, am_push_n, am_push_s, am_cs_0, am_cs_i, am_cs_l, am_cs_r, m_uI_K, m_uI_N, m_uI_R, m_uI_L, m_uI_I, m_uL_K, m_uL_N, m_uL_R, m_uL_I, m_uL_L, m_uR_K, m_uR_N, m_uR_I, m_uR_L, m_uR_R, true_and, and_true, true_implies, false_implies, not_true_eq_false, not_false_eq_true, if_true, if_false, false_and, and_false]
    refine k_book (d + 1) c D t M _ hG hC hRr h0 (fun M1 E1 => ?_)
    have h9 := fin _ M1 hsp E1
    simp +decide only [qX11_statement_0, qX11_statement_1, am_w1_i, am_w1_r, am_w1_x, am_w1_l, am_w1_w, va_rf_s, am_push_n, am_push_s, am_cs_0, am_cs_i, am_cs_l, am_cs_r, m_uI_K, m_uI_N, m_uI_R, m_uI_L, m_uI_I, m_uL_K, m_uL_N, m_uL_R, m_uL_I, m_uL_L, m_uR_K, m_uR_N, m_uR_I, m_uR_L, m_uR_R, true_and, and_true, true_implies, false_implies, not_true_eq_false, not_false_eq_true, if_true, if_false, false_and, and_false] at h9 ⊢
    exact h9
  have c6' : isW t (ownW.getD 12 []) = false := by simpa using c6
  by_cases c7 : isW t (ownW.getD 15 []) = true
  · have hsp : spSt T n D t = spSeen T n D t := by unfold spSt; rw [if_neg c1, if_neg c2, if_neg c3, if_neg c4, if_neg c5, if_neg c6, if_pos c7]
    simp +decide only [qX11_statement_0, qX11_statement_1, lm hL, w1, c1', w2, c2', w3, c3', w4, c4', w9, c5', w12, c6', w15, c7, b01, am_w1_i, am_w1_r, am_w1_x, am_w1_l, am_w1_w, va_rf_s, am_push_n, am_push_s, am_cs_0, am_cs_i, am_cs_l, am_cs_r, m_uI_K, m_uI_N, m_uI_R, m_uI_L, m_uI_I, m_uL_K, m_uL_N, m_uL_R, m_uL_I, m_uL_L, m_uR_K, m_uR_N, m_uR_I, m_uR_L, m_uR_R, true_and, and_true, true_implies, false_implies, not_true_eq_false, not_false_eq_true, if_true, if_false, false_and, and_false]
    refine k_seen (d + 1) c D t M _ hG hC hRr h0 (fun M1 E1 => ?_)
    have h9 := fin _ M1 hsp E1
    simp +decide only [qX11_statement_0, qX11_statement_1, am_w1_i, am_w1_r, am_w1_x, am_w1_l, am_w1_w, va_rf_s, am_push_n, am_push_s, am_cs_0, am_cs_i, am_cs_l, am_cs_r, m_uI_K, m_uI_N, m_uI_R, m_uI_L, m_uI_I, m_uL_K, m_uL_N, m_uL_R, m_uL_I, m_uL_L, m_uR_K, m_uR_N, m_uR_I, m_uR_L, m_uR_R, true_and, and_true, true_implies, false_implies, not_true_eq_false, not_false_eq_true, if_true, if_false, false_and, and_false] at h9 ⊢
    exact h9
  have c7' : isW t (ownW.getD 15 []) = false := by simpa using c7
  by_cases c8 : isW t (ownW.getD 17 []) = true
  · have hsp : spSt T n D t = spLuck T n D t := by unfold spSt; rw [if_neg c1, if_neg c2, if_neg c3, if_neg c4, if_neg c5, if_neg c6, if_neg c7, if_pos c8]
    simp +decide only [qX11_statement_0, qX11_statement_1, lm hL, w1, c1', w2, c2', w3, c3', w4, c4', w9, c5', w12, c6', w15, c7', w17, c8, b01, am_w1_i, am_w1_r, am_w1_x, am_w1_l, am_w1_w, va_rf_s, am_push_n, am_push_s, am_cs_0, am_cs_i, am_cs_l, am_cs_r, m_uI_K, m_uI_N, m_uI_R, m_uI_L, m_uI_I, m_uL_K, m_uL_N, m_uL_R, m_uL_I, m_uL_L, m_uR_K, m_uR_N, m_uR_I, m_uR_L, m_uR_R, true_and, and_true, true_implies, false_implies, not_true_eq_false, not_false_eq_true, if_true, if_false, false_and, and_false]
    refine k_luck (d + 2) c D t M _ hG h0 (fun M1 E1 => ?_)
    have h9 := fin _ M1 hsp E1
    simp +decide only [qX11_statement_0, qX11_statement_1, am_w1_i, am_w1_r, am_w1_x, am_w1_l, am_w1_w, va_rf_s, am_push_n, am_push_s, am_cs_0, am_cs_i, am_cs_l, am_cs_r, m_uI_K, m_uI_N, m_uI_R, m_uI_L, m_uI_I, m_uL_K, m_uL_N, m_uL_R, m_uL_I, m_uL_L, m_uR_K, m_uR_N, m_uR_I, m_uR_L, m_uR_R, true_and, and_true, true_implies, false_implies, not_true_eq_false, not_false_eq_true, if_true, if_false, false_and, and_false] at h9 ⊢
    exact h9
  have c8' : isW t (ownW.getD 17 []) = false := by simpa using c8
  have hsp : spSt T n D t = .inl (1, tS t) := by unfold spSt; rw [if_neg c1, if_neg c2, if_neg c3, if_neg c4, if_neg c5, if_neg c6, if_neg c7, if_neg c8]
  have hf := FtM_0 (k := 1) hR (by omega)
  have hbl := fun Q => m_blame (T := T) (n := n) (d + 5) 1 t M Q hL hR
  have h9 := fin _ _ hsp ⟨sRm_S hf.2, hf.1⟩
  rw [show nI 1 = (1 : Int32) from rfl] at hbl h9
  have Lf : Lay (uI (uI M 277 8 1) 277 9 (nI (tS t))) := hL
  simp +decide only [qX11_statement_0, qX11_statement_1, lm hL, lm Lf, w1, c1', w2, c2', w3, c3', w4, c4', w9, c5', w12, c6', w15, c7', w17, c8', b01, hR.2.2.2.2.1, hbl, am_w1_i, am_w1_r, am_w1_x, am_w1_l, am_w1_w, va_rf_s, am_push_n, am_push_s, am_cs_0, am_cs_i, am_cs_l, am_cs_r, m_uI_K, m_uI_N, m_uI_R, m_uI_L, m_uI_I, m_uL_K, m_uL_N, m_uL_R, m_uL_I, m_uL_L, m_uR_K, m_uR_N, m_uR_I, m_uR_L, m_uR_R, true_and, and_true, true_implies, false_implies, not_true_eq_false, not_false_eq_true, if_true, if_false, false_and, and_false] at h9 ⊢
  exact h9
end
