/-! the class's parser: both, tests, all -/
section
variable {T : Nat → Nat} {n z : Nat}
/-- the rest of both -/
theorem g_bothL (hz : z = 2 ∨ z = 83) (hn : n ≤ 1800) (f : Nat) (h9 : ∀ f', f' < f → HP T n z 9 24 2 3 f') : ∀ (f1 : Nat), f1 ≤ f → ∀ (D o : Nat) (t : Tok) (v : Den) (a c : Nat) (vs : List Den) (M : am_M) (Q : Option Value → am_M → Prop) (res : Sum (Nat × Nat) (Tok × Den)) (turn : Nat), o ≤ 8 → 12 * (9 - o) + 4 ≤ D → GoX T n z M a c (v :: vs) t → vs.length ≤ 3 * o + 1 → bdT v → turn ≤ tS t → ps T n f1 8 o t v = some res → (∀ M', PoX T n z a c vs t M M' res → Q none M') → am_P am_P0 D (am_look tX2_readBoth) 7 [.ref 164, .int (nI o), .int (nI turn)] [] M Q := by
  intro f1
  induction f1 with
  | zero => intro _ D o t v a c vs M Q res turn _ _ _ _ _ _ h; cases h
  | succ f1 ih =>
    intro hf1 D o t v a c vs M Q res turn ho hD hG hl hv htu hp hQ
    obtain ⟨d, rfl⟩ : ∃ d, D = d + 12 := ⟨D - 12, by omega⟩
    obtain ⟨hL, hpa, hR, hf, hc, hct⟩ := id hG
    have hst : StR M T n (.inr t) := hR
    have hsz := GoX_t hG
    rw [ps_8] at hp
    have hnt : tS t ≤ n := by have := hsz.1; have := hsz.2.1; omega
    have hw : mI M 165 6 = 20 ↔ isW t wAnd = true := wr_is (k := 20) hst (by omega)
    by_cases ha : isW t wAnd = true
    · rw [if_pos ha] at hp
      have h6 := hw.mpr ha
      have ht0 : ¬ t.1 = 0 := by have := (isW_1 ha).1; omega
      have hz0 := tkG_0 hsz ht0
      have hlt : ¬ (1800 : Int32) ≤ nI turn := by rw [show (1800 : Int32) = nI 1800 from rfl, ni_le (by omega) (by omega)]; omega
      rw [hX2_readBoth_7]
      simp +decide only [qX2_readBoth, lx hL, h6, am_w1_i, am_w1_r, am_w1_x, am_w1_l, am_w1_w, va_rf_s, am_push_n, am_push_s, am_cs_0, am_cs_i, am_cs_l, am_cs_r, m_uI_K, m_uI_N, m_uI_R, m_uI_L, m_uI_I, m_uL_K, m_uL_N, m_uL_R, m_uL_I, m_uL_L, m_uR_K, m_uR_N, m_uR_I, m_uR_L, m_uR_R, true_and, and_true, true_implies, false_implies, not_true_eq_false, not_false_eq_true, if_true, if_false, false_and, and_false]
      rw [br_n hlt]
      refine g_step (d + 10) t _ res a c (v :: vs) M _ hz hG ht0 hp (fun M1 e he g1 F1 => ?_) (fun M1 t1 g1 G1 hs1 hk1 => ?_)
      · have L1 := gF_LayN g1 hL
        simp +decide only [qX2_readBoth, lx L1, am_w1_i, am_w1_r, am_w1_x, am_w1_l, am_w1_w, va_rf_s, am_push_n, am_push_s, am_cs_0, am_cs_i, am_cs_l, am_cs_r, m_uI_K, m_uI_N, m_uI_R, m_uI_L, m_uI_I, m_uL_K, m_uL_N, m_uL_R, m_uL_I, m_uL_L, m_uR_K, m_uR_N, m_uR_I, m_uR_L, m_uR_R, true_and, and_true, true_implies, false_implies, not_true_eq_false, not_false_eq_true, if_true, if_false, false_and, and_false]
        refine f_factE (d + 6) (nI o) e M1 _ L1 hz F1 (fun M2 g2 F2 => ?_)
        have L2 := gF_LayN g2 L1
        simp +decide only [qX2_readBoth, lx L2, lz L2 hz, F2.2.1, am_w1_i, am_w1_r, am_w1_x, am_w1_l, am_w1_w, va_rf_s, am_push_n, am_push_s, am_cs_0, am_cs_i, am_cs_l, am_cs_r, m_uI_K, m_uI_N, m_uI_R, m_uI_L, m_uI_I, m_uL_K, m_uL_N, m_uL_R, m_uL_I, m_uL_L, m_uR_K, m_uR_N, m_uR_I, m_uR_L, m_uR_R, true_and, and_true, true_implies, false_implies, not_true_eq_false, not_false_eq_true, if_true, if_false, false_and, and_false]
        refine f_emit (d + 11) e (-16) M2 _ L2 hz F2 (fun M3 g3 F3 => ?_)
        simp +decide only [qX2_readBoth, am_w1_i, am_w1_r, am_w1_x, am_w1_l, am_w1_w, va_rf_s, am_push_n, am_push_s, am_cs_0, am_cs_i, am_cs_l, am_cs_r, m_uI_K, m_uI_N, m_uI_R, m_uI_L, m_uI_I, m_uL_K, m_uL_N, m_uL_R, m_uL_I, m_uL_L, m_uR_K, m_uR_N, m_uR_I, m_uR_L, m_uR_R, true_and, and_true, true_implies, false_implies, not_true_eq_false, not_false_eq_true, if_true, if_false, false_and, and_false]
        exact f_bothL (d + 12) _ _ e M3 Q (gF_LayN g3 L2) F3 (hQ M3 (by rw [he]; exact ⟨gF_trans (sRd_F g1) (gF_trans g2 g3), F3⟩))
      · have L1 := G1.1
        have typ2 := (ps_typ (T := T) (n := n) f1).2.2.2.2.2.2.2.2.2 o t1 v (tkG_OK (GoX_t G1))
        simp +decide only [qX2_readBoth, lx L1, am_w1_i, am_w1_r, am_w1_x, am_w1_l, am_w1_w, va_rf_s, am_push_n, am_push_s, am_cs_0, am_cs_i, am_cs_l, am_cs_r, m_uI_K, m_uI_N, m_uI_R, m_uI_L, m_uI_I, m_uL_K, m_uL_N, m_uL_R, m_uL_I, m_uL_L, m_uR_K, m_uR_N, m_uR_I, m_uR_L, m_uR_R, true_and, and_true, true_implies, false_implies, not_true_eq_false, not_false_eq_true, if_true, if_false, false_and, and_false]
        rcases bnd_some hk1 with ⟨e, he1, he2⟩ | ⟨t2, v2, he1, he2⟩
        · refine h9 f1 (by omega) (d + 11) o t1 v a c (v :: vs) M1 _ _ ho (by omega) G1 (by rw [List.length_cons]; omega) he1 (fun M2 P2 => ?_)
          obtain ⟨g2, F2⟩ : gF (sFz z) nT M1 M2 ∧ FaX M2 z T n e := P2
          have L2 := gF_LayN g2 L1
          simp +decide only [qX2_readBoth, lx L2, lz L2 hz, F2.2.1, am_w1_i, am_w1_r, am_w1_x, am_w1_l, am_w1_w, va_rf_s, am_push_n, am_push_s, am_cs_0, am_cs_i, am_cs_l, am_cs_r, m_uI_K, m_uI_N, m_uI_R, m_uI_L, m_uI_I, m_uL_K, m_uL_N, m_uL_R, m_uL_I, m_uL_L, m_uR_K, m_uR_N, m_uR_I, m_uR_L, m_uR_R, true_and, and_true, true_implies, false_implies, not_true_eq_false, not_false_eq_true, if_true, if_false, false_and, and_false]
          refine f_emit (d + 11) e (-16) M2 _ L2 hz F2 (fun M3 g3 F3 => ?_)
          simp +decide only [qX2_readBoth, am_w1_i, am_w1_r, am_w1_x, am_w1_l, am_w1_w, va_rf_s, am_push_n, am_push_s, am_cs_0, am_cs_i, am_cs_l, am_cs_r, m_uI_K, m_uI_N, m_uI_R, m_uI_L, m_uI_I, m_uL_K, m_uL_N, m_uL_R, m_uL_I, m_uL_L, m_uR_K, m_uR_N, m_uR_I, m_uR_L, m_uR_R, true_and, and_true, true_implies, false_implies, not_true_eq_false, not_false_eq_true, if_true, if_false, false_and, and_false]
          exact f_bothL (d + 12) _ _ e M3 Q (gF_LayN g3 L2) F3 (hQ M3 (by rw [he2]; exact ⟨gF_trans (sRd_F g1) (gF_trans g2 g3), F3⟩))
        · refine h9 f1 (by omega) (d + 11) o t1 v a c (v :: vs) M1 _ _ ho (by omega) G1 (by rw [List.length_cons]; omega) he1 (fun M2 P2 => ?_)
          obtain ⟨g2, c2, G2, hc2, hc2'⟩ : gF (sPz z c) nT M1 M2 ∧ ∃ c', GoX T n z M2 a c' (v2 :: v :: vs) t2 ∧ c ≤ c' ∧ c' + tS t1 ≤ c + tS t2 := P2
          have L2 := G2.1
          have hb2 := (typ2 t2 v2 he1).2
          have hop := op_log (r := vs) (x := -16) (op := 20) (by decide) (by omega) hv hb2
          have hbj : bdT (jnD 20 v v2) := fun x => jn_20 (hv x) (hb2 x)
          simp +decide only [qX2_readBoth, lx L2, lz L2 hz, G2.2.1, am_w1_i, am_w1_r, am_w1_x, am_w1_l, am_w1_w, va_rf_s, am_push_n, am_push_s, am_cs_0, am_cs_i, am_cs_l, am_cs_r, m_uI_K, m_uI_N, m_uI_R, m_uI_L, m_uI_I, m_uL_K, m_uL_N, m_uL_R, m_uL_I, m_uL_L, m_uR_K, m_uR_N, m_uR_I, m_uR_L, m_uR_R, true_and, and_true, true_implies, false_implies, not_true_eq_false, not_false_eq_true, if_true, if_false, false_and, and_false]
          refine g_emit (d + 11) (-16) t2 a c2 (v2 :: v :: vs) M2 _ hz hn G2 (by omega) hop.1 (fun M3 g3 G3 => ?_)
          rw [hop.2] at G3
          simp +decide only [qX2_readBoth, ni_add1, am_w1_i, am_w1_r, am_w1_x, am_w1_l, am_w1_w, va_rf_s, am_push_n, am_push_s, am_cs_0, am_cs_i, am_cs_l, am_cs_r, m_uI_K, m_uI_N, m_uI_R, m_uI_L, m_uI_I, m_uL_K, m_uL_N, m_uL_R, m_uL_I, m_uL_L, m_uR_K, m_uR_N, m_uR_I, m_uR_L, m_uR_R, true_and, and_true, true_implies, false_implies, not_true_eq_false, not_false_eq_true, if_true, if_false, false_and, and_false]
          refine ih (by omega) (d + 12) o t2 _ a (c2 + 1) vs M3 Q res (turn + 1) ho hD G3 hl hbj (by omega) he2 (fun M4 P4 => hQ M4 ?_)
          have G13 : gF (sPz z c) nT M M3 := gF_trans (sRd_P g1) (gF_trans g2 (sPz_le g3 hc2))
          cases res with
          | inl e => exact ⟨gF_trans (sPz_F G13) P4.1, P4.2⟩
          | inr q =>
            obtain ⟨g4, c4, G4, hc4, hc4'⟩ : gF (sPz z (c2 + 1)) nT M3 M4 ∧ ∃ c', GoX T n z M4 a c' (q.2 :: vs) q.1 ∧ c2 + 1 ≤ c' ∧ c' + tS t2 ≤ c2 + 1 + tS q.1 := P4
            exact ⟨gF_trans G13 (sPz_le g4 (by omega)), c4, G4, by omega, by omega⟩
    · rw [if_neg ha] at hp
      cases hp
      have h0 := hQ M ⟨gF_refl _ _ _, c, hG, Nat.le_refl _, Nat.le_refl _⟩
      have h6 : ¬ mI M 165 6 = 20 := fun q => ha (hw.mp q)
      rw [hX2_readBoth_7]
      simp +decide only [qX2_readBoth, lx hL, am_w1_i, am_w1_r, am_w1_x, am_w1_l, am_w1_w, va_rf_s, am_push_n, am_push_s, am_cs_0, am_cs_i, am_cs_l, am_cs_r, m_uI_K, m_uI_N, m_uI_R, m_uI_L, m_uI_I, m_uL_K, m_uL_N, m_uL_R, m_uL_I, m_uL_L, m_uR_K, m_uR_N, m_uR_I, m_uR_L, m_uR_R, true_and, and_true, true_implies, false_implies, not_true_eq_false, not_false_eq_true, if_true, if_false, false_and, and_false]
      exact ⟨fun _ => h0, fun _ => by rw [br_p h6]; exact h0⟩
theorem g_both (hz : z = 2 ∨ z = 83) (hn : n ≤ 1800) (f : Nat) (h9 : ∀ f', f' < f → HP T n z 9 24 2 3 f') : HP T n z 7 23 1 4 f := by
  intro D o t v0 a c vs M Q res ho hD hG hl hp hQ
  cases f with
  | zero => cases hp
  | succ f =>
    obtain ⟨d, rfl⟩ : ∃ d, D = d + 12 := ⟨D - 12, by omega⟩
    rw [ps_7] at hp
    have hL := hG.1
    rw [eX2_readBoth]
    simp +decide only [qX2_readBoth, lx hL, am_w1_i, am_w1_r, am_w1_x, am_w1_l, am_w1_w, va_rf_s, am_push_n, am_push_s, am_cs_0, am_cs_i, am_cs_l, am_cs_r, m_uI_K, m_uI_N, m_uI_R, m_uI_L, m_uI_I, m_uL_K, m_uL_N, m_uL_R, m_uL_I, m_uL_L, m_uR_K, m_uR_N, m_uR_I, m_uR_L, m_uR_R, true_and, and_true, true_implies, false_implies, not_true_eq_false, not_false_eq_true, if_true, if_false, false_and, and_false]
    rcases bnd_some hp with ⟨e, he1, he2⟩ | ⟨t1, v1, he1, he2⟩
    · refine h9 f (by omega) (d + 11) o t v0 a c vs M _ _ ho (by omega) hG (by omega) he1 (fun M1 P1 => ?_)
      obtain ⟨g1, F1⟩ : gF (sFz z) nT M M1 ∧ FaX M1 z T n e := P1
      simp +decide only [qX2_readBoth, am_w1_i, am_w1_r, am_w1_x, am_w1_l, am_w1_w, va_rf_s, am_push_n, am_push_s, am_cs_0, am_cs_i, am_cs_l, am_cs_r, m_uI_K, m_uI_N, m_uI_R, m_uI_L, m_uI_I, m_uL_K, m_uL_N, m_uL_R, m_uL_I, m_uL_L, m_uR_K, m_uR_N, m_uR_I, m_uR_L, m_uR_R, true_and, and_true, true_implies, false_implies, not_true_eq_false, not_false_eq_true, if_true, if_false, false_and, and_false]
      exact f_bothL (d + 12) _ _ e M1 Q (gF_LayN g1 hL) F1 (hQ M1 (by rw [he2]; exact ⟨g1, F1⟩))
    · refine h9 f (by omega) (d + 11) o t v0 a c vs M _ _ ho (by omega) hG (by omega) he1 (fun M1 P1 => ?_)
      obtain ⟨g1, c1, G1, hc1, hc1'⟩ : gF (sPz z c) nT M M1 ∧ ∃ c', GoX T n z M1 a c' (v1 :: vs) t1 ∧ c ≤ c' ∧ c' + tS t ≤ c + tS t1 := P1
      have hb1 := ((ps_typ (T := T) (n := n) f).2.2.2.2.2.2.2.2.2 o t v0 (tkG_OK (GoX_t hG)) t1 v1 he1).2
      simp +decide only [qX2_readBoth, am_w1_i, am_w1_r, am_w1_x, am_w1_l, am_w1_w, va_rf_s, am_push_n, am_push_s, am_cs_0, am_cs_i, am_cs_l, am_cs_r, m_uI_K, m_uI_N, m_uI_R, m_uI_L, m_uI_I, m_uL_K, m_uL_N, m_uL_R, m_uL_I, m_uL_L, m_uR_K, m_uR_N, m_uR_I, m_uR_L, m_uR_R, true_and, and_true, true_implies, false_implies, not_true_eq_false, not_false_eq_true, if_true, if_false, false_and, and_false]
      rw [show (0 : Int32) = nI 0 from rfl]
      refine g_bothL hz hn f (fun f' hf' => h9 f' (by omega)) f (Nat.le_refl _) (d + 12) o t1 v1 a c1 vs M1 Q res 0 ho hD G1 hl hb1 (Nat.zero_le _) he2 (fun M2 P2 => hQ M2 ?_)
      cases res with
      | inl e => exact ⟨gF_trans (sPz_F g1) P2.1, P2.2⟩
      | inr q =>
        obtain ⟨g4, c4, G4, hc4, hc4'⟩ : gF (sPz z c1) nT M1 M2 ∧ ∃ c', GoX T n z M2 a c' (q.2 :: vs) q.1 ∧ c1 ≤ c' ∧ c' + tS t1 ≤ c1 + tS q.1 := P2
        exact ⟨gF_trans g1 (sPz_le g4 hc1), c4, G4, by omega, by omega⟩
/-- the rest of test -/
theorem g_testL (hz : z = 2 ∨ z = 83) (hn : n ≤ 1800) (f : Nat) (h9 : ∀ f', f' < f → HP T n z 7 23 1 4 f') : ∀ (f1 : Nat), f1 ≤ f → ∀ (D o : Nat) (t : Tok) (v : Den) (a c : Nat) (vs : List Den) (M : am_M) (Q : Option Value → am_M → Prop) (res : Sum (Nat × Nat) (Tok × Den)) (turn : Nat), o ≤ 8 → 12 * (9 - o) + 5 ≤ D → GoX T n z M a c (v :: vs) t → vs.length ≤ 3 * o + 0 → bdT v → turn ≤ tS t → ps T n f1 6 o t v = some res → (∀ M', PoX T n z a c vs t M M' res → Q none M') → am_P am_P0 D (am_look tX2_readTest) 7 [.ref 164, .int (nI o), .int (nI turn)] [] M Q := by
  intro f1
  induction f1 with
  | zero => intro _ D o t v a c vs M Q res turn _ _ _ _ _ _ h; cases h
  | succ f1 ih =>
    intro hf1 D o t v a c vs M Q res turn ho hD hG hl hv htu hp hQ
    obtain ⟨d, rfl⟩ : ∃ d, D = d + 12 := ⟨D - 12, by omega⟩
    obtain ⟨hL, hpa, hR, hf, hc, hct⟩ := id hG
    have hst : StR M T n (.inr t) := hR
    have hsz := GoX_t hG
    rw [ps_6] at hp
    have hnt : tS t ≤ n := by have := hsz.1; have := hsz.2.1; omega
    have hw : mI M 165 6 = 19 ↔ isW t wOr = true := wr_is (k := 19) hst (by omega)
    by_cases ha : isW t wOr = true
    · rw [if_pos ha] at hp
      have h6 := hw.mpr ha
      have ht0 : ¬ t.1 = 0 := by have := (isW_1 ha).1; omega
      have hz0 := tkG_0 hsz ht0
      have hlt : ¬ (1800 : Int32) ≤ nI turn := by rw [show (1800 : Int32) = nI 1800 from rfl, ni_le (by omega) (by omega)]; omega
      rw [hX2_readTest_7]
      simp +decide only [qX2_readTest, lx hL, h6, am_w1_i, am_w1_r, am_w1_x, am_w1_l, am_w1_w, va_rf_s, am_push_n, am_push_s, am_cs_0, am_cs_i, am_cs_l, am_cs_r, m_uI_K, m_uI_N, m_uI_R, m_uI_L, m_uI_I, m_uL_K, m_uL_N, m_uL_R, m_uL_I, m_uL_L, m_uR_K, m_uR_N, m_uR_I, m_uR_L, m_uR_R, true_and, and_true, true_implies, false_implies, not_true_eq_false, not_false_eq_true, if_true, if_false, false_and, and_false]
      rw [br_n hlt]
      refine g_step (d + 10) t _ res a c (v :: vs) M _ hz hG ht0 hp (fun M1 e he g1 F1 => ?_) (fun M1 t1 g1 G1 hs1 hk1 => ?_)
      · have L1 := gF_LayN g1 hL
        simp +decide only [qX2_readTest, lx L1, am_w1_i, am_w1_r, am_w1_x, am_w1_l, am_w1_w, va_rf_s, am_push_n, am_push_s, am_cs_0, am_cs_i, am_cs_l, am_cs_r, m_uI_K, m_uI_N, m_uI_R, m_uI_L, m_uI_I, m_uL_K, m_uL_N, m_uL_R, m_uL_I, m_uL_L, m_uR_K, m_uR_N, m_uR_I, m_uR_L, m_uR_R, true_and, and_true, true_implies, false_implies, not_true_eq_false, not_false_eq_true, if_true, if_false, false_and, and_false]
        refine f_both (d + 5) (nI o) e M1 _ L1 hz F1 (fun M2 g2 F2 => ?_)
        have L2 := gF_LayN g2 L1
        simp +decide only [qX2_readTest, lx L2, lz L2 hz, F2.2.1, am_w1_i, am_w1_r, am_w1_x, am_w1_l, am_w1_w, va_rf_s, am_push_n, am_push_s, am_cs_0, am_cs_i, am_cs_l, am_cs_r, m_uI_K, m_uI_N, m_uI_R, m_uI_L, m_uI_I, m_uL_K, m_uL_N, m_uL_R, m_uL_I, m_uL_L, m_uR_K, m_uR_N, m_uR_I, m_uR_L, m_uR_R, true_and, and_true, true_implies, false_implies, not_true_eq_false, not_false_eq_true, if_true, if_false, false_and, and_false]
        refine f_emit (d + 11) e (-17) M2 _ L2 hz F2 (fun M3 g3 F3 => ?_)
        simp +decide only [qX2_readTest, am_w1_i, am_w1_r, am_w1_x, am_w1_l, am_w1_w, va_rf_s, am_push_n, am_push_s, am_cs_0, am_cs_i, am_cs_l, am_cs_r, m_uI_K, m_uI_N, m_uI_R, m_uI_L, m_uI_I, m_uL_K, m_uL_N, m_uL_R, m_uL_I, m_uL_L, m_uR_K, m_uR_N, m_uR_I, m_uR_L, m_uR_R, true_and, and_true, true_implies, false_implies, not_true_eq_false, not_false_eq_true, if_true, if_false, false_and, and_false]
        exact f_testL (d + 12) _ _ e M3 Q (gF_LayN g3 L2) F3 (hQ M3 (by rw [he]; exact ⟨gF_trans (sRd_F g1) (gF_trans g2 g3), F3⟩))
      · have L1 := G1.1
        have typ2 := (ps_typ (T := T) (n := n) f1).2.2.2.2.2.2.2.1 o t1 v (tkG_OK (GoX_t G1))
        simp +decide only [qX2_readTest, lx L1, am_w1_i, am_w1_r, am_w1_x, am_w1_l, am_w1_w, va_rf_s, am_push_n, am_push_s, am_cs_0, am_cs_i, am_cs_l, am_cs_r, m_uI_K, m_uI_N, m_uI_R, m_uI_L, m_uI_I, m_uL_K, m_uL_N, m_uL_R, m_uL_I, m_uL_L, m_uR_K, m_uR_N, m_uR_I, m_uR_L, m_uR_R, true_and, and_true, true_implies, false_implies, not_true_eq_false, not_false_eq_true, if_true, if_false, false_and, and_false]
        rcases bnd_some hk1 with ⟨e, he1, he2⟩ | ⟨t2, v2, he1, he2⟩
        · refine h9 f1 (by omega) (d + 11) o t1 v a c (v :: vs) M1 _ _ ho (by omega) G1 (by rw [List.length_cons]; omega) he1 (fun M2 P2 => ?_)
          obtain ⟨g2, F2⟩ : gF (sFz z) nT M1 M2 ∧ FaX M2 z T n e := P2
          have L2 := gF_LayN g2 L1
          simp +decide only [qX2_readTest, lx L2, lz L2 hz, F2.2.1, am_w1_i, am_w1_r, am_w1_x, am_w1_l, am_w1_w, va_rf_s, am_push_n, am_push_s, am_cs_0, am_cs_i, am_cs_l, am_cs_r, m_uI_K, m_uI_N, m_uI_R, m_uI_L, m_uI_I, m_uL_K, m_uL_N, m_uL_R, m_uL_I, m_uL_L, m_uR_K, m_uR_N, m_uR_I, m_uR_L, m_uR_R, true_and, and_true, true_implies, false_implies, not_true_eq_false, not_false_eq_true, if_true, if_false, false_and, and_false]
          refine f_emit (d + 11) e (-17) M2 _ L2 hz F2 (fun M3 g3 F3 => ?_)
          simp +decide only [qX2_readTest, am_w1_i, am_w1_r, am_w1_x, am_w1_l, am_w1_w, va_rf_s, am_push_n, am_push_s, am_cs_0, am_cs_i, am_cs_l, am_cs_r, m_uI_K, m_uI_N, m_uI_R, m_uI_L, m_uI_I, m_uL_K, m_uL_N, m_uL_R, m_uL_I, m_uL_L, m_uR_K, m_uR_N, m_uR_I, m_uR_L, m_uR_R, true_and, and_true, true_implies, false_implies, not_true_eq_false, not_false_eq_true, if_true, if_false, false_and, and_false]
          exact f_testL (d + 12) _ _ e M3 Q (gF_LayN g3 L2) F3 (hQ M3 (by rw [he2]; exact ⟨gF_trans (sRd_F g1) (gF_trans g2 g3), F3⟩))
        · refine h9 f1 (by omega) (d + 11) o t1 v a c (v :: vs) M1 _ _ ho (by omega) G1 (by rw [List.length_cons]; omega) he1 (fun M2 P2 => ?_)
          obtain ⟨g2, c2, G2, hc2, hc2'⟩ : gF (sPz z c) nT M1 M2 ∧ ∃ c', GoX T n z M2 a c' (v2 :: v :: vs) t2 ∧ c ≤ c' ∧ c' + tS t1 ≤ c + tS t2 := P2
          have L2 := G2.1
          have hb2 := (typ2 t2 v2 he1).2
          have hop := op_log (r := vs) (x := -17) (op := 21) (by decide) (by omega) hv hb2
          have hbj : bdT (jnD 21 v v2) := fun x => jn_21 (v x) (v2 x)
          simp +decide only [qX2_readTest, lx L2, lz L2 hz, G2.2.1, am_w1_i, am_w1_r, am_w1_x, am_w1_l, am_w1_w, va_rf_s, am_push_n, am_push_s, am_cs_0, am_cs_i, am_cs_l, am_cs_r, m_uI_K, m_uI_N, m_uI_R, m_uI_L, m_uI_I, m_uL_K, m_uL_N, m_uL_R, m_uL_I, m_uL_L, m_uR_K, m_uR_N, m_uR_I, m_uR_L, m_uR_R, true_and, and_true, true_implies, false_implies, not_true_eq_false, not_false_eq_true, if_true, if_false, false_and, and_false]
          refine g_emit (d + 11) (-17) t2 a c2 (v2 :: v :: vs) M2 _ hz hn G2 (by omega) hop.1 (fun M3 g3 G3 => ?_)
          rw [hop.2] at G3
          simp +decide only [qX2_readTest, ni_add1, am_w1_i, am_w1_r, am_w1_x, am_w1_l, am_w1_w, va_rf_s, am_push_n, am_push_s, am_cs_0, am_cs_i, am_cs_l, am_cs_r, m_uI_K, m_uI_N, m_uI_R, m_uI_L, m_uI_I, m_uL_K, m_uL_N, m_uL_R, m_uL_I, m_uL_L, m_uR_K, m_uR_N, m_uR_I, m_uR_L, m_uR_R, true_and, and_true, true_implies, false_implies, not_true_eq_false, not_false_eq_true, if_true, if_false, false_and, and_false]
          refine ih (by omega) (d + 12) o t2 _ a (c2 + 1) vs M3 Q res (turn + 1) ho hD G3 hl hbj (by omega) he2 (fun M4 P4 => hQ M4 ?_)
          have G13 : gF (sPz z c) nT M M3 := gF_trans (sRd_P g1) (gF_trans g2 (sPz_le g3 hc2))
          cases res with
          | inl e => exact ⟨gF_trans (sPz_F G13) P4.1, P4.2⟩
          | inr q =>
            obtain ⟨g4, c4, G4, hc4, hc4'⟩ : gF (sPz z (c2 + 1)) nT M3 M4 ∧ ∃ c', GoX T n z M4 a c' (q.2 :: vs) q.1 ∧ c2 + 1 ≤ c' ∧ c' + tS t2 ≤ c2 + 1 + tS q.1 := P4
            exact ⟨gF_trans G13 (sPz_le g4 (by omega)), c4, G4, by omega, by omega⟩
    · rw [if_neg ha] at hp
      cases hp
      have h0 := hQ M ⟨gF_refl _ _ _, c, hG, Nat.le_refl _, Nat.le_refl _⟩
      have h6 : ¬ mI M 165 6 = 19 := fun q => ha (hw.mp q)
      rw [hX2_readTest_7]
      simp +decide only [qX2_readTest, lx hL, am_w1_i, am_w1_r, am_w1_x, am_w1_l, am_w1_w, va_rf_s, am_push_n, am_push_s, am_cs_0, am_cs_i, am_cs_l, am_cs_r, m_uI_K, m_uI_N, m_uI_R, m_uI_L, m_uI_I, m_uL_K, m_uL_N, m_uL_R, m_uL_I, m_uL_L, m_uR_K, m_uR_N, m_uR_I, m_uR_L, m_uR_R, true_and, and_true, true_implies, false_implies, not_true_eq_false, not_false_eq_true, if_true, if_false, false_and, and_false]
      exact ⟨fun _ => h0, fun _ => by rw [br_p h6]; exact h0⟩
theorem g_test (hz : z = 2 ∨ z = 83) (hn : n ≤ 1800) (f : Nat) (h9 : ∀ f', f' < f → HP T n z 7 23 1 4 f') : HP T n z 5 22 0 5 f := by
  intro D o t v0 a c vs M Q res ho hD hG hl hp hQ
  cases f with
  | zero => cases hp
  | succ f =>
    obtain ⟨d, rfl⟩ : ∃ d, D = d + 12 := ⟨D - 12, by omega⟩
    rw [ps_5] at hp
    have hL := hG.1
    rw [eX2_readTest]
    simp +decide only [qX2_readTest, lx hL, am_w1_i, am_w1_r, am_w1_x, am_w1_l, am_w1_w, va_rf_s, am_push_n, am_push_s, am_cs_0, am_cs_i, am_cs_l, am_cs_r, m_uI_K, m_uI_N, m_uI_R, m_uI_L, m_uI_I, m_uL_K, m_uL_N, m_uL_R, m_uL_I, m_uL_L, m_uR_K, m_uR_N, m_uR_I, m_uR_L, m_uR_R, true_and, and_true, true_implies, false_implies, not_true_eq_false, not_false_eq_true, if_true, if_false, false_and, and_false]
    rcases bnd_some hp with ⟨e, he1, he2⟩ | ⟨t1, v1, he1, he2⟩
    · refine h9 f (by omega) (d + 11) o t v0 a c vs M _ _ ho (by omega) hG (by omega) he1 (fun M1 P1 => ?_)
      obtain ⟨g1, F1⟩ : gF (sFz z) nT M M1 ∧ FaX M1 z T n e := P1
      simp +decide only [qX2_readTest, am_w1_i, am_w1_r, am_w1_x, am_w1_l, am_w1_w, va_rf_s, am_push_n, am_push_s, am_cs_0, am_cs_i, am_cs_l, am_cs_r, m_uI_K, m_uI_N, m_uI_R, m_uI_L, m_uI_I, m_uL_K, m_uL_N, m_uL_R, m_uL_I, m_uL_L, m_uR_K, m_uR_N, m_uR_I, m_uR_L, m_uR_R, true_and, and_true, true_implies, false_implies, not_true_eq_false, not_false_eq_true, if_true, if_false, false_and, and_false]
      exact f_testL (d + 12) _ _ e M1 Q (gF_LayN g1 hL) F1 (hQ M1 (by rw [he2]; exact ⟨g1, F1⟩))
    · refine h9 f (by omega) (d + 11) o t v0 a c vs M _ _ ho (by omega) hG (by omega) he1 (fun M1 P1 => ?_)
      obtain ⟨g1, c1, G1, hc1, hc1'⟩ : gF (sPz z c) nT M M1 ∧ ∃ c', GoX T n z M1 a c' (v1 :: vs) t1 ∧ c ≤ c' ∧ c' + tS t ≤ c + tS t1 := P1
      have hb1 := ((ps_typ (T := T) (n := n) f).2.2.2.2.2.2.2.1 o t v0 (tkG_OK (GoX_t hG)) t1 v1 he1).2
      simp +decide only [qX2_readTest, am_w1_i, am_w1_r, am_w1_x, am_w1_l, am_w1_w, va_rf_s, am_push_n, am_push_s, am_cs_0, am_cs_i, am_cs_l, am_cs_r, m_uI_K, m_uI_N, m_uI_R, m_uI_L, m_uI_I, m_uL_K, m_uL_N, m_uL_R, m_uL_I, m_uL_L, m_uR_K, m_uR_N, m_uR_I, m_uR_L, m_uR_R, true_and, and_true, true_implies, false_implies, not_true_eq_false, not_false_eq_true, if_true, if_false, false_and, and_false]
      rw [show (0 : Int32) = nI 0 from rfl]
      refine g_testL hz hn f (fun f' hf' => h9 f' (by omega)) f (Nat.le_refl _) (d + 12) o t1 v1 a c1 vs M1 Q res 0 ho hD G1 hl hb1 (Nat.zero_le _) he2 (fun M2 P2 => hQ M2 ?_)
      cases res with
      | inl e => exact ⟨gF_trans (sPz_F g1) P2.1, P2.2⟩
      | inr q =>
        obtain ⟨g4, c4, G4, hc4, hc4'⟩ : gF (sPz z c1) nT M1 M2 ∧ ∃ c', GoX T n z M2 a c' (q.2 :: vs) q.1 ∧ c1 ≤ c' ∧ c' + tS t1 ≤ c1 + tS q.1 := P2
        exact ⟨gF_trans g1 (sPz_le g4 hc1), c4, G4, by omega, by omega⟩
theorem g_all (hz : z = 2 ∨ z = 83) (hn : n ≤ 1800) : ∀ f, (HP T n z 0 26 3 2 f ∧ HP T n z 2 27 4 1 f ∧ HP T n z 4 29 5 0 f) ∧ HP T n z 5 22 0 5 f ∧ HP T n z 7 23 1 4 f ∧ HP T n z 9 24 2 3 f := by
  intro f
  induction f using Nat.strongRecOn with
  | ind f ih =>
    exact ⟨⟨g_sum hz hn f (fun f' h => (ih f' h).1.2.1), g_prod hz hn f (fun f' h => (ih f' h).1.2.2), g_part hz hn f (fun f' h => (ih f' h).1.1)⟩, g_test hz hn f (fun f' h => (ih f' h).2.2.1), g_both hz hn f (fun f' h => (ih f' h).2.2.2), g_fact hz hn f (fun f' h => (ih f' h).2.1) (fun f' h => (ih f' h).1.1)⟩
end
