/-! the class's parser: products, parts -/
def msI (t : Tok) : Int32 := if isS t 42 = true then -8 else if isS t 47 = true then -9 else if isS t 37 = true then -10 else 0
theorem msI_op {t : Tok} : (mulOp t = 0 ↔ msI t = 0) ∧ (¬ mulOp t = 0 → inX (msI t) = (mulOp t, 0)) := by
  unfold msI mulOp
  by_cases c1 : isS t 42 = true
  · rw [if_pos c1, if_pos c1]; exact ⟨by decide, fun _ => rfl⟩
  · rw [if_neg c1, if_neg c1]
    by_cases c2 : isS t 47 = true
    · rw [if_pos c2, if_pos c2]; exact ⟨by decide, fun _ => rfl⟩
    · rw [if_neg c2, if_neg c2]
      by_cases c3 : isS t 37 = true
      · rw [if_pos c3, if_pos c3]; exact ⟨by decide, fun _ => rfl⟩
      · rw [if_neg c3, if_neg c3]; exact ⟨by decide, fun q => absurd rfl q⟩
section
variable {T : Nat → Nat} {n z : Nat}
theorem c_x_times (d : Nat) (t : Tok) (M : am_M) (Q : Option Value → am_M → Prop) (hL : Lay M) (hR : RdX M T n t) : am_E am_P0 (d + 1) 28 [.ref 164] M Q ↔ Q (some (.int (msI t))) M := by
  have hst : StR M T n (.inr t) := hR
  have s1 := fun Q => c_x_isSign d n 42 T (.inr t) M Q hL (by omega) hst
  have s2 := fun Q => c_x_isSign d n 47 T (.inr t) M Q hL (by omega) hst
  have s3 := fun Q => c_x_isSign d n 37 T (.inr t) M Q hL (by omega) hst
  rw [show nI 42 = (42 : Int32) from rfl] at s1
  rw [show nI 47 = (47 : Int32) from rfl] at s2
  rw [show nI 37 = (37 : Int32) from rfl] at s3
  rw [eX2_timesSign]
  simp +decide only [qX2_timesSign, lx hL, s1, s2, s3, isSr, am_w1_i, am_w1_r, am_w1_x, am_w1_l, am_w1_w, va_rf_s, am_push_n, am_push_s, am_cs_0, am_cs_i, am_cs_l, am_cs_r, m_uI_K, m_uI_N, m_uI_R, m_uI_L, m_uI_I, m_uL_K, m_uL_N, m_uL_R, m_uL_I, m_uL_L, m_uR_K, m_uR_N, m_uR_I, m_uR_L, m_uR_R, true_and, and_true, true_implies, false_implies, not_true_eq_false, not_false_eq_true, if_true, if_false, false_and, and_false]
  unfold msI
  cases c1 : isS t 42 with
  | true => rw [br_n (by decide), if_pos rfl]
  | false =>
    rw [br_p (by decide), if_neg (by decide)]
    cases c2 : isS t 47 with
    | true => rw [br_n (by decide), if_pos rfl]
    | false =>
      rw [br_p (by decide), if_neg (by decide)]
      cases c3 : isS t 37 with
      | true => rw [br_n (by decide), if_pos rfl]
      | false => rw [br_p (by decide), if_neg (by decide)]
/-- the rest of a product -/
theorem g_prodL (hz : z = 2 ∨ z = 83) (hn : n ≤ 1800) (f : Nat) (h4 : ∀ f', f' < f → HP T n z 4 29 5 0 f') : ∀ (f1 : Nat), f1 ≤ f → ∀ (D o : Nat) (t : Tok) (v : Den) (a c : Nat) (vs : List Den) (M : am_M) (Q : Option Value → am_M → Prop) (res : Sum (Nat × Nat) (Tok × Den)) (turn : Nat) (v3 : Value), o ≤ 8 → 12 * (9 - o) + 1 ≤ D → GoX T n z M a c (v :: vs) t → vs.length ≤ 3 * o + 4 → bdS v → turn ≤ tS t → ps T n f1 3 o t v = some res → (∀ M', PoX T n z a c vs t M M' res → Q none M') → am_P am_P0 D (am_look tX2_readProduct) 7 [.ref 164, .int (nI o), .int (nI turn), v3] [] M Q := by
  intro f1
  induction f1 with
  | zero => intro _ D o t v a c vs M Q res turn v3 _ _ _ _ _ _ h; cases h
  | succ f1 ih =>
    intro hf1 D o t v a c vs M Q res turn v3 ho hD hG hl hv htu hp hQ
    obtain ⟨d, rfl⟩ : ∃ d, D = d + 12 := ⟨D - 12, by omega⟩
    obtain ⟨hL, hpa, hR, hf, hc, hct⟩ := id hG
    have hsz := GoX_t hG
    rw [ps_3] at hp
    have hnt : tS t ≤ n := by have := hsz.1; have := hsz.2.1; omega
    have s1 := fun Q => c_x_times (T := T) (n := n) (d + 10) t M Q hL hR
    have hms := msI_op (t := t)
    by_cases ha : mulOp t = 0
    · rw [if_pos ha] at hp
      cases hp
      have h0 := hQ M ⟨gF_refl _ _ _, c, hG, Nat.le_refl _, Nat.le_refl _⟩
      have e1 := hms.1.mp ha
      rw [hX2_readProduct_7]
      simp +decide only [qX2_readProduct, lx hL, s1, e1, am_w1_i, am_w1_r, am_w1_x, am_w1_l, am_w1_w, va_rf_s, am_push_n, am_push_s, am_cs_0, am_cs_i, am_cs_l, am_cs_r, m_uI_K, m_uI_N, m_uI_R, m_uI_L, m_uI_I, m_uL_K, m_uL_N, m_uL_R, m_uL_I, m_uL_L, m_uR_K, m_uR_N, m_uR_I, m_uR_L, m_uR_R, true_and, and_true, true_implies, false_implies, not_true_eq_false, not_false_eq_true, if_true, if_false, false_and, and_false]
      exact ⟨fun _ => h0, fun _ => h0⟩
    · rw [if_neg ha] at hp
      have h3 := mul_s ha
      have ht0 : ¬ t.1 = 0 := by omega
      have hz0 := tkG_0 hsz ht0
      have hx := hms.2 ha
      have hx0 : ¬ msI t = 0 := fun q => ha (hms.1.mpr q)
      have hlt : ¬ (1800 : Int32) ≤ nI turn := by rw [show (1800 : Int32) = nI 1800 from rfl, ni_le (by omega) (by omega)]; omega
      have main : am_E am_P0 (d + 11) 35 [.ref 165] M (fun r M2 => am_P am_P0 (d + 12) (am_look tX2_readProduct) 33 [.ref 164, .int (nI o), .int (nI turn), .int (msI t)] (am_push r []) M2 Q) := by
        refine g_step (d + 10) t _ res a c (v :: vs) M _ hz hG ht0 hp (fun M1 e he g1 F1 => ?_) (fun M1 t1 g1 G1 hs1 hk1 => ?_)
        · have L1 := gF_LayN g1 hL
          simp +decide only [qX2_readProduct, lx L1, am_w1_i, am_w1_r, am_w1_x, am_w1_l, am_w1_w, va_rf_s, am_push_n, am_push_s, am_cs_0, am_cs_i, am_cs_l, am_cs_r, m_uI_K, m_uI_N, m_uI_R, m_uI_L, m_uI_I, m_uL_K, m_uL_N, m_uL_R, m_uL_I, m_uL_L, m_uR_K, m_uR_N, m_uR_I, m_uR_L, m_uR_R, true_and, and_true, true_implies, false_implies, not_true_eq_false, not_false_eq_true, if_true, if_false, false_and, and_false]
          refine f_part (d + 9) (nI o) e M1 _ L1 hz F1 (fun M2 g2 F2 => ?_)
          have L2 := gF_LayN g2 L1
          simp +decide only [qX2_readProduct, lx L2, lz L2 hz, F2.2.1, am_w1_i, am_w1_r, am_w1_x, am_w1_l, am_w1_w, va_rf_s, am_push_n, am_push_s, am_cs_0, am_cs_i, am_cs_l, am_cs_r, m_uI_K, m_uI_N, m_uI_R, m_uI_L, m_uI_I, m_uL_K, m_uL_N, m_uL_R, m_uL_I, m_uL_L, m_uR_K, m_uR_N, m_uR_I, m_uR_L, m_uR_R, true_and, and_true, true_implies, false_implies, not_true_eq_false, not_false_eq_true, if_true, if_false, false_and, and_false]
          refine f_emit (d + 11) e (msI t) M2 _ L2 hz F2 (fun M3 g3 F3 => ?_)
          simp +decide only [qX2_readProduct, am_w1_i, am_w1_r, am_w1_x, am_w1_l, am_w1_w, va_rf_s, am_push_n, am_push_s, am_cs_0, am_cs_i, am_cs_l, am_cs_r, m_uI_K, m_uI_N, m_uI_R, m_uI_L, m_uI_I, m_uL_K, m_uL_N, m_uL_R, m_uL_I, m_uL_L, m_uR_K, m_uR_N, m_uR_I, m_uR_L, m_uR_R, true_and, and_true, true_implies, false_implies, not_true_eq_false, not_false_eq_true, if_true, if_false, false_and, and_false]
          exact f_prodL (d + 10) _ _ _ e M3 Q (gF_LayN g3 L2) F3 (hQ M3 (by rw [he]; exact ⟨gF_trans (sRd_F g1) (gF_trans g2 g3), F3⟩))
        · have L1 := G1.1
          have typ2 := (ps_typ (T := T) (n := n) f1).2.2.2.2.1 o t1 v (tkG_OK (GoX_t G1))
          simp +decide only [qX2_readProduct, lx L1, am_w1_i, am_w1_r, am_w1_x, am_w1_l, am_w1_w, va_rf_s, am_push_n, am_push_s, am_cs_0, am_cs_i, am_cs_l, am_cs_r, m_uI_K, m_uI_N, m_uI_R, m_uI_L, m_uI_I, m_uL_K, m_uL_N, m_uL_R, m_uL_I, m_uL_L, m_uR_K, m_uR_N, m_uR_I, m_uR_L, m_uR_R, true_and, and_true, true_implies, false_implies, not_true_eq_false, not_false_eq_true, if_true, if_false, false_and, and_false]
          rcases bnd_some hk1 with ⟨e, he1, he2⟩ | ⟨t2, v2, he1, he2⟩
          · refine h4 f1 (by omega) (d + 11) o t1 v a c (v :: vs) M1 _ _ ho (by omega) G1 (by rw [List.length_cons]; omega) he1 (fun M2 P2 => ?_)
            obtain ⟨g2, F2⟩ : gF (sFz z) nT M1 M2 ∧ FaX M2 z T n e := P2
            have L2 := gF_LayN g2 L1
            simp +decide only [qX2_readProduct, lx L2, lz L2 hz, F2.2.1, am_w1_i, am_w1_r, am_w1_x, am_w1_l, am_w1_w, va_rf_s, am_push_n, am_push_s, am_cs_0, am_cs_i, am_cs_l, am_cs_r, m_uI_K, m_uI_N, m_uI_R, m_uI_L, m_uI_I, m_uL_K, m_uL_N, m_uL_R, m_uL_I, m_uL_L, m_uR_K, m_uR_N, m_uR_I, m_uR_L, m_uR_R, true_and, and_true, true_implies, false_implies, not_true_eq_false, not_false_eq_true, if_true, if_false, false_and, and_false]
            refine f_emit (d + 11) e (msI t) M2 _ L2 hz F2 (fun M3 g3 F3 => ?_)
            simp +decide only [qX2_readProduct, am_w1_i, am_w1_r, am_w1_x, am_w1_l, am_w1_w, va_rf_s, am_push_n, am_push_s, am_cs_0, am_cs_i, am_cs_l, am_cs_r, m_uI_K, m_uI_N, m_uI_R, m_uI_L, m_uI_I, m_uL_K, m_uL_N, m_uL_R, m_uL_I, m_uL_L, m_uR_K, m_uR_N, m_uR_I, m_uR_L, m_uR_R, true_and, and_true, true_implies, false_implies, not_true_eq_false, not_false_eq_true, if_true, if_false, false_and, and_false]
            exact f_prodL (d + 10) _ _ _ e M3 Q (gF_LayN g3 L2) F3 (hQ M3 (by rw [he2]; exact ⟨gF_trans (sRd_F g1) (gF_trans g2 g3), F3⟩))
          · refine h4 f1 (by omega) (d + 11) o t1 v a c (v :: vs) M1 _ _ ho (by omega) G1 (by rw [List.length_cons]; omega) he1 (fun M2 P2 => ?_)
            obtain ⟨g2, c2, G2, hc2, hc2'⟩ : gF (sPz z c) nT M1 M2 ∧ ∃ c', GoX T n z M2 a c' (v2 :: v :: vs) t2 ∧ c ≤ c' ∧ c' + tS t1 ≤ c + tS t2 := P2
            have L2 := G2.1
            have hb2 := (typ2 t2 v2 he1).2
            have hop := op_bin (r := vs) hx (by have := mul_3 ha; omega) (by have := mul_3 ha; omega) hv hb2
            have hbj : bdS (jnD (mulOp t) v v2) := jnD_bd (by have := mul_3 ha; omega) hv hb2
            simp +decide only [qX2_readProduct, lx L2, lz L2 hz, G2.2.1, am_w1_i, am_w1_r, am_w1_x, am_w1_l, am_w1_w, va_rf_s, am_push_n, am_push_s, am_cs_0, am_cs_i, am_cs_l, am_cs_r, m_uI_K, m_uI_N, m_uI_R, m_uI_L, m_uI_I, m_uL_K, m_uL_N, m_uL_R, m_uL_I, m_uL_L, m_uR_K, m_uR_N, m_uR_I, m_uR_L, m_uR_R, true_and, and_true, true_implies, false_implies, not_true_eq_false, not_false_eq_true, if_true, if_false, false_and, and_false]
            refine g_emit (d + 11) (msI t) t2 a c2 (v2 :: v :: vs) M2 _ hz hn G2 (by omega) hop.1 (fun M3 g3 G3 => ?_)
            rw [hop.2] at G3
            simp +decide only [qX2_readProduct, ni_add1, am_w1_i, am_w1_r, am_w1_x, am_w1_l, am_w1_w, va_rf_s, am_push_n, am_push_s, am_cs_0, am_cs_i, am_cs_l, am_cs_r, m_uI_K, m_uI_N, m_uI_R, m_uI_L, m_uI_I, m_uL_K, m_uL_N, m_uL_R, m_uL_I, m_uL_L, m_uR_K, m_uR_N, m_uR_I, m_uR_L, m_uR_R, true_and, and_true, true_implies, false_implies, not_true_eq_false, not_false_eq_true, if_true, if_false, false_and, and_false]
            refine ih (by omega) (d + 12) o t2 _ a (c2 + 1) vs M3 Q res (turn + 1) _ ho hD G3 hl hbj (by omega) he2 (fun M4 P4 => hQ M4 ?_)
            have G13 : gF (sPz z c) nT M M3 := gF_trans (sRd_P g1) (gF_trans g2 (sPz_le g3 hc2))
            cases res with
            | inl e => exact ⟨gF_trans (sPz_F G13) P4.1, P4.2⟩
            | inr q =>
              obtain ⟨g4, c4, G4, hc4, hc4'⟩ : gF (sPz z (c2 + 1)) nT M3 M4 ∧ ∃ c', GoX T n z M4 a c' (q.2 :: vs) q.1 ∧ c2 + 1 ≤ c' ∧ c' + tS t2 ≤ c2 + 1 + tS q.1 := P4
              exact ⟨gF_trans G13 (sPz_le g4 (by omega)), c4, G4, by omega, by omega⟩
      rw [hX2_readProduct_7]
      simp +decide only [qX2_readProduct, lx hL, s1, am_w1_i, am_w1_r, am_w1_x, am_w1_l, am_w1_w, va_rf_s, am_push_n, am_push_s, am_cs_0, am_cs_i, am_cs_l, am_cs_r, m_uI_K, m_uI_N, m_uI_R, m_uI_L, m_uI_I, m_uL_K, m_uL_N, m_uL_R, m_uL_I, m_uL_L, m_uR_K, m_uR_N, m_uR_I, m_uR_L, m_uR_R, true_and, and_true, true_implies, false_implies, not_true_eq_false, not_false_eq_true, if_true, if_false, false_and, and_false] at main ⊢
      rw [br_n hlt, br_n hx0]
      exact main
theorem g_prod (hz : z = 2 ∨ z = 83) (hn : n ≤ 1800) (f : Nat) (h4 : ∀ f', f' < f → HP T n z 4 29 5 0 f') : HP T n z 2 27 4 1 f := by
  intro D o t v0 a c vs M Q res ho hD hG hl hp hQ
  cases f with
  | zero => cases hp
  | succ f =>
    obtain ⟨d, rfl⟩ : ∃ d, D = d + 12 := ⟨D - 12, by omega⟩
    rw [ps_2] at hp
    have hL := hG.1
    rw [eX2_readProduct]
    simp +decide only [qX2_readProduct, lx hL, am_w1_i, am_w1_r, am_w1_x, am_w1_l, am_w1_w, va_rf_s, am_push_n, am_push_s, am_cs_0, am_cs_i, am_cs_l, am_cs_r, m_uI_K, m_uI_N, m_uI_R, m_uI_L, m_uI_I, m_uL_K, m_uL_N, m_uL_R, m_uL_I, m_uL_L, m_uR_K, m_uR_N, m_uR_I, m_uR_L, m_uR_R, true_and, and_true, true_implies, false_implies, not_true_eq_false, not_false_eq_true, if_true, if_false, false_and, and_false]
    rcases bnd_some hp with ⟨e, he1, he2⟩ | ⟨t1, v1, he1, he2⟩
    · refine h4 f (by omega) (d + 11) o t v0 a c vs M _ _ ho (by omega) hG (by omega) he1 (fun M1 P1 => ?_)
      obtain ⟨g1, F1⟩ : gF (sFz z) nT M M1 ∧ FaX M1 z T n e := P1
      simp +decide only [qX2_readProduct, am_w1_i, am_w1_r, am_w1_x, am_w1_l, am_w1_w, va_rf_s, am_push_n, am_push_s, am_cs_0, am_cs_i, am_cs_l, am_cs_r, m_uI_K, m_uI_N, m_uI_R, m_uI_L, m_uI_I, m_uL_K, m_uL_N, m_uL_R, m_uL_I, m_uL_L, m_uR_K, m_uR_N, m_uR_I, m_uR_L, m_uR_R, true_and, and_true, true_implies, false_implies, not_true_eq_false, not_false_eq_true, if_true, if_false, false_and, and_false]
      exact f_prodL (d + 10) _ _ _ e M1 Q (gF_LayN g1 hL) F1 (hQ M1 (by rw [he2]; exact ⟨g1, F1⟩))
    · refine h4 f (by omega) (d + 11) o t v0 a c vs M _ _ ho (by omega) hG (by omega) he1 (fun M1 P1 => ?_)
      obtain ⟨g1, c1, G1, hc1, hc1'⟩ : gF (sPz z c) nT M M1 ∧ ∃ c', GoX T n z M1 a c' (v1 :: vs) t1 ∧ c ≤ c' ∧ c' + tS t ≤ c + tS t1 := P1
      have hb1 := ((ps_typ (T := T) (n := n) f).2.2.2.2.1 o t v0 (tkG_OK (GoX_t hG)) t1 v1 he1).2
      simp +decide only [qX2_readProduct, am_w1_i, am_w1_r, am_w1_x, am_w1_l, am_w1_w, va_rf_s, am_push_n, am_push_s, am_cs_0, am_cs_i, am_cs_l, am_cs_r, m_uI_K, m_uI_N, m_uI_R, m_uI_L, m_uI_I, m_uL_K, m_uL_N, m_uL_R, m_uL_I, m_uL_L, m_uR_K, m_uR_N, m_uR_I, m_uR_L, m_uR_R, true_and, and_true, true_implies, false_implies, not_true_eq_false, not_false_eq_true, if_true, if_false, false_and, and_false]
      rw [show (0 : Int32) = nI 0 from rfl]
      refine g_prodL hz hn f (fun f' hf' => h4 f' (by omega)) f (Nat.le_refl _) (d + 12) o t1 v1 a c1 vs M1 Q res 0 _ ho hD G1 hl hb1 (Nat.zero_le _) he2 (fun M2 P2 => hQ M2 ?_)
      cases res with
      | inl e => exact ⟨gF_trans (sPz_F g1) P2.1, P2.2⟩
      | inr q =>
        obtain ⟨g4, c4, G4, hc4, hc4'⟩ : gF (sPz z c1) nT M1 M2 ∧ ∃ c', GoX T n z M2 a c' (q.2 :: vs) q.1 ∧ c1 ≤ c' ∧ c' + tS t1 ≤ c1 + tS q.1 := P2
        exact ⟨gF_trans g1 (sPz_le g4 hc1), c4, G4, by omega, by omega⟩
/-- a leaf -/
theorem g_leaf (d : Nat) (x : Int32) (u : Den) (t : Tok) (res : Sum (Nat × Nat) (Tok × Den)) (a c : Nat) (vs : List Den) (M : am_M) (Q : Option Value → am_M → Prop) (hz : z = 2 ∨ z = 83) (hn : n ≤ 1800) (hG : GoX T n z M a c vs t) (h0 : ¬ t.1 = 0) (hop : opOK 64 (inX x) vs ∧ stD (inX x) vs = u :: vs) (hp : adv T n t (fun t1 => some (.inr (t1, u))) = some res)
    (hQ : ∀ M', PoX T n z a c vs t M M' res → Q none M') : am_E am_P0 (d + 2) 30 [.ref 164, .int x] M Q := by
  have hL := hG.1
  have hz0 := tkG_0 (GoX_t hG) h0
  have hct := hG.2.2.2.2.2
  have hR := hG.2.2.1
  rw [eX2_readLeaf]
  simp +decide only [qX2_readLeaf, lx hL, lz hL hz, hG.2.1, am_w1_i, am_w1_r, am_w1_x, am_w1_l, am_w1_w, va_rf_s, am_push_n, am_push_s, am_cs_0, am_cs_i, am_cs_l, am_cs_r, m_uI_K, m_uI_N, m_uI_R, m_uI_L, m_uI_I, m_uL_K, m_uL_N, m_uL_R, m_uL_I, m_uL_L, m_uR_K, m_uR_N, m_uR_I, m_uR_L, m_uR_R, true_and, and_true, true_implies, false_implies, not_true_eq_false, not_false_eq_true, if_true, if_false, false_and, and_false]
  rw [c_x_emit (d + 1) z c x M _ hL hz hG.2.2.2.1 (by omega)]
  have g : gF (fun a j => (a = z + 7 ∧ c ≤ j) ∨ (a = z + 6 ∧ j = 1)) nT M (uI (uI M (z + 7) c x) (z + 6) 1 (nI (c + 1))) := gF_trans (gF_i _ (Or.inl ⟨rfl, Nat.le_refl _⟩)) (gF_i _ (Or.inr ⟨rfl, rfl⟩))
  obtain ⟨M1, hM1⟩ : ∃ M1, M1 = uI (uI M (z + 7) c x) (z + 6) 1 (nI (c + 1)) := ⟨_, rfl⟩
  have L1 : Lay M1 := by rw [hM1]; exact hL
  have R1 : RdX M1 T n t := by rw [hM1]; exact RdX_g hR g (fun a j q w => by omega) (fun q => q)
  have F1 : FmX M1 z (c + 1) := by rw [hM1]; exact ⟨by rw [m_uI_I, if_pos ⟨rfl, rfl⟩], by omega⟩
  have C1 : CdX M1 z a (c + 1) (u :: vs) := by rw [hM1, ← hop.2]; exact CdX_e x hG.2.2.2.2.1 hop.1
  have P1 : mR M1 164 1 = some z := by rw [hM1]; exact hG.2.1
  rw [← hM1] at g ⊢
  have gP : gF (sPz z c) nT M M1 := gF_up g (fun a j q => Or.inr q) (fun _ _ q => q)
  simp +decide only [qX2_readLeaf, lx L1, am_w1_i, am_w1_r, am_w1_x, am_w1_l, am_w1_w, va_rf_s, am_push_n, am_push_s, am_cs_0, am_cs_i, am_cs_l, am_cs_r, m_uI_K, m_uI_N, m_uI_R, m_uI_L, m_uI_I, m_uL_K, m_uL_N, m_uL_R, m_uL_I, m_uL_L, m_uR_K, m_uR_N, m_uR_I, m_uR_L, m_uR_R, true_and, and_true, true_implies, false_implies, not_true_eq_false, not_false_eq_true, if_true, if_false, false_and, and_false]
  refine c_x_step d n T t M1 _ L1 R1 (fun h4 M2 g2 f2 => ?_) (fun h4 M2 g2 f2 => ?_)
  · unfold adv at hp
    rw [if_pos h4] at hp
    cases hp
    have h1 := hQ M2 ⟨gF_trans (sPz_F gP) (sRd_F g2), f2, by rw [g2.2.2.1 _ _ (fun q => q)]; exact P1, c + 1, FmX_g F1 g2 (fun q => by unfold sRd at q; omega)⟩
    simp +decide only [qX2_readLeaf, am_w1_i, am_w1_r, am_w1_x, am_w1_l, am_w1_w, va_rf_s, am_push_n, am_push_s, am_cs_0, am_cs_i, am_cs_l, am_cs_r, m_uI_K, m_uI_N, m_uI_R, m_uI_L, m_uI_I, m_uL_K, m_uL_N, m_uL_R, m_uL_I, m_uL_L, m_uR_K, m_uR_N, m_uR_I, m_uR_L, m_uR_R, true_and, and_true, true_implies, false_implies, not_true_eq_false, not_false_eq_true, if_true, if_false, false_and, and_false]
    exact h1
  · unfold adv at hp
    rw [if_neg h4] at hp
    cases hp
    have h1 := hQ M2 ⟨gF_trans gP (sRd_P g2), c + 1, ⟨gF_LayN g2 L1, by rw [g2.2.2.1 _ _ (fun q => q)]; exact P1, f2, FmX_g F1 g2 (fun q => by unfold sRd at q; omega), CdX_g C1 g2 (fun j _ q => by unfold sRd at q; omega), by show c + 1 ≤ tS (tk T n (tE t)); omega⟩, by omega, by show c + 1 + tS t ≤ c + tS (tk T n (tE t)); omega⟩
    simp +decide only [qX2_readLeaf, am_w1_i, am_w1_r, am_w1_x, am_w1_l, am_w1_w, va_rf_s, am_push_n, am_push_s, am_cs_0, am_cs_i, am_cs_l, am_cs_r, m_uI_K, m_uI_N, m_uI_R, m_uI_L, m_uI_I, m_uL_K, m_uL_N, m_uL_R, m_uL_I, m_uL_L, m_uR_K, m_uR_N, m_uR_I, m_uR_L, m_uR_R, true_and, and_true, true_implies, false_implies, not_true_eq_false, not_false_eq_true, if_true, if_false, false_and, and_false]
    exact h1
/-- a bracket is opened -/
theorem g_open (d c0 o : Nat) (t : Tok) (k : Tok → Rs) (res : Sum (Nat × Nat) (Tok × Den)) (a c : Nat) (vs : List Den) (M : am_M) (Q : Option Value → am_M → Prop) (hz : z = 2 ∨ z = 83) (hc0 : c0 < 256) (ho : o ≤ 8) (hG : GoX T n z M a c vs t) (hp : opn T n c0 o t k = some res)
    (hF : ∀ M' e, res = .inl e → gF sRd nT M M' → FaX M' z T n e → Q (some (.int 0)) M')
    (hF1 : ∀ M' e, res = .inl e → gF sRd nT M M' → FaX M' z T n e → Q (some (.int 1)) M')
    (hN : ∀ M' t1, o < 8 → gF sRd nT M M' → GoX T n z M' a c vs t1 → tS t + 1 ≤ tS t1 → k t1 = some res → Q (some (.int 1)) M') : am_E am_P0 (d + 2) 32 [.ref 164, .int (nI c0), .int (nI o)] M Q := by
  obtain ⟨hL, hpa, hR, hf, hc, hct⟩ := id hG
  have hst : StR M T n (.inr t) := hR
  have s1 := fun Q => c_x_isSign (d + 1) n c0 T (.inr t) M Q hL hc0 hst
  unfold opn at hp
  rw [eX2_takeOpening]
  by_cases c1 : isS t c0 = true
  · rw [if_pos c1] at hp
    have c1' : isSr c0 (.inr t) = true := c1
    have ht0 : ¬ t.1 = 0 := by have := isS_1 c1; omega
    by_cases c8 : 8 ≤ o
    · rw [if_pos c8] at hp
      cases hp
      simp +decide only [qX2_takeOpening, lx hL, s1, c1', b01, am_w1_i, am_w1_r, am_w1_x, am_w1_l, am_w1_w, va_rf_s, am_push_n, am_push_s, am_cs_0, am_cs_i, am_cs_l, am_cs_r, m_uI_K, m_uI_N, m_uI_R, m_uI_L, m_uI_I, m_uL_K, m_uL_N, m_uL_R, m_uL_I, m_uL_L, m_uR_K, m_uR_N, m_uR_I, m_uR_L, m_uR_R, true_and, and_true, true_implies, false_implies, not_true_eq_false, not_false_eq_true, if_true, if_false, false_and, and_false]
      rw [br_n (by rw [show (8 : Int32) = nI 8 from rfl, ni_lt (by omega) (by omega)]; omega), show (5 : Int32) = nI 5 from rfl]
      refine c_x_refuse d n 5 T (.inr t) M _ hL (by omega) hst (fun M1 g1 h1 => ?_)
      have h0 := hF M1 _ rfl g1 ⟨h1, by rw [g1.2.2.1 _ _ (fun q => q)]; exact hpa, c, FmX_g hf g1 (fun q => by unfold sRd at q; omega)⟩
      simp +decide only [qX2_takeOpening, am_w1_i, am_w1_r, am_w1_x, am_w1_l, am_w1_w, va_rf_s, am_push_n, am_push_s, am_cs_0, am_cs_i, am_cs_l, am_cs_r, m_uI_K, m_uI_N, m_uI_R, m_uI_L, m_uI_I, m_uL_K, m_uL_N, m_uL_R, m_uL_I, m_uL_L, m_uR_K, m_uR_N, m_uR_I, m_uR_L, m_uR_R, true_and, and_true, true_implies, false_implies, not_true_eq_false, not_false_eq_true, if_true, if_false, false_and, and_false]
      exact h0
    · rw [if_neg c8] at hp
      simp +decide only [qX2_takeOpening, lx hL, s1, c1', b01, am_w1_i, am_w1_r, am_w1_x, am_w1_l, am_w1_w, va_rf_s, am_push_n, am_push_s, am_cs_0, am_cs_i, am_cs_l, am_cs_r, m_uI_K, m_uI_N, m_uI_R, m_uI_L, m_uI_I, m_uL_K, m_uL_N, m_uL_R, m_uL_I, m_uL_L, m_uR_K, m_uR_N, m_uR_I, m_uR_L, m_uR_R, true_and, and_true, true_implies, false_implies, not_true_eq_false, not_false_eq_true, if_true, if_false, false_and, and_false]
      rw [br_p (by rw [show (8 : Int32) = nI 8 from rfl, ni_lt (by omega) (by omega)]; omega)]
      refine g_step d t k res a c vs M _ hz hG ht0 hp (fun M1 e he g1 F1 => ?_) (fun M1 t1 g1 G1 hs1 hk1 => ?_)
      · have h0 := hF1 M1 e he g1 F1
        simp +decide only [qX2_takeOpening, am_w1_i, am_w1_r, am_w1_x, am_w1_l, am_w1_w, va_rf_s, am_push_n, am_push_s, am_cs_0, am_cs_i, am_cs_l, am_cs_r, m_uI_K, m_uI_N, m_uI_R, m_uI_L, m_uI_I, m_uL_K, m_uL_N, m_uL_R, m_uL_I, m_uL_L, m_uR_K, m_uR_N, m_uR_I, m_uR_L, m_uR_R, true_and, and_true, true_implies, false_implies, not_true_eq_false, not_false_eq_true, if_true, if_false, false_and, and_false]
        exact h0
      · have h0 := hN M1 t1 (by omega) g1 G1 hs1 hk1
        simp +decide only [qX2_takeOpening, am_w1_i, am_w1_r, am_w1_x, am_w1_l, am_w1_w, va_rf_s, am_push_n, am_push_s, am_cs_0, am_cs_i, am_cs_l, am_cs_r, m_uI_K, m_uI_N, m_uI_R, m_uI_L, m_uI_I, m_uL_K, m_uL_N, m_uL_R, m_uL_I, m_uL_L, m_uR_K, m_uR_N, m_uR_I, m_uR_L, m_uR_R, true_and, and_true, true_implies, false_implies, not_true_eq_false, not_false_eq_true, if_true, if_false, false_and, and_false]
        exact h0
  · rw [if_neg c1] at hp
    cases hp
    have c1' : isSr c0 (.inr t) = false := by show isS t c0 = false; simpa using c1
    simp +decide only [qX2_takeOpening, lx hL, s1, c1', b01, am_w1_i, am_w1_r, am_w1_x, am_w1_l, am_w1_w, va_rf_s, am_push_n, am_push_s, am_cs_0, am_cs_i, am_cs_l, am_cs_r, m_uI_K, m_uI_N, m_uI_R, m_uI_L, m_uI_I, m_uL_K, m_uL_N, m_uL_R, m_uL_I, m_uL_L, m_uR_K, m_uR_N, m_uR_I, m_uR_L, m_uR_R, true_and, and_true, true_implies, false_implies, not_true_eq_false, not_false_eq_true, if_true, if_false, false_and, and_false]
    rw [show (1 : Int32) = nI 1 from rfl]
    refine c_x_refuse d n 1 T (.inr t) M _ hL (by omega) hst (fun M1 g1 h1 => ?_)
    have h0 := hF M1 _ rfl g1 ⟨h1, by rw [g1.2.2.1 _ _ (fun q => q)]; exact hpa, c, FmX_g hf g1 (fun q => by unfold sRd at q; omega)⟩
    simp +decide only [qX2_takeOpening, am_w1_i, am_w1_r, am_w1_x, am_w1_l, am_w1_w, va_rf_s, am_push_n, am_push_s, am_cs_0, am_cs_i, am_cs_l, am_cs_r, m_uI_K, m_uI_N, m_uI_R, m_uI_L, m_uI_I, m_uL_K, m_uL_N, m_uL_R, m_uL_I, m_uL_L, m_uR_K, m_uR_N, m_uR_I, m_uR_L, m_uR_R, true_and, and_true, true_implies, false_implies, not_true_eq_false, not_false_eq_true, if_true, if_false, false_and, and_false]
    exact h0
/-- a sign is taken -/
theorem g_sign (d c0 : Nat) (t : Tok) (k : Tok → Rs) (res : Sum (Nat × Nat) (Tok × Den)) (a c : Nat) (vs : List Den) (M : am_M) (Q : Option Value → am_M → Prop) (hz : z = 2 ∨ z = 83) (hc0 : c0 < 256) (hG : GoX T n z M a c vs t) (hp : tks T n c0 t k = some res)
    (hF : ∀ M' e, res = .inl e → gF sRd nT M M' → FaX M' z T n e → Q none M')
    (hN : ∀ M' t1, gF sRd nT M M' → GoX T n z M' a c vs t1 → tS t + 1 ≤ tS t1 → k t1 = some res → Q none M') : am_E am_P0 (d + 2) 41 [.ref 165, .int (nI c0)] M Q := by
  obtain ⟨hL, hpa, hR, hf, hc, hct⟩ := id hG
  have hst : StR M T n (.inr t) := hR
  unfold tks at hp
  by_cases c1 : isS t c0 = true
  · rw [if_pos c1] at hp
    have ht0 : ¬ t.1 = 0 := by have := isS_1 c1; omega
    have c1' : isSr c0 (.inr t) = true := c1
    have s1 := fun Q => c_x_isSign (d + 1) n c0 T (.inr t) M Q hL hc0 hst
    rw [eX3_takeSign]
    simp +decide only [qX3_takeSign, lx hL, s1, c1', b01, am_w1_i, am_w1_r, am_w1_x, am_w1_l, am_w1_w, va_rf_s, am_push_n, am_push_s, am_cs_0, am_cs_i, am_cs_l, am_cs_r, m_uI_K, m_uI_N, m_uI_R, m_uI_L, m_uI_I, m_uL_K, m_uL_N, m_uL_R, m_uL_I, m_uL_L, m_uR_K, m_uR_N, m_uR_I, m_uR_L, m_uR_R, true_and, and_true, true_implies, false_implies, not_true_eq_false, not_false_eq_true, if_true, if_false, false_and, and_false]
    refine g_step d t k res a c vs M _ hz hG ht0 hp (fun M1 e he g1 F1 => ?_) (fun M1 t1 g1 G1 hs1 hk1 => ?_)
    · have h0 := hF M1 e he g1 F1
      simp +decide only [qX3_takeSign, am_w1_i, am_w1_r, am_w1_x, am_w1_l, am_w1_w, va_rf_s, am_push_n, am_push_s, am_cs_0, am_cs_i, am_cs_l, am_cs_r, m_uI_K, m_uI_N, m_uI_R, m_uI_L, m_uI_I, m_uL_K, m_uL_N, m_uL_R, m_uL_I, m_uL_L, m_uR_K, m_uR_N, m_uR_I, m_uR_L, m_uR_R, true_and, and_true, true_implies, false_implies, not_true_eq_false, not_false_eq_true, if_true, if_false, false_and, and_false]
      exact h0
    · have h0 := hN M1 t1 g1 G1 hs1 hk1
      simp +decide only [qX3_takeSign, am_w1_i, am_w1_r, am_w1_x, am_w1_l, am_w1_w, va_rf_s, am_push_n, am_push_s, am_cs_0, am_cs_i, am_cs_l, am_cs_r, m_uI_K, m_uI_N, m_uI_R, m_uI_L, m_uI_I, m_uL_K, m_uL_N, m_uL_R, m_uL_I, m_uL_L, m_uR_K, m_uR_N, m_uR_I, m_uR_L, m_uR_R, true_and, and_true, true_implies, false_implies, not_true_eq_false, not_false_eq_true, if_true, if_false, false_and, and_false]
      exact h0
  · rw [if_neg c1] at hp
    cases hp
    refine c_x_takeSign d n c0 T (.inr t) M Q hL hc0 hst (fun M1 g1 h1 => ?_)
    have h1' : StR M1 T n (if isS t c0 = true then advR T n t else .inl (1, tS t)) := h1
    rw [if_neg c1] at h1'
    exact hF M1 _ rfl g1 ⟨h1', by rw [g1.2.2.1 _ _ (fun q => q)]; exact hpa, c, FmX_g hf g1 (fun q => by unfold sRd at q; omega)⟩
theorem f_sign (d c0 : Nat) (e : Nat × Nat) (M : am_M) (Q : Option Value → am_M → Prop) (hL : Lay M) (hz : z = 2 ∨ z = 83) (hc0 : c0 < 256) (hF : FaX M z T n e) (hQ : ∀ M', gF (sFz z) nT M M' → FaX M' z T n e → Q none M') : am_E am_P0 (d + 2) 41 [.ref 165, .int (nI c0)] M Q :=
  c_x_takeSign d n c0 T (.inl e) M Q hL hc0 hF.1 (fun M1 g1 h1 => hQ M1 (sRd_F g1) (FaX_r hF hz h1 g1))
end
