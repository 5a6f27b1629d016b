/-! the model: the first statement, all statements -/
section
variable {T : Nat → Nat} {n z : Nat}
def rq1 (T : Nat → Nat) (n : Nat) (r : Rt) : Rq := bR r (fun t => if isW t (ownW.getD 0 []) = true then (match spSize T n dat0 t with
    | .inl e => .inl e
    | .inr q => bR (signR T n 59 (.inr q.1)) (fun t' => (.inr (t', q.2) : Rq))) else .inl (1, tS t))
theorem spTx_i : spTx T n = (match rq1 T n (advR T n (0, 0, [], 0, 0)) with
  | .inl e => some (.inl e)
  | .inr q => spR T n (n + 2) 1 q.2 q.1) := rfl
def EsM (T : Nat → Nat) (n z : Nat) (M M' : am_M) : Rq → Prop
  | .inl e => gF (sSm z) nT M M' ∧ FtM M' T n e.1 e.2
  | .inr q => gF (sSm z) nT M M' ∧ GdM T n z M' q.2 0 q.1 ∧ 1 ≤ dC q.2 ∧ 1 ≤ dR q.2
theorem Pd1_0 {M : am_M} {C R : Nat} (h : Pd1 M z dat0 0) : Pd1 M z ((C, R, dLk dat0), dat0.2) 0 := by
  obtain ⟨b1, b2, b3, b4, b5, r, f⟩ := h
  refine ⟨b1, b2, ⟨b3.1, fun s hs => ?_⟩, ⟨b4.1, fun i k hi => by cases hi⟩, ⟨b5.1, fun i g hi => by cases hi⟩, r, f⟩
  obtain ⟨c1, c2, c3⟩ := b3.2 s hs
  refine ⟨c1, fun y hy => ?_, fun t ht => ?_⟩
  · have e : dY ((C, R, dLk dat0), dat0.2) s = [] := rfl
    rw [e] at hy; cases hy
  · rcases c3 t ht with ⟨y, q1, -⟩ | q
    · have e : dY dat0 s = [] := rfl
      rw [e] at q1; cases q1
    · exact Or.inr q
theorem DOK_0 {C R : Nat} (hC : C ≤ 16) (hR : R ≤ 16) : DOK ((C, R, dLk dat0), dat0.2) := ⟨⟨hC, hR⟩, (show 10 ≤ 100 by decide), ⟨Nat.zero_le _, rfl, fun s hs => absurd hs List.not_mem_nil⟩, fun s y hy => absurd hy List.not_mem_nil, fun s => List.Pairwise.nil, Nat.zero_le _, ⟨⟨Nat.zero_le _, fun k hk => absurd hk List.not_mem_nil⟩, fun k hk => absurd hk List.not_mem_nil⟩, ⟨Nat.zero_le _, fun g hg => absurd hg List.not_mem_nil⟩, ⟨Nat.zero_le _, fun r hr => absurd hr List.not_mem_nil⟩, ⟨Nat.zero_le _, fun r hr => absurd hr List.not_mem_nil⟩, ⟨Nat.zero_le _, fun r hr => absurd hr List.not_mem_nil⟩⟩
theorem k_size (d : Nat) (r : Rt) (M : am_M) (Q : Option Value → am_M → Prop) (hL : Lay M) (hS : StM M T n r) (hP : Pd1 M z dat0 0) (hQ : ∀ M', EsM T n z M M' (rq1 T n r) → Q none M') : am_E am_P0 (d + 3) 197 [.ref 277] M Q := by
  have hz := hP.2.2.2.2.2.2.2.2.2
  have i0 := hP.2.2.2.2.2.2.2.2.1
  rw [eX11_sizes]
  cases r with
  | inl e =>
    have h9 := hQ M ⟨gF_refl _ _ _, hS⟩
    have hp := FtM_pos hS
    have hbl := fun x p Q => c_m_blame (d + 2) x p M Q hL
    have hw := fun Q => c_m_isWord (d + 2) 1936292453 M Q hL
    simp +decide only [qX11_sizes, lm hL, hw, hbl, hp.1, am_w1_i, am_w1_r, am_w1_x, am_w1_l, am_w1_w, va_rf_s, am_push_n, am_push_s, am_cs_0, am_cs_i, am_cs_l, am_cs_r, m_uI_K, m_uI_N, m_uI_R, m_uI_L, m_uI_I, m_uL_K, m_uL_N, m_uL_R, m_uL_I, m_uL_L, m_uR_K, m_uR_N, m_uR_I, m_uR_L, m_uR_R, true_and, and_true, true_implies, false_implies, not_true_eq_false, not_false_eq_true, if_true, if_false, false_and, and_false]
    rw [br_n hp.2.2]
    exact ⟨fun _ => h9, fun _ => h9⟩
  | inr t =>
    have hR : RdM M T n t := hS
    have hw := fun Q => m_word1 (T := T) (n := n) (d + 2) 0 1936292453 _ t M Q hL hR (by omega) rfl (by decide)
    have er : rq1 T n (.inr t) = if isW t (ownW.getD 0 []) = true then (match spSize T n dat0 t with
      | .inl e => .inl e
      | .inr q => bR (signR T n 59 (.inr q.1)) (fun t' => (.inr (t', q.2) : Rq))) else .inl (1, tS t) := rfl
    rw [er] at hQ
    by_cases c0 : isW t (ownW.getD 0 []) = true
    · rw [if_pos c0] at hQ
      simp +decide only [qX11_sizes, lm hL, hw, c0, hR.2.1, b01, am_w1_i, am_w1_r, am_w1_x, am_w1_l, am_w1_w, va_rf_s, am_push_n, am_push_s, am_cs_0, am_cs_i, am_cs_l, am_cs_r, m_uI_K, m_uI_N, m_uI_R, m_uI_L, m_uI_I, m_uL_K, m_uL_N, m_uL_R, m_uL_I, m_uL_L, m_uR_K, m_uR_N, m_uR_I, m_uR_L, m_uR_R, true_and, and_true, true_implies, false_implies, not_true_eq_false, not_false_eq_true, if_true, if_false, false_and, and_false]
      refine m_adv (d + 1) t M _ hL hR (fun M1 g1 s1 => ?_)
      have L1 := gF_LayN g1 hL
      have P1 := Pd1_g hP (DOK_0 (C := 0) (R := 0) (by omega) (by omega)) g1 (fun a j w => by unfold sRm at w; omega) (FmM_R hP.2.2.2.2.2.2 g1) (Nat.le_refl _)
      have i1 := P1.2.2.2.2.2.2.2.2.1
      simp +decide (disch := omega) only [qX11_sizes, lm L1, i1, am_w1_i, am_w1_r, am_w1_x, am_w1_l, am_w1_w, va_rf_s, am_push_n, am_push_s, am_cs_0, am_cs_i, am_cs_l, am_cs_r, m_uI_K, m_uI_N, m_uI_R, m_uI_L, m_uI_I, m_uL_K, m_uL_N, m_uL_R, m_uL_I, m_uL_L, m_uR_K, m_uR_N, m_uR_I, m_uR_L, m_uR_R, true_and, and_true, true_implies, false_implies, not_true_eq_false, not_false_eq_true, if_true, if_false, false_and, and_false]
      rw [show (2 : Int32) = nI 2 from rfl, show (16 : Int32) = nI 16 from rfl]
      refine m_num d 2 16 _ M1 _ L1 (by omega) (by omega) s1 (fun M2 x2 g2 s2 e2 => ?_)
      have L2 := gF_LayN g2 L1
      simp +decide (disch := omega) only [qX11_sizes, lm L2, ni_in_t, ni_tn, am_w1_i, am_w1_r, am_w1_x, am_w1_l, am_w1_w, va_rf_s, am_push_n, am_push_s, am_cs_0, am_cs_i, am_cs_l, am_cs_r, m_uI_K, m_uI_N, m_uI_R, m_uI_L, m_uI_I, m_uL_K, m_uL_N, m_uL_R, m_uL_I, m_uL_L, m_uR_K, m_uR_N, m_uR_I, m_uR_L, m_uR_R, true_and, and_true, true_implies, false_implies, not_true_eq_false, not_false_eq_true, if_true, if_false, false_and, and_false]
      obtain ⟨A2, hA2⟩ : ∃ A2, A2 = uI M2 279 z x2 := ⟨_, rfl⟩
      have w2 : gF (fun a j => a = 279 ∧ j = z) nT M2 A2 := by rw [hA2]; exact gF_i _ ⟨rfl, rfl⟩
      have v2 : mI A2 279 z = x2 := by rw [hA2, m_uI_I, if_pos ⟨rfl, rfl⟩]
      have LA := gF_LayN w2 L2
      have sA : StM A2 T n _ := StM_g s2 w2 (fun a j q w => by omega)
      have GA : gF (fun a j => sRm a j ∨ ((a = 279 ∨ a = 280) ∧ j = z)) nT M1 A2 := gF_trans (gF_up g2 (fun a j q => Or.inl q) (fun _ _ q => q)) (gF_up w2 (fun a j q => Or.inr (by omega)) (fun _ _ q => q))
      have iA : mI A2 277 41 = nI z := by rw [GA.1 _ _ (by unfold sRm; omega)]; exact i1
      have iM2 : mI M2 277 41 = nI z := by rw [g2.1 _ _ (fun w => by unfold sRm at w; omega)]; exact i1
      rw [← hA2]
      simp +decide (disch := omega) only [qX11_sizes, lm LA, iM2, iA, am_w1_i, am_w1_r, am_w1_x, am_w1_l, am_w1_w, va_rf_s, am_push_n, am_push_s, am_cs_0, am_cs_i, am_cs_l, am_cs_r, m_uI_K, m_uI_N, m_uI_R, m_uI_L, m_uI_I, m_uL_K, m_uL_N, m_uL_R, m_uL_I, m_uL_L, m_uR_K, m_uR_N, m_uR_I, m_uR_L, m_uR_R, true_and, and_true, true_implies, false_implies, not_true_eq_false, not_false_eq_true, if_true, if_false, false_and, and_false]
      rw [show (2 : Int32) = nI 2 from rfl, show (16 : Int32) = nI 16 from rfl]
      refine m_num d 2 16 _ A2 _ LA (by omega) (by omega) sA (fun M3 x3 g3 s3 e3 => ?_)
      have L3 := gF_LayN g3 LA
      simp +decide (disch := omega) only [qX11_sizes, lm L3, ni_in_t, ni_tn, am_w1_i, am_w1_r, am_w1_x, am_w1_l, am_w1_w, va_rf_s, am_push_n, am_push_s, am_cs_0, am_cs_i, am_cs_l, am_cs_r, m_uI_K, m_uI_N, m_uI_R, m_uI_L, m_uI_I, m_uL_K, m_uL_N, m_uL_R, m_uL_I, m_uL_L, m_uR_K, m_uR_N, m_uR_I, m_uR_L, m_uR_R, true_and, and_true, true_implies, false_implies, not_true_eq_false, not_false_eq_true, if_true, if_false, false_and, and_false]
      obtain ⟨A3, hA3⟩ : ∃ A3, A3 = uI M3 280 z x3 := ⟨_, rfl⟩
      have w3 : gF (fun a j => a = 280 ∧ j = z) nT M3 A3 := by rw [hA3]; exact gF_i _ ⟨rfl, rfl⟩
      have v3 : mI A3 280 z = x3 := by rw [hA3, m_uI_I, if_pos ⟨rfl, rfl⟩]
      have v2' : mI A3 279 z = x2 := by rw [w3.1 _ _ (by omega), g3.1 _ _ (fun w => by unfold sRm at w; omega)]; exact v2
      have LB := gF_LayN w3 L3
      have sB : StM A3 T n _ := StM_g s3 w3 (fun a j q w => by omega)
      have GB : gF (fun a j => sRm a j ∨ ((a = 279 ∨ a = 280) ∧ j = z)) nT M1 A3 := gF_trans GA (gF_trans (gF_up g3 (fun a j q => Or.inl q) (fun _ _ q => q)) (gF_up w3 (fun a j q => Or.inr (by omega)) (fun _ _ q => q)))
      have G : gF (sSm z) nT M A3 := gF_trans (sRm_S g1) (gF_up GB (fun a j q => by
        rcases q with q | q
        · exact sS_0 (by unfold sRm at q; omega)
        · exact sS_1 (by omega)) (fun _ _ q => q))
      have PB := Pd1_g P1 (DOK_0 (C := 0) (R := 0) (by omega) (by omega)) GB (fun a j w => by unfold sRm at w; omega) (FmM_g P1.2.2.2.2.2.2 GB (fun j q w => by unfold sRm at w; omega)) (Nat.le_refl _)
      have e8 : mI M3 277 8 = mI A3 277 8 := by rw [hA3, m_uI_I, if_neg (by omega)]
      rw [← hA3, e8]
      have hf := StM_0 sB
      have esz : spSize T n dat0 t = bR (numR T n 2 16 (numR T n 2 16 (advR T n t)).1).1 (fun t' => .inr (t', (((numR T n 2 16 (advR T n t)).2, (numR T n 2 16 (numR T n 2 16 (advR T n t)).1).2, dLk dat0), dat0.2))) := rfl
      cases hr : (numR T n 2 16 (numR T n 2 16 (advR T n t)).1).1 with
      | inl e =>
        rw [hr] at sB esz
        rw [esz] at hQ
        have h9 := hQ A3 ⟨G, sB⟩
        rw [br_p (hf.1 e hr)]
        exact h9
      | inr t' =>
        have hv3 := numR_v hr
        have hx3 := e3 t' hr
        obtain ⟨t1, ht1⟩ := numR_i hr
        have hv2 := numR_v ht1
        have hx2 := e2 t1 ht1
        have hf8 := hf.2 t' hr
        rw [hr] at sB esz
        rw [esz] at hQ
        have sB' : RdM A3 T n t' := sB
        obtain ⟨D1, hD1⟩ : ∃ D1 : Dat, D1 = (((numR T n 2 16 (advR T n t)).2, (numR T n 2 16 (numR T n 2 16 (advR T n t)).1).2, dLk dat0), dat0.2) := ⟨_, rfl⟩
        rw [← hD1] at hQ
        have hOK : DOK D1 := by rw [hD1]; exact DOK_0 hv2.2 hv3.2
        have hPd : PdM A3 z D1 0 := by
          rw [hD1]
          exact ⟨⟨by rw [v2', hx2]; rfl, by rw [v3, hx3]; rfl⟩, Pd1_0 PB⟩
        have hQ : ∀ M', EsM T n z M M' (bR (signR T n 59 (.inr t')) (fun t'' => .inr (t'', D1))) → Q none M' := hQ
        rw [br_n (fun w => w hf8)]
        rw [show (59 : Int32) = nI 59 from rfl]
        refine m_must d 59 (.inr t') A3 _ LB (by omega) sB' (fun M4 g4 s4 => ?_)
        have h9 := hQ M4
        simp +decide only [qX11_sizes, am_w1_i, am_w1_r, am_w1_x, am_w1_l, am_w1_w, va_rf_s, am_push_n, am_push_s, am_cs_0, am_cs_i, am_cs_l, am_cs_r, m_uI_K, m_uI_N, m_uI_R, m_uI_L, m_uI_I, m_uL_K, m_uL_N, m_uL_R, m_uL_I, m_uL_L, m_uR_K, m_uR_N, m_uR_I, m_uR_L, m_uR_R, true_and, and_true, true_implies, false_implies, not_true_eq_false, not_false_eq_true, if_true, if_false, false_and, and_false]
        refine h9 ?_
        cases hs : signR T n 59 (.inr t') with
        | inl e => rw [hs] at s4; exact ⟨gF_trans G (sRm_S g4), s4⟩
        | inr t'' =>
          rw [hs] at s4
          exact ⟨gF_trans G (sRm_S g4), ⟨gF_LayN g4 LB, s4, PdM_R hPd hOK g4, hOK, Nat.zero_le _⟩, by show 1 ≤ dC D1; rw [hD1]; show 1 ≤ (numR T n 2 16 (advR T n t)).2; omega, by show 1 ≤ dR D1; rw [hD1]; show 1 ≤ (numR T n 2 16 (numR T n 2 16 (advR T n t)).1).2; omega⟩
    · have c0' : isW t (ownW.getD 0 []) = false := by simpa using c0
      rw [if_neg c0] at hQ
      have hf := FtM_0 (k := 1) hR (by omega)
      have hp := FtM_pos hf.1
      have hbl := fun Q => m_blame (T := T) (n := n) (d + 2) 1 t M Q hL hR
      have h9 := hQ _ ⟨sRm_S hf.2, hf.1⟩
      rw [show nI 1 = (1 : Int32) from rfl] at hbl h9 hp
      have Lf : Lay (uI (uI M 277 8 1) 277 9 (nI (tS t))) := hL
      simp +decide only [qX11_sizes, lm hL, lm Lf, hw, c0', b01, hR.2.2.2.2.1, hbl, am_w1_i, am_w1_r, am_w1_x, am_w1_l, am_w1_w, va_rf_s, am_push_n, am_push_s, am_cs_0, am_cs_i, am_cs_l, am_cs_r, m_uI_K, m_uI_N, m_uI_R, m_uI_L, m_uI_I, m_uL_K, m_uL_N, m_uL_R, m_uL_I, m_uL_L, m_uR_K, m_uR_N, m_uR_I, m_uR_L, m_uR_R, true_and, and_true, true_implies, false_implies, not_true_eq_false, not_false_eq_true, if_true, if_false, false_and, and_false]
      exact h9
theorem spS1_CR {D D' : Dat} {t t' : Tok} (h : spS1 T n D t = .inr (t', D')) : dC D' = dC D ∧ dR D' = dR D := by
  have key : ∀ q, spSt T n D t = .inr q → dC q.2 = dC D ∧ dR q.2 = dR D := by
    intro q hq
    have hb : ∀ (r : Rt) (k : Tok → Rq), bR r k = .inr q → ∃ t1, k t1 = .inr q := fun r k h => by
      cases r with
      | inl e => cases h
      | inr t1 => exact ⟨t1, h⟩
    have hp : ∀ g t0 (k : Tok → Den → Rq), psX T n g t0 k = .inr q → ∃ t1 v, k t1 v = .inr q := fun g t0 k h => by
      unfold psX at h
      split at h
      · cases h
      · cases h
      · exact ⟨_, _, h⟩
    unfold spSt at hq
    split at hq
    · unfold spDepth spSum at hq
      split at hq
      · cases hq
      · obtain ⟨t1, h1⟩ := hb _ _ hq
        obtain ⟨t2, v, h2⟩ := hp _ _ _ h1
        obtain ⟨t3, h3⟩ := hb _ _ h2
        obtain ⟨t4, w, h4⟩ := hp _ _ _ h3
        cases h4; exact ⟨rfl, rfl⟩
    · split at hq
      · unfold spCost spSum at hq
        split at hq
        · cases hq
        · obtain ⟨t1, h1⟩ := hb _ _ hq
          obtain ⟨t2, v, h2⟩ := hp _ _ _ h1
          obtain ⟨t3, h3⟩ := hb _ _ h2
          obtain ⟨t4, w, h4⟩ := hp _ _ _ h3
          cases h4; exact ⟨rfl, rfl⟩
      · split at hq
        · unfold spQuiet spTest at hq
          split at hq
          · cases hq
          · obtain ⟨t3, h3⟩ := hb _ _ hq
            obtain ⟨t4, w, h4⟩ := hp _ _ _ h3
            cases h4; exact ⟨rfl, rfl⟩
        · split at hq
          · unfold spShip at hq
            split at hq
            · cases hq
            · obtain ⟨t1, h1⟩ := hb _ _ hq
              split at h1
              · cases h1
              · obtain ⟨t2, h2⟩ := hb _ _ h1
                cases h2; exact ⟨rfl, rfl⟩
          · split at hq
            · unfold spSay at hq
              split at hq
              · cases hq
              · obtain ⟨t1, h1⟩ := hb _ _ hq
                obtain ⟨t2, h2⟩ := hb _ _ h1
                split at h2
                · cases h2
                · obtain ⟨t3, h3⟩ := hb _ _ h2
                  cases h3; exact ⟨rfl, rfl⟩
            · split at hq
              · unfold spBook at hq
                split at hq
                · cases hq
                · obtain ⟨t1, h1⟩ := hb _ _ hq
                  cases h1; exact ⟨rfl, rfl⟩
              · split at hq
                · unfold spSeen at hq
                  split at hq
                  · cases hq
                  · obtain ⟨t1, h1⟩ := hb _ _ hq
                    cases h1; exact ⟨rfl, rfl⟩
                · split at hq
                  · unfold spLuck at hq
                    obtain ⟨t1, h1⟩ := hb _ _ hq
                    cases h1; exact ⟨rfl, rfl⟩
                  · cases hq
  unfold spS1 at h
  cases hs : spSt T n D t with
  | inl e => rw [hs] at h; cases h
  | inr q =>
    rw [hs] at h
    dsimp only at h
    cases hr : signR T n 59 (.inr q.1) with
    | inl e => rw [hr] at h; cases h
    | inr t1 => rw [hr] at h; cases h; exact key q hs
theorem l_m_sea (d : Nat) (M0 : am_M) (Q : Option Value → am_M → Prop) (hL0 : Lay M0) (r : Sum (Nat × Nat) (Nat × Dat))
    (hF : ∀ e M' x, r = .inl e → gF (sSm z) nT M0 M' → FtM M' T n e.1 e.2 → am_P am_P0 (d + 7) (am_look tX11_sea) 186 [.ref 277, .int x] [] M' Q)
    (hN : ∀ k D M' c t, r = .inr (k, D) → gF (sSm z) nT M0 M' → GdM T n z M' D c t → 1 ≤ dC D → 1 ≤ dR D → am_P am_P0 (d + 7) (am_look tX11_sea) 186 [.ref 277, .int (nI k)] [] M' Q) :
    ∀ (f k : Nat) (D : Dat) (t : Tok) (c : Nat) (M : am_M), spR T n f k D t = some r → gF (sSm z) nT M0 M → GdM T n z M D c t → 1 ≤ dC D → 1 ≤ dR D → am_P am_P0 (d + 7) (am_look tX11_sea) 162 [.ref 277, .int (nI k)] [] M Q := by
  intro f
  induction f with
  | zero => intro k D t c M h; cases h
  | succ f ih =>
    intro k D t c M hr hM hG hC hR
    obtain ⟨hL, hRd, hP, hD, hc⟩ := id hG
    have e : spR T n (f + 1) k D t = if t.1 = 0 then some (.inr (k, D)) else (match spS1 T n D t with
      | .inl e => some (.inl e)
      | .inr q => spR T n f (k + 1) q.2 q.1) := rfl
    rw [e] at hr
    have h3 := RdM_3 hRd 0 (by omega)
    rw [show nI 0 = (0 : Int32) from rfl] at h3
    rw [hX11_sea_162]
    by_cases c0 : t.1 = 0
    · rw [if_pos c0] at hr
      cases hr
      have h9 := hN k D M c t rfl hM hG hC hR
      simp +decide only [qX11_sea_0, qX11_sea_1, qX11_sea_2, qX11_sea_3, lm hL, hRd.2.1, h3.mpr c0, am_w1_i, am_w1_r, am_w1_x, am_w1_l, am_w1_w, va_rf_s, am_push_n, am_push_s, am_cs_0, am_cs_i, am_cs_l, am_cs_r, m_uI_K, m_uI_N, m_uI_R, m_uI_L, m_uI_I, m_uL_K, m_uL_N, m_uL_R, m_uL_I, m_uL_L, m_uR_K, m_uR_N, m_uR_I, m_uR_L, m_uR_R, true_and, and_true, true_implies, false_implies, not_true_eq_false, not_false_eq_true, if_true, if_false, false_and, and_false] at h9 ⊢
      exact h9
    · rw [if_neg c0] at hr
      simp +decide only [qX11_sea_0, qX11_sea_1, qX11_sea_2, qX11_sea_3, lm hL, hRd.2.1, am_w1_i, am_w1_r, am_w1_x, am_w1_l, am_w1_w, va_rf_s, am_push_n, am_push_s, am_cs_0, am_cs_i, am_cs_l, am_cs_r, m_uI_K, m_uI_N, m_uI_R, m_uI_L, m_uI_I, m_uL_K, m_uL_N, m_uL_R, m_uL_I, m_uL_L, m_uR_K, m_uR_N, m_uR_I, m_uR_L, m_uR_R, true_and, and_true, true_implies, false_implies, not_true_eq_false, not_false_eq_true, if_true, if_false, false_and, and_false]
      rw [br_n (fun w => c0 (h3.mp w))]
      refine k_stmt d c D t M _ hG hC hR c0 (fun M1 E1 => ?_)
      cases hs : spS1 T n D t with
      | inl e =>
        rw [hs] at hr E1
        cases hr
        obtain ⟨g1, f1⟩ := E1
        have L1 := gF_LayN g1 hL
        have h9 := hF e M1 (nI (k + 1)) rfl (gF_trans hM g1) f1
        have hp := (FtM_pos f1).2.1
        simp +decide only [qX11_sea_0, qX11_sea_1, qX11_sea_2, qX11_sea_3, ni_add1, am_w1_i, am_w1_r, am_w1_x, am_w1_l, am_w1_w, va_rf_s, am_push_n, am_push_s, am_cs_0, am_cs_i, am_cs_l, am_cs_r, m_uI_K, m_uI_N, m_uI_R, m_uI_L, m_uI_I, m_uL_K, m_uL_N, m_uL_R, m_uL_I, m_uL_L, m_uR_K, m_uR_N, m_uR_I, m_uR_L, m_uR_R, true_and, and_true, true_implies, false_implies, not_true_eq_false, not_false_eq_true, if_true, if_false, false_and, and_false]
        rw [hX11_sea_162]
        simp +decide only [qX11_sea_0, qX11_sea_1, qX11_sea_2, qX11_sea_3, lm L1, am_w1_i, am_w1_r, am_w1_x, am_w1_l, am_w1_w, va_rf_s, am_push_n, am_push_s, am_cs_0, am_cs_i, am_cs_l, am_cs_r, m_uI_K, m_uI_N, m_uI_R, m_uI_L, m_uI_I, m_uL_K, m_uL_N, m_uL_R, m_uL_I, m_uL_L, m_uR_K, m_uR_N, m_uR_I, m_uR_L, m_uR_R, true_and, and_true, true_implies, false_implies, not_true_eq_false, not_false_eq_true, if_true, if_false, false_and, and_false] at h9 ⊢
        rw [br_p hp]
        exact h9
      | inr q =>
        rw [hs] at hr E1
        obtain ⟨g1, ⟨c', G1⟩, ht⟩ := E1
        have hCR := spS1_CR hs
        have h9 := ih (k + 1) q.2 q.1 c' M1 hr (gF_trans hM g1) G1 (by omega) (by omega)
        simp +decide only [qX11_sea_0, qX11_sea_1, qX11_sea_2, qX11_sea_3, ni_add1, am_w1_i, am_w1_r, am_w1_x, am_w1_l, am_w1_w, va_rf_s, am_push_n, am_push_s, am_cs_0, am_cs_i, am_cs_l, am_cs_r, m_uI_K, m_uI_N, m_uI_R, m_uI_L, m_uI_I, m_uL_K, m_uL_N, m_uL_R, m_uL_I, m_uL_L, m_uR_K, m_uR_N, m_uR_I, m_uR_L, m_uR_R, true_and, and_true, true_implies, false_implies, not_true_eq_false, not_false_eq_true, if_true, if_false, false_and, and_false]
        exact h9
end
