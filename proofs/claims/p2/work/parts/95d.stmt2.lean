/-! the class's parser: sightings, ships, sayings, books -/
section
variable {T : Nat → Nat} {n z : Nat}
theorem PsX_p {M M' : am_M} {D : Dat} {c : Nat} (hz : z = 2 ∨ z = 83) (hD : DOK D) (hp : mR M 164 1 = some z) (hP : PsX M z D c) (hg : gF sRd nT M M') : PsX M' z D c ∧ mR M' 164 1 = some z := ⟨PsX_r hP hz hD hg, by rw [hg.2.2.1 _ _ (fun q => q)]; exact hp⟩
theorem plR_v {D : Dat} {r : Rt} {t : Tok} (hD : DOK D) (hC : 1 ≤ dC D) (hR : 1 ≤ dR D) (h : (plcR T n (dC D) (dR D) r).1 = .inr t) : vld (dC D) (dR D) (plcR T n (dC D) (dR D) r).2 ∧ (plcR T n (dC D) (dR D) r).2 < 256 := by
  have h1 := numR_v h
  obtain ⟨t1, ht1⟩ := numR_i h
  have h2 := numR_v ht1
  have hc := hD.1
  have e : (plcR T n (dC D) (dR D) r).2 = 16 * (numR T n 0 (dR D - 1) (numR T n 0 (dC D - 1) (wordR T n 10 r)).1).2 + (numR T n 0 (dC D - 1) (wordR T n 10 r)).2 := rfl
  rw [e]
  unfold vld
  omega
theorem plR_i {C R : Nat} {r : Rt} {t : Tok} (h : (plcR T n C R r).1 = .inr t) : ∃ t0, r = .inr t0 := by
  obtain ⟨t1, ht1⟩ := numR_i h
  obtain ⟨t2, ht2⟩ := numR_i ht1
  exact wordR_i ht2
theorem aft_i {w lo hi : Nat} {r : Rt} {t : Tok} (h : (aftR T n w lo hi r).1 = .inr t) : ∃ t0, r = .inr t0 := by
  obtain ⟨t1, ht1⟩ := numR_i h
  exact wordR_i ht1
theorem DOK_sg {D : Dat} {g : Nat × Nat × Nat} (hD : DOK D) (hl : (dSg D).length < 40) (hg : g.1 ≤ 3 ∧ vld (dC D) (dR D) g.2.1 ∧ g.2.2 < 48) : DOK (D.1, (dSh D, dYs D, dBk D, dSg D ++ [g]), D.2.2) := by
  obtain ⟨d1, d2, d3, d4, d5, d6, d7, d8, d9⟩ := hD
  refine ⟨d1, d2, d3, d4, d5, d6, d7, ⟨?_, fun g' hg' => ?_⟩, d9⟩
  · show (dSg D ++ [g]).length ≤ 40
    rw [List.length_append]
    show (dSg D).length + 1 ≤ 40
    omega
  · rcases List.mem_append.mp hg' with q | q
    · exact d8.2 g' q
    · rw [List.mem_singleton.mp q]; exact hg
theorem b_seen (hz : z = 2 ∨ z = 83) (d c : Nat) (D : Dat) (t : Tok) (M : am_M) (Q : Option Value → am_M → Prop) (hG : GdX T n z M D c t) (hC : 1 ≤ dC D) (hRr : 1 ≤ dR D) (h0 : ¬ t.1 = 0) (hQ : ∀ M', EdX T n z t M M' (spSeen T n D t) → Q none M') : am_E am_P0 (d + 5) 21 [.ref 164] M Q := by
  obtain ⟨hL, hp, hR, hP, hD, hc⟩ := id hG
  have hst : StR M T n (.inr t) := hR
  have hEn := (GdX_t hG).1
  have h40 := hD.2.2.2.2.2.2.2.1.1
  have hn40 : nI (dSg D).length < 40 ↔ (dSg D).length < 40 := by rw [show (40 : Int32) = nI 40 from rfl, ni_lt (by omega) (by omega)]
  have main : am_E am_P0 (d + 4) 13 [.ref 164, .int (b01 (decide (40 ≤ (dSg D).length)))] M (fun r M2 => am_P am_P0 (d + 5) (am_look tX2_readSighting) 24 [.ref 164, am_x, am_x, am_x] (am_push r []) M2 Q) := by
    refine c_x_oneMore (d + 2) _ t M _ hL hst (fun M1 g1 h1 => ?_)
    have L1 := gF_LayN g1 hL
    obtain ⟨P1, p1⟩ := PsX_p hz hD hp hP g1
    by_cases cf : 40 ≤ (dSg D).length
    · rw [if_pos (decide_eq_true cf)] at h1
      have h9 := hQ M1 (by unfold spSeen; rw [if_pos cf]; exact ⟨sRd_S g1, Fa_of p1 P1 h1⟩)
      simp +decide only [qX2_readSighting, decide_eq_true cf, b01, Bool.not_true, am_w1_i, am_w1_r, am_w1_x, am_w1_l, am_w1_w, va_rf_s, am_push_n, am_push_s, am_cs_0, am_cs_i, am_cs_l, am_cs_r, m_uI_K, m_uI_N, m_uI_R, m_uI_L, m_uI_I, m_uL_K, m_uL_N, m_uL_R, m_uL_I, m_uL_L, m_uR_K, m_uR_N, m_uR_I, m_uR_L, m_uR_R, true_and, and_true, true_implies, false_implies, not_true_eq_false, not_false_eq_true, if_true, if_false, false_and, and_false]
      exact h9
    · rw [if_neg (by rw [decide_eq_false cf]; decide)] at h1
      simp +decide only [qX2_readSighting, lx L1, decide_eq_false cf, b01, Bool.not_false, am_w1_i, am_w1_r, am_w1_x, am_w1_l, am_w1_w, va_rf_s, am_push_n, am_push_s, am_cs_0, am_cs_i, am_cs_l, am_cs_r, m_uI_K, m_uI_N, m_uI_R, m_uI_L, m_uI_I, m_uL_K, m_uL_N, m_uL_R, m_uL_I, m_uL_L, m_uR_K, m_uR_N, m_uR_I, m_uR_L, m_uR_R, true_and, and_true, true_implies, false_implies, not_true_eq_false, not_false_eq_true, if_true, if_false, false_and, and_false]
      rw [show (0 : Int32) = nI 0 from rfl, show (3 : Int32) = nI 3 from rfl]
      refine c_x_takeNumber (d + 1) n 0 3 T _ M1 _ L1 (by omega) (by omega) h1 (fun M2 g2 h2 => ?_)
      have L2 := gF_LayN g2 L1
      obtain ⟨P2, p2⟩ := PsX_p hz hD p1 P1 g2
      simp +decide only [qX2_readSighting, lx L2, am_w1_i, am_w1_r, am_w1_x, am_w1_l, am_w1_w, va_rf_s, am_push_n, am_push_s, am_cs_0, am_cs_i, am_cs_l, am_cs_r, m_uI_K, m_uI_N, m_uI_R, m_uI_L, m_uI_I, m_uL_K, m_uL_N, m_uL_R, m_uL_I, m_uL_L, m_uR_K, m_uR_N, m_uR_I, m_uR_L, m_uR_R, true_and, and_true, true_implies, false_implies, not_true_eq_false, not_false_eq_true, if_true, if_false, false_and, and_false]
      refine c_x_takePlace d c D _ M2 _ L2 hz p2 P2 hD hC hRr h2 (fun M3 g3 h3 => ?_)
      have L3 := gF_LayN g3 L2
      obtain ⟨P3, p3⟩ := PsX_p hz hD p2 P2 g3
      simp +decide only [qX2_readSighting, lx L3, am_w1_i, am_w1_r, am_w1_x, am_w1_l, am_w1_w, va_rf_s, am_push_n, am_push_s, am_cs_0, am_cs_i, am_cs_l, am_cs_r, m_uI_K, m_uI_N, m_uI_R, m_uI_L, m_uI_I, m_uL_K, m_uL_N, m_uL_R, m_uL_I, m_uL_L, m_uR_K, m_uR_N, m_uR_I, m_uR_L, m_uR_R, true_and, and_true, true_implies, false_implies, not_true_eq_false, not_false_eq_true, if_true, if_false, false_and, and_false]
      rw [show (16 : Int32) = nI 16 from rfl, show (0 : Int32) = nI 0 from rfl, show (47 : Int32) = nI 47 from rfl]
      refine c_x_takeAfter d 16 0 47 _ M3 _ L3 (by omega) (by omega) (by omega) h3 (fun M4 g4 h4 => ?_)
      have L4 := gF_LayN g4 L3
      obtain ⟨P4, p4⟩ := PsX_p hz hD p3 P3 g4
      have G4 := gF_trans g1 (gF_trans g2 (gF_trans g3 g4))
      have hf := f_0 h4
      have hres : spSeen T n D t = bR (aftR T n 16 0 47 (plcR T n (dC D) (dR D) (numR T n 0 3 (advR T n t)).1).1).1 (fun t' => .inr (t', (D.1, (dSh D, dYs D, dBk D, dSg D ++ [((numR T n 0 3 (advR T n t)).2, (plcR T n (dC D) (dR D) (numR T n 0 3 (advR T n t)).1).2, (aftR T n 16 0 47 (plcR T n (dC D) (dR D) (numR T n 0 3 (advR T n t)).1).1).2)]), D.2.2))) := by unfold spSeen; rw [if_neg cf]
      rw [hres] at hQ
      cases hr : (aftR T n 16 0 47 (plcR T n (dC D) (dR D) (numR T n 0 3 (advR T n t)).1).1).1 with
      | inl e =>
        rw [hr] at h4 hQ
        have h9 := hQ M4 ⟨sRd_S G4, Fa_of p4 P4 h4⟩
        simp +decide only [qX2_readSighting, lx L4, am_w1_i, am_w1_r, am_w1_x, am_w1_l, am_w1_w, va_rf_s, am_push_n, am_push_s, am_cs_0, am_cs_i, am_cs_l, am_cs_r, m_uI_K, m_uI_N, m_uI_R, m_uI_L, m_uI_I, m_uL_K, m_uL_N, m_uL_R, m_uL_I, m_uL_L, m_uR_K, m_uR_N, m_uR_I, m_uR_L, m_uR_R, true_and, and_true, true_implies, false_implies, not_true_eq_false, not_false_eq_true, if_true, if_false, false_and, and_false]
        rw [br_p (hf.1 e hr)]
        exact h9
      | inr t' =>
        have hv := numR_v hr
        obtain ⟨t3, ht3⟩ := aft_i hr
        have hpv := plR_v hD hC hRr ht3
        obtain ⟨t2, ht2⟩ := plR_i ht3
        have hlk := numR_v ht2
        have haf : AfR T n t (.inr t') := by rw [← hr]; exact AfR_f _ _ _ (AfR_p _ _ (AfR_n _ _ (AfR_1 hEn)))
        have hlt := AfR_lt (GdX_t hG) h0 haf
        have hsg := P4.2.2.1
        simp +decide only [qX2_readSighting, lx L4, lz L4 hz, p4, hf.2 t' hr, am_w1_i, am_w1_r, am_w1_x, am_w1_l, am_w1_w, va_rf_s, am_push_n, am_push_s, am_cs_0, am_cs_i, am_cs_l, am_cs_r, m_uI_K, m_uI_N, m_uI_R, m_uI_L, m_uI_I, m_uL_K, m_uL_N, m_uL_R, m_uL_I, m_uL_L, m_uR_K, m_uR_N, m_uR_I, m_uR_L, m_uR_R, true_and, and_true, true_implies, false_implies, not_true_eq_false, not_false_eq_true, if_true, if_false, false_and, and_false]
        rw [c_x_append (d + 4) _ _ _ M4 _ L4 z (dSg D).length hz hsg.1 (by omega)]
        simp +decide only [qX2_readSighting, am_w1_i, am_w1_r, am_w1_x, am_w1_l, am_w1_w, va_rf_s, am_push_n, am_push_s, am_cs_0, am_cs_i, am_cs_l, am_cs_r, m_uI_K, m_uI_N, m_uI_R, m_uI_L, m_uI_I, m_uL_K, m_uL_N, m_uL_R, m_uL_I, m_uL_L, m_uR_K, m_uR_N, m_uR_I, m_uR_L, m_uR_R, true_and, and_true, true_implies, false_implies, not_true_eq_false, not_false_eq_true, if_true, if_false, false_and, and_false]
        have G5 : gF (fun a j => z + 2 ≤ a ∧ a ≤ z + 5) nT M4 (uI (uI (uI (uI M4 (z + 3) (dSg D).length (nI (numR T n 0 3 (advR T n t)).2)) (z + 4) (dSg D).length (nI (plcR T n (dC D) (dR D) (numR T n 0 3 (advR T n t)).1).2)) (z + 5) (dSg D).length (nI (aftR T n 16 0 47 (plcR T n (dC D) (dR D) (numR T n 0 3 (advR T n t)).1).1).2)) (z + 2) 0 (nI ((dSg D).length + 1))) := gF_trans (gF_i _ ⟨by omega, by omega⟩) (gF_trans (gF_i _ ⟨by omega, by omega⟩) (gF_trans (gF_i _ ⟨by omega, by omega⟩) (gF_i _ ⟨by omega, by omega⟩)))
        have hsx : ∀ i g, (dSg D ++ [((numR T n 0 3 (advR T n t)).2, (plcR T n (dC D) (dR D) (numR T n 0 3 (advR T n t)).1).2, (aftR T n 16 0 47 (plcR T n (dC D) (dR D) (numR T n 0 3 (advR T n t)).1).1).2)])[i]? = some g → mI (uI (uI (uI (uI M4 (z + 3) (dSg D).length (nI (numR T n 0 3 (advR T n t)).2)) (z + 4) (dSg D).length (nI (plcR T n (dC D) (dR D) (numR T n 0 3 (advR T n t)).1).2)) (z + 5) (dSg D).length (nI (aftR T n 16 0 47 (plcR T n (dC D) (dR D) (numR T n 0 3 (advR T n t)).1).1).2)) (z + 2) 0 (nI ((dSg D).length + 1))) (z + 3) i = nI g.1 ∧ mI (uI (uI (uI (uI M4 (z + 3) (dSg D).length (nI (numR T n 0 3 (advR T n t)).2)) (z + 4) (dSg D).length (nI (plcR T n (dC D) (dR D) (numR T n 0 3 (advR T n t)).1).2)) (z + 5) (dSg D).length (nI (aftR T n 16 0 47 (plcR T n (dC D) (dR D) (numR T n 0 3 (advR T n t)).1).1).2)) (z + 2) 0 (nI ((dSg D).length + 1))) (z + 4) i = nI g.2.1 ∧ mI (uI (uI (uI (uI M4 (z + 3) (dSg D).length (nI (numR T n 0 3 (advR T n t)).2)) (z + 4) (dSg D).length (nI (plcR T n (dC D) (dR D) (numR T n 0 3 (advR T n t)).1).2)) (z + 5) (dSg D).length (nI (aftR T n 16 0 47 (plcR T n (dC D) (dR D) (numR T n 0 3 (advR T n t)).1).1).2)) (z + 2) 0 (nI ((dSg D).length + 1))) (z + 5) i = nI g.2.2 := by
          intro i g hi
          by_cases e : i < (dSg D).length
          · rw [List.getElem?_append_left e] at hi
            obtain ⟨q1, q2, q3⟩ := hsg.2 i g hi
            refine ⟨?_, ?_, ?_⟩
            · rw [m_uI_I, if_neg (by omega), m_uI_I, if_neg (by omega), m_uI_I, if_neg (by omega), m_uI_I, if_neg (by omega)]; exact q1
            · rw [m_uI_I, if_neg (by omega), m_uI_I, if_neg (by omega), m_uI_I, if_neg (by omega), m_uI_I, if_neg (by omega)]; exact q2
            · rw [m_uI_I, if_neg (by omega), m_uI_I, if_neg (by omega), m_uI_I, if_neg (by omega), m_uI_I, if_neg (by omega)]; exact q3
          · rw [List.getElem?_append_right (by omega)] at hi
            have hl := (List.getElem?_eq_some_iff.mp hi).1
            have e2 : i = (dSg D).length := by
              simp only [List.length_cons, List.length_nil] at hl
              omega
            subst e2
            rw [Nat.sub_self] at hi
            cases hi
            refine ⟨?_, ?_, ?_⟩
            · rw [m_uI_I, if_neg (by omega), m_uI_I, if_neg (by omega), m_uI_I, if_neg (by omega), m_uI_I, if_pos ⟨rfl, rfl⟩]
            · rw [m_uI_I, if_neg (by omega), m_uI_I, if_neg (by omega), m_uI_I, if_pos ⟨rfl, rfl⟩]
            · rw [m_uI_I, if_neg (by omega), m_uI_I, if_pos ⟨rfl, rfl⟩]
        have h5 := StR_g h4 G5 (fun a j q w => by omega) (fun q => q)
        rw [hr] at h5 hQ
        refine hQ _ ⟨gF_trans (sRd_S G4) (gF_up G5 (fun a j q => by unfold sSea; omega) (fun _ _ q => q)), ⟨c, L4, p4, h5, ?_, DOK_sg hD (by omega) ⟨hlk.2, hpv.1, by show (aftR T n 16 0 47 (plcR T n (dC D) (dR D) (numR T n 0 3 (advR T n t)).1).1).2 < 48; have := hv.2; unfold aftR; omega⟩, by show c ≤ tS t'; omega⟩, hlt⟩
        obtain ⟨⟨a1, a2, a3, a4⟩, b, s, ⟨r1, r2, r3⟩, f⟩ := P4
        refine ⟨⟨by rw [G5.1 _ _ (by omega)]; exact a1, by rw [G5.1 _ _ (by omega)]; exact a2, by rw [G5.1 _ _ (by omega)]; exact a3, by rw [G5.1 _ _ (by omega)]; exact a4⟩, fun s' sp hs' => ShX_g (b s' sp hs') G5 (fun a j q1 q2 w => by omega), ⟨?_, hsx⟩, ⟨RlC_g r1 G5 (fun a j q1 q2 w => by omega) (fun j hj w => by omega), RlC_g r2 G5 (fun a j q1 q2 w => by omega) (fun j hj w => by omega), RlC_g r3 G5 (fun a j q1 q2 w => by omega) (fun j hj w => by omega)⟩, FmX_g f G5 (fun q => by omega)⟩
        show mI _ (z + 2) 0 = nI (dSg D ++ [_]).length
        rw [m_uI_I, if_pos ⟨rfl, rfl⟩, List.length_append]
        rfl
  rw [eX2_readSighting]
  simp +decide only [qX2_readSighting, lx hL, lz hL hz, hp, hP.2.2.1.1, hn40, am_w1_i, am_w1_r, am_w1_x, am_w1_l, am_w1_w, va_rf_s, am_push_n, am_push_s, am_cs_0, am_cs_i, am_cs_l, am_cs_r, m_uI_K, m_uI_N, m_uI_R, m_uI_L, m_uI_I, m_uL_K, m_uL_N, m_uL_R, m_uL_I, m_uL_L, m_uR_K, m_uR_N, m_uR_I, m_uR_L, m_uR_R, true_and, and_true, true_implies, false_implies, not_true_eq_false, not_false_eq_true, if_true, if_false, false_and, and_false]
  by_cases cf : 40 ≤ (dSg D).length
  · rw [decide_eq_true cf] at main
    rw [br_n (by omega)]
    exact main
  · rw [decide_eq_false cf] at main
    rw [br_p (by omega)]
    exact main
def sLa (z N a j : Nat) : Prop := (a = z + 25 + 7 * N ∧ (j ≤ 5 ∨ j = 9)) ∨ (a = z ∧ j = 3)
theorem c_x_launch (d N : Nat) (x0 x1 x2 x3 x4 : Int32) (M : am_M) (Q : Option Value → am_M → Prop) (hL : Lay M) (hz : z = 2 ∨ z = 83) (hN : N < 8) (h3 : mI M z 3 = nI N)
    (hQ : ∀ M', gF (sLa z N) nT M M' → mI M' z 3 = nI (N + 1) → mI M' (z + 25 + 7 * N) 0 = x0 → mI M' (z + 25 + 7 * N) 1 = x1 → mI M' (z + 25 + 7 * N) 2 = x2 → mI M' (z + 25 + 7 * N) 3 = x3 → mI M' (z + 25 + 7 * N) 4 = x4 → mI M' (z + 25 + 7 * N) 5 = 0 → mI M' (z + 25 + 7 * N) 9 = 0 → Q none M') : am_E am_P0 d 63 [.ref z, .int x0, .int x1, .int x2, .int x3, .int x4] M Q := by
  obtain ⟨g, hge⟩ : ∃ g, g = z + 25 + 7 * N := ⟨_, rfl⟩
  have hg : isSh g := ⟨N, hN, by omega⟩
  have hr := lsh hL hz hN
  have hlt : ¬ (8 : Int32) ≤ nI N := by rw [show (8 : Int32) = nI 8 from rfl, ni_le (by omega) (by omega)]; omega
  rw [← hge] at hr hQ
  have ng : ¬ z = g := by omega
  rw [eX5_launch]
  simp +decide (disch := omega) only [qX5_launch, lz hL hz, lw_ hL hg, h3, hr, ng, ni_in_t, ni_tn, ni_add1, am_w1_i, am_w1_r, am_w1_x, am_w1_l, am_w1_w, va_rf_s, am_push_n, am_push_s, am_cs_0, am_cs_i, am_cs_l, am_cs_r, m_uI_K, m_uI_N, m_uI_R, m_uI_L, m_uI_I, m_uL_K, m_uL_N, m_uL_R, m_uL_I, m_uL_L, m_uR_K, m_uR_N, m_uR_I, m_uR_L, m_uR_R, true_and, and_true, true_implies, false_implies, not_true_eq_false, not_false_eq_true, if_true, if_false, false_and, and_false, true_or]
  rw [br_n hlt]
  have up : ∀ j, j ≤ 5 ∨ j = 9 → sLa z N g j := fun j hj => Or.inl ⟨hge, hj⟩
  refine hQ _ (gF_trans (gF_i _ (up 0 (by omega))) (gF_trans (gF_i _ (up 1 (by omega))) (gF_trans (gF_i _ (up 2 (by omega))) (gF_trans (gF_i _ (up 3 (by omega))) (gF_trans (gF_i _ (up 4 (by omega))) (gF_trans (gF_i _ (up 5 (by omega))) (gF_trans (gF_i _ (up 9 (by omega))) (gF_i _ (Or.inr ⟨rfl, rfl⟩))))))))) ?_ ?_ ?_ ?_ ?_ ?_ ?_ ?_
  · simp [m_uI_I]
  · have ng' : ¬ g = z := by omega
    simp [m_uI_I, ng']
  · have ng' : ¬ g = z := by omega
    simp [m_uI_I, ng']
  · have ng' : ¬ g = z := by omega
    simp [m_uI_I, ng']
  · have ng' : ¬ g = z := by omega
    simp [m_uI_I, ng']
  · have ng' : ¬ g = z := by omega
    simp [m_uI_I, ng']
  · have ng' : ¬ g = z := by omega
    simp [m_uI_I, ng']
  · have ng' : ¬ g = z := by omega
    simp [m_uI_I, ng']
theorem dY_app {D : Dat} {sp : Shp} (hD : DOK D) (s : Nat) : dY (D.1, (dSh D ++ [sp], dYs D ++ [[]], dBk D, dSg D), D.2.2) s = dY D s := by
  show (dYs D ++ [[]]).getD s [] = (dYs D).getD s []
  rw [List.getD_eq_getElem?_getD, List.getD_eq_getElem?_getD]
  by_cases h : s < (dYs D).length
  · rw [List.getElem?_append_left h]
  · rw [List.getElem?_append_right (by omega), List.getElem?_eq_none (l := dYs D) (by omega)]
    cases hs : s - (dYs D).length with
    | zero => rfl
    | succ k => rfl
theorem DOK_sh {D : Dat} {sp : Shp} (hD : DOK D) (hl : (dSh D).length < 8) (hs : shOK sp) : DOK (D.1, (dSh D ++ [sp], dYs D ++ [[]], dBk D, dSg D), D.2.2) := by
  have hY := fun s => dY_app (sp := sp) hD s
  obtain ⟨d1, d2, ⟨e1, e2, e3⟩, d4, d5, d6, d7, d8, d9⟩ := id hD
  refine ⟨d1, d2, ⟨?_, ?_, fun s hs' => ?_⟩, fun s y hy => ?_, fun s => ?_, ?_, ⟨d7.1, fun k hk => ?_⟩, d8, d9⟩
  · show (dSh D ++ [sp]).length ≤ 8
    rw [List.length_append]; show (dSh D).length + 1 ≤ 8; omega
  · show (dYs D ++ [[]]).length = (dSh D ++ [sp]).length
    rw [List.length_append, List.length_append, e2]; rfl
  · rcases List.mem_append.mp hs' with q | q
    · exact e3 s q
    · rw [List.mem_singleton.mp q]; exact hs
  · rw [hY] at hy; exact d4 s y hy
  · rw [hY]; exact d5 s
  · unfold dTot
    rw [sumF_ext (g := fun s => (dY D s).length) _ (fun i _ => by rw [hY])]
    show sumF _ (dSh D ++ [sp]).length ≤ 96
    rw [List.length_append]
    show sumF (fun s => (dY D s).length) (dSh D).length + (dY D (dSh D).length).length ≤ 96
    have : dY D (dSh D).length = [] := by
      unfold dY
      rw [List.getD_eq_getElem?_getD, List.getElem?_eq_none (by omega)]; rfl
    rw [this]
    exact d6
  · have := d7.2 k hk
    show k.1 < (dSh D ++ [sp]).length
    rw [List.length_append]; omega
theorem b_ship (hz : z = 2 ∨ z = 83) (d c : Nat) (D : Dat) (t : Tok) (M : am_M) (Q : Option Value → am_M → Prop) (hG : GdX T n z M D c t) (h0 : ¬ t.1 = 0) (hQ : ∀ M', EdX T n z t M M' (spShip T n D t) → Q none M') : am_E am_P0 (d + 5) 16 [.ref 164] M Q := by
  obtain ⟨hL, hp, hR, hP, hD, hc⟩ := id hG
  have hst : StR M T n (.inr t) := hR
  have hEn := (GdX_t hG).1
  have h8 := hD.2.2.1.1
  have hn8 : nI (dSh D).length < 8 ↔ (dSh D).length < 8 := by rw [show (8 : Int32) = nI 8 from rfl, ni_lt (by omega) (by omega)]
  have main : am_E am_P0 (d + 4) 13 [.ref 164, .int (b01 (decide (8 ≤ (dSh D).length)))] M (fun r M2 => am_P am_P0 (d + 5) (am_look tX2_readShip) 21 [.ref 164, am_x, am_x, am_x, am_x, am_x] (am_push r []) M2 Q) := by
    refine c_x_oneMore (d + 2) _ t M _ hL hst (fun M1 g1 h1 => ?_)
    have L1 := gF_LayN g1 hL
    obtain ⟨P1, p1⟩ := PsX_p hz hD hp hP g1
    by_cases cf : 8 ≤ (dSh D).length
    · rw [if_pos (decide_eq_true cf)] at h1
      have h9 := hQ M1 (by unfold spShip; rw [if_pos cf]; exact ⟨sRd_S g1, Fa_of p1 P1 h1⟩)
      simp +decide only [qX2_readShip_0, qX2_readShip_1, decide_eq_true cf, b01, Bool.not_true, am_w1_i, am_w1_r, am_w1_x, am_w1_l, am_w1_w, va_rf_s, am_push_n, am_push_s, am_cs_0, am_cs_i, am_cs_l, am_cs_r, m_uI_K, m_uI_N, m_uI_R, m_uI_L, m_uI_I, m_uL_K, m_uL_N, m_uL_R, m_uL_I, m_uL_L, m_uR_K, m_uR_N, m_uR_I, m_uR_L, m_uR_R, true_and, and_true, true_implies, false_implies, not_true_eq_false, not_false_eq_true, if_true, if_false, false_and, and_false]
      exact h9
    · rw [if_neg (by rw [decide_eq_false cf]; decide)] at h1
      have hres : spShip T n D t = bR (nameR (advR T n t)).1 (fun t1 => if (shF D t1.2.2.1).isSome = true then .inl (2, tS t1) else
        bR (aftR T n 8 0 40 (aftR T n 7 1 40 (aftR T n 6 1 4 (aftR T n 5 0 3 (advR T n t1)).1).1).1).1 (fun t' => .inr (t', (D.1, (dSh D ++ [(t1.2.2.1, (aftR T n 5 0 3 (advR T n t1)).2, (aftR T n 6 1 4 (aftR T n 5 0 3 (advR T n t1)).1).2, (aftR T n 7 1 40 (aftR T n 6 1 4 (aftR T n 5 0 3 (advR T n t1)).1).1).2, (aftR T n 8 0 40 (aftR T n 7 1 40 (aftR T n 6 1 4 (aftR T n 5 0 3 (advR T n t1)).1).1).1).2)], dYs D ++ [[]], dBk D, dSg D), D.2.2)))) := by unfold spShip; rw [if_neg cf]
      rw [hres] at hQ
      simp +decide only [qX2_readShip_0, qX2_readShip_1, lx L1, decide_eq_false cf, b01, Bool.not_false, am_w1_i, am_w1_r, am_w1_x, am_w1_l, am_w1_w, va_rf_s, am_push_n, am_push_s, am_cs_0, am_cs_i, am_cs_l, am_cs_r, m_uI_K, m_uI_N, m_uI_R, m_uI_L, m_uI_I, m_uL_K, m_uL_N, m_uL_R, m_uL_I, m_uL_L, m_uR_K, m_uR_N, m_uR_I, m_uR_L, m_uR_R, true_and, and_true, true_implies, false_implies, not_true_eq_false, not_false_eq_true, if_true, if_false, false_and, and_false]
      refine c_x_isName (d + 2) n T _ M1 _ L1 h1 (fun M2 g2 h2 => ?_)
      have L2 := gF_LayN g2 L1
      obtain ⟨P2, p2⟩ := PsX_p hz hD p1 P1 g2
      have G2 := gF_trans g1 g2
      have haf2 : AfR T n t (nameR (advR T n t)).1 := AfR_m (AfR_1 hEn)
      cases hnm : (nameR (advR T n t)).1 with
      | inl e =>
        have hb : (nameR (advR T n t)).2 = false := by
          cases ha : advR T n t with
          | inl e' => rfl
          | inr t1 =>
            rw [ha] at hnm
            have en : nameR (.inr t1) = if isNm t1 = true then (.inr t1, true) else (.inl (1, tS t1), false) := rfl
            rw [en] at hnm ⊢
            by_cases cn : isNm t1 = true
            · rw [if_pos cn] at hnm; cases hnm
            · rw [if_neg cn]
        rw [hnm] at h2 hQ
        have h9 := hQ M2 ⟨sRd_S G2, Fa_of p2 P2 h2⟩
        simp +decide only [qX2_readShip_0, qX2_readShip_1, hb, b01, am_w1_i, am_w1_r, am_w1_x, am_w1_l, am_w1_w, va_rf_s, am_push_n, am_push_s, am_cs_0, am_cs_i, am_cs_l, am_cs_r, m_uI_K, m_uI_N, m_uI_R, m_uI_L, m_uI_I, m_uL_K, m_uL_N, m_uL_R, m_uL_I, m_uL_L, m_uR_K, m_uR_N, m_uR_I, m_uR_L, m_uR_R, true_and, and_true, true_implies, false_implies, not_true_eq_false, not_false_eq_true, if_true, if_false, false_and, and_false]
        exact h9
      | inr t1 =>
        have hb : (nameR (advR T n t)).2 = true ∧ isNm t1 = true := by
          cases ha : advR T n t with
          | inl e' => rw [ha] at hnm; cases hnm
          | inr t1' =>
            rw [ha] at hnm
            have en : nameR (.inr t1') = if isNm t1' = true then (.inr t1', true) else (.inl (1, tS t1'), false) := rfl
            rw [en] at hnm ⊢
            by_cases cn : isNm t1' = true
            · rw [if_pos cn] at hnm ⊢; cases hnm; exact ⟨rfl, cn⟩
            · rw [if_neg cn] at hnm; cases hnm
        rw [hnm] at h2 hQ haf2
        have hQ : ∀ M', EdX T n z t M M' (if (shF D t1.2.2.1).isSome = true then .inl (2, tS t1) else
          bR (aftR T n 8 0 40 (aftR T n 7 1 40 (aftR T n 6 1 4 (aftR T n 5 0 3 (advR T n t1)).1).1).1).1 (fun t' => .inr (t', (D.1, (dSh D ++ [(t1.2.2.1, (aftR T n 5 0 3 (advR T n t1)).2, (aftR T n 6 1 4 (aftR T n 5 0 3 (advR T n t1)).1).2, (aftR T n 7 1 40 (aftR T n 6 1 4 (aftR T n 5 0 3 (advR T n t1)).1).1).2, (aftR T n 8 0 40 (aftR T n 7 1 40 (aftR T n 6 1 4 (aftR T n 5 0 3 (advR T n t1)).1).1).1).2)], dYs D ++ [[]], dBk D, dSg D), D.2.2)))) → Q none M' := hQ
        have h2' : RdX M2 T n t1 := h2
        have ht1 : t1.1 = 1 := by have := hb.2; unfold isNm at this; rw [Bool.and_eq_true, beq_iff_eq] at this; exact this.1
        have hG2 := h2'.2.2.2.2.2.2.2.2.1
        have hw := hG2.2.2.2.2.2.1 ht1
        have h5 := h2'.2.2.2.2.2.2.2.1
        rw [if_pos ht1] at h5
        simp +decide only [qX2_readShip_0, qX2_readShip_1, lx L2, lz L2 hz, p2, h5, hb.1, c_x_shipNamed (d + 4) z c D t1.2.2.1 M2 _ L2 hz P2 hD hw.1 hw.2.1, b01, am_w1_i, am_w1_r, am_w1_x, am_w1_l, am_w1_w, va_rf_s, am_push_n, am_push_s, am_cs_0, am_cs_i, am_cs_l, am_cs_r, m_uI_K, m_uI_N, m_uI_R, m_uI_L, m_uI_I, m_uL_K, m_uL_N, m_uL_R, m_uL_I, m_uL_L, m_uR_K, m_uR_N, m_uR_I, m_uR_L, m_uR_R, true_and, and_true, true_implies, false_implies, not_true_eq_false, not_false_eq_true, if_true, if_false, false_and, and_false]
        cases hs : shF D t1.2.2.1 with
        | some s =>
          have hsl : s < (dSh D).length := by
            unfold shF at hs
            rw [List.findIdx?_eq_some_iff_getElem] at hs
            exact hs.1
          have hs1 : ¬ nI s = -1 := nI_m1 (by omega)
          rw [hs, if_pos (show (some s).isSome = true from rfl)] at hQ
          simp +decide only [qX2_readShip_0, qX2_readShip_1, lx L2, am_w1_i, am_w1_r, am_w1_x, am_w1_l, am_w1_w, va_rf_s, am_push_n, am_push_s, am_cs_0, am_cs_i, am_cs_l, am_cs_r, m_uI_K, m_uI_N, m_uI_R, m_uI_L, m_uI_I, m_uL_K, m_uL_N, m_uL_R, m_uL_I, m_uL_L, m_uR_K, m_uR_N, m_uR_I, m_uR_L, m_uR_R, true_and, and_true, true_implies, false_implies, not_true_eq_false, not_false_eq_true, if_true, if_false, false_and, and_false]
          rw [br_n hs1, show (2 : Int32) = nI 2 from rfl]
          refine c_x_refuse (d + 3) n 2 T (.inr t1) M2 _ L2 (by omega) h2 (fun M3 g3 h3 => ?_)
          obtain ⟨P3, p3⟩ := PsX_p hz hD p2 P2 g3
          have h9 := hQ M3 ⟨gF_trans (sRd_S G2) (sRd_S g3), Fa_of p3 P3 h3⟩
          simp +decide only [qX2_readShip_0, qX2_readShip_1, am_w1_i, am_w1_r, am_w1_x, am_w1_l, am_w1_w, va_rf_s, am_push_n, am_push_s, am_cs_0, am_cs_i, am_cs_l, am_cs_r, m_uI_K, m_uI_N, m_uI_R, m_uI_L, m_uI_I, m_uL_K, m_uL_N, m_uL_R, m_uL_I, m_uL_L, m_uR_K, m_uR_N, m_uR_I, m_uR_L, m_uR_R, true_and, and_true, true_implies, false_implies, not_true_eq_false, not_false_eq_true, if_true, if_false, false_and, and_false]
          exact h9
        | none =>
          rw [hs, if_neg (show ¬ (none : Option Nat).isSome = true by decide)] at hQ
          simp +decide only [qX2_readShip_0, qX2_readShip_1, lx L2, am_w1_i, am_w1_r, am_w1_x, am_w1_l, am_w1_w, va_rf_s, am_push_n, am_push_s, am_cs_0, am_cs_i, am_cs_l, am_cs_r, m_uI_K, m_uI_N, m_uI_R, m_uI_L, m_uI_I, m_uL_K, m_uL_N, m_uL_R, m_uL_I, m_uL_L, m_uR_K, m_uR_N, m_uR_I, m_uR_L, m_uR_R, true_and, and_true, true_implies, false_implies, not_true_eq_false, not_false_eq_true, if_true, if_false, false_and, and_false]
          refine c_x_stepR (d + 3) n T (.inr t1) M2 _ L2 h2 (fun M3 g3 h3 => ?_)
          have L3 := gF_LayN g3 L2
          obtain ⟨P3, p3⟩ := PsX_p hz hD p2 P2 g3
          have h3' : StR M3 T n (advR T n t1) := h3
          simp +decide only [qX2_readShip_0, qX2_readShip_1, lx L3, am_w1_i, am_w1_r, am_w1_x, am_w1_l, am_w1_w, va_rf_s, am_push_n, am_push_s, am_cs_0, am_cs_i, am_cs_l, am_cs_r, m_uI_K, m_uI_N, m_uI_R, m_uI_L, m_uI_I, m_uL_K, m_uL_N, m_uL_R, m_uL_I, m_uL_L, m_uR_K, m_uR_N, m_uR_I, m_uR_L, m_uR_R, true_and, and_true, true_implies, false_implies, not_true_eq_false, not_false_eq_true, if_true, if_false, false_and, and_false]
          rw [show (5 : Int32) = nI 5 from rfl, show (0 : Int32) = nI 0 from rfl, show (3 : Int32) = nI 3 from rfl]
          refine c_x_takeAfter d 5 0 3 _ M3 _ L3 (by omega) (by omega) (by omega) h3' (fun M4 g4 h4 => ?_)
          have L4 := gF_LayN g4 L3
          obtain ⟨P4, p4⟩ := PsX_p hz hD p3 P3 g4
          simp +decide only [qX2_readShip_0, qX2_readShip_1, lx L4, am_w1_i, am_w1_r, am_w1_x, am_w1_l, am_w1_w, va_rf_s, am_push_n, am_push_s, am_cs_0, am_cs_i, am_cs_l, am_cs_r, m_uI_K, m_uI_N, m_uI_R, m_uI_L, m_uI_I, m_uL_K, m_uL_N, m_uL_R, m_uL_I, m_uL_L, m_uR_K, m_uR_N, m_uR_I, m_uR_L, m_uR_R, true_and, and_true, true_implies, false_implies, not_true_eq_false, not_false_eq_true, if_true, if_false, false_and, and_false]
          rw [show (6 : Int32) = nI 6 from rfl, show (1 : Int32) = nI 1 from rfl, show (4 : Int32) = nI 4 from rfl]
          refine c_x_takeAfter d 6 1 4 _ M4 _ L4 (by omega) (by omega) (by omega) h4 (fun M5 g5 h5' => ?_)
          have L5 := gF_LayN g5 L4
          obtain ⟨P5, p5⟩ := PsX_p hz hD p4 P4 g5
          simp +decide only [qX2_readShip_0, qX2_readShip_1, lx L5, am_w1_i, am_w1_r, am_w1_x, am_w1_l, am_w1_w, va_rf_s, am_push_n, am_push_s, am_cs_0, am_cs_i, am_cs_l, am_cs_r, m_uI_K, m_uI_N, m_uI_R, m_uI_L, m_uI_I, m_uL_K, m_uL_N, m_uL_R, m_uL_I, m_uL_L, m_uR_K, m_uR_N, m_uR_I, m_uR_L, m_uR_R, true_and, and_true, true_implies, false_implies, not_true_eq_false, not_false_eq_true, if_true, if_false, false_and, and_false]
          rw [show (7 : Int32) = nI 7 from rfl, show (1 : Int32) = nI 1 from rfl, show (40 : Int32) = nI 40 from rfl]
          refine c_x_takeAfter d 7 1 40 _ M5 _ L5 (by omega) (by omega) (by omega) h5' (fun M6 g6 h6 => ?_)
          have L6 := gF_LayN g6 L5
          obtain ⟨P6, p6⟩ := PsX_p hz hD p5 P5 g6
          simp +decide only [qX2_readShip_0, qX2_readShip_1, lx L6, am_w1_i, am_w1_r, am_w1_x, am_w1_l, am_w1_w, va_rf_s, am_push_n, am_push_s, am_cs_0, am_cs_i, am_cs_l, am_cs_r, m_uI_K, m_uI_N, m_uI_R, m_uI_L, m_uI_I, m_uL_K, m_uL_N, m_uL_R, m_uL_I, m_uL_L, m_uR_K, m_uR_N, m_uR_I, m_uR_L, m_uR_R, true_and, and_true, true_implies, false_implies, not_true_eq_false, not_false_eq_true, if_true, if_false, false_and, and_false]
          rw [show (8 : Int32) = nI 8 from rfl, show (0 : Int32) = nI 0 from rfl, show (40 : Int32) = nI 40 from rfl]
          refine c_x_takeAfter d 8 0 40 _ M6 _ L6 (by omega) (by omega) (by omega) h6 (fun M7 g7 h7 => ?_)
          have L7 := gF_LayN g7 L6
          obtain ⟨P7, p7⟩ := PsX_p hz hD p6 P6 g7
          have G7 := gF_trans G2 (gF_trans g3 (gF_trans g4 (gF_trans g5 (gF_trans g6 g7))))
          have hf := f_0 h7
          cases hr : (aftR T n 8 0 40 (aftR T n 7 1 40 (aftR T n 6 1 4 (aftR T n 5 0 3 (advR T n t1)).1).1).1).1 with
          | inl e =>
            rw [hr] at h7 hQ
            have h9 := hQ M7 ⟨sRd_S G7, Fa_of p7 P7 h7⟩
            simp +decide only [qX2_readShip_0, qX2_readShip_1, lx L7, am_w1_i, am_w1_r, am_w1_x, am_w1_l, am_w1_w, va_rf_s, am_push_n, am_push_s, am_cs_0, am_cs_i, am_cs_l, am_cs_r, m_uI_K, m_uI_N, m_uI_R, m_uI_L, m_uI_I, m_uL_K, m_uL_N, m_uL_R, m_uL_I, m_uL_L, m_uR_K, m_uR_N, m_uR_I, m_uR_L, m_uR_R, true_and, and_true, true_implies, false_implies, not_true_eq_false, not_false_eq_true, if_true, if_false, false_and, and_false]
            rw [br_p (hf.1 e hr)]
            exact h9
          | inr t' =>
            have hv4 := numR_v hr
            obtain ⟨u3, hu3⟩ := aft_i hr
            have hv3 := numR_v hu3
            obtain ⟨u2, hu2⟩ := aft_i hu3
            have hv2 := numR_v hu2
            obtain ⟨u1, hu1⟩ := aft_i hu2
            have hv1 := numR_v hu1
            have haf : AfR T n t (.inr t') := by rw [← hr]; exact AfR_f _ _ _ (AfR_f _ _ _ (AfR_f _ _ _ (AfR_f _ _ _ (AfR_a haf2))))
            have hlt := AfR_lt (GdX_t hG) h0 haf
            have hok : shOK (t1.2.2.1, (aftR T n 5 0 3 (advR T n t1)).2, (aftR T n 6 1 4 (aftR T n 5 0 3 (advR T n t1)).1).2, (aftR T n 7 1 40 (aftR T n 6 1 4 (aftR T n 5 0 3 (advR T n t1)).1).1).2, (aftR T n 8 0 40 (aftR T n 7 1 40 (aftR T n 6 1 4 (aftR T n 5 0 3 (advR T n t1)).1).1).1).2) := ⟨hw.1, hw.2.2, hw.2.1, hv1.2, hv2.1, hv2.2, hv3.1, hv3.2, hv4.2⟩
            simp +decide only [qX2_readShip_0, qX2_readShip_1, lx L7, lz L7 hz, p7, hf.2 t' hr, am_w1_i, am_w1_r, am_w1_x, am_w1_l, am_w1_w, va_rf_s, am_push_n, am_push_s, am_cs_0, am_cs_i, am_cs_l, am_cs_r, m_uI_K, m_uI_N, m_uI_R, m_uI_L, m_uI_I, m_uL_K, m_uL_N, m_uL_R, m_uL_I, m_uL_L, m_uR_K, m_uR_N, m_uR_I, m_uR_L, m_uR_R, true_and, and_true, true_implies, false_implies, not_true_eq_false, not_false_eq_true, if_true, if_false, false_and, and_false]
            refine c_x_launch (d + 4) (dSh D).length _ _ _ _ _ M7 _ L7 hz (by omega) P7.1.2.2.2 (fun M8 g8 k3 k0 k1 k2 k3' k4 k5 k9 => ?_)
            have h8' := StR_g h7 g8 (fun a j q w => by unfold sLa at w; omega) (fun q => q)
            rw [hr] at h8' hQ
            simp +decide only [qX2_readShip_0, qX2_readShip_1, am_w1_i, am_w1_r, am_w1_x, am_w1_l, am_w1_w, va_rf_s, am_push_n, am_push_s, am_cs_0, am_cs_i, am_cs_l, am_cs_r, m_uI_K, m_uI_N, m_uI_R, m_uI_L, m_uI_I, m_uL_K, m_uL_N, m_uL_R, m_uL_I, m_uL_L, m_uR_K, m_uR_N, m_uR_I, m_uR_L, m_uR_R, true_and, and_true, true_implies, false_implies, not_true_eq_false, not_false_eq_true, if_true, if_false, false_and, and_false]
            have hY := fun s => dY_app (sp := (t1.2.2.1, (aftR T n 5 0 3 (advR T n t1)).2, (aftR T n 6 1 4 (aftR T n 5 0 3 (advR T n t1)).1).2, (aftR T n 7 1 40 (aftR T n 6 1 4 (aftR T n 5 0 3 (advR T n t1)).1).1).2, (aftR T n 8 0 40 (aftR T n 7 1 40 (aftR T n 6 1 4 (aftR T n 5 0 3 (advR T n t1)).1).1).1).2)) hD s
            refine hQ M8 ⟨gF_trans (sRd_S G7) (gF_up g8 (fun a j q => by unfold sLa at q; unfold sSea; omega) (fun _ _ q => q)), ⟨c, gF_LayN g8 L7, by rw [g8.2.2.1 _ _ (fun q => q)]; exact p7, h8', ?_, DOK_sh hD (by omega) hok, by show c ≤ tS t'; omega⟩, hlt⟩
            obtain ⟨⟨a1, a2, a3, a4⟩, b, s, ⟨r1, r2, r3⟩, f⟩ := P7
            refine ⟨⟨by rw [g8.1 _ _ (by unfold sLa; omega)]; exact a1, by rw [g8.1 _ _ (by unfold sLa; omega)]; exact a2, by rw [g8.1 _ _ (by unfold sLa; omega)]; exact a3, ?_⟩, fun s' sp hs' => ?_, SgX_g s g8 (fun a j q1 q2 w => by unfold sLa at w; omega), ⟨RlC_g r1 g8 (fun a j q1 q2 w => by unfold sLa at w; omega) (fun j hj w => by unfold sLa at w; omega), RlC_g r2 g8 (fun a j q1 q2 w => by unfold sLa at w; omega) (fun j hj w => by unfold sLa at w; omega), RlC_g r3 g8 (fun a j q1 q2 w => by unfold sLa at w; omega) (fun j hj w => by unfold sLa at w; omega)⟩, FmX_g f g8 (fun q => by unfold sLa at q; omega)⟩
            · rw [k3]
              show _ = nI (dSh D ++ [_]).length
              rw [List.length_append]; rfl
            · rw [hY s']
              by_cases e : s' < (dSh D).length
              · have hs'' : (dSh D)[s']? = some sp := by rw [← List.getElem?_append_left (l₂ := [_]) e]; exact hs'
                exact ShX_g (b s' sp hs'') g8 (fun a j q1 q2 w => by unfold sLa at w; omega)
              · have hl : s' < (dSh D ++ [(t1.2.2.1, (aftR T n 5 0 3 (advR T n t1)).2, (aftR T n 6 1 4 (aftR T n 5 0 3 (advR T n t1)).1).2, (aftR T n 7 1 40 (aftR T n 6 1 4 (aftR T n 5 0 3 (advR T n t1)).1).1).2, (aftR T n 8 0 40 (aftR T n 7 1 40 (aftR T n 6 1 4 (aftR T n 5 0 3 (advR T n t1)).1).1).1).2)]).length := (List.getElem?_eq_some_iff.mp hs').1
                have e2 : s' = (dSh D).length := by
                  rw [List.length_append] at hl
                  simp only [List.length_cons, List.length_nil] at hl
                  omega
                subst e2
                have hs'' : (dSh D ++ [(t1.2.2.1, (aftR T n 5 0 3 (advR T n t1)).2, (aftR T n 6 1 4 (aftR T n 5 0 3 (advR T n t1)).1).2, (aftR T n 7 1 40 (aftR T n 6 1 4 (aftR T n 5 0 3 (advR T n t1)).1).1).2, (aftR T n 8 0 40 (aftR T n 7 1 40 (aftR T n 6 1 4 (aftR T n 5 0 3 (advR T n t1)).1).1).1).2)])[(dSh D).length]? = some sp := hs'
                rw [List.getElem?_append_right (Nat.le_refl _), Nat.sub_self] at hs''
                cases hs''
                have hY0 : dY D (dSh D).length = [] := by
                  unfold dY
                  rw [List.getD_eq_getElem?_getD, List.getElem?_eq_none (by have := hD.2.2.1.2.1; omega)]; rfl
                have hB0 : bkOf (dBk D) (dSh D).length = [] := by
                  unfold bkOf
                  rw [List.map_eq_nil_iff, List.filter_eq_nil_iff]
                  intro k hk
                  have := hD.2.2.2.2.2.2.1.2 k hk
                  simp; omega
                rw [hY0]
                show ShX M8 _ _ [] (bkOf (dBk D) (dSh D).length)
                rw [hB0]
                exact ⟨⟨k0, k1, k2, k3', k4⟩, ⟨k5, Nat.zero_le _, fun i y hy => by cases hy⟩, ⟨k9, Nat.zero_le _, fun i y hy => by cases hy⟩⟩
  rw [eX2_readShip]
  simp +decide only [qX2_readShip_0, qX2_readShip_1, lx hL, lz hL hz, hp, hP.1.2.2.2, hn8, am_w1_i, am_w1_r, am_w1_x, am_w1_l, am_w1_w, va_rf_s, am_push_n, am_push_s, am_cs_0, am_cs_i, am_cs_l, am_cs_r, m_uI_K, m_uI_N, m_uI_R, m_uI_L, m_uI_I, m_uL_K, m_uL_N, m_uL_R, m_uL_I, m_uL_L, m_uR_K, m_uR_N, m_uR_I, m_uR_L, m_uR_R, true_and, and_true, true_implies, false_implies, not_true_eq_false, not_false_eq_true, if_true, if_false, false_and, and_false]
  by_cases cf : 8 ≤ (dSh D).length
  · rw [decide_eq_true cf] at main
    rw [br_n (by omega)]
    exact main
  · rw [decide_eq_false cf] at main
    rw [br_p (by omega)]
    exact main
end
