/-! the class's parser: books, rules -/
def addB (D : Dat) (k : Bk) : Dat := (D.1, (dSh D, dYs D, dBk D ++ [k], dSg D), D.2.2)
theorem bkOf_app (L : List Bk) (k : Bk) (s : Nat) : bkOf (L ++ [k]) s = if s = k.1 then bkOf L s ++ [k.2] else bkOf L s := by
  unfold bkOf
  rw [List.filter_append, List.map_append]
  by_cases e : s = k.1
  · rw [if_pos e, List.filter_cons_of_pos (by simp [e])]; rfl
  · rw [if_neg e, List.filter_cons_of_neg (by simp; exact fun q => e q.symm)]
    show _ ++ [] = _
    rw [List.append_nil]
theorem DOK_b {D : Dat} {k : Bk} (hD : DOK D) (hl : (dBk D).length < 12) (h1 : k.1 < (dSh D).length) (h2 : vld (dC D) (dR D) k.2.1 ∧ k.2.2.1 ≤ k.2.2.2 ∧ k.2.2.2 < 48) : DOK (addB D k) := by
  obtain ⟨d1, d2, ⟨e1, e2, e3⟩, d4, d5, d6, ⟨⟨b1, b2⟩, b3⟩, d8⟩ := id hD
  refine ⟨d1, d2, ⟨e1, e2, e3⟩, d4, d5, d6, ⟨⟨?_, fun q hq => ?_⟩, fun q hq => ?_⟩, d8⟩
  · show (dBk D ++ [k]).length ≤ 12
    rw [List.length_append]; show (dBk D).length + 1 ≤ 12; omega
  · rcases List.mem_append.mp hq with w | w
    · exact b2 q w
    · rw [List.mem_singleton.mp w]; exact ⟨by omega, h2⟩
  · rcases List.mem_append.mp hq with w | w
    · exact b3 q w
    · rw [List.mem_singleton.mp w]; exact h1
section
variable {T : Nat → Nat} {n z : Nat}
theorem shp_i {D : Dat} {r : Rt} {t : Tok} (h : (shpR T n D r).1 = .inr t) : (shpR T n D r).2 < (dSh D).length := by
  unfold shpR at h ⊢
  cases hm : (nameR r).1 with
  | inl e => rw [hm] at h; cases h
  | inr t1 =>
    rw [hm] at h
    dsimp only at h ⊢
    cases hs : shF D t1.2.2.1 with
    | none => rw [hs] at h; cases h
    | some s =>
      dsimp only
      unfold shF at hs
      rw [List.findIdx?_eq_some_iff_getElem] at hs
      exact hs.1
theorem aftR_le {w lo hi : Nat} (hl : lo ≤ hi) (r : Rt) : (aftR T n w lo hi r).2 ≤ hi := by
  unfold aftR
  cases wordR T n w r with
  | inl e => exact hl
  | inr t0 =>
    have em : numR T n lo hi (.inr t0) = if ¬ t0.1 = 2 then (.inl (1, tS t0), lo) else if t0.2.1 < lo ∨ hi < t0.2.1 then (.inl (4, tS t0), lo) else (advR T n t0, t0.2.1) := rfl
    rw [em]
    split
    · exact hl
    · split
      · exact hl
      · show t0.2.1 ≤ hi; omega
theorem b_book (hz : z = 2 ∨ z = 83) (d c : Nat) (D : Dat) (t : Tok) (M : am_M) (Q : Option Value → am_M → Prop) (hG : GdX T n z M D c t) (hC : 1 ≤ dC D) (hRr : 1 ≤ dR D) (h0 : ¬ t.1 = 0) (hQ : ∀ M', EdX T n z t M M' (spBook T n D t) → Q none M') : am_E am_P0 (d + 5) 20 [.ref 164] M Q := by
  obtain ⟨hL, hp, hR, hP, hD, hc⟩ := id hG
  have hst : StR M T n (.inr t) := hR
  have hEn := (GdX_t hG).1
  have h12 := hD.2.2.2.2.2.2.1.1.1
  have h8 := hD.2.2.1.1
  have hn12 : nI (dBk D).length < 12 ↔ (dBk D).length < 12 := by rw [show (12 : Int32) = nI 12 from rfl, ni_lt (by omega) (by omega)]
  have main : am_E am_P0 (d + 4) 13 [.ref 164, .int (b01 (decide (12 ≤ (dBk D).length)))] M (fun r M2 => am_P am_P0 (d + 5) (am_look tX2_readBook) 21 [.ref 164, am_x, am_x, am_x, am_x] (am_push r []) M2 Q) := by
    refine c_x_oneMore (d + 2) _ t M _ hL hst (fun M1 g1 h1 => ?_)
    have L1 := gF_LayN g1 hL
    obtain ⟨P1, p1⟩ := PsX_p hz hD hp hP g1
    by_cases cf : 12 ≤ (dBk D).length
    · rw [if_pos (decide_eq_true cf)] at h1
      have h9 := hQ M1 (by unfold spBook; rw [if_pos cf]; exact ⟨sRd_S g1, Fa_of p1 P1 h1⟩)
      simp +decide only [qX2_readBook_0, qX2_readBook_1, decide_eq_true cf, b01, Bool.not_true, am_w1_i, am_w1_r, am_w1_x, am_w1_l, am_w1_w, va_rf_s, am_push_n, am_push_s, am_cs_0, am_cs_i, am_cs_l, am_cs_r, m_uI_K, m_uI_N, m_uI_R, m_uI_L, m_uI_I, m_uL_K, m_uL_N, m_uL_R, m_uL_I, m_uL_L, m_uR_K, m_uR_N, m_uR_I, m_uR_L, m_uR_R, true_and, and_true, true_implies, false_implies, not_true_eq_false, not_false_eq_true, if_true, if_false, false_and, and_false]
      exact h9
    · rw [if_neg (by rw [decide_eq_false cf]; decide)] at h1
      unfold spBook at hQ
      rw [if_neg cf] at hQ
      simp +decide only [qX2_readBook_0, qX2_readBook_1, lx L1, decide_eq_false cf, b01, Bool.not_false, am_w1_i, am_w1_r, am_w1_x, am_w1_l, am_w1_w, va_rf_s, am_push_n, am_push_s, am_cs_0, am_cs_i, am_cs_l, am_cs_r, m_uI_K, m_uI_N, m_uI_R, m_uI_L, m_uI_I, m_uL_K, m_uL_N, m_uL_R, m_uL_I, m_uL_L, m_uR_K, m_uR_N, m_uR_I, m_uR_L, m_uR_R, true_and, and_true, true_implies, false_implies, not_true_eq_false, not_false_eq_true, if_true, if_false, false_and, and_false]
      -- behind the ship
      have rest : ∀ (x : Int32) (M2 : am_M), gF sRd nT M M2 → StR M2 T n (shpR T n D (advR T n t)).1 → (∀ t', (shpR T n D (advR T n t)).1 = .inr t' → x = nI (shpR T n D (advR T n t)).2) → am_P am_P0 (d + 5) (am_look tX2_readBook) 29 [.ref 164, am_x, am_x, am_x, am_x] [.int x] M2 Q := by
        intro x M2 G2 h2 hx
        have L2 := gF_LayN G2 hL
        obtain ⟨P2, p2⟩ := PsX_p hz hD hp hP G2
        simp +decide only [qX2_readBook_0, qX2_readBook_1, lx L2, am_w1_i, am_w1_r, am_w1_x, am_w1_l, am_w1_w, va_rf_s, am_push_n, am_push_s, am_cs_0, am_cs_i, am_cs_l, am_cs_r, m_uI_K, m_uI_N, m_uI_R, m_uI_L, m_uI_I, m_uL_K, m_uL_N, m_uL_R, m_uL_I, m_uL_L, m_uR_K, m_uR_N, m_uR_I, m_uR_L, m_uR_R, true_and, and_true, true_implies, false_implies, not_true_eq_false, not_false_eq_true, if_true, if_false, false_and, and_false]
        refine c_x_takePlace d c D _ M2 _ L2 hz p2 P2 hD hC hRr h2 (fun M3 g3 h3 => ?_)
        have L3 := gF_LayN g3 L2
        obtain ⟨P3, p3⟩ := PsX_p hz hD p2 P2 g3
        simp +decide only [qX2_readBook_0, qX2_readBook_1, lx L3, am_w1_i, am_w1_r, am_w1_x, am_w1_l, am_w1_w, va_rf_s, am_push_n, am_push_s, am_cs_0, am_cs_i, am_cs_l, am_cs_r, m_uI_K, m_uI_N, m_uI_R, m_uI_L, m_uI_I, m_uL_K, m_uL_N, m_uL_R, m_uL_I, m_uL_L, m_uR_K, m_uR_N, m_uR_I, m_uR_L, m_uR_R, true_and, and_true, true_implies, false_implies, not_true_eq_false, not_false_eq_true, if_true, if_false, false_and, and_false]
        rw [show (13 : Int32) = nI 13 from rfl, show (0 : Int32) = nI 0 from rfl, show (47 : Int32) = nI 47 from rfl]
        refine c_x_takeAfter d 13 0 47 _ M3 _ L3 (by omega) (by omega) (by omega) h3 (fun M4 g4 h4 => ?_)
        have L4 := gF_LayN g4 L3
        obtain ⟨P4, p4⟩ := PsX_p hz hD p3 P3 g4
        have hfr := aftR_le (T := T) (n := n) (w := 13) (lo := 0) (hi := 47) (by omega) (plcR T n (dC D) (dR D) (shpR T n D (advR T n t)).1).1
        simp +decide only [qX2_readBook_0, qX2_readBook_1, lx L4, am_w1_i, am_w1_r, am_w1_x, am_w1_l, am_w1_w, va_rf_s, am_push_n, am_push_s, am_cs_0, am_cs_i, am_cs_l, am_cs_r, m_uI_K, m_uI_N, m_uI_R, m_uI_L, m_uI_I, m_uL_K, m_uL_N, m_uL_R, m_uL_I, m_uL_L, m_uR_K, m_uR_N, m_uR_I, m_uR_L, m_uR_R, true_and, and_true, true_implies, false_implies, not_true_eq_false, not_false_eq_true, if_true, if_false, false_and, and_false]
        rw [show (14 : Int32) = nI 14 from rfl, show (47 : Int32) = nI 47 from rfl]
        refine c_x_takeAfter d 14 _ 47 _ M4 _ L4 (by omega) (by omega) (by omega) h4 (fun M5 g5 h5 => ?_)
        have L5 := gF_LayN g5 L4
        obtain ⟨P5, p5⟩ := PsX_p hz hD p4 P4 g5
        have G5 := gF_trans G2 (gF_trans g3 (gF_trans g4 g5))
        have hf := f_0 h5
        cases hr : (aftR T n 14 (aftR T n 13 0 47 (plcR T n (dC D) (dR D) (shpR T n D (advR T n t)).1).1).2 47 (aftR T n 13 0 47 (plcR T n (dC D) (dR D) (shpR T n D (advR T n t)).1).1).1).1 with
        | inl e =>
          rw [hr] at h5 hQ
          have h9 := hQ M5 ⟨sRd_S G5, Fa_of p5 P5 h5⟩
          simp +decide only [qX2_readBook_0, qX2_readBook_1, lx L5, am_w1_i, am_w1_r, am_w1_x, am_w1_l, am_w1_w, va_rf_s, am_push_n, am_push_s, am_cs_0, am_cs_i, am_cs_l, am_cs_r, m_uI_K, m_uI_N, m_uI_R, m_uI_L, m_uI_I, m_uL_K, m_uL_N, m_uL_R, m_uL_I, m_uL_L, m_uR_K, m_uR_N, m_uR_I, m_uR_L, m_uR_R, true_and, and_true, true_implies, false_implies, not_true_eq_false, not_false_eq_true, if_true, if_false, false_and, and_false]
          rw [br_p (hf.1 e hr)]
          exact h9
        | inr t' =>
          have hv := numR_v hr
          obtain ⟨u2, hu2⟩ := aft_i hr
          have hv2 := numR_v hu2
          obtain ⟨u1, hu1⟩ := aft_i hu2
          have hpv := plR_v hD hC hRr hu1
          obtain ⟨u0, hu0⟩ := plR_i hu1
          have hsl := shp_i hu0
          have hx' := hx u0 hu0
          have haf : AfR T n t (.inr t') := by rw [← hr]; exact AfR_f _ _ _ (AfR_f _ _ _ (AfR_p _ _ (AfR_h D (AfR_1 hEn))))
          have hlt := AfR_lt (GdX_t hG) h0 haf
          obtain ⟨s, hse⟩ : ∃ s, s = (shpR T n D (advR T n t)).2 := ⟨_, rfl⟩
          obtain ⟨fr, hfre⟩ : ∃ fr, fr = (aftR T n 13 0 47 (plcR T n (dC D) (dR D) (shpR T n D (advR T n t)).1).1).2 := ⟨_, rfl⟩
          obtain ⟨to, htoe⟩ : ∃ to, to = (aftR T n 14 (aftR T n 13 0 47 (plcR T n (dC D) (dR D) (shpR T n D (advR T n t)).1).1).2 47 (aftR T n 13 0 47 (plcR T n (dC D) (dR D) (shpR T n D (advR T n t)).1).1).1).2 := ⟨_, rfl⟩
          obtain ⟨pl, hple⟩ : ∃ pl, pl = (plcR T n (dC D) (dR D) (shpR T n D (advR T n t)).1).2 := ⟨_, rfl⟩
          have hv' : fr ≤ to ∧ to ≤ 47 := by rw [hfre, htoe]; exact hv
          have hQ : ∀ M', EdX T n z t M M' (bR (.inr t') (fun t' => .inr (t', addB D (s, pl, fr, to)))) → Q none M' := by
            rw [hse, hfre, htoe, hple, ← hr]
            exact hQ
          rw [← hse] at hsl hx'
          rw [← hple] at hpv
          have hs8 : s < 8 := by omega
          obtain ⟨sp, hsp⟩ : ∃ sp, (dSh D)[s]? = some sp := ⟨(dSh D)[s]'hsl, List.getElem?_eq_getElem hsl⟩
          have hSh := P5.2.1 s sp hsp
          have hrr := lsh L5 hz (s := s) hs8
          have hg : isSh (z + 25 + 7 * s) := ⟨s, hs8, by omega⟩
          have hk16 : mK M5 (z + 25 + 7 * s) = 16 := (lw_ L5 hg).1
          have hs1 : ¬ nI s = -1 := nI_m1 (by omega)
          have hbl : (bkOf (dBk D) s).length ≤ (dBk D).length := by unfold bkOf; rw [List.length_map]; exact List.length_filter_le _ _
          rw [hr] at h5
          rw [hx', ← htoe, ← hfre, ← hple]
          simp +decide (disch := omega) only [qX2_readBook_0, qX2_readBook_1, lx L5, lz L5 hz, p5, hf.2 t' hr, hrr, hk16, ni_in_t, ni_tn, am_w1_i, am_w1_r, am_w1_x, am_w1_l, am_w1_w, va_rf_s, am_push_n, am_push_s, am_cs_0, am_cs_i, am_cs_l, am_cs_r, m_uI_K, m_uI_N, m_uI_R, m_uI_L, m_uI_I, m_uL_K, m_uL_N, m_uL_R, m_uL_I, m_uL_L, m_uR_K, m_uR_N, m_uR_I, m_uR_L, m_uR_R, true_and, and_true, true_implies, false_implies, not_true_eq_false, not_false_eq_true, if_true, if_false, false_and, and_false, true_or]
          rw [br_n hs1]
          refine c_x_enterBook (d + 4) (z + 25 + 7 * s) (bkOf (dBk D) s) (pl, fr, to) M5 _ L5 hg hSh.2.2 (by omega) ⟨hpv.2, hv'.1, by show to < 48; omega⟩ (fun M6 g6 hB6 => ?_)
          have h6 := StR_g h5 g6 (fun a j q => sEb_R hz hs8 q) (fun q => q)
          have hSI : ∀ a j, sEb (z + 25 + 7 * s) a j → z + 25 + 7 * s ≤ a ∧ a ≤ z + 25 + 7 * s + 6 := fun a j q => by unfold sEb at q; omega
          have hP6 : PsX M6 z (addB D (s, pl, fr, to)) c := by
            refine PsX_s hz P5 g6 (s := s) hs8 hSI rfl rfl rfl rfl (fun s' hs' => ⟨rfl, by show bkOf (dBk D ++ [_]) s' = _; rw [bkOf_app, if_neg hs']⟩) (fun sp' hsp' => ?_)
            rw [hsp] at hsp'
            cases hsp'
            show ShX M6 _ sp (dY D s) (bkOf (dBk D ++ [_]) s)
            rw [bkOf_app, if_pos rfl]
            obtain ⟨⟨a1, a2, a3, a4, a5⟩, ⟨c1, c2, c3⟩, -⟩ := hSh
            have k : ∀ a j, ¬ sEb (z + 25 + 7 * s) a j → mI M6 a j = mI M5 a j := fun a j q => g6.1 a j q
            refine ⟨⟨by rw [k _ _ (by unfold sEb; omega)]; exact a1, by rw [k _ _ (by unfold sEb; omega)]; exact a2, by rw [k _ _ (by unfold sEb; omega)]; exact a3, by rw [k _ _ (by unfold sEb; omega)]; exact a4, by rw [k _ _ (by unfold sEb; omega)]; exact a5⟩, ⟨by rw [k _ _ (by unfold sEb; omega)]; exact c1, c2, fun i f hf => ?_⟩, hB6⟩
            obtain ⟨q1, q2, q3, q4⟩ := c3 i f hf
            exact ⟨q1, by rw [k _ _ (by unfold sEb; omega)]; exact q2, by rw [k _ _ (by unfold sEb; omega)]; exact q3, by rw [k _ _ (by unfold sEb; omega)]; exact q4⟩
          have h9 := hQ M6 ⟨gF_trans (sRd_S G5) (gF_up g6 (fun a j q => by have := hSI a j q; unfold sSea; omega) (fun _ _ q => q)), ⟨c, gF_LayN g6 L5, by rw [g6.2.2.1 _ _ (fun q => q)]; exact p5, h6, hP6, DOK_b hD (by omega) hsl ⟨hpv.1, hv'.1, by show to < 48; omega⟩, by show c ≤ tS t'; omega⟩, hlt⟩
          simp +decide only [qX2_readBook_0, qX2_readBook_1, am_w1_i, am_w1_r, am_w1_x, am_w1_l, am_w1_w, va_rf_s, am_push_n, am_push_s, am_cs_0, am_cs_i, am_cs_l, am_cs_r, m_uI_K, m_uI_N, m_uI_R, m_uI_L, m_uI_I, m_uL_K, m_uL_N, m_uL_R, m_uL_I, m_uL_L, m_uR_K, m_uR_N, m_uR_I, m_uR_L, m_uR_R, true_and, and_true, true_implies, false_implies, not_true_eq_false, not_false_eq_true, if_true, if_false, false_and, and_false]
          exact h9
      refine c_x_takeShip (d + 1) c D _ M1 _ L1 hz p1 P1 hD h1 (fun M2 e g2 he h2 => ?_) (fun M2 s g2 hsl hse h2 => ?_)
      · have h9 := rest (-1) M2 (gF_trans g1 g2) (by rw [he]; exact h2) (fun t' ht' => by rw [he] at ht'; cases ht')
        simp +decide only [qX2_readBook_0, qX2_readBook_1, lx (gF_LayN g2 L1), am_w1_i, am_w1_r, am_w1_x, am_w1_l, am_w1_w, va_rf_s, am_push_n, am_push_s, am_cs_0, am_cs_i, am_cs_l, am_cs_r, m_uI_K, m_uI_N, m_uI_R, m_uI_L, m_uI_I, m_uL_K, m_uL_N, m_uL_R, m_uL_I, m_uL_L, m_uR_K, m_uR_N, m_uR_I, m_uR_L, m_uR_R, true_and, and_true, true_implies, false_implies, not_true_eq_false, not_false_eq_true, if_true, if_false, false_and, and_false] at h9 ⊢
        exact h9
      · have h9 := rest (nI s) M2 (gF_trans g1 g2) h2 (fun t' ht' => by rw [hse])
        simp +decide only [qX2_readBook_0, qX2_readBook_1, lx (gF_LayN g2 L1), am_w1_i, am_w1_r, am_w1_x, am_w1_l, am_w1_w, va_rf_s, am_push_n, am_push_s, am_cs_0, am_cs_i, am_cs_l, am_cs_r, m_uI_K, m_uI_N, m_uI_R, m_uI_L, m_uI_I, m_uL_K, m_uL_N, m_uL_R, m_uL_I, m_uL_L, m_uR_K, m_uR_N, m_uR_I, m_uR_L, m_uR_R, true_and, and_true, true_implies, false_implies, not_true_eq_false, not_false_eq_true, if_true, if_false, false_and, and_false] at h9 ⊢
        exact h9
  rw [eX2_readBook]
  simp +decide only [qX2_readBook_0, qX2_readBook_1, lx hL, lz hL hz, hp, c_x_countBooks (d + 4) z c D M _ hL hz hP hD, hn12, am_w1_i, am_w1_r, am_w1_x, am_w1_l, am_w1_w, va_rf_s, am_push_n, am_push_s, am_cs_0, am_cs_i, am_cs_l, am_cs_r, m_uI_K, m_uI_N, m_uI_R, m_uI_L, m_uI_I, m_uL_K, m_uL_N, m_uL_R, m_uL_I, m_uL_L, m_uR_K, m_uR_N, m_uR_I, m_uR_L, m_uR_R, true_and, and_true, true_implies, false_implies, not_true_eq_false, not_false_eq_true, if_true, if_false, false_and, and_false]
  by_cases cf : 12 ≤ (dBk D).length
  · rw [decide_eq_true cf] at main
    rw [br_n (by omega)]
    exact main
  · rw [decide_eq_false cf] at main
    rw [br_p (by omega)]
    exact main
end
