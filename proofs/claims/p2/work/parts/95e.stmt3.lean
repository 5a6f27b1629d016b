/-! the class's parser: sayings, books -/
theorem hasF_Y {M : am_M} {g : Nat} {Y : List Sy} {v : Nat} (h : SyX M g Y) (hv : v < 2147483648) : hasF (fun i => mI M (g + 1) i) (nI v) Y.length = true ↔ ∃ y, y ∈ Y ∧ y.1 = v := by
  have key : ∀ k, k ≤ Y.length → (hasF (fun i => mI M (g + 1) i) (nI v) k = true ↔ ∃ i y, i < k ∧ Y[i]? = some y ∧ y.1 = v) := by
    intro k
    induction k with
    | zero => intro _; exact ⟨fun q => absurd q (show ¬ false = true by decide), fun ⟨i, y, q, _⟩ => absurd q (by omega)⟩
    | succ k ih =>
      intro hk
      have e : hasF (fun i => mI M (g + 1) i) (nI v) (k + 1) = (hasF (fun i => mI M (g + 1) i) (nI v) k || decide (mI M (g + 1) k = nI v)) := rfl
      obtain ⟨y, hy⟩ : ∃ y, Y[k]? = some y := ⟨Y[k]'(by omega), List.getElem?_eq_getElem (by omega)⟩
      obtain ⟨⟨y1, -⟩, y3, -⟩ := h.2.2 k y hy
      rw [e, Bool.or_eq_true, ih (by omega), decide_eq_true_iff, y3, ni_eq (by omega) hv]
      constructor
      · rintro (⟨i, u, q1, q2⟩ | q)
        · exact ⟨i, u, by omega, q2⟩
        · exact ⟨k, y, by omega, hy, q⟩
      · rintro ⟨i, u, q1, q2, q3⟩
        by_cases ei : i = k
        · subst ei; cases hy.symm.trans q2; exact Or.inr q3
        · exact Or.inl ⟨i, u, by omega, q2, q3⟩
  rw [key _ (Nat.le_refl _)]
  constructor
  · rintro ⟨i, y, -, q2, q3⟩; exact ⟨y, List.mem_of_getElem? q2, q3⟩
  · rintro ⟨y, q1, q2⟩
    obtain ⟨i, hi⟩ := List.mem_iff_getElem?.mp q1
    exact ⟨i, y, (List.getElem?_eq_some_iff.mp hi).1, hi, q2⟩
theorem sumF_one {f g : Nat → Nat} {s : Nat} (h1 : g s = f s + 1) (h2 : ∀ i, ¬ i = s → g i = f i) : ∀ N, sumF g N = sumF f N + (if s < N then 1 else 0) := by
  intro N
  induction N with
  | zero => rfl
  | succ N ih =>
    show sumF g N + g N = sumF f N + f N + _
    rw [ih]
    by_cases e : N = s
    · subst e; rw [h1, if_neg (by omega), if_pos (by omega)]; omega
    · rw [h2 N e]
      by_cases c : s < N
      · rw [if_pos c, if_pos (by omega)]; omega
      · rw [if_neg c, if_neg (by omega)]; omega
/-- one saying more -/
def addY (D : Dat) (s : Nat) (Y : List Sy) : Dat := (D.1, (dSh D, (dYs D).set s Y, dBk D, dSg D), D.2.2)
theorem dY_set {D : Dat} {s : Nat} {Y : List Sy} (hs : s < (dYs D).length) (s' : Nat) : dY (addY D s Y) s' = if s' = s then Y else dY D s' := by
  show ((dYs D).set s Y).getD s' [] = _
  unfold dY
  rw [List.getD_eq_getElem?_getD, List.getD_eq_getElem?_getD, List.getElem?_set]
  by_cases e : s = s'
  · rw [if_pos e, if_pos e.symm, if_pos hs]; rfl
  · rw [if_neg e, if_neg (fun q => e q.symm)]
theorem len_48 {Y : List Sy} (hs : srtY Y) (h : ∀ y, y ∈ Y → y.1 < 48) : Y.length ≤ 48 := by
  have := bef_len hs 48
  rw [bef_all h] at this
  exact this
theorem DOK_y {D : Dat} {s : Nat} {Y : List Sy} (hD : DOK D) (hs : s < (dSh D).length) (h1 : srtY Y) (h2 : ∀ y, y ∈ Y → y.1 < 48 ∧ vld (dC D) (dR D) y.2.1) (h3 : dTot (addY D s Y) ≤ 96) : DOK (addY D s Y) := by
  obtain ⟨d1, d2, ⟨e1, e2, e3⟩, d4, d5, d6, d7⟩ := id hD
  have hY := dY_set (D := D) (s := s) (Y := Y) (by omega)
  refine ⟨d1, d2, ⟨e1, by show ((dYs D).set s Y).length = _; rw [List.length_set]; exact e2, e3⟩, fun s' y hy => ?_, fun s' => ?_, h3, d7⟩
  · rw [hY] at hy
    by_cases e : s' = s
    · rw [if_pos e] at hy; exact h2 y hy
    · rw [if_neg e] at hy; exact d4 s' y hy
  · rw [hY]
    by_cases e : s' = s
    · rw [if_pos e]; exact h1
    · rw [if_neg e]; exact d5 s'
section
variable {T : Nat → Nat} {n z : Nat}
theorem sIn_R {s a j : Nat} (hz : z = 2 ∨ z = 83) (hs : s < 8) (h : a = 165 ∨ a = 1 ∨ a = 166) : ¬ sIn (z + 25 + 7 * s) a j := by unfold sIn; omega
theorem sEb_R {s a j : Nat} (hz : z = 2 ∨ z = 83) (hs : s < 8) (h : a = 165 ∨ a = 1 ∨ a = 166) : ¬ sEb (z + 25 + 7 * s) a j := by unfold sEb; omega
/-- the ship s of the sea is changed alone -/
theorem PsX_s {M M' : am_M} {D D' : Dat} {c s : Nat} {S : Nat → Nat → Prop} (hz : z = 2 ∨ z = 83) (hP : PsX M z D c) (hg : gF S nT M M') (hs : s < 8) (hS : ∀ a j, S a j → z + 25 + 7 * s ≤ a ∧ a ≤ z + 25 + 7 * s + 6) (e1 : D'.1 = D.1) (e2 : dSh D' = dSh D) (e3 : dSg D' = dSg D) (e4 : D'.2.2 = D.2.2) (hY : ∀ s', ¬ s' = s → dY D' s' = dY D s' ∧ bkOf (dBk D') s' = bkOf (dBk D) s') (hs2 : ∀ sp, (dSh D)[s]? = some sp → ShX M' (z + 25 + 7 * s) sp (dY D' s) (bkOf (dBk D') s)) : PsX M' z D' c := by
  obtain ⟨⟨a1, a2, a3, a4⟩, b, sg, ⟨r1, r2, r3⟩, f⟩ := hP
  have eC : dC D' = dC D := by unfold dC; rw [e1]
  have eR : dR D' = dR D := by unfold dR; rw [e1]
  have eL : dLk D' = dLk D := by unfold dLk; rw [e1]
  have ed : dRd D' = dRd D := by unfold dRd; rw [e4]
  have ec : dRc D' = dRc D := by unfold dRc; rw [e4]
  have eq : dRq D' = dRq D := by unfold dRq; rw [e4]
  have k : ∀ a j, ¬ (z + 25 + 7 * s ≤ a ∧ a ≤ z + 25 + 7 * s + 6) → ¬ S a j := fun a j q w => q (hS a j w)
  refine ⟨⟨by rw [eC, hg.1 _ _ (k _ _ (by omega))]; exact a1, by rw [eR, hg.1 _ _ (k _ _ (by omega))]; exact a2, by rw [eL, hg.1 _ _ (k _ _ (by omega))]; exact a3, by rw [e2, hg.1 _ _ (k _ _ (by omega))]; exact a4⟩, fun s' sp hs' => ?_, by rw [e3]; exact SgX_g sg hg (fun a j q1 q2 => k _ _ (by omega)), ⟨by rw [ed]; exact RlC_g r1 hg (fun a j q1 q2 => k _ _ (by omega)) (fun j hj => k _ _ (by omega)), by rw [ec]; exact RlC_g r2 hg (fun a j q1 q2 => k _ _ (by omega)) (fun j hj => k _ _ (by omega)), by rw [eq]; exact RlC_g r3 hg (fun a j q1 q2 => k _ _ (by omega)) (fun j hj => k _ _ (by omega))⟩, FmX_g f hg (k _ _ (by omega))⟩
  rw [e2] at hs'
  by_cases e : s' = s
  · subst e; exact hs2 sp hs'
  · rw [(hY s' e).1, (hY s' e).2]
    exact ShX_g (b s' sp hs') hg (fun a j q1 q2 => k _ _ (by omega))
theorem b_say (hz : z = 2 ∨ z = 83) (d c : Nat) (D : Dat) (t : Tok) (M : am_M) (Q : Option Value → am_M → Prop) (hG : GdX T n z M D c t) (hC : 1 ≤ dC D) (hRr : 1 ≤ dR D) (h0 : ¬ t.1 = 0) (hQ : ∀ M', EdX T n z t M M' (spSay T n D t) → Q none M') : am_E am_P0 (d + 5) 19 [.ref 164] M Q := by
  obtain ⟨hL, hp, hR, hP, hD, hc⟩ := id hG
  have hst : StR M T n (.inr t) := hR
  have hEn := (GdX_t hG).1
  have h96 := hD.2.2.2.2.2.1
  have h8 := hD.2.2.1.1
  have hn96 : nI (dTot D) < 96 ↔ dTot D < 96 := by rw [show (96 : Int32) = nI 96 from rfl, ni_lt (by omega) (by omega)]
  have main : am_E am_P0 (d + 4) 13 [.ref 164, .int (b01 (decide (96 ≤ dTot D)))] M (fun r M2 => am_P am_P0 (d + 5) (am_look tX2_readSaying) 21 [.ref 164, am_x, am_x, am_x, am_x] (am_push r []) M2 Q) := by
    refine c_x_oneMore (d + 2) _ t M _ hL hst (fun M1 g1 h1 => ?_)
    have L1 := gF_LayN g1 hL
    obtain ⟨P1, p1⟩ := PsX_p hz hD hp hP g1
    by_cases cf : 96 ≤ dTot D
    · rw [if_pos (decide_eq_true cf)] at h1
      have h9 := hQ M1 (by unfold spSay; rw [if_pos cf]; exact ⟨sRd_S g1, Fa_of p1 P1 h1⟩)
      simp +decide only [qX2_readSaying_0, qX2_readSaying_1, decide_eq_true cf, b01, Bool.not_true, am_w1_i, am_w1_r, am_w1_x, am_w1_l, am_w1_w, va_rf_s, am_push_n, am_push_s, am_cs_0, am_cs_i, am_cs_l, am_cs_r, m_uI_K, m_uI_N, m_uI_R, m_uI_L, m_uI_I, m_uL_K, m_uL_N, m_uL_R, m_uL_I, m_uL_L, m_uR_K, m_uR_N, m_uR_I, m_uR_L, m_uR_R, true_and, and_true, true_implies, false_implies, not_true_eq_false, not_false_eq_true, if_true, if_false, false_and, and_false]
      exact h9
    · rw [if_neg (by rw [decide_eq_false cf]; decide)] at h1
      unfold spSay at hQ
      rw [if_neg cf] at hQ
      have haf1 : AfR T n t (shpR T n D (advR T n t)).1 := AfR_h D (AfR_1 hEn)
      simp +decide only [qX2_readSaying_0, qX2_readSaying_1, lx L1, decide_eq_false cf, b01, Bool.not_false, am_w1_i, am_w1_r, am_w1_x, am_w1_l, am_w1_w, va_rf_s, am_push_n, am_push_s, am_cs_0, am_cs_i, am_cs_l, am_cs_r, m_uI_K, m_uI_N, m_uI_R, m_uI_L, m_uI_I, m_uL_K, m_uL_N, m_uL_R, m_uL_I, m_uL_L, m_uR_K, m_uR_N, m_uR_I, m_uR_L, m_uR_R, true_and, and_true, true_implies, false_implies, not_true_eq_false, not_false_eq_true, if_true, if_false, false_and, and_false]
      refine c_x_takeShip (d + 1) c D _ M1 _ L1 hz p1 P1 hD h1 (fun M2 e g2 he h2 => ?_) (fun M2 s g2 hsl hse h2 => ?_)
      · obtain ⟨P2, p2⟩ := PsX_p hz hD p1 P1 g2
        rw [he] at hQ
        have h9 := hQ M2 ⟨sRd_S (gF_trans g1 g2), Fa_of p2 P2 h2⟩
        simp +decide only [qX2_readSaying_0, qX2_readSaying_1, am_w1_i, am_w1_r, am_w1_x, am_w1_l, am_w1_w, va_rf_s, am_push_n, am_push_s, am_cs_0, am_cs_i, am_cs_l, am_cs_r, m_uI_K, m_uI_N, m_uI_R, m_uI_L, m_uI_I, m_uL_K, m_uL_N, m_uL_R, m_uL_I, m_uL_L, m_uR_K, m_uR_N, m_uR_I, m_uR_L, m_uR_R, true_and, and_true, true_implies, false_implies, not_true_eq_false, not_false_eq_true, if_true, if_false, false_and, and_false]
        exact h9
      · have L2 := gF_LayN g2 L1
        obtain ⟨P2, p2⟩ := PsX_p hz hD p1 P1 g2
        have G2 := gF_trans g1 g2
        have hs1 : ¬ nI s = -1 := nI_m1 (by omega)
        simp +decide only [qX2_readSaying_0, qX2_readSaying_1, lx L2, am_w1_i, am_w1_r, am_w1_x, am_w1_l, am_w1_w, va_rf_s, am_push_n, am_push_s, am_cs_0, am_cs_i, am_cs_l, am_cs_r, m_uI_K, m_uI_N, m_uI_R, m_uI_L, m_uI_I, m_uL_K, m_uL_N, m_uL_R, m_uL_I, m_uL_L, m_uR_K, m_uR_N, m_uR_I, m_uR_L, m_uR_R, true_and, and_true, true_implies, false_implies, not_true_eq_false, not_false_eq_true, if_true, if_false, false_and, and_false]
        rw [br_n hs1, show (0 : Int32) = nI 0 from rfl, show (47 : Int32) = nI 47 from rfl]
        refine c_x_isNumber (d + 2) n 0 47 T _ M2 _ L2 (by omega) (by omega) h2 (fun M3 g3 h3 => ?_)
        have L3 := gF_LayN g3 L2
        obtain ⟨P3, p3⟩ := PsX_p hz hD p2 P2 g3
        have G3 := gF_trans G2 g3
        rw [hse] at hQ
        cases hr1 : (shpR T n D (advR T n t)).1 with
        | inl e =>
          rw [hr1] at h3 hQ
          have h9 := hQ M3 ⟨sRd_S G3, Fa_of p3 P3 h3⟩
          have eb : (isNR 0 47 (.inl e)).2 = false := rfl
          simp +decide only [qX2_readSaying_0, qX2_readSaying_1, eb, b01, am_w1_i, am_w1_r, am_w1_x, am_w1_l, am_w1_w, va_rf_s, am_push_n, am_push_s, am_cs_0, am_cs_i, am_cs_l, am_cs_r, m_uI_K, m_uI_N, m_uI_R, m_uI_L, m_uI_I, m_uL_K, m_uL_N, m_uL_R, m_uL_I, m_uL_L, m_uR_K, m_uR_N, m_uR_I, m_uR_L, m_uR_R, true_and, and_true, true_implies, false_implies, not_true_eq_false, not_false_eq_true, if_true, if_false, false_and, and_false]
          exact h9
        | inr t1 =>
          rw [hr1] at h3 hQ haf1
          have en : isNR 0 47 (.inr t1) = if ¬ t1.1 = 2 then (.inl (1, tS t1), false) else if t1.2.1 < 0 ∨ 47 < t1.2.1 then (.inl (4, tS t1), false) else (.inr t1, true) := rfl
          by_cases cn : t1.1 = 2 ∧ t1.2.1 ≤ 47
          · rw [if_neg (by omega), if_neg (by omega)] at en
            rw [en] at h3 ⊢
            have hQ : ∀ M', EdX T n z t M M' (bR (isNR 0 47 (.inr t1)).1 (fun t2 => if dB (∃ y, y ∈ dY D s ∧ y.1 = t2.2.1) = true then .inl (3, tS t2) else (bR (aftR T n 11 0 1 (plcR T n (dC D) (dR D) (advR T n t2)).1).1 (fun t' => .inr (t', (D.1, (dSh D, (dYs D).set s (inY (dY D s) (t2.2.1, (plcR T n (dC D) (dR D) (advR T n t2)).2, (aftR T n 11 0 1 (plcR T n (dC D) (dR D) (advR T n t2)).1).2 == 1)), dBk D, dSg D), D.2.2)))))) → Q none M' := hQ
            rw [en] at hQ
            have hQ : ∀ M', EdX T n z t M M' (if dB (∃ y, y ∈ dY D s ∧ y.1 = t1.2.1) = true then .inl (3, tS t1) else (bR (aftR T n 11 0 1 (plcR T n (dC D) (dR D) (advR T n t1)).1).1 (fun t' => .inr (t', addY D s (inY (dY D s) (t1.2.1, (plcR T n (dC D) (dR D) (advR T n t1)).2, (aftR T n 11 0 1 (plcR T n (dC D) (dR D) (advR T n t1)).1).2 == 1)))))) → Q none M' := hQ
            have h3' : RdX M3 T n t1 := h3
            have h5 := h3'.2.2.2.2.2.2.2.1
            rw [if_neg (by omega)] at h5
            obtain ⟨sp, hsp⟩ : ∃ sp, (dSh D)[s]? = some sp := ⟨(dSh D)[s]'hsl, List.getElem?_eq_getElem hsl⟩
            have hSh := P3.2.1 s sp hsp
            have hr := lsh L3 hz (s := s) (by omega)
            have hg : isSh (z + 25 + 7 * s) := ⟨s, by omega, by omega⟩
            have hhs := fun Q => c_x_hasSaid (d + 4) (nI t1.2.1) M3 Q L3 (z + 25 + 7 * s) (dY D s).length hg hSh.2.1.1 hSh.2.1.2.1
            have hY := hasF_Y (v := t1.2.1) hSh.2.1 (by omega)
            simp +decide (disch := omega) only [qX2_readSaying_0, qX2_readSaying_1, lx L3, lz L3 hz, p3, h5, hr, (lw_ L3 hg).1, hhs, b01, ni_in_t, ni_tn, am_w1_i, am_w1_r, am_w1_x, am_w1_l, am_w1_w, va_rf_s, am_push_n, am_push_s, am_cs_0, am_cs_i, am_cs_l, am_cs_r, m_uI_K, m_uI_N, m_uI_R, m_uI_L, m_uI_I, m_uL_K, m_uL_N, m_uL_R, m_uL_I, m_uL_L, m_uR_K, m_uR_N, m_uR_I, m_uR_L, m_uR_R, true_and, and_true, true_implies, false_implies, not_true_eq_false, not_false_eq_true, if_true, if_false, false_and, and_false, true_or]
            by_cases cs : ∃ y, y ∈ dY D s ∧ y.1 = t1.2.1
            · rw [if_pos (dB_t.mpr cs)] at hQ
              rw [if_pos (hY.mpr cs), br_n (by decide), show (3 : Int32) = nI 3 from rfl]
              refine c_x_refuse (d + 3) n 3 T (.inr t1) M3 _ L3 (by omega) h3 (fun M4 g4 h4 => ?_)
              obtain ⟨P4, p4⟩ := PsX_p hz hD p3 P3 g4
              have h9 := hQ M4 ⟨sRd_S (gF_trans G3 g4), Fa_of p4 P4 h4⟩
              simp +decide only [qX2_readSaying_0, qX2_readSaying_1, am_w1_i, am_w1_r, am_w1_x, am_w1_l, am_w1_w, va_rf_s, am_push_n, am_push_s, am_cs_0, am_cs_i, am_cs_l, am_cs_r, m_uI_K, m_uI_N, m_uI_R, m_uI_L, m_uI_I, m_uL_K, m_uL_N, m_uL_R, m_uL_I, m_uL_L, m_uR_K, m_uR_N, m_uR_I, m_uR_L, m_uR_R, true_and, and_true, true_implies, false_implies, not_true_eq_false, not_false_eq_true, if_true, if_false, false_and, and_false]
              exact h9
            · rw [if_neg (fun q => cs (dB_t.mp q))] at hQ
              rw [if_neg (fun q => cs (hY.mp q)), br_p rfl]
              refine c_x_stepR (d + 3) n T (.inr t1) M3 _ L3 h3 (fun M4 g4 h4 => ?_)
              have L4 := gF_LayN g4 L3
              obtain ⟨P4, p4⟩ := PsX_p hz hD p3 P3 g4
              have h4' : StR M4 T n (advR T n t1) := h4
              simp +decide only [qX2_readSaying_0, qX2_readSaying_1, lx L4, am_w1_i, am_w1_r, am_w1_x, am_w1_l, am_w1_w, va_rf_s, am_push_n, am_push_s, am_cs_0, am_cs_i, am_cs_l, am_cs_r, m_uI_K, m_uI_N, m_uI_R, m_uI_L, m_uI_I, m_uL_K, m_uL_N, m_uL_R, m_uL_I, m_uL_L, m_uR_K, m_uR_N, m_uR_I, m_uR_L, m_uR_R, true_and, and_true, true_implies, false_implies, not_true_eq_false, not_false_eq_true, if_true, if_false, false_and, and_false]
              refine c_x_takePlace d c D _ M4 _ L4 hz p4 P4 hD hC hRr h4' (fun M5 g5 h5' => ?_)
              have L5 := gF_LayN g5 L4
              obtain ⟨P5, p5⟩ := PsX_p hz hD p4 P4 g5
              simp +decide only [qX2_readSaying_0, qX2_readSaying_1, lx L5, am_w1_i, am_w1_r, am_w1_x, am_w1_l, am_w1_w, va_rf_s, am_push_n, am_push_s, am_cs_0, am_cs_i, am_cs_l, am_cs_r, m_uI_K, m_uI_N, m_uI_R, m_uI_L, m_uI_I, m_uL_K, m_uL_N, m_uL_R, m_uL_I, m_uL_L, m_uR_K, m_uR_N, m_uR_I, m_uR_L, m_uR_R, true_and, and_true, true_implies, false_implies, not_true_eq_false, not_false_eq_true, if_true, if_false, false_and, and_false]
              rw [show (11 : Int32) = nI 11 from rfl, show (0 : Int32) = nI 0 from rfl, show (1 : Int32) = nI 1 from rfl]
              refine c_x_takeAfter d 11 0 1 _ M5 _ L5 (by omega) (by omega) (by omega) h5' (fun M6 g6 h6 => ?_)
              have L6 := gF_LayN g6 L5
              obtain ⟨P6, p6⟩ := PsX_p hz hD p5 P5 g6
              have G6 := gF_trans G3 (gF_trans g4 (gF_trans g5 g6))
              have hf := f_0 h6
              cases hr6 : (aftR T n 11 0 1 (plcR T n (dC D) (dR D) (advR T n t1)).1).1 with
              | inl e =>
                rw [hr6] at h6 hQ
                have h9 := hQ M6 ⟨sRd_S G6, Fa_of p6 P6 h6⟩
                simp +decide only [qX2_readSaying_0, qX2_readSaying_1, lx L6, am_w1_i, am_w1_r, am_w1_x, am_w1_l, am_w1_w, va_rf_s, am_push_n, am_push_s, am_cs_0, am_cs_i, am_cs_l, am_cs_r, m_uI_K, m_uI_N, m_uI_R, m_uI_L, m_uI_I, m_uL_K, m_uL_N, m_uL_R, m_uL_I, m_uL_L, m_uR_K, m_uR_N, m_uR_I, m_uR_L, m_uR_R, true_and, and_true, true_implies, false_implies, not_true_eq_false, not_false_eq_true, if_true, if_false, false_and, and_false]
                rw [br_p (hf.1 e hr6)]
                exact h9
              | inr t' =>
                have hv := numR_v hr6
                obtain ⟨t3, ht3⟩ := aft_i hr6
                have hpv := plR_v hD hC hRr ht3
                have haf : AfR T n t (.inr t') := by rw [← hr6]; exact AfR_f _ _ _ (AfR_p _ _ (AfR_a haf1))
                have hlt := AfR_lt (GdX_t hG) h0 haf
                have hSh6 := P6.2.1 s sp hsp
                have hr' := lsh L6 hz (s := s) (by omega)
                have hk16 : mK M6 (z + 25 + 7 * s) = 16 := (lw_ L6 hg).1
                obtain ⟨lv, hlv⟩ : ∃ lv, lv = (aftR T n 11 0 1 (plcR T n (dC D) (dR D) (advR T n t1)).1).2 := ⟨_, rfl⟩
                have hlv1 : lv ≤ 1 := by rw [hlv]; exact hv.2
                have hins : am_E am_P0 (d + 4) 66 [.ref (z + 25 + 7 * s), .int (nI t1.2.1), .int (nI (plcR T n (dC D) (dR D) (advR T n t1)).2), .int (b01 (lv == 1))] M6 (fun r M2 => am_P am_P0 (d + 5) (am_look tX2_readSaying) 139 [.ref 164, .int (nI s), .int (nI t1.2.1), .int (nI (plcR T n (dC D) (dR D) (advR T n t1)).2), .int (nI lv)] (am_push r []) M2 Q) := by
                  have hall := hD.2.2.2.1 s
                  have hno : ∀ y, y ∈ dY D s → ¬ y.1 = t1.2.1 := fun y hy q => cs ⟨y, hy, q⟩
                  have hsr := hD.2.2.2.2.1 s
                  have hin := inY_srt (y0 := (t1.2.1, (plcR T n (dC D) (dR D) (advR T n t1)).2, lv == 1)) hsr hno
                  have hin2 : ∀ y, y ∈ inY (dY D s) (t1.2.1, (plcR T n (dC D) (dR D) (advR T n t1)).2, lv == 1) → y.1 < 48 ∧ vld (dC D) (dR D) y.2.1 := fun y hy => by
                    rcases inY_mem.mp hy with rfl | q
                    · exact ⟨by show t1.2.1 < 48; omega, hpv.1⟩
                    · exact hall y q
                  have hl48 := len_48 hin (fun y hy => (hin2 y hy).1)
                  rw [inY_len] at hl48
                  refine c_x_insert (d + 4) (z + 25 + 7 * s) (dY D s) (t1.2.1, (plcR T n (dC D) (dR D) (advR T n t1)).2, lv == 1) M6 _ L6 hg hSh6.2.1 (by omega) (by show t1.2.1 < 48; omega) hpv.2 hsr hno (fun M7 g7 hS7 => ?_)
                  have hs8 : s < 8 := Nat.lt_of_lt_of_le hsl h8
                  have h7 := StR_g h6 g7 (fun a j q => sIn_R hz hs8 q) (fun q => q)
                  rw [hr6] at h7 hQ
                  have hyl : s < (dYs D).length := by have := hD.2.2.1.2.1; omega
                  have hYs := dY_set (D := D) (s := s) (Y := inY (dY D s) (t1.2.1, (plcR T n (dC D) (dR D) (advR T n t1)).2, lv == 1)) hyl
                  have hP7 : PsX M7 z (addY D s (inY (dY D s) (t1.2.1, (plcR T n (dC D) (dR D) (advR T n t1)).2, lv == 1))) c := by
                    have hSI : ∀ a j, sIn (z + 25 + 7 * s) a j → z + 25 + 7 * s ≤ a ∧ a ≤ z + 25 + 7 * s + 6 := fun a j q => by unfold sIn at q; omega
                    refine PsX_s hz P6 g7 (s := s) (by omega) hSI rfl rfl rfl rfl (fun s' hs' => ⟨by rw [hYs, if_neg hs'], rfl⟩) (fun sp' hsp' => ?_)
                    rw [hsp] at hsp'
                    cases hsp'
                    rw [hYs, if_pos rfl]
                    obtain ⟨⟨a1, a2, a3, a4, a5⟩, -, ⟨c1, c2, c3⟩⟩ := hSh6
                    have k : ∀ a j, ¬ sIn (z + 25 + 7 * s) a j → mI M7 a j = mI M6 a j := fun a j q => g7.1 a j q
                    refine ⟨⟨by rw [k _ _ (by unfold sIn; omega)]; exact a1, by rw [k _ _ (by unfold sIn; omega)]; exact a2, by rw [k _ _ (by unfold sIn; omega)]; exact a3, by rw [k _ _ (by unfold sIn; omega)]; exact a4, by rw [k _ _ (by unfold sIn; omega)]; exact a5⟩, hS7, ⟨by rw [k _ _ (by unfold sIn; omega)]; exact c1, c2, fun i f hf => ?_⟩⟩
                    obtain ⟨q1, q2, q3, q4⟩ := c3 i f hf
                    exact ⟨q1, by rw [k _ _ (by unfold sIn; omega)]; exact q2, by rw [k _ _ (by unfold sIn; omega)]; exact q3, by rw [k _ _ (by unfold sIn; omega)]; exact q4⟩
                  have htot : dTot (addY D s (inY (dY D s) (t1.2.1, (plcR T n (dC D) (dR D) (advR T n t1)).2, lv == 1))) ≤ 96 := by
                    have := sumF_one (f := fun i => (dY D i).length) (g := fun i => (dY (addY D s (inY (dY D s) (t1.2.1, (plcR T n (dC D) (dR D) (advR T n t1)).2, lv == 1))) i).length) (s := s) (by rw [hYs, if_pos rfl, inY_len]) (fun i hi => by rw [hYs, if_neg hi]) (dSh D).length
                    rw [if_pos hsl] at this
                    show sumF _ (dSh D).length ≤ 96
                    rw [this]
                    show dTot D + 1 ≤ 96
                    omega
                  rw [← hlv] at hQ
                  have h9 := hQ M7 ⟨gF_trans (sRd_S G6) (gF_up g7 (fun a j q => by unfold sIn at q; unfold sSea; omega) (fun _ _ q => q)), ⟨c, gF_LayN g7 L6, by rw [g7.2.2.1 _ _ (fun q => q)]; exact p6, h7, hP7, DOK_y hD hsl hin hin2 htot, by show c ≤ tS t'; omega⟩, hlt⟩
                  simp +decide only [qX2_readSaying_0, qX2_readSaying_1, am_w1_i, am_w1_r, am_w1_x, am_w1_l, am_w1_w, va_rf_s, am_push_n, am_push_s, am_cs_0, am_cs_i, am_cs_l, am_cs_r, m_uI_K, m_uI_N, m_uI_R, m_uI_L, m_uI_I, m_uL_K, m_uL_N, m_uL_R, m_uL_I, m_uL_L, m_uR_K, m_uR_N, m_uR_I, m_uR_L, m_uR_R, true_and, and_true, true_implies, false_implies, not_true_eq_false, not_false_eq_true, if_true, if_false, false_and, and_false]
                  exact h9
                rw [← hlv]
                simp +decide (disch := omega) only [qX2_readSaying_0, qX2_readSaying_1, lx L6, lz L6 hz, p6, hf.2 t' hr6, hr', hk16, ni_in_t, ni_tn, am_w1_i, am_w1_r, am_w1_x, am_w1_l, am_w1_w, va_rf_s, am_push_n, am_push_s, am_cs_0, am_cs_i, am_cs_l, am_cs_r, m_uI_K, m_uI_N, m_uI_R, m_uI_L, m_uI_I, m_uL_K, m_uL_N, m_uL_R, m_uL_I, m_uL_L, m_uR_K, m_uR_N, m_uR_I, m_uR_L, m_uR_R, true_and, and_true, true_implies, false_implies, not_true_eq_false, not_false_eq_true, if_true, if_false, false_and, and_false, true_or]
                by_cases cl : lv = 1
                · rw [cl] at hins ⊢
                  rw [br_r (show nI 1 = (1 : Int32) from rfl)]
                  simp +decide only [qX2_readSaying_0, qX2_readSaying_1, b01, am_w1_i, am_w1_r, am_w1_x, am_w1_l, am_w1_w, va_rf_s, am_push_n, am_push_s, am_cs_0, am_cs_i, am_cs_l, am_cs_r, m_uI_K, m_uI_N, m_uI_R, m_uI_L, m_uI_I, m_uL_K, m_uL_N, m_uL_R, m_uL_I, m_uL_L, m_uR_K, m_uR_N, m_uR_I, m_uR_L, m_uR_R, true_and, and_true, true_implies, false_implies, not_true_eq_false, not_false_eq_true, if_true, if_false, false_and, and_false] at hins ⊢
                  exact hins
                · have cl0 : lv = 0 := by omega
                  rw [cl0] at hins ⊢
                  rw [br_q (show ¬ nI 0 = (1 : Int32) by decide)]
                  simp +decide only [qX2_readSaying_0, qX2_readSaying_1, b01, am_w1_i, am_w1_r, am_w1_x, am_w1_l, am_w1_w, va_rf_s, am_push_n, am_push_s, am_cs_0, am_cs_i, am_cs_l, am_cs_r, m_uI_K, m_uI_N, m_uI_R, m_uI_L, m_uI_I, m_uL_K, m_uL_N, m_uL_R, m_uL_I, m_uL_L, m_uR_K, m_uR_N, m_uR_I, m_uR_L, m_uR_R, true_and, and_true, true_implies, false_implies, not_true_eq_false, not_false_eq_true, if_true, if_false, false_and, and_false] at hins ⊢
                  exact hins
          · have en2 : ∃ k, isNR 0 47 (.inr t1) = (.inl (k, tS t1), false) := by
              by_cases c2 : t1.1 = 2
              · exact ⟨4, by rw [en, if_neg (by omega), if_pos (by omega)]⟩
              · exact ⟨1, by rw [en, if_pos c2]⟩
            obtain ⟨k, hk⟩ := en2
            have hQ : ∀ M', EdX T n z t M M' (bR (isNR 0 47 (.inr t1)).1 (fun t2 => if dB (∃ y, y ∈ dY D s ∧ y.1 = t2.2.1) = true then .inl (3, tS t2) else (bR (aftR T n 11 0 1 (plcR T n (dC D) (dR D) (advR T n t2)).1).1 (fun t' => .inr (t', (D.1, (dSh D, (dYs D).set s (inY (dY D s) (t2.2.1, (plcR T n (dC D) (dR D) (advR T n t2)).2, (aftR T n 11 0 1 (plcR T n (dC D) (dR D) (advR T n t2)).1).2 == 1)), dBk D, dSg D), D.2.2)))))) → Q none M' := hQ
            rw [hk] at h3 hQ ⊢
            have h9 := hQ M3 ⟨sRd_S G3, Fa_of p3 P3 h3⟩
            simp +decide only [qX2_readSaying_0, qX2_readSaying_1, b01, am_w1_i, am_w1_r, am_w1_x, am_w1_l, am_w1_w, va_rf_s, am_push_n, am_push_s, am_cs_0, am_cs_i, am_cs_l, am_cs_r, m_uI_K, m_uI_N, m_uI_R, m_uI_L, m_uI_I, m_uL_K, m_uL_N, m_uL_R, m_uL_I, m_uL_L, m_uR_K, m_uR_N, m_uR_I, m_uR_L, m_uR_R, true_and, and_true, true_implies, false_implies, not_true_eq_false, not_false_eq_true, if_true, if_false, false_and, and_false]
            exact h9
  rw [eX2_readSaying]
  simp +decide only [qX2_readSaying_0, qX2_readSaying_1, lx hL, lz hL hz, hp, c_x_tot (d + 4) z c D M _ hL hz hP hD, hn96, am_w1_i, am_w1_r, am_w1_x, am_w1_l, am_w1_w, va_rf_s, am_push_n, am_push_s, am_cs_0, am_cs_i, am_cs_l, am_cs_r, m_uI_K, m_uI_N, m_uI_R, m_uI_L, m_uI_I, m_uL_K, m_uL_N, m_uL_R, m_uL_I, m_uL_L, m_uR_K, m_uR_N, m_uR_I, m_uR_L, m_uR_R, true_and, and_true, true_implies, false_implies, not_true_eq_false, not_false_eq_true, if_true, if_false, false_and, and_false]
  by_cases cf : 96 ≤ dTot D
  · rw [decide_eq_true cf] at main
    rw [br_n (by omega)]
    exact main
  · rw [decide_eq_false cf] at main
    rw [br_p (by omega)]
    exact main
end
