/-! the class's reader: one step, whole -/
theorem tk_ge {T : Nat → Nat} {n a s : Nat} (hs : s = run1 (fun i => isBl (T i)) (n - a) a) (h : n ≤ s) : tk T n a = (0, 0, [], s, s) := by
  unfold tk
  dsimp only
  rw [← hs, if_pos h]
theorem tk_sg {T : Nat → Nat} {n a s : Nat} (hs : s = run1 (fun i => isBl (T i)) (n - a) a) (h : s < n) (hA : ¬ isA (T s) = true) : tk T n a = (3, T s, [], s, s + 1) := by
  unfold tk
  dsimp only
  rw [← hs, if_neg (by omega), if_neg hA]
theorem tk_4 {T : Nat → Nat} {n a s : Nat} (hs : s = run1 (fun i => isBl (T i)) (n - a) a) (h : s < n) (hA : isA (T s) = true) (hb : 0 < s ∧ isA (T (s - 1)) = true) : tk T n a = (4, 0, [], s, s) := by
  unfold tk
  dsimp only
  rw [← hs, if_neg (by omega), if_pos hA, if_pos hb]
theorem tk_w {T : Nat → Nat} {n a s e : Nat} (hs : s = run1 (fun i => isBl (T i)) (n - a) a) (h : s < n) (hA : isA (T s) = true) (hb : ¬ (0 < s ∧ isA (T (s - 1)) = true)) (hl : isL (T s) = true) (he : e = run1 (fun i => isL (T i)) (n - s) s) : tk T n a = if 6 < e - s then (4, 0, [], s + 6, e) else (1, 0, letV T s (e - s), s, e) := by
  unfold tk
  dsimp only
  rw [← hs, if_neg (by omega), if_pos hA, if_neg hb, if_pos hl, ← he]
theorem tk_n {T : Nat → Nat} {n a s e : Nat} (hs : s = run1 (fun i => isBl (T i)) (n - a) a) (h : s < n) (hA : isA (T s) = true) (hb : ¬ (0 < s ∧ isA (T (s - 1)) = true)) (hl : ¬ isL (T s) = true) (he : e = run1 (fun i => isD (T i)) (n - s) s) : tk T n a = if 4 < e - s then (4, 0, [], s + 4, e) else (2, numV T s (e - s), [], s, e) := by
  unfold tk
  dsimp only
  rw [← hs, if_neg (by omega), if_pos hA, if_neg hb, if_neg hl, ← he]
theorem c_x_stepF (d n k p : Nat) (T : Nat → Nat) (M : am_M) (Q : Option Value → am_M → Prop) (hL : Lay M) (hF : FtX M T n k p) : am_E am_P0 d 35 [.ref 165] M Q ↔ Q none M := by
  have h8 := FtX_8 hF
  rw [eX3_step]
  simp +decide only [qX3_step_0, qX3_step_1, qX3_step_2, qX3_step_3, qX3_step_4, lx hL, am_w1_i, am_w1_r, am_w1_x, am_w1_l, am_w1_w, va_rf_s, am_push_n, am_push_s, am_cs_0, am_cs_i, am_cs_l, am_cs_r, m_uI_K, m_uI_N, m_uI_R, m_uI_L, m_uI_I, m_uL_K, m_uL_N, m_uL_R, m_uL_I, m_uL_L, m_uR_K, m_uR_N, m_uR_I, m_uR_L, m_uR_R, true_and, and_true, true_implies, false_implies, not_true_eq_false, not_false_eq_true, if_true, if_false, false_and, and_false]
  rw [br_n h8]
theorem c_x_stepW (d n : Nat) (T : Nat → Nat) (t : Tok) (M : am_M) (Q : Option Value → am_M → Prop) (hL : Lay M) (hT : TpX M T n) (hO : OwX M) (h8 : mI M 165 8 = 0) (h3 : mI M 165 3 = nI (tE t)) (h4 : mI M 165 4 = nI t.1) (hG : tkG T n t) (h9 : mI M 165 9 = -1)
    (hF : (tk T n (tE t)).1 = 4 → ∀ M', gF sRd nT M M' → FtX M' T n 1 (tS (tk T n (tE t))) → Q none M')
    (hN : ¬ (tk T n (tE t)).1 = 4 → ∀ M', gF sRd nT M M' → RdX M' T n (tk T n (tE t)) → Q none M') : am_E am_P0 (d + 1) 35 [.ref 165] M Q := by
  obtain ⟨t1, t2, t3, t4⟩ := id hT
  obtain ⟨b, hb⟩ : ∃ b : Int32, b = if t.1 = 1 ∨ t.1 = 2 then nI (tE t) else -1 := ⟨_, rfl⟩
  obtain ⟨s, hs⟩ : ∃ s, s = run1 (fun i => isBl (T i)) (n - tE t) (tE t) := ⟨_, rfl⟩
  have hrl := run1_le (fun i => isBl (T i)) (n - tE t) (tE t)
  rw [← hs] at hrl
  have hEn := hG.1
  have hbd : (0 < s ∧ s < n ∧ isA (T (s - 1)) = true) ↔ (s < n ∧ nI s = b) := by
    constructor
    · rintro ⟨q1, q2, q3⟩
      refine ⟨q2, ?_⟩
      have hst : s = tE t := by
        by_cases e : s = tE t
        · exact e
        · have := run1_in (fun i => isBl (T i)) (n - tE t) (tE t) (s - 1) (by omega) (by rw [← hs]; omega)
          have hbl := isBl_i.mp this
          rw [isA_i, isL_i, isD_i] at q3
          omega
      have h12 : t.1 = 1 ∨ t.1 = 2 := by
        have h03 := hG.2.2.2.2.1
        have hle := hG.2.2.1
        by_cases e : t.1 = 1 ∨ t.1 = 2
        · exact e
        · rcases h03 (by omega) with q | q | q
          · omega
          · omega
          · rw [hst] at q3; exact absurd q3 q
      rw [hb, if_pos h12, hst]
    · rintro ⟨q2, q⟩
      by_cases e : t.1 = 1 ∨ t.1 = 2
      · rw [hb, if_pos e, ni_eq (by omega) (by omega)] at q
        have := hG.2.2.2.1 e
        rw [q]
        exact ⟨this.1, by omega, this.2⟩
      · rw [hb, if_neg e] at q
        exact absurd q (nI_m1 (by omega))
  rw [eX3_step]
  -- from the blanks on
  have main : am_P am_P0 (d + 1) (am_look tX3_step) 33 [.ref 165, .int b, am_x] [] M Q := by
    refine l_x_blank (d + 1) n T M Q b hL hT (n - tE t) (tE t) (by omega) M (gF_refl _ _ _) h3 (fun M1 g1 r3 => ?_)
    rw [← hs] at r3
    have L1 := gF_LayN g1 hL
    have T1 := TpX_g hT g1 (fun a j q z => by omega)
    have O1 := OwX_g hO g1 (fun j z => by omega)
    have r8 : mI M1 165 8 = 0 := by rw [g1.1 _ _ (by omega)]; exact h8
    have r9 : mI M1 165 9 = -1 := by rw [g1.1 _ _ (by omega)]; exact h9
    obtain ⟨u1, u2, u3, u4⟩ := id T1
    by_cases cn : n ≤ s
    · have hsn : s = n := by omega
      have etk := tk_ge hs cn
      have hle : nI n ≤ nI s := (ni_le (by omega) (by omega)).mpr cn
      have G : gF (fun a j => a = 165 ∧ (j = 7 ∨ j = 5 ∨ j = 6 ∨ j = 4)) nT M1 (uI (uI (uI (uI M1 165 7 (nI s)) 165 5 0) 165 6 (-1)) 165 4 0) := gF_trans (gF_i _ ⟨rfl, by omega⟩) (gF_trans (gF_i _ ⟨rfl, by omega⟩) (gF_trans (gF_i _ ⟨rfl, by omega⟩) (gF_i _ ⟨rfl, by omega⟩)))
      have h0 := hN (by rw [etk]; exact (by decide : ¬ (0 : Nat) = 4)) _ (gF_trans (gF_up g1 (fun a j q => q.1) (fun _ _ q => q)) (gF_up G (fun a j q => q.1) (fun _ _ q => q))) (by
        rw [etk]
        refine ⟨TpX_g T1 G (fun a j q z => by omega), OwX_g O1 G (fun j z => by omega), ?_, ?_, ?_, ?_, ?_, ?_, ?_, ?_⟩
        · rw [G.1 _ _ (by omega)]; exact r8
        · rw [G.1 _ _ (by omega)]; exact r3
        · simp [m_uI_I]; rfl
        · simp [m_uI_I, tS]
        · simp [m_uI_I]
        · simp [m_uI_I]; rfl
        · exact ⟨by show s ≤ n; omega, Nat.le_refl _, by show 0 ≤ 3; omega, fun q => by dsimp only at q; omega, fun _ => Or.inr (Or.inl hsn), fun q => by dsimp only at q; omega, fun q => by dsimp only at q; omega, fun q => by dsimp only at q; omega, fun q => absurd rfl q⟩
        · rw [G.1 _ _ (by omega)]; exact r9)
      simp +decide (disch := omega) only [qX3_step_0, qX3_step_1, qX3_step_2, qX3_step_3, qX3_step_4, lx L1, u1, u2, r3, ni_in_t, ni_tn, ni_add1, am_w1_i, am_w1_r, am_w1_x, am_w1_l, am_w1_w, va_rf_s, am_push_n, am_push_s, am_cs_0, am_cs_i, am_cs_l, am_cs_r, m_uI_K, m_uI_N, m_uI_R, m_uI_L, m_uI_I, m_uL_K, m_uL_N, m_uL_R, m_uL_I, m_uL_L, m_uR_K, m_uR_N, m_uR_I, m_uR_L, m_uR_R, true_and, and_true, true_implies, false_implies, not_true_eq_false, not_false_eq_true, if_true, if_false, false_and, and_false]
      rw [br_p hle]
      exact h0
    · have hlt : ¬ nI n ≤ nI s := by rw [ni_le (by omega) (by omega)]; omega
      obtain ⟨v5, v6⟩ := u4 s (by omega)
      have kl := kdN_le (T s)
      have hkd := fun M Q => c_x_kindOf d (T s) M Q v5
      have hk0 : ¬ nI (kdN (T s)) = 0 := fun q => by rw [show (0 : Int32) = nI 0 from rfl, ni_eq (by omega) (by omega)] at q; omega
      obtain ⟨M2, hM2⟩ : ∃ M2, M2 = uI (uI (uI (uI M1 165 7 (nI s)) 165 5 0) 165 6 (-1)) 165 4 (nI (kdN (T s))) := ⟨_, rfl⟩
      have G2 : gF (fun a j => a = 165 ∧ (j = 7 ∨ j = 5 ∨ j = 6 ∨ j = 4)) nT M1 M2 := by rw [hM2]; exact gF_trans (gF_i _ ⟨rfl, by omega⟩) (gF_trans (gF_i _ ⟨rfl, by omega⟩) (gF_trans (gF_i _ ⟨rfl, by omega⟩) (gF_i _ ⟨rfl, by omega⟩)))
      have T2 := TpX_g T1 G2 (fun a j q z => by omega)
      have O2 := OwX_g O1 G2 (fun j z => by omega)
      have L2 := gF_LayN G2 L1
      have F2 : gF sRd nT M M2 := gF_trans (gF_up g1 (fun a j q => q.1) (fun _ _ q => q)) (gF_up G2 (fun a j q => q.1) (fun _ _ q => q))
      have w3 : mI M2 165 3 = nI s := by rw [G2.1 _ _ (by omega)]; exact r3
      have w8 : mI M2 165 8 = 0 := by rw [G2.1 _ _ (by omega)]; exact r8
      have w9 : mI M2 165 9 = -1 := by rw [G2.1 _ _ (by omega)]; exact r9
      have w4 : mI M2 165 4 = nI (kdN (T s)) := by rw [hM2, m_uI_I, if_pos ⟨rfl, rfl⟩]
      have w5 : mI M2 165 5 = 0 := by rw [hM2]; simp [m_uI_I]
      have w6 : mI M2 165 6 = -1 := by rw [hM2]; simp [m_uI_I]
      have w7 : mI M2 165 7 = nI s := by rw [hM2]; simp [m_uI_I]
      obtain ⟨x1, x2, x3, x4⟩ := id T2
      obtain ⟨y5, y6⟩ := x4 s (by omega)
      -- to the place behind the kind
      have goal138 : am_P am_P0 (d + 1) (am_look tX3_step) 138 [.ref 165, .int b, am_x] [.int (nI (kdN (T s)))] M2 Q := by
        by_cases cA : isA (T s) = true
        · have h12 : kdN (T s) = 1 ∨ kdN (T s) = 2 := by
            rcases isA_i.mp cA with q | q
            · exact Or.inl (kdN_1.mpr q)
            · exact Or.inr (kdN_2.mpr q)
          have hk3 : ¬ nI (kdN (T s)) = 3 := fun q => by rw [show (3 : Int32) = nI 3 from rfl, ni_eq (by omega) (by omega)] at q; omega
          · have hlet := l_x_letters d n s (kdN (T s)) T M2 Q b L2 T2 w8 h12 w4 w7 (by omega) (fun M3 i g3 hi he e3 e5 => ?_) (fun M3 g3 hbig => ?_) (n - s) 0 (by omega) (Nat.zero_le _) (fun j hj => by omega) M2 (gF_refl _ _ _) w3 (by rw [w5]; unfold acV; split <;> rfl)
            · have em : (if kdN (T s) = 1 then (6 : Int32) else 4) = nI (mst (kdN (T s))) := by unfold mst; split <;> rfl
              rcases h12 with h1 | h2
              · have e1 : nI (kdN (T s)) = 1 := by rw [h1]; rfl
                rw [h1] at hlet
                simp +decide (disch := omega) only [qX3_step_0, qX3_step_1, qX3_step_2, qX3_step_3, qX3_step_4, lx L2, w4, w7, e1, am_w1_i, am_w1_r, am_w1_x, am_w1_l, am_w1_w, va_rf_s, am_push_n, am_push_s, am_cs_0, am_cs_i, am_cs_l, am_cs_r, m_uI_K, m_uI_N, m_uI_R, m_uI_L, m_uI_I, m_uL_K, m_uL_N, m_uL_R, m_uL_I, m_uL_L, m_uR_K, m_uR_N, m_uR_I, m_uR_L, m_uR_R, true_and, and_true, true_implies, false_implies, not_true_eq_false, not_false_eq_true, if_true, if_false, false_and, and_false]
                exact hlet
              · have e1 : nI (kdN (T s)) = 2 := by rw [h2]; rfl
                rw [h2] at hlet
                simp +decide (disch := omega) only [qX3_step_0, qX3_step_1, qX3_step_2, qX3_step_3, qX3_step_4, lx L2, w4, w7, e1, am_w1_i, am_w1_r, am_w1_x, am_w1_l, am_w1_w, va_rf_s, am_push_n, am_push_s, am_cs_0, am_cs_i, am_cs_l, am_cs_r, m_uI_K, m_uI_N, m_uI_R, m_uI_L, m_uI_I, m_uL_K, m_uL_N, m_uL_R, m_uL_I, m_uL_L, m_uR_K, m_uR_N, m_uR_I, m_uR_L, m_uR_R, true_and, and_true, true_implies, false_implies, not_true_eq_false, not_false_eq_true, if_true, if_false, false_and, and_false]
                exact hlet
            · have L3 := gF_LayN g3 L2
              have T3 := TpX_g T2 g3 (fun a j q z => by omega)
              have O3 := OwX_g O2 g3 (fun j z => by omega)
              have i4 : mI M3 165 4 = nI (kdN (T s)) := by rw [g3.1 _ _ (by omega)]; exact w4
              have i7 : mI M3 165 7 = nI s := by rw [g3.1 _ _ (by omega)]; exact w7
              have i8 : mI M3 165 8 = 0 := by rw [g3.1 _ _ (by omega)]; exact w8
              have i9 : mI M3 165 9 = -1 := by rw [g3.1 _ _ (by omega)]; exact w9
              have F3 : gF sRd nT M M3 := gF_trans F2 (gF_up g3 (fun a j q => q.1) (fun _ _ q => q))
              have hi1 : 1 ≤ i := by
                have hsn : n - s = (n - s - 1) + 1 := by omega
                rw [hsn] at he
                have : run1 (fun i => if kdN (T s) = 1 then isL (T i) else isD (T i)) (n - s - 1 + 1) s = if (if kdN (T s) = 1 then isL (T s) else isD (T s)) = true then run1 (fun i => if kdN (T s) = 1 then isL (T i) else isD (T i)) (n - s - 1) (s + 1) else s := rfl
                rw [this, if_pos ((kdN_p h12).mp rfl)] at he
                have := (run1_le (fun i => if kdN (T s) = 1 then isL (T i) else isD (T i)) (n - s - 1) (s + 1)).1
                omega
              have hin : ∀ j, j < i → (if kdN (T s) = 1 then isL (T (s + j)) else isD (T (s + j))) = true := fun j hj => run1_in (fun i => if kdN (T s) = 1 then isL (T i) else isD (T i)) (n - s) s (s + j) (by omega) (by omega)
              have hrn := (run1_le (fun i => if kdN (T s) = 1 then isL (T i) else isD (T i)) (n - s) s).2
              have hsi : s + i ≤ n := by omega
              by_cases cb : 0 < s ∧ isA (T (s - 1)) = true
              · have etk := tk_4 hs (by omega) cA cb
                have hbe : nI s = b := (hbd.mp ⟨cb.1, by omega, cb.2⟩).2
                have hre := fun Q => c_x_refuseAt0 d 1 (nI s) M3 Q L3 i8
                have hf := FtX_0 (k := 1) (p := s) T3 O3 (by omega)
                have h0 := hF (by rw [etk]) _ (gF_trans F3 hf.2) (by rw [etk]; exact hf.1)
                simp +decide (disch := omega) only [qX3_step_0, qX3_step_1, qX3_step_2, qX3_step_3, qX3_step_4, lx L3, i7, hre, am_w1_i, am_w1_r, am_w1_x, am_w1_l, am_w1_w, va_rf_s, am_push_n, am_push_s, am_cs_0, am_cs_i, am_cs_l, am_cs_r, m_uI_K, m_uI_N, m_uI_R, m_uI_L, m_uI_I, m_uL_K, m_uL_N, m_uL_R, m_uL_I, m_uL_L, m_uR_K, m_uR_N, m_uR_I, m_uR_L, m_uR_R, true_and, and_true, true_implies, false_implies, not_true_eq_false, not_false_eq_true, if_true, if_false, false_and, and_false]
                rw [br_r hbe]
                exact h0
              have hbe : ¬ nI s = b := fun q => cb (by have := hbd.mpr ⟨by omega, q⟩; exact ⟨this.1, this.2.2⟩)
              rcases h12 with h1 | h2
              · have e1 : nI (kdN (T s)) = 1 := by rw [h1]; rfl
                have ef : (fun i => if kdN (T s) = 1 then isL (T i) else isD (T i)) = fun i => isL (T i) := funext fun i => if_pos h1
                rw [ef] at he
                have h66 : mst (kdN (T s)) = 6 := by rw [h1]; rfl
                have etk := tk_w hs (by omega) cA cb (kdN_1.mp h1) he
                rw [if_neg (by omega), show s + i - s = i by omega] at etk
                have hlw : isWd (letV T s i) ∧ (letV T s i).length = i := by
                  refine ⟨fun c hc => ?_, by unfold letV; rw [List.length_map, List.length_range]⟩
                  unfold letV at hc
                  rw [List.mem_map] at hc
                  obtain ⟨j, hj, rfl⟩ := hc
                  rw [List.mem_range] at hj
                  have := hin j hj
                  rw [if_pos h1] at this
                  exact isL_i.mp this
                have e5' : mI M3 165 5 = nI (pkL (letV T s i)) := by rw [e5, ← pkV_L]; unfold acV; rw [if_pos h1]
                have how := fun Q => c_x_ownWord d (letV T s i) M3 Q L3 O3 hlw.1 (by rw [hlw.2]; omega)
                have G4 : gF (fun a j => a = 165 ∧ j = 6) nT M3 (uI M3 165 6 (owI (letV T s i))) := gF_i _ ⟨rfl, rfl⟩
                have h0 := hN (by rw [etk]; exact (by decide : ¬ (1 : Nat) = 4)) _ (gF_trans F3 (gF_up G4 (fun a j q => q.1) (fun _ _ q => q))) (by
                  rw [etk]
                  refine ⟨TpX_g T3 G4 (fun a j q z => by omega), OwX_g O3 G4 (fun j z => by omega), ?_, ?_, ?_, ?_, ?_, ?_, ?_, ?_⟩
                  · rw [G4.1 _ _ (by omega)]; exact i8
                  · rw [G4.1 _ _ (by omega)]; exact e3
                  · rw [G4.1 _ _ (by omega), i4, e1]; rfl
                  · rw [G4.1 _ _ (by omega)]; exact i7
                  · rw [m_uI_I, if_pos ⟨rfl, rfl⟩]; rfl
                  · rw [G4.1 _ _ (by omega), e5']; rfl
                  · refine ⟨by show s + i ≤ n; omega, by show s ≤ s + i; omega, by show 1 ≤ 3; omega, fun _ => ⟨by show 0 < s + i; omega, ?_⟩, fun q => by dsimp only at q; omega, fun _ => ⟨hlw.1, by rw [hlw.2]; omega, by rw [hlw.2]; exact hi1⟩, fun q => by dsimp only at q; omega, fun q => by dsimp only at q; omega, fun _ => by show s < s + i; omega⟩
                    have := hin (i - 1) (by omega)
                    rw [if_pos h1, show s + (i - 1) = s + i - 1 by omega] at this
                    exact isA_i.mpr (Or.inl this)
                  · rw [G4.1 _ _ (by omega)]; exact i9)
                simp +decide (disch := omega) only [qX3_step_0, qX3_step_1, qX3_step_2, qX3_step_3, qX3_step_4, lx L3, i4, i7, e1, e5', how, am_w1_i, am_w1_r, am_w1_x, am_w1_l, am_w1_w, va_rf_s, am_push_n, am_push_s, am_cs_0, am_cs_i, am_cs_l, am_cs_r, m_uI_K, m_uI_N, m_uI_R, m_uI_L, m_uI_I, m_uL_K, m_uL_N, m_uL_R, m_uL_I, m_uL_L, m_uR_K, m_uR_N, m_uR_I, m_uR_L, m_uR_R, true_and, and_true, true_implies, false_implies, not_true_eq_false, not_false_eq_true, if_true, if_false, false_and, and_false]
                rw [br_q hbe]
                exact h0
              · have e1 : nI (kdN (T s)) = 2 := by rw [h2]; rfl
                have hnl : ¬ isL (T s) = true := fun q => by have := kdN_1.mpr q; omega
                have ef : (fun i => if kdN (T s) = 1 then isL (T i) else isD (T i)) = fun i => isD (T i) := funext fun i => if_neg (by omega)
                rw [ef] at he
                have h66 : mst (kdN (T s)) = 4 := by rw [h2]; rfl
                have etk := tk_n hs (by omega) cA cb hnl he
                rw [if_neg (by omega), show s + i - s = i by omega] at etk
                have e5' : mI M3 165 5 = nI (numV T s i) := by rw [e5]; unfold acV; rw [if_neg (by omega)]
                have G4 : gF (fun a j => a = 165 ∧ j = 6) nT M3 (uI M3 165 6 (-1)) := gF_i _ ⟨rfl, rfl⟩
                have hok := tk_OK T n (tE t)
                rw [etk] at hok
                have h0 := hN (by rw [etk]; exact (by decide : ¬ (2 : Nat) = 4)) _ (gF_trans F3 (gF_up G4 (fun a j q => q.1) (fun _ _ q => q))) (by
                  rw [etk]
                  refine ⟨TpX_g T3 G4 (fun a j q z => by omega), OwX_g O3 G4 (fun j z => by omega), ?_, ?_, ?_, ?_, ?_, ?_, ?_, ?_⟩
                  · rw [G4.1 _ _ (by omega)]; exact i8
                  · rw [G4.1 _ _ (by omega)]; exact e3
                  · rw [G4.1 _ _ (by omega), i4, e1]; rfl
                  · rw [G4.1 _ _ (by omega)]; exact i7
                  · rw [m_uI_I, if_pos ⟨rfl, rfl⟩]; rfl
                  · rw [G4.1 _ _ (by omega), e5']; rfl
                  · refine ⟨by show s + i ≤ n; omega, by show s ≤ s + i; omega, by show 2 ≤ 3; omega, fun _ => ⟨by show 0 < s + i; omega, ?_⟩, fun q => by dsimp only at q; omega, fun q => by dsimp only at q; omega, fun _ => hok rfl, fun q => by dsimp only at q; omega, fun _ => by show s < s + i; omega⟩
                    have := hin (i - 1) (by omega)
                    rw [if_neg (by omega), show s + (i - 1) = s + i - 1 by omega] at this
                    exact isA_i.mpr (Or.inr this)
                  · rw [G4.1 _ _ (by omega)]; exact i9)
                simp +decide (disch := omega) only [qX3_step_0, qX3_step_1, qX3_step_2, qX3_step_3, qX3_step_4, lx L3, i4, i7, e1, am_w1_i, am_w1_r, am_w1_x, am_w1_l, am_w1_w, va_rf_s, am_push_n, am_push_s, am_cs_0, am_cs_i, am_cs_l, am_cs_r, m_uI_K, m_uI_N, m_uI_R, m_uI_L, m_uI_I, m_uL_K, m_uL_N, m_uL_R, m_uL_I, m_uL_L, m_uR_K, m_uR_N, m_uR_I, m_uR_L, m_uR_R, true_and, and_true, true_implies, false_implies, not_true_eq_false, not_false_eq_true, if_true, if_false, false_and, and_false]
                rw [br_q hbe]
                exact h0
            · have T3 := TpX_g T2 g3 (fun a j q z => by omega)
              have O3 := OwX_g O2 g3 (fun j z => by omega)
              have F3 : gF sRd nT M M3 := gF_trans F2 (gF_up g3 (fun a j q => q.1) (fun _ _ q => q))
              have hf := FtX_0 (k := 1) (p := s + mst (kdN (T s))) T3 O3 (by omega)
              by_cases cb : 0 < s ∧ isA (T (s - 1)) = true
              · have etk := tk_4 hs (by omega) cA cb
                exact hF (by rw [etk]) _ (gF_trans F3 hf.2) (by rw [etk]; exact ⟨hf.1.1, hf.1.2.1, hf.1.2.2.1, hf.1.2.2.2.1, Or.inl trivial, hf.1.2.2.2.2.2⟩)
              rcases h12 with h1 | h2
              · have ef : (fun i => if kdN (T s) = 1 then isL (T i) else isD (T i)) = fun i => isL (T i) := funext fun i => if_pos h1
                rw [ef, h1] at hbig
                rw [h1] at hf ⊢
                have etk := tk_w hs (by omega) cA cb (kdN_1.mp h1) rfl
                rw [if_pos (show 6 < run1 (fun i => isL (T i)) (n - s) s - s from hbig)] at etk
                exact hF (by rw [etk]) _ (gF_trans F3 hf.2) (by rw [etk]; exact hf.1)
              · have hnl : ¬ isL (T s) = true := fun q => by have := kdN_1.mpr q; omega
                have ef : (fun i => if kdN (T s) = 1 then isL (T i) else isD (T i)) = fun i => isD (T i) := funext fun i => if_neg (by omega)
                rw [ef, h2] at hbig
                rw [h2] at hf ⊢
                have etk := tk_n hs (by omega) cA cb hnl rfl
                rw [if_pos (show 4 < run1 (fun i => isD (T i)) (n - s) s - s from hbig)] at etk
                exact hF (by rw [etk]) _ (gF_trans F3 hf.2) (by rw [etk]; exact hf.1)
        · have e3 : kdN (T s) = 3 := kdN_3.mpr cA
          have etk := tk_sg hs (by omega) cA
          have e3' : nI (kdN (T s)) = 3 := by rw [e3]; rfl
          have G3 : gF (fun a j => a = 165 ∧ (j = 3 ∨ j = 5)) nT M2 (uI (uI M2 165 5 (nI (T s))) 165 3 (nI (s + 1))) := gF_trans (gF_i _ ⟨rfl, by omega⟩) (gF_i _ ⟨rfl, by omega⟩)
          have h0 := hN (by rw [etk]; exact (by decide : ¬ (3 : Nat) = 4)) _ (gF_trans F2 (gF_up G3 (fun a j q => q.1) (fun _ _ q => q))) (by
            rw [etk]
            refine ⟨TpX_g T2 G3 (fun a j q z => by omega), OwX_g O2 G3 (fun j z => by omega), ?_, ?_, ?_, ?_, ?_, ?_, ?_, ?_⟩
            · rw [G3.1 _ _ (by omega)]; exact w8
            · rw [m_uI_I, if_pos ⟨rfl, rfl⟩]; rfl
            · rw [G3.1 _ _ (by omega), w4, e3]
            · rw [G3.1 _ _ (by omega)]; exact w7
            · rw [G3.1 _ _ (by omega)]; exact w6
            · rw [m_uI_I, if_neg (by omega), m_uI_I, if_pos ⟨rfl, rfl⟩]; rfl
            · exact ⟨by show s + 1 ≤ n; omega, by show s ≤ s + 1; omega, by show 3 ≤ 3; omega, fun q => by dsimp only at q; omega, fun _ => Or.inr (Or.inr (by show ¬ isA (T (s + 1 - 1)) = true; rw [Nat.add_sub_cancel]; exact cA)), fun q => by dsimp only at q; omega, fun q => by dsimp only at q; omega, fun _ => v5, fun _ => by show s < s + 1; omega⟩
            · rw [G3.1 _ _ (by omega)]; exact w9)
          simp +decide (disch := omega) only [qX3_step_0, qX3_step_1, qX3_step_2, qX3_step_3, qX3_step_4, lx L2, w3, w4, e3', x1, y6, ni_in_t, ni_tn, ni_add1, am_w1_i, am_w1_r, am_w1_x, am_w1_l, am_w1_w, va_rf_s, am_push_n, am_push_s, am_cs_0, am_cs_i, am_cs_l, am_cs_r, m_uI_K, m_uI_N, m_uI_R, m_uI_L, m_uI_I, m_uL_K, m_uL_N, m_uL_R, m_uL_I, m_uL_L, m_uR_K, m_uR_N, m_uR_I, m_uR_L, m_uR_R, true_and, and_true, true_implies, false_implies, not_true_eq_false, not_false_eq_true, if_true, if_false, false_and, and_false]
          exact h0
      rw [hM2] at goal138
      simp +decide (disch := omega) only [qX3_step_0, qX3_step_1, qX3_step_2, qX3_step_3, qX3_step_4, lx L1, u1, u2, r3, v6, hkd, ni_in_t, ni_tn, ni_add1, am_w1_i, am_w1_r, am_w1_x, am_w1_l, am_w1_w, va_rf_s, am_push_n, am_push_s, am_cs_0, am_cs_i, am_cs_l, am_cs_r, m_uI_K, m_uI_N, m_uI_R, m_uI_L, m_uI_I, m_uL_K, m_uL_N, m_uL_R, m_uL_I, m_uL_L, m_uR_K, m_uR_N, m_uR_I, m_uR_L, m_uR_R, true_and, and_true, true_implies, false_implies, not_true_eq_false, not_false_eq_true, if_true, if_false, false_and, and_false] at goal138 ⊢
      rw [br_n hlt]
      exact goal138
  simp +decide (disch := omega) only [qX3_step_0, qX3_step_1, qX3_step_2, qX3_step_3, qX3_step_4, lx hL, h8, h4, h3, am_w1_i, am_w1_r, am_w1_x, am_w1_l, am_w1_w, va_rf_s, am_push_n, am_push_s, am_cs_0, am_cs_i, am_cs_l, am_cs_r, m_uI_K, m_uI_N, m_uI_R, m_uI_L, m_uI_I, m_uL_K, m_uL_N, m_uL_R, m_uL_I, m_uL_L, m_uR_K, m_uR_N, m_uR_I, m_uR_L, m_uR_R, true_and, and_true, true_implies, false_implies, not_true_eq_false, not_false_eq_true, if_true, if_false, false_and, and_false]
  by_cases e1 : t.1 = 1
  · rw [hb, if_pos (Or.inl e1)] at main
    rw [br_p (by rw [e1]; rfl)]
    exact main
  · have n1 : ¬ nI t.1 = 1 := fun q => e1 ((ni_eq (b := 1) (by have := hG.2.2.1; omega) (by omega)).mp q)
    rw [br_n n1]
    by_cases e2 : t.1 = 2
    · rw [hb, if_pos (Or.inr e2)] at main
      rw [br_r (by rw [e2]; rfl)]
      exact main
    · have n2 : ¬ nI t.1 = 2 := fun q => e2 ((ni_eq (b := 2) (by have := hG.2.2.1; omega) (by omega)).mp q)
      rw [hb, if_neg (by omega)] at main
      rw [br_q n2]
      exact main
theorem c_x_step (d n : Nat) (T : Nat → Nat) (t : Tok) (M : am_M) (Q : Option Value → am_M → Prop) (hL : Lay M) (hR : RdX M T n t)
    (hF : (tk T n (tE t)).1 = 4 → ∀ M', gF sRd nT M M' → FtX M' T n 1 (tS (tk T n (tE t))) → Q none M')
    (hN : ¬ (tk T n (tE t)).1 = 4 → ∀ M', gF sRd nT M M' → RdX M' T n (tk T n (tE t)) → Q none M') : am_E am_P0 (d + 1) 35 [.ref 165] M Q :=
  c_x_stepW d n T t M Q hL hR.1 hR.2.1 hR.2.2.1 hR.2.2.2.1 hR.2.2.2.2.1 hR.2.2.2.2.2.2.2.2.1 hR.2.2.2.2.2.2.2.2.2 hF hN
