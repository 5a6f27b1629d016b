/-! the model's reader: ahead -/
theorem c_m_ahead (d n : Nat) (T : Nat → Nat) (a : Nat) (M : am_M) (Q : Option Value → am_M → Prop) (hL : Lay M) (hT : TpM M T n) (h8 : mI M 277 8 = 0) (h9 : mI M 277 9 = -1) (h5 : mI M 277 5 = nI a) (ha : a ≤ n)
    (hF : (tk T n a).1 = 4 → ∀ M', gF sRm nT M M' → FtM M' T n 1 (tS (tk T n a)) → Q none M')
    (hN : ¬ (tk T n a).1 = 4 → ∀ M', gF sRm nT M M' → RdM M' T n (tk T n a) → Q none M') : am_E am_P0 (d + 1) 174 [.ref 277] M Q := by
  obtain ⟨t2, t3, t4⟩ := id hT
  obtain ⟨s, hs⟩ : ∃ s, s = run1 (fun i => isBl (T i)) (n - a) a := ⟨_, rfl⟩
  have hrl := run1_le (fun i => isBl (T i)) (n - a) a
  rw [← hs] at hrl
  rw [eX11_ahead]
  simp +decide only [qX11_ahead_0, qX11_ahead_1, qX11_ahead_2, qX11_ahead_3, qX11_ahead_4, lm hL, h5, am_w1_i, am_w1_r, am_w1_x, am_w1_l, am_w1_w, va_rf_s, am_push_n, am_push_s, am_cs_0, am_cs_i, am_cs_l, am_cs_r, m_uI_K, m_uI_N, m_uI_R, m_uI_L, m_uI_I, m_uL_K, m_uL_N, m_uL_R, m_uL_I, m_uL_L, m_uR_K, m_uR_N, m_uR_I, m_uR_L, m_uR_R, true_and, and_true, true_implies, false_implies, not_true_eq_false, not_false_eq_true, if_true, if_false, false_and, and_false]
  refine l_m_blank (d + 1) n T M Q hL hT (n - a) a (by omega) ?_
  rw [← hs]
  by_cases cn : n ≤ s
  · have hsn : s = n := by omega
    have etk := tk_ge hs cn
    have G : gF sRm nT M (uI (uI (uI M 277 4 (nI s)) 277 5 (nI s)) 277 3 0) := gF_trans (gF_i _ ⟨rfl, by omega, by omega⟩) (gF_trans (gF_i _ ⟨rfl, by omega, by omega⟩) (gF_i _ ⟨rfl, by omega, by omega⟩))
    have h0 := hN (by rw [etk]; exact (by decide : ¬ (0 : Nat) = 4)) _ G (by
      rw [etk]
      refine ⟨TpM_g hT G (fun a j q w => by unfold sRm at w; omega), by simp [m_uI_I, h8], by simp [m_uI_I, h9], by simp [m_uI_I]; rfl, by simp [m_uI_I, tS], by simp [m_uI_I, tE], fun q => by dsimp only at q; omega, fun q => by dsimp only at q; omega, ?_⟩
      exact ⟨by show s ≤ n; omega, Nat.le_refl _, by show 0 ≤ 3; omega, fun q => by dsimp only at q; omega, fun _ => Or.inr (Or.inl hsn), fun q => by dsimp only at q; omega, fun q => by dsimp only at q; omega, fun q => by dsimp only at q; omega, fun q => absurd rfl q⟩)
    have hlt : ¬ nI s < nI n := by rw [ni_lt (by omega) (by omega)]; omega
    simp +decide (disch := omega) only [qX11_ahead_0, qX11_ahead_1, qX11_ahead_2, qX11_ahead_3, qX11_ahead_4, lm hL, t2, ni_in_t, ni_tn, ni_add1, am_w1_i, am_w1_r, am_w1_x, am_w1_l, am_w1_w, va_rf_s, am_push_n, am_push_s, am_cs_0, am_cs_i, am_cs_l, am_cs_r, m_uI_K, m_uI_N, m_uI_R, m_uI_L, m_uI_I, m_uL_K, m_uL_N, m_uL_R, m_uL_I, m_uL_L, m_uR_K, m_uR_N, m_uR_I, m_uR_L, m_uR_R, true_and, and_true, true_implies, false_implies, not_true_eq_false, not_false_eq_true, if_true, if_false, false_and, and_false]
    rw [br_n hlt]
    exact h0
  · have hlt : nI s < nI n := by rw [ni_lt (by omega) (by omega)]; omega
    obtain ⟨v5, v6⟩ := t4 s (by omega)
    obtain ⟨M1, hM1⟩ : ∃ M1, M1 = uI (uI (uI M 277 4 (nI s)) 277 5 (nI s)) 277 3 0 := ⟨_, rfl⟩
    have G1 : gF sRm nT M M1 := by rw [hM1]; exact gF_trans (gF_i _ ⟨rfl, by omega, by omega⟩) (gF_trans (gF_i _ ⟨rfl, by omega, by omega⟩) (gF_i _ ⟨rfl, by omega, by omega⟩))
    have L1 : Lay M1 := by rw [hM1]; exact hL
    have T1 := TpM_g hT G1 (fun a j q w => by unfold sRm at w; omega)
    have w8 : mI M1 277 8 = 0 := by rw [hM1]; simp [m_uI_I, h8]
    have w9 : mI M1 277 9 = -1 := by rw [hM1]; simp [m_uI_I, h9]
    have w4 : mI M1 277 4 = nI s := by rw [hM1]; simp [m_uI_I]
    obtain ⟨u2, u3, u4⟩ := id T1
    obtain ⟨x5, x6⟩ := u4 s (by omega)
    have ml := fun Q => (m_let d (T s) M1 Q x5).1
    have md := fun Q => (m_let d (T s) M1 Q x5).2
    by_cases cA : isA (T s) = true
    · have h12 : kdN (T s) = 1 ∨ kdN (T s) = 2 := by
        rcases isA_i.mp cA with q | q
        · exact Or.inl (kdN_1.mpr q)
        · exact Or.inr (kdN_2.mpr q)
      obtain ⟨k, hk⟩ : ∃ k, k = kdN (T s) := ⟨_, rfl⟩
      rw [← hk] at h12
      have hlL : isL (T s) = decide (k = 1) := by
        by_cases c : isL (T s) = true
        · rw [c, hk, kdN_1.mpr c]; rfl
        · have h1 : ¬ k = 1 := fun q => c (kdN_1.mp (by omega))
          rw [decide_eq_false h1]; simpa using c
      have hlD : isD (T s) = decide (k = 2) := by
        by_cases c : isD (T s) = true
        · rw [c, hk, kdN_2.mpr c]; rfl
        · have h1 : ¬ k = 2 := fun q => c (kdN_2.mp (by omega))
          rw [decide_eq_false h1]; simpa using c
      have hms : (if k = 1 then (6 : Int32) else 4) = nI (mst k) := by unfold mst; split <;> rfl
      -- from the place behind the first test
      have main : ∀ (pre : Bool) (M2 : am_M), gF (fun a j => a = 277 ∧ (j = 8 ∨ j = 9)) nT M1 M2 → (pre = true ↔ 0 < s ∧ isA (T (s - 1)) = true) → (mI M2 277 8 = if pre = true then 1 else 0) → (mI M2 277 9 = if pre = true then nI s else -1) → am_P am_P0 (d + 1) (am_look tX11_ahead) 131 [.ref 277, .int (nI s), .int (b01 (decide (k = 1))), .int (b01 (decide (k = 2))), am_x, am_x] [] M2 Q := by
        intro pre M2 g2 hpre q8 q9
        have L2 := gF_LayN g2 L1
        obtain ⟨M3, hM3⟩ : ∃ M3, M3 = uI (uI (uI (uL (uI M2 277 6 0) 277 7 0) 277 3 3) 277 5 (nI (s + 1))) 277 3 (nI k) := ⟨_, rfl⟩
        have g3 : gF (fun a j => a = 277 ∧ (j = 3 ∨ j = 5 ∨ j = 6 ∨ j = 7)) nT M2 M3 := by rw [hM3]; exact gF_trans (gF_i _ ⟨rfl, by omega⟩) (gF_trans (gF_l _ ⟨rfl, by omega⟩) (gF_trans (gF_i _ ⟨rfl, by omega⟩) (gF_trans (gF_i _ ⟨rfl, by omega⟩) (gF_i _ ⟨rfl, by omega⟩))))
        have L3 := gF_LayN g3 L2
        have T3 := TpM_g (TpM_g T1 g2 (fun a j q w => by omega)) g3 (fun a j q w => by omega)
        have G3 : gF sRm nT M M3 := gF_trans G1 (gF_trans (gF_up g2 (fun a j q => by unfold sRm; omega) (fun _ _ q => q)) (gF_up g3 (fun a j q => by unfold sRm; omega) (fun _ _ q => q)))
        have i3 : mI M3 277 3 = nI k := by rw [hM3]; simp [m_uI_I]
        have i4 : mI M3 277 4 = nI s := by rw [g3.1 _ _ (by omega), g2.1 _ _ (by omega)]; exact w4
        have hlt0 : LtM M3 T k s 0 pre := by
          refine ⟨?_, ?_, fun _ _ => ⟨fun _ => ?_, fun _ => ?_⟩⟩
          · rw [g3.1 _ _ (by omega), q8]
            by_cases hp : pre = true
            · rw [if_pos hp, if_pos (Or.inl hp)]
            · rw [if_neg hp, if_neg (fun q => q.elim hp (fun w => by omega))]
          · rw [g3.1 _ _ (by omega), q9]
            by_cases hp : pre = true
            · rw [if_pos hp, if_pos hp]
            · rw [if_neg hp, if_neg hp, if_neg (by omega)]
          · rw [hM3]; simp [m_uI_L, m_uL_L]; rfl
          · rw [hM3]; simp [m_uI_I, m_uL_I]; rfl
        have hlet := l_m_letters d n s k T pre M3 Q L3 T3 h12 (by omega) (fun M4 i g4 hl4 he => ?_) (n - s) 0 (by omega) (fun j hj => by omega) M3 (gF_refl _ _ _) hlt0
        · rcases h12 with h1 | h2
          · rw [h1] at hlet hM3 ⊢
            rw [hM3] at hlet
            have e6 : (6 : Int32) = nI (mst 1) := rfl
            simp +decide (disch := omega) only [qX11_ahead_0, qX11_ahead_1, qX11_ahead_2, qX11_ahead_3, qX11_ahead_4, lm L2, b01, ni_add1, am_w1_i, am_w1_r, am_w1_x, am_w1_l, am_w1_w, va_rf_s, am_push_n, am_push_s, am_cs_0, am_cs_i, am_cs_l, am_cs_r, m_uI_K, m_uI_N, m_uI_R, m_uI_L, m_uI_I, m_uL_K, m_uL_N, m_uL_R, m_uL_I, m_uL_L, m_uR_K, m_uR_N, m_uR_I, m_uR_L, m_uR_R, true_and, and_true, true_implies, false_implies, not_true_eq_false, not_false_eq_true, if_true, if_false, false_and, and_false] at hlet ⊢
            exact hlet
          · rw [h2] at hlet hM3 ⊢
            rw [hM3] at hlet
            simp +decide (disch := omega) only [qX11_ahead_0, qX11_ahead_1, qX11_ahead_2, qX11_ahead_3, qX11_ahead_4, lm L2, b01, ni_add1, am_w1_i, am_w1_r, am_w1_x, am_w1_l, am_w1_w, va_rf_s, am_push_n, am_push_s, am_cs_0, am_cs_i, am_cs_l, am_cs_r, m_uI_K, m_uI_N, m_uI_R, m_uI_L, m_uI_I, m_uL_K, m_uL_N, m_uL_R, m_uL_I, m_uL_L, m_uR_K, m_uR_N, m_uR_I, m_uR_L, m_uR_R, true_and, and_true, true_implies, false_implies, not_true_eq_false, not_false_eq_true, if_true, if_false, false_and, and_false] at hlet ⊢
            exact hlet
        · -- the end of the word or number
          obtain ⟨l8, l9, lv⟩ := hl4
          have g5 : gF (fun a j => a = 277 ∧ j = 5) nT M4 (uI M4 277 5 (nI (s + i))) := gF_i _ ⟨rfl, rfl⟩
          have G5 : gF sRm nT M (uI M4 277 5 (nI (s + i))) := gF_trans G3 (gF_trans (gF_up g4 (fun a j q => by unfold sLm at q; unfold sRm; omega) (fun _ _ q => q)) (gF_up g5 (fun a j q => by unfold sRm; omega) (fun _ _ q => q)))
          have T5 := TpM_g (TpM_g T3 g4 (fun a j q w => by unfold sLm at w; omega)) g5 (fun a j q w => by omega)
          have k8 : mI (uI M4 277 5 (nI (s + i))) 277 8 = mI M4 277 8 := by rw [m_uI_I, if_neg (by omega)]
          have k9 : mI (uI M4 277 5 (nI (s + i))) 277 9 = mI M4 277 9 := by rw [m_uI_I, if_neg (by omega)]
          have hrn := (run1_le (fun i => if k = 1 then isL (T i) else isD (T i)) (n - s) s).2
          have hsi : s + i ≤ n := by omega
          by_cases hp : pre = true
          · have etk := tk_4 hs (by omega) cA (hpre.mp hp)
            refine hF (by rw [etk]) _ G5 (by
              rw [etk]
              exact ⟨T5, by rw [k8, l8, if_pos (Or.inl hp)]; rfl, by omega, by rw [k9, l9, if_pos hp]; rfl⟩)
          · have hp' : pre = false := by simpa using hp
            have hb : ¬ (0 < s ∧ isA (T (s - 1)) = true) := fun q => hp (hpre.mpr q)
            rw [if_neg hp] at l9
            have hi1 : 1 ≤ i := by
              have hsn : n - s = (n - s - 1) + 1 := by omega
              rw [hsn] at he
              have : run1 (fun i => if k = 1 then isL (T i) else isD (T i)) (n - s - 1 + 1) s = if (if k = 1 then isL (T s) else isD (T s)) = true then run1 (fun i => if k = 1 then isL (T i) else isD (T i)) (n - s - 1) (s + 1) else s := rfl
              rw [this, if_pos ((kdN_p h12).mp hk.symm)] at he
              have := (run1_le (fun i => if k = 1 then isL (T i) else isD (T i)) (n - s - 1) (s + 1)).1
              omega
            have hin : ∀ j, j < i → (if k = 1 then isL (T (s + j)) else isD (T (s + j))) = true := fun j hj => run1_in (fun i => if k = 1 then isL (T i) else isD (T i)) (n - s) s (s + j) (by omega) (by omega)
            have hlA : isA (T (s + i - 1)) = true := by
              have := hin (i - 1) (by omega)
              rw [show s + (i - 1) = s + i - 1 by omega] at this
              rw [isA_i]
              by_cases c : k = 1
              · rw [if_pos c] at this; exact Or.inl this
              · rw [if_neg c] at this; exact Or.inr this
            by_cases cm : mst k < i
            · rw [if_pos cm] at l9
              rw [if_pos (Or.inr cm)] at l8
              rcases h12 with h1 | h2
              · have ef : (fun i => if k = 1 then isL (T i) else isD (T i)) = fun i => isL (T i) := funext fun i => if_pos h1
                rw [ef] at he
                have h66 : mst k = 6 := by rw [h1]; rfl
                have etk := tk_w hs (by omega) cA hb (kdN_1.mp (by omega)) he
                rw [if_pos (by omega)] at etk
                exact hF (by rw [etk]) _ G5 (by rw [etk]; exact ⟨T5, by rw [k8, l8]; rfl, by omega, by rw [k9, l9, h66]; rfl⟩)
              · have ef : (fun i => if k = 1 then isL (T i) else isD (T i)) = fun i => isD (T i) := funext fun i => if_neg (by omega)
                rw [ef] at he
                have h66 : mst k = 4 := by rw [h2]; rfl
                have etk := tk_n hs (by omega) cA hb (fun q => by have := kdN_1.mpr q; omega) he
                rw [if_pos (by omega)] at etk
                exact hF (by rw [etk]) _ G5 (by rw [etk]; exact ⟨T5, by rw [k8, l8]; rfl, by omega, by rw [k9, l9, h66]; rfl⟩)
            · rw [if_neg cm] at l9
              rw [if_neg (fun q => q.elim hp cm)] at l8
              obtain ⟨lv1, lv2⟩ := lv hp' (by omega)
              have k3 : mI (uI M4 277 5 (nI (s + i))) 277 3 = nI k := by rw [m_uI_I, if_neg (by omega), g4.1 _ _ (by unfold sLm; omega)]; exact i3
              have k4 : mI (uI M4 277 5 (nI (s + i))) 277 4 = nI s := by rw [m_uI_I, if_neg (by omega), g4.1 _ _ (by unfold sLm; omega)]; exact i4
              rcases h12 with h1 | h2
              · have ef : (fun i => if k = 1 then isL (T i) else isD (T i)) = fun i => isL (T i) := funext fun i => if_pos h1
                rw [ef] at he
                have h66 : mst k = 6 := by rw [h1]; rfl
                have etk := tk_w hs (by omega) cA hb (kdN_1.mp (by omega)) he
                rw [if_neg (by omega), show s + i - s = i by omega] at etk
                have hlw : isWd (letV T s i) ∧ (letV T s i).length = i := by
                  refine ⟨fun c hc => ?_, by unfold letV; rw [List.length_map, List.length_range]⟩
                  unfold letV at hc
                  rw [List.mem_map] at hc
                  obtain ⟨j, hj, rfl⟩ := hc
                  rw [List.mem_range] at hj
                  have := hin j hj
                  rw [if_pos h1] at this
                  exact isL_i.mp this
                refine hN (by rw [etk]; exact (by decide : ¬ (1 : Nat) = 4)) _ G5 (by
                  rw [etk]
                  refine ⟨T5, by rw [k8]; exact l8, by rw [k9]; exact l9, by rw [k3, h1], k4, by rw [m_uI_I, if_pos ⟨rfl, rfl⟩]; rfl, fun q => by dsimp only at q; omega, fun _ => ?_, ?_⟩
                  · show mL M4 277 7 = wdL (letV T s i)
                    rw [lv1 h1]
                    unfold wdL
                    rw [← wdV_L]
                  · exact ⟨by show s + i ≤ n; omega, by show s ≤ s + i; omega, by show 1 ≤ 3; omega, fun _ => ⟨by show 0 < s + i; omega, hlA⟩, fun q => by dsimp only at q; omega, fun _ => ⟨hlw.1, by rw [hlw.2]; omega, by rw [hlw.2]; exact hi1⟩, fun q => by dsimp only at q; omega, fun q => by dsimp only at q; omega, fun _ => by show s < s + i; omega⟩)
              · have ef : (fun i => if k = 1 then isL (T i) else isD (T i)) = fun i => isD (T i) := funext fun i => if_neg (by omega)
                rw [ef] at he
                have h66 : mst k = 4 := by rw [h2]; rfl
                have etk := tk_n hs (by omega) cA hb (fun q => by have := kdN_1.mpr q; omega) he
                rw [if_neg (by omega), show s + i - s = i by omega] at etk
                have hok := tk_OK T n a
                rw [etk] at hok
                refine hN (by rw [etk]; exact (by decide : ¬ (2 : Nat) = 4)) _ G5 (by
                  rw [etk]
                  refine ⟨T5, by rw [k8]; exact l8, by rw [k9]; exact l9, by rw [k3, h2], k4, by rw [m_uI_I, if_pos ⟨rfl, rfl⟩]; rfl, fun _ => ?_, fun q => by dsimp only at q; omega, ?_⟩
                  · rw [m_uI_I, if_neg (by omega)]; exact lv2 h2
                  · exact ⟨by show s + i ≤ n; omega, by show s ≤ s + i; omega, by show 2 ≤ 3; omega, fun _ => ⟨by show 0 < s + i; omega, hlA⟩, fun q => by dsimp only at q; omega, fun q => by dsimp only at q; omega, fun _ => hok rfl, fun q => by dsimp only at q; omega, fun _ => by show s < s + i; omega⟩)
      have mf := main false M1 (gF_refl _ _ _)
      rw [if_neg (by decide), if_neg (by decide)] at mf
      have mt := main true (uI (uI M1 277 8 1) 277 9 (nI s)) (gF_trans (gF_i _ ⟨rfl, by omega⟩) (gF_i _ ⟨rfl, by omega⟩))
      rw [if_pos rfl, if_pos rfl] at mt
      have hbl := fun Q => c_m_blame d 1 (nI s) M1 Q L1
      have h2 : (isL (T s) || isD (T s)) = true := cA
      have hcond : ¬ b01 (decide (k = 1)) = 0 ∨ (b01 (decide (k = 1)) = 0 ∧ ¬ b01 (decide (k = 2)) = 0) := by
        rcases h12 with q | q
        · exact Or.inl (by rw [q]; decide)
        · exact Or.inr (by rw [q]; decide)
      have s93 : am_P am_P0 (d + 1) (am_look tX11_ahead) 93 [.ref 277, .int (nI s), .int (b01 (decide (k = 1))), .int (b01 (decide (k = 2))), am_x, am_x] [] M1 Q := by
        by_cases c0 : s = 0
        · have h0 := mf ⟨fun q => (by cases q), fun q => absurd q.1 (by omega)⟩ w8 w9
          have hle : nI s ≤ 0 := by rw [c0]; decide
          simp +decide (disch := omega) only [qX11_ahead_0, qX11_ahead_1, qX11_ahead_2, qX11_ahead_3, qX11_ahead_4, lm L1, am_w1_i, am_w1_r, am_w1_x, am_w1_l, am_w1_w, va_rf_s, am_push_n, am_push_s, am_cs_0, am_cs_i, am_cs_l, am_cs_r, m_uI_K, m_uI_N, m_uI_R, m_uI_L, m_uI_I, m_uL_K, m_uL_N, m_uL_R, m_uL_I, m_uL_L, m_uR_K, m_uR_N, m_uR_I, m_uR_L, m_uR_R, true_and, and_true, true_implies, false_implies, not_true_eq_false, not_false_eq_true, if_true, if_false, false_and, and_false] at h0 ⊢
          rw [br_p hle]
          exact h0
        · have hle : ¬ nI s ≤ 0 := by rw [show (0 : Int32) = nI 0 from rfl, ni_le (by omega) (by omega)]; omega
          have es1 : nI s - 1 = nI (s - 1) := by rw [show (1 : Int32) = nI 1 from rfl, ni_sub (by omega)]
          obtain ⟨y5, y6⟩ := u4 (s - 1) (by omega)
          have ml' := fun Q => (m_let d (T (s - 1)) M1 Q y5).1
          have md' := fun Q => (m_let d (T (s - 1)) M1 Q y5).2
          have hw8 : ¬ (0 : Int32) < 0 := by decide
          by_cases cb : isA (T (s - 1)) = true
          · have h0 := mt ⟨fun _ => ⟨by omega, cb⟩, fun _ => rfl⟩ (by simp [m_uI_I]) (by simp [m_uI_I])
            have LM : Lay (uI (uI M1 277 8 1) 277 9 (nI s)) := L1
            simp +decide (disch := omega) only [qX11_ahead_0, qX11_ahead_1, qX11_ahead_2, qX11_ahead_3, qX11_ahead_4, lm L1, lm LM, es1, y6, ml', md', hbl, w8, hw8, ni_in_t, ni_tn, am_w1_i, am_w1_r, am_w1_x, am_w1_l, am_w1_w, va_rf_s, am_push_n, am_push_s, am_cs_0, am_cs_i, am_cs_l, am_cs_r, m_uI_K, m_uI_N, m_uI_R, m_uI_L, m_uI_I, m_uL_K, m_uL_N, m_uL_R, m_uL_I, m_uL_L, m_uR_K, m_uR_N, m_uR_I, m_uR_L, m_uR_R, true_and, and_true, true_implies, false_implies, not_true_eq_false, not_false_eq_true, if_true, if_false, false_and, and_false] at h0 ⊢
            rw [br_n hle]
            rcases isA_i.mp cb with q | q
            · rw [q, br_p (by decide)]; exact h0
            · by_cases q2 : isL (T (s - 1)) = true
              · rw [q2, br_p (by decide)]; exact h0
              · have q2' : isL (T (s - 1)) = false := by simpa using q2
                rw [q2', br_n (by decide), q, br_n (by decide)]; exact h0
          · have h0 := mf ⟨fun q => (by cases q), fun q => absurd q.2 cb⟩ w8 w9
            rw [isA_i] at cb
            have q1 : isL (T (s - 1)) = false := by
              by_cases q : isL (T (s - 1)) = true
              · exact absurd (Or.inl q) cb
              · simpa using q
            have q2 : isD (T (s - 1)) = false := by
              by_cases q : isD (T (s - 1)) = true
              · exact absurd (Or.inr q) cb
              · simpa using q
            simp +decide (disch := omega) only [qX11_ahead_0, qX11_ahead_1, qX11_ahead_2, qX11_ahead_3, qX11_ahead_4, lm L1, es1, y6, ml', md', q1, q2, b01, ni_in_t, ni_tn, am_w1_i, am_w1_r, am_w1_x, am_w1_l, am_w1_w, va_rf_s, am_push_n, am_push_s, am_cs_0, am_cs_i, am_cs_l, am_cs_r, m_uI_K, m_uI_N, m_uI_R, m_uI_L, m_uI_I, m_uL_K, m_uL_N, m_uL_R, m_uL_I, m_uL_L, m_uR_K, m_uR_N, m_uR_I, m_uR_L, m_uR_R, true_and, and_true, true_implies, false_implies, not_true_eq_false, not_false_eq_true, if_true, if_false, false_and, and_false] at h0 ⊢
            rw [br_n hle]
            exact h0
      rw [hM1] at s93 x6 ml md
      have L1' : Lay (uI (uI (uI M 277 4 (nI s)) 277 5 (nI s)) 277 3 0) := hL
      rw [hlL] at ml
      rw [hlD] at md
      simp +decide (disch := omega) only [qX11_ahead_0, qX11_ahead_1, qX11_ahead_2, qX11_ahead_3, qX11_ahead_4, lm hL, lm L1', t2, v6, ml, md, ni_in_t, ni_tn, ni_add1, am_w1_i, am_w1_r, am_w1_x, am_w1_l, am_w1_w, va_rf_s, am_push_n, am_push_s, am_cs_0, am_cs_i, am_cs_l, am_cs_r, m_uI_K, m_uI_N, m_uI_R, m_uI_L, m_uI_I, m_uL_K, m_uL_N, m_uL_R, m_uL_I, m_uL_L, m_uR_K, m_uR_N, m_uR_I, m_uR_L, m_uR_R, true_and, and_true, true_implies, false_implies, not_true_eq_false, not_false_eq_true, if_true, if_false, false_and, and_false] at s93 ⊢
      rw [br_p hlt]
      rcases h12 with q | q
      · rw [q] at s93 ⊢
        simp +decide only [b01, am_w1_i, am_w1_r, am_w1_x, am_w1_l, am_w1_w, va_rf_s, am_push_n, am_push_s, am_cs_0, am_cs_i, am_cs_l, am_cs_r, m_uI_K, m_uI_N, m_uI_R, m_uI_L, m_uI_I, m_uL_K, m_uL_N, m_uL_R, m_uL_I, m_uL_L, m_uR_K, m_uR_N, m_uR_I, m_uR_L, m_uR_R, true_and, and_true, true_implies, false_implies, not_true_eq_false, not_false_eq_true, if_true, if_false, false_and, and_false] at s93 ⊢
        exact s93
      · rw [q] at s93 ⊢
        simp +decide only [b01, am_w1_i, am_w1_r, am_w1_x, am_w1_l, am_w1_w, va_rf_s, am_push_n, am_push_s, am_cs_0, am_cs_i, am_cs_l, am_cs_r, m_uI_K, m_uI_N, m_uI_R, m_uI_L, m_uI_I, m_uL_K, m_uL_N, m_uL_R, m_uL_I, m_uL_L, m_uR_K, m_uR_N, m_uR_I, m_uR_L, m_uR_R, true_and, and_true, true_implies, false_implies, not_true_eq_false, not_false_eq_true, if_true, if_false, false_and, and_false] at s93 ⊢
        exact s93
    · have etk := tk_sg hs (by omega) cA
      rw [isA_i] at cA
      have q1 : isL (T s) = false := by
        by_cases q : isL (T s) = true
        · exact absurd (Or.inl q) cA
        · simpa using q
      have q2 : isD (T s) = false := by
        by_cases q : isD (T s) = true
        · exact absurd (Or.inr q) cA
        · simpa using q
      have G2 : gF sRm nT M (uI (uI (uI (uL (uI (uI (uI (uI M 277 4 (nI s)) 277 5 (nI s)) 277 3 0) 277 6 0) 277 7 0) 277 3 3) 277 5 (nI (s + 1))) 277 6 (nI (T s))) := by
        rw [hM1] at G1
        exact gF_trans G1 (gF_trans (gF_i _ ⟨rfl, by omega, by omega⟩) (gF_trans (gF_l _ ⟨rfl, by omega, by omega⟩) (gF_trans (gF_i _ ⟨rfl, by omega, by omega⟩) (gF_trans (gF_i _ ⟨rfl, by omega, by omega⟩) (gF_i _ ⟨rfl, by omega, by omega⟩)))))
      have h0 := hN (by rw [etk]; exact (by decide : ¬ (3 : Nat) = 4)) _ G2 (by
        rw [etk]
        refine ⟨TpM_g hT G2 (fun a j q w => by unfold sRm at w; omega), by simp [m_uI_I, m_uL_I, h8], by simp [m_uI_I, m_uL_I, h9], by simp [m_uI_I, m_uL_I]; rfl, by simp [m_uI_I, m_uL_I, tS], by simp [m_uI_I, m_uL_I, tE], fun _ => by simp [m_uI_I], fun q => by dsimp only at q; omega, ?_⟩
        exact ⟨by show s + 1 ≤ n; omega, by show s ≤ s + 1; omega, by show 3 ≤ 3; omega, fun q => by dsimp only at q; omega, fun _ => Or.inr (Or.inr (by show ¬ isA (T (s + 1 - 1)) = true; rw [Nat.add_sub_cancel, isA_i]; exact cA)), fun q => by dsimp only at q; omega, fun q => by dsimp only at q; omega, fun _ => v5, fun _ => by show s < s + 1; omega⟩)
      rw [hM1] at x6 ml md
      have L1' : Lay (uI (uI (uI M 277 4 (nI s)) 277 5 (nI s)) 277 3 0) := hL
      simp +decide (disch := omega) only [qX11_ahead_0, qX11_ahead_1, qX11_ahead_2, qX11_ahead_3, qX11_ahead_4, lm hL, lm L1', t2, v6, ml, md, q1, q2, b01, ni_in_t, ni_tn, ni_add1, am_w1_i, am_w1_r, am_w1_x, am_w1_l, am_w1_w, va_rf_s, am_push_n, am_push_s, am_cs_0, am_cs_i, am_cs_l, am_cs_r, m_uI_K, m_uI_N, m_uI_R, m_uI_L, m_uI_I, m_uL_K, m_uL_N, m_uL_R, m_uL_I, m_uL_L, m_uR_K, m_uR_N, m_uR_I, m_uR_L, m_uR_R, true_and, and_true, true_implies, false_implies, not_true_eq_false, not_false_eq_true, if_true, if_false, false_and, and_false]
      rw [br_p hlt]
      exact h0
