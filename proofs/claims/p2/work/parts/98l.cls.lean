/-! clash -/
def hrN (Y : List Sy) (i : Nat) : Int32 := nI (Y[i]?.getD (0, 0, false)).1
section
variable (w : Nat → Prop) (v : Nat) (snd : Nat → Bool → Prop) (B : List Fct) (Y : List Sy)
noncomputable def clA (k : Nat) : Int32 := if cl2 w v Y Y.length < Y.length ∧ cl2 w v Y Y.length < cl1 w v snd B Y then (if k = 0 then nI (cl3 w v Y (cl2 w v Y Y.length)) else if k = 1 then nI (cl2 w v Y Y.length) else hrN Y (cl3 w v Y (cl2 w v Y Y.length))) else if cl1 w v snd B Y < Y.length then (if k = 0 then -1 else if k = 1 then nI (cl1 w v snd B Y) else hrN Y (cl1 w v snd B Y)) else -1
end
noncomputable def aCls (v w : Int32) (D : Dat) : Value := .int (if (0 ≤ v.toInt ∧ v.toInt < dN D) ∧ 0 ≤ w.toInt ∧ w.toInt ≤ 2 then clA (dWt D v.toInt.toNat) (dV D v.toInt.toNat) (dSn D v.toInt.toNat) (dBs D v.toInt.toNat) (dY D v.toInt.toNat) w.toInt.toNat else -1)
theorem x_clash (v w : Int32) : XqO 125 [.int v, .int w] (aCls v w) := by
  intro d M z D Q hD h hQ
  have hz := h.1.2.2.1
  have hL := h.1.1
  have n8 := dN_8 hD
  have eS := fun v Q => x_isShip hD h (d + 19) v Q
  have e2 : (2 : Int32).toInt = 2 := rfl
  unfold aCls at hQ
  rw [eX10_clash]
  simp +decide only [qX10_clash_0, qX10_clash_1, lx hL, eS, bI_0, Classical.not_not, am_w1_i, am_w1_r, am_w1_x, am_w1_l, am_w1_w, va_rf_s, am_push_n, am_push_s, am_cs_0, am_cs_i, am_cs_l, am_cs_r, m_uI_K, m_uI_N, m_uI_R, m_uI_L, m_uI_I, m_uL_K, m_uL_N, m_uL_R, m_uL_I, m_uL_L, m_uR_K, m_uR_N, m_uR_I, m_uR_L, m_uR_R, true_and, and_true, true_implies, false_implies, not_true_eq_false, not_false_eq_true, if_true, if_false, false_and, and_false]
  by_cases hv : 0 ≤ v.toInt ∧ v.toInt < dN D
  · first | rw [br_p (hv)] | rw [br_r (hv)] | rw [br_s (hv)]
    by_cases w0 : w < 0
    · have h0 := hQ M (XR_2 h) h
      rw [if_neg (fun q => by rw [lt32, z32] at w0; omega)] at h0
      first | rw [br_p (w0)] | rw [br_r (w0)] | rw [br_s (w0)]
      exact h0
    · first | rw [br_n (w0)] | rw [br_q (w0)] | rw [br_u (w0)]
      rw [lt32, z32] at w0
      by_cases w2 : w ≤ 2
      · first | rw [br_p (w2)] | rw [br_r (w2)] | rw [br_s (w2)]
        rw [le32, e2] at w2
        rw [if_pos ⟨hv, by omega, by omega⟩] at hQ
        obtain ⟨s, s1, s2, s3⟩ := sh_of (by omega) hv
        rw [s3] at hQ
        obtain ⟨k, hk⟩ : ∃ k, w.toInt.toNat = k := ⟨_, rfl⟩
        have ek : w = nI k := i32_of (by omega) (by omega)
        rw [hk] at hQ
        rw [s2, ek]
        refine x_settled hD h (d + 14) s1 _ (fun M1 g1 X1 _ S1 => ?_)
        have L1 := X1.1.1
        have ht1 := lt_ L1 (isTr_of (show s < 8 by omega))
        have hT1 := (X1.2.2.2.1 s s1).1
        have ea := fun Q => c_x_clashAlone (d + 19) s (z + 25 + 7 * s) z (dV D s) (dWt D s) (dDp D) (dDr D s) (dLd D s) (dBs D s) (dY D s) M1 Q L1 (by omega) (isSh_z hz (by omega)) hT1 S1.2.1
        simp +decide only [qX10_clash_0, qX10_clash_1, ht1, ea, am_w1_i, am_w1_r, am_w1_x, am_w1_l, am_w1_w, va_rf_s, am_push_n, am_push_s, am_cs_0, am_cs_i, am_cs_l, am_cs_r, m_uI_K, m_uI_N, m_uI_R, m_uI_L, m_uI_I, m_uL_K, m_uL_N, m_uL_R, m_uL_I, m_uL_L, m_uR_K, m_uR_N, m_uR_I, m_uR_L, m_uR_R, true_and, and_true, true_implies, false_implies, not_true_eq_false, not_false_eq_true, if_true, if_false, false_and, and_false]
        refine c_x_clashOfTwo (d + 15) s (z + 25 + 7 * s) z (dV D s) (cl1 (dWt D s) (dV D s) (sndP (dDp D) (dDr D s) (dLd D s)) (dBs D s) (dY D s)) (dWt D s) (dDp D) (dDr D s) (dLd D s) (dBs D s) (dY D s) M1 _ L1 X1.1.2.1 (by omega) (isSh_z hz (by omega)) hz (fs_le _ _) hT1 (fun M2 g2 => ?_)
        have X2 := XR_r hD X1 g2
        have h0 := hQ M2 (zF_trans g1 (zF_r g2)) X2
        unfold clA at h0
        have L2 := X2.1.1
        have ht2 := lt_ L2 (isTr_of (show s < 8 by omega))
        have hw_ := lw_ L2 (isSh_z (z := z) (s := s) hz (by omega))
        have hg2 := (X2.2.2.2.1 s s1).1.2.1.1
        have h48 := dY_len hD s
        have hSy := (x_ship X2 s1).2.1
        have hk2 : k ≤ 2 := by omega
        rw [show dSn D s = sndP (dDp D) (dDr D s) (dLd D s) from rfl] at h0
        obtain ⟨a, ha⟩ : ∃ a, a = cl1 (dWt D s) (dV D s) (sndP (dDp D) (dDr D s) (dLd D s)) (dBs D s) (dY D s) := ⟨_, rfl⟩
        have hal : a ≤ (dY D s).length := by rw [ha]; exact fs_le _ _
        have hcut := fs_cut (c := fun i => decide (cl3 (dWt D s) (dV D s) (dY D s) i < i)) hal
        have hle2 : cl2 (dWt D s) (dV D s) (dY D s) (dY D s).length ≤ (dY D s).length := fs_le _ _
        rw [← ha] at h0 ⊢
        have hhr : ∀ i, i < (dY D s).length → mI M2 (z + 25 + 7 * s + 1) i = hrN (dY D s) i := fun i hi => by
          have e := List.getElem?_eq_getElem hi
          unfold hrN
          rw [e]
          exact (hSy.2.2 i _ e).2.1
        by_cases c : cl2 (dWt D s) (dV D s) (dY D s) a < a
        · have e1 : cl2 (dWt D s) (dV D s) (dY D s) (dY D s).length = cl2 (dWt D s) (dV D s) (dY D s) a := hcut.1 c
          rw [if_pos c]
          rw [e1, if_pos ⟨by omega, c⟩] at h0
          obtain ⟨l, hl⟩ : ∃ l, l = cl2 (dWt D s) (dV D s) (dY D s) a := ⟨_, rfl⟩
          rw [← hl] at h0 c ⊢
          have hl3 : cl3 (dWt D s) (dV D s) (dY D s) l < l := by
            have := fs_at (fun i => decide (cl3 (dWt D s) (dV D s) (dY D s) i < i)) a (by rw [show fs _ a = l from hl.symm]; exact c)
            rw [show fs _ a = l from hl.symm] at this
            exact of_decide_eq_true this
          obtain ⟨e, he⟩ : ∃ e, e = cl3 (dWt D s) (dV D s) (dY D s) l := ⟨_, rfl⟩
          rw [← he] at h0 hl3 ⊢
          have hne : ¬ nI (48 * l + e) = -1 := nI_m1 (by omega)
          have er : nI (48 * l + e) - nI l * 48 = nI e := by
            rw [show (48 : Int32) = nI 48 from rfl, ni_mul, ni_sub (by omega)]
            congr 1
            omega
          have ed : nI (48 * l + e) / 48 = nI l := by
            rw [show (48 : Int32) = nI 48 from rfl, ni_div (by omega) (by omega)]
            congr 1
            omega
          have he1 := hhr e (by omega)
          have d48 : ¬ (48 : Int32) = 0 := by decide
          simp +decide (disch := omega) only [qX10_clash_0, qX10_clash_1, er, ed, ht2, hg2, hw_, he1, ni_in_t, ni_tn, am_w1_i, am_w1_r, am_w1_x, am_w1_l, am_w1_w, va_rf_s, am_push_n, am_push_s, am_cs_0, am_cs_i, am_cs_l, am_cs_r, m_uI_K, m_uI_N, m_uI_R, m_uI_L, m_uI_I, m_uL_K, m_uL_N, m_uL_R, m_uL_I, m_uL_L, m_uR_K, m_uR_N, m_uR_I, m_uR_L, m_uR_R, true_and, and_true, true_implies, false_implies, not_true_eq_false, not_false_eq_true, if_true, if_false, false_and, and_false]
          first | rw [br_n (hne)] | rw [br_q (hne)] | rw [br_u (hne)]
          rcases (by omega : k = 0 ∨ k = 1 ∨ k = 2) with q | q | q <;> subst q
          · simp +decide only [show nI 0 = (0 : Int32) from rfl, if_true, am_w1_i, am_w1_r, am_w1_x, am_w1_l, am_w1_w, va_rf_s, am_push_n, am_push_s, am_cs_0, am_cs_i, am_cs_l, am_cs_r, m_uI_K, m_uI_N, m_uI_R, m_uI_L, m_uI_I, m_uL_K, m_uL_N, m_uL_R, m_uL_I, m_uL_L, m_uR_K, m_uR_N, m_uR_I, m_uR_L, m_uR_R, true_and, and_true, true_implies, false_implies, not_true_eq_false, not_false_eq_true, if_true, if_false, false_and, and_false] at h0 ⊢
            exact h0
          · simp +decide only [show nI 1 = (1 : Int32) from rfl, if_true, if_false, am_w1_i, am_w1_r, am_w1_x, am_w1_l, am_w1_w, va_rf_s, am_push_n, am_push_s, am_cs_0, am_cs_i, am_cs_l, am_cs_r, m_uI_K, m_uI_N, m_uI_R, m_uI_L, m_uI_I, m_uL_K, m_uL_N, m_uL_R, m_uL_I, m_uL_L, m_uR_K, m_uR_N, m_uR_I, m_uR_L, m_uR_R, true_and, and_true, true_implies, false_implies, not_true_eq_false, not_false_eq_true, if_true, if_false, false_and, and_false] at h0 ⊢
            exact h0
          · simp +decide only [show nI 2 = (2 : Int32) from rfl, if_true, if_false, am_w1_i, am_w1_r, am_w1_x, am_w1_l, am_w1_w, va_rf_s, am_push_n, am_push_s, am_cs_0, am_cs_i, am_cs_l, am_cs_r, m_uI_K, m_uI_N, m_uI_R, m_uI_L, m_uI_I, m_uL_K, m_uL_N, m_uL_R, m_uL_I, m_uL_L, m_uR_K, m_uR_N, m_uR_I, m_uR_L, m_uR_R, true_and, and_true, true_implies, false_implies, not_true_eq_false, not_false_eq_true, if_true, if_false, false_and, and_false] at h0 ⊢
            exact h0
        · have hge : a ≤ cl2 (dWt D s) (dV D s) (dY D s) (dY D s).length := by
            by_cases q : cl2 (dWt D s) (dV D s) (dY D s) a = a
            · exact hcut.2 q
            · have : cl2 (dWt D s) (dV D s) (dY D s) a ≤ a := fs_le _ _
              omega
          rw [if_neg c]
          rw [if_neg (by omega)] at h0
          unfold oI
          by_cases c2 : a < (dY D s).length
          · rw [if_pos c2] at h0 ⊢
            have hne : ¬ nI a = -1 := nI_m1 (by omega)
            have he1 := hhr a (by omega)
            simp +decide (disch := omega) only [qX10_clash_0, qX10_clash_1, ht2, hg2, hw_, he1, ni_in_t, ni_tn, am_w1_i, am_w1_r, am_w1_x, am_w1_l, am_w1_w, va_rf_s, am_push_n, am_push_s, am_cs_0, am_cs_i, am_cs_l, am_cs_r, m_uI_K, m_uI_N, m_uI_R, m_uI_L, m_uI_I, m_uL_K, m_uL_N, m_uL_R, m_uL_I, m_uL_L, m_uR_K, m_uR_N, m_uR_I, m_uR_L, m_uR_R, true_and, and_true, true_implies, false_implies, not_true_eq_false, not_false_eq_true, if_true, if_false, false_and, and_false]
            first | rw [br_n (hne)] | rw [br_q (hne)] | rw [br_u (hne)]
            rcases (by omega : k = 0 ∨ k = 1 ∨ k = 2) with q | q | q <;> subst q
            · simp +decide only [show nI 0 = (0 : Int32) from rfl, if_true, am_w1_i, am_w1_r, am_w1_x, am_w1_l, am_w1_w, va_rf_s, am_push_n, am_push_s, am_cs_0, am_cs_i, am_cs_l, am_cs_r, m_uI_K, m_uI_N, m_uI_R, m_uI_L, m_uI_I, m_uL_K, m_uL_N, m_uL_R, m_uL_I, m_uL_L, m_uR_K, m_uR_N, m_uR_I, m_uR_L, m_uR_R, true_and, and_true, true_implies, false_implies, not_true_eq_false, not_false_eq_true, if_true, if_false, false_and, and_false] at h0 ⊢
              exact h0
            · simp +decide only [show nI 1 = (1 : Int32) from rfl, if_true, if_false, am_w1_i, am_w1_r, am_w1_x, am_w1_l, am_w1_w, va_rf_s, am_push_n, am_push_s, am_cs_0, am_cs_i, am_cs_l, am_cs_r, m_uI_K, m_uI_N, m_uI_R, m_uI_L, m_uI_I, m_uL_K, m_uL_N, m_uL_R, m_uL_I, m_uL_L, m_uR_K, m_uR_N, m_uR_I, m_uR_L, m_uR_R, true_and, and_true, true_implies, false_implies, not_true_eq_false, not_false_eq_true, if_true, if_false, false_and, and_false] at h0 ⊢
              exact h0
            · simp +decide only [show nI 2 = (2 : Int32) from rfl, if_true, if_false, am_w1_i, am_w1_r, am_w1_x, am_w1_l, am_w1_w, va_rf_s, am_push_n, am_push_s, am_cs_0, am_cs_i, am_cs_l, am_cs_r, m_uI_K, m_uI_N, m_uI_R, m_uI_L, m_uI_I, m_uL_K, m_uL_N, m_uL_R, m_uL_I, m_uL_L, m_uR_K, m_uR_N, m_uR_I, m_uR_L, m_uR_R, true_and, and_true, true_implies, false_implies, not_true_eq_false, not_false_eq_true, if_true, if_false, false_and, and_false] at h0 ⊢
              exact h0
          · rw [if_neg c2] at h0 ⊢
            simp +decide only [qX10_clash_0, qX10_clash_1, am_w1_i, am_w1_r, am_w1_x, am_w1_l, am_w1_w, va_rf_s, am_push_n, am_push_s, am_cs_0, am_cs_i, am_cs_l, am_cs_r, m_uI_K, m_uI_N, m_uI_R, m_uI_L, m_uI_I, m_uL_K, m_uL_N, m_uL_R, m_uL_I, m_uL_L, m_uR_K, m_uR_N, m_uR_I, m_uR_L, m_uR_R, true_and, and_true, true_implies, false_implies, not_true_eq_false, not_false_eq_true, if_true, if_false, false_and, and_false]
            exact h0
      · have h0 := hQ M (XR_2 h) h
        rw [if_neg (fun q => w2 (by rw [le32, e2]; omega))] at h0
        first | rw [br_n (w2)] | rw [br_q (w2)] | rw [br_u (w2)]
        exact h0
  · have h0 := hQ M (XR_2 h) h
    rw [if_neg (fun q => hv q.1)] at h0
    first | rw [br_n (hv)] | rw [br_q (hv)] | rw [br_u (hv)]
    exact h0
theorem goF_symm {w : Nat → Prop} {v : Nat} {Y : List Sy} (i j : Nat) : goF w v Y i j = goF w v Y j i := by
  unfold goF
  congr 1
  apply propext
  constructor
  · rintro ⟨y, y', a, b, c⟩; exact ⟨y', y, b, a, gow_symm c⟩
  · rintro ⟨y, y', a, b, c⟩; exact ⟨y', y, b, a, gow_symm c⟩
section
variable (d : Nat) (w : Nat → Prop) (v : Nat) (snd : Nat → Bool → Prop) (B : List Fct) (Y : List Sy) (M : am_M) (Q : Option Value → am_M → Prop) (x1 x2 : Int32)
theorem l_m_cls2 (hL : Lay M) (hP : PrM w v snd B Y M Y.length) (h48 : Y.length ≤ 48) (i : Nat) (hi : i < Y.length) (x3 : Int32)
    (h1 : cl3 w v Y i = i → ∀ v7, jk v7 → am_P am_P0 d (am_look tX11_clash) 115 [.ref 277, .int x1, .int x2, .int x3, .int (-1), .int (-1), .int (nI i), v7] [] M Q)
    (h2 : cl3 w v Y i < i → ∀ v7, jk v7 → am_P am_P0 d (am_look tX11_clash) 115 [.ref 277, .int x1, .int x2, .int x3, .int (nI i), .int (nI (cl3 w v Y i)), .int (nI i), v7] [] M Q) :
    ∀ (m j : Nat), j + m = i → (∀ k, k < j → (!goF w v Y k i) = false) → am_P am_P0 d (am_look tX11_clash) 69 [.ref 277, .int x1, .int x2, .int x3, .int (-1), .int (-1), .int (nI i), .int (nI j)] [] M Q := by
  intro m
  induction m with
  | zero =>
    intro j hj hb
    have hle : nI i ≤ nI j := (ni_le (by omega) (by omega)).mpr (by omega)
    have h0 := h1 (fs_all (by rw [← (show j = i by omega)]; exact fun k hk => by rw [(show j = i by omega)]; exact hb k hk)) (.int (nI j)) (Or.inr ⟨_, rfl⟩)
    rw [hX11_clash_69]
    simp +decide only [qX11_clash_0, qX11_clash_1, qX11_clash_2, am_w1_i, am_w1_r, am_w1_x, am_w1_l, am_w1_w, va_rf_s, am_push_n, am_push_s, am_cs_0, am_cs_i, am_cs_l, am_cs_r, m_uI_K, m_uI_N, m_uI_R, m_uI_L, m_uI_I, m_uL_K, m_uL_N, m_uL_R, m_uL_I, m_uL_L, m_uR_K, m_uR_N, m_uR_I, m_uR_L, m_uR_R, true_and, and_true, true_implies, false_implies, not_true_eq_false, not_false_eq_true, if_true, if_false, false_and, and_false] at h0 ⊢
    first | rw [br_p (hle)] | rw [br_r (hle)] | rw [br_s (hle)]
    exact h0
  | succ m ih =>
    intro j hj hb
    have hlt : ¬ nI i ≤ nI j := by rw [ni_le (by omega) (by omega)]; omega
    have e48 : (48 : Int32) * nI i + nI j = nI (48 * i + j) := by rw [show (48 : Int32) = nI 48 from rfl, ni_mul, ni_add]
    obtain ⟨y, hy⟩ : ∃ y, Y[i]? = some y := ⟨Y[i]'hi, List.getElem?_eq_getElem hi⟩
    obtain ⟨y', hy'⟩ : ∃ y, Y[j]? = some y := ⟨Y[j]'(by omega), List.getElem?_eq_getElem (by omega)⟩
    have hg := hP.2.2 i j y y' hi hy hy'
    rw [hX11_clash_69]
    simp +decide (disch := omega) only [qX11_clash_0, qX11_clash_1, qX11_clash_2, lm hL, e48, hg, tI_01, tI_0, ni_in_t, ni_tn, ni_add1, am_w1_i, am_w1_r, am_w1_x, am_w1_l, am_w1_w, va_rf_s, am_push_n, am_push_s, am_cs_0, am_cs_i, am_cs_l, am_cs_r, m_uI_K, m_uI_N, m_uI_R, m_uI_L, m_uI_I, m_uL_K, m_uL_N, m_uL_R, m_uL_I, m_uL_L, m_uR_K, m_uR_N, m_uR_I, m_uR_L, m_uR_R, true_and, and_true, true_implies, false_implies, not_true_eq_false, not_false_eq_true, if_true, if_false, false_and, and_false]
    first | rw [br_n (hlt)] | rw [br_q (hlt)] | rw [br_u (hlt)]
    by_cases c : gowY w v y y'
    · first | rw [br_p (c)] | rw [br_r (c)] | rw [br_s (c)]
      exact ih (j + 1) (by omega) (fun k hk => by
        by_cases e : k = j
        · subst e; rw [goF_symm, (goF_y hy hy').mpr c]; rfl
        · exact hb k (by omega))
    · first | rw [br_n (c)] | rw [br_q (c)] | rw [br_u (c)]
      have e3 : cl3 w v Y i = j := fs_is hb (by omega) (by
        have : ¬ goF w v Y j i = true := fun q => c ((goF_y hy hy').mp (by rw [goF_symm]; exact q))
        simp [this])
      have h0 := h2 (by omega) (.int (nI (j + 1))) (Or.inr ⟨_, rfl⟩)
      rw [e3] at h0
      have hne : ¬ nI i = -1 := nI_m1 (by omega)
      rw [hX11_clash_69]
      simp +decide only [qX11_clash_0, qX11_clash_1, qX11_clash_2, am_w1_i, am_w1_r, am_w1_x, am_w1_l, am_w1_w, va_rf_s, am_push_n, am_push_s, am_cs_0, am_cs_i, am_cs_l, am_cs_r, m_uI_K, m_uI_N, m_uI_R, m_uI_L, m_uI_I, m_uL_K, m_uL_N, m_uL_R, m_uL_I, m_uL_L, m_uR_K, m_uR_N, m_uR_I, m_uR_L, m_uR_R, true_and, and_true, true_implies, false_implies, not_true_eq_false, not_false_eq_true, if_true, if_false, false_and, and_false] at h0 ⊢
      by_cases c3 : nI i ≤ nI (j + 1)
      · first | rw [br_p (c3)] | rw [br_r (c3)] | rw [br_s (c3)]
        exact h0
      · first | rw [br_n (c3)] | rw [br_q (c3)] | rw [br_u (c3)]
        first | rw [br_p (hne)] | rw [br_r (hne)] | rw [br_s (hne)]
        exact h0
/-- the first that clash, so far -/
theorem l_m_cls1 (hL : Lay M) (hP : PrM w v snd B Y M Y.length) (h48 : Y.length ≤ 48)
    (hN : ∀ v7, jk v7 → am_P am_P0 d (am_look tX11_clash) 121 [.ref 277, .int x1, .int x2, .int (oI (cl1 w v snd B Y) Y.length), .int (oI (cl2 w v Y Y.length) Y.length), .int (if cl2 w v Y Y.length < Y.length then nI (cl3 w v Y (cl2 w v Y Y.length)) else -1), .int (nI Y.length), v7] [] M Q) :
    ∀ (m i : Nat), i + m = Y.length → ∀ (v7 : Value), jk v7 → am_P am_P0 d (am_look tX11_clash) 35 [.ref 277, .int x1, .int x2, .int (oI (fs (fun i => !gdF w v snd B Y i) i) i), .int (oI (cl2 w v Y i) i), .int (if cl2 w v Y i < i then nI (cl3 w v Y (cl2 w v Y i)) else -1), .int (nI i), v7] [] M Q := by
  intro m
  induction m with
  | zero =>
    intro i hi v7 hv7
    have ei : i = Y.length := by omega
    subst ei
    have hle : nI Y.length ≤ nI Y.length := (ni_le (by omega) (by omega)).mpr (by omega)
    have h0 := hN v7 hv7
    rw [hX11_clash_35]
    simp +decide only [qX11_clash_0, qX11_clash_1, qX11_clash_2, lm hL, hP.1.1, jk_w hv7, am_w1_i, am_w1_r, am_w1_x, am_w1_l, am_w1_w, va_rf_s, am_push_n, am_push_s, am_cs_0, am_cs_i, am_cs_l, am_cs_r, m_uI_K, m_uI_N, m_uI_R, m_uI_L, m_uI_I, m_uL_K, m_uL_N, m_uL_R, m_uL_I, m_uL_L, m_uR_K, m_uR_N, m_uR_I, m_uR_L, m_uR_R, true_and, and_true, true_implies, false_implies, not_true_eq_false, not_false_eq_true, if_true, if_false, false_and, and_false] at h0 ⊢
    first | rw [br_p (hle)] | rw [br_r (hle)] | rw [br_s (hle)]
    exact h0
  | succ m ih =>
    intro i hi v7 hv7
    have hlt : ¬ nI Y.length ≤ nI i := by rw [ni_le (by omega) (by omega)]; omega
    obtain ⟨y, hy⟩ : ∃ y, Y[i]? = some y := ⟨Y[i]'(by omega), List.getElem?_eq_getElem (by omega)⟩
    have hg := hP.2.1 i y (by omega) hy
    have hi2 : i < Y.length := by omega
    -- behind the first choice
    have key : am_P am_P0 d (am_look tX11_clash) 69 [.ref 277, .int x1, .int x2, .int (oI (fs (fun i => !gdF w v snd B Y i) (i + 1)) (i + 1)), .int (oI (cl2 w v Y i) i), .int (if cl2 w v Y i < i then nI (cl3 w v Y (cl2 w v Y i)) else -1), .int (nI i), .int (nI 0)] [] M Q := by
      by_cases c : cl2 w v Y i < i
      · have e2 : cl2 w v Y (i + 1) = cl2 w v Y i := (fs_cut (c := fun i => decide (cl3 w v Y i < i)) (show i ≤ i + 1 by omega)).1 c
        have h0 := ih (i + 1) (by omega) (.int (nI 0)) (Or.inr ⟨_, rfl⟩)
        rw [e2, if_pos (by omega)] at h0
        unfold oI at h0 ⊢
        rw [if_pos (show cl2 w v Y i < i + 1 by omega)] at h0
        rw [if_pos c, if_pos c]
        have hne : ¬ nI (cl2 w v Y i) = -1 := nI_m1 (by omega)
        rw [hX11_clash_69]
        simp +decide only [qX11_clash_0, qX11_clash_1, qX11_clash_2, ni_add1, am_w1_i, am_w1_r, am_w1_x, am_w1_l, am_w1_w, va_rf_s, am_push_n, am_push_s, am_cs_0, am_cs_i, am_cs_l, am_cs_r, m_uI_K, m_uI_N, m_uI_R, m_uI_L, m_uI_I, m_uL_K, m_uL_N, m_uL_R, m_uL_I, m_uL_L, m_uR_K, m_uR_N, m_uR_I, m_uR_L, m_uR_R, true_and, and_true, true_implies, false_implies, not_true_eq_false, not_false_eq_true, if_true, if_false, false_and, and_false] at h0 ⊢
        by_cases c3 : nI i ≤ nI 0
        · first | rw [br_p (c3)] | rw [br_r (c3)] | rw [br_s (c3)]
          exact h0
        · first | rw [br_n (c3)] | rw [br_q (c3)] | rw [br_u (c3)]
          first | rw [br_p (hne)] | rw [br_r (hne)] | rw [br_s (hne)]
          exact h0
      · have e2 : cl2 w v Y i = i := by
          have : cl2 w v Y i ≤ i := fs_le _ _
          omega
        rw [show oI (cl2 w v Y i) i = -1 from by unfold oI; rw [if_neg c], if_neg c]
        refine l_m_cls2 d w v snd B Y M Q x1 x2 hL hP h48 i hi2 _ (fun e3 v7' hv7' => ?_) (fun e3 v7' hv7' => ?_) i 0 (by omega) (fun k hk => by omega)
        · have h0 := ih (i + 1) (by omega) v7' hv7'
          have e4 : cl2 w v Y (i + 1) = i + 1 := by
            show (if fs _ i < i then fs _ i else if decide (cl3 w v Y i < i) = true then i else i + 1) = i + 1
            rw [if_neg (show ¬ fs (fun i => decide (cl3 w v Y i < i)) i < i from c), if_neg (by simp; omega)]
          rw [e4, if_neg (by omega), show oI (i + 1) (i + 1) = -1 from by unfold oI; rw [if_neg (by omega)]] at h0
          simp +decide only [qX11_clash_0, qX11_clash_1, qX11_clash_2, ni_add1, jk_w hv7', am_w1_i, am_w1_r, am_w1_x, am_w1_l, am_w1_w, va_rf_s, am_push_n, am_push_s, am_cs_0, am_cs_i, am_cs_l, am_cs_r, m_uI_K, m_uI_N, m_uI_R, m_uI_L, m_uI_I, m_uL_K, m_uL_N, m_uL_R, m_uL_I, m_uL_L, m_uR_K, m_uR_N, m_uR_I, m_uR_L, m_uR_R, true_and, and_true, true_implies, false_implies, not_true_eq_false, not_false_eq_true, if_true, if_false, false_and, and_false] at h0 ⊢
          exact h0
        · have h0 := ih (i + 1) (by omega) v7' hv7'
          have e4 : cl2 w v Y (i + 1) = i := by
            show (if fs _ i < i then fs _ i else if decide (cl3 w v Y i < i) = true then i else i + 1) = i
            rw [if_neg (show ¬ fs (fun i => decide (cl3 w v Y i < i)) i < i from c), if_pos (by simp; omega)]
          rw [e4, if_pos (by omega), show oI i (i + 1) = nI i from by unfold oI; rw [if_pos (by omega)]] at h0
          simp +decide only [qX11_clash_0, qX11_clash_1, qX11_clash_2, ni_add1, jk_w hv7', am_w1_i, am_w1_r, am_w1_x, am_w1_l, am_w1_w, va_rf_s, am_push_n, am_push_s, am_cs_0, am_cs_i, am_cs_l, am_cs_r, m_uI_K, m_uI_N, m_uI_R, m_uI_L, m_uI_I, m_uL_K, m_uL_N, m_uL_R, m_uL_I, m_uL_L, m_uR_K, m_uR_N, m_uR_I, m_uR_L, m_uR_R, true_and, and_true, true_implies, false_implies, not_true_eq_false, not_false_eq_true, if_true, if_false, false_and, and_false] at h0 ⊢
          exact h0
    rw [hX11_clash_35]
    simp +decide (disch := omega) only [qX11_clash_0, qX11_clash_1, qX11_clash_2, lm hL, hP.1.1, hg, tI_01, tI_0, ni_in_t, ni_tn, jk_w hv7, Classical.not_not, am_w1_i, am_w1_r, am_w1_x, am_w1_l, am_w1_w, va_rf_s, am_push_n, am_push_s, am_cs_0, am_cs_i, am_cs_l, am_cs_r, m_uI_K, m_uI_N, m_uI_R, m_uI_L, m_uI_I, m_uL_K, m_uL_N, m_uL_R, m_uL_I, m_uL_L, m_uR_K, m_uR_N, m_uR_I, m_uR_L, m_uR_R, true_and, and_true, true_implies, false_implies, not_true_eq_false, not_false_eq_true, if_true, if_false, false_and, and_false]
    first | rw [br_n (hlt)] | rw [br_q (hlt)] | rw [br_u (hlt)]
    by_cases c : fs (fun i => !gdF w v snd B Y i) i < i
    · have e1 : fs (fun i => !gdF w v snd B Y i) (i + 1) = fs (fun i => !gdF w v snd B Y i) i := (fs_cut (c := fun i => !gdF w v snd B Y i) (show i ≤ i + 1 by omega)).1 c
      have e5 : oI (fs (fun i => !gdF w v snd B Y i) i) i = nI (fs (fun i => !gdF w v snd B Y i) i) := by unfold oI; rw [if_pos c]
      have hne : ¬ oI (fs (fun i => !gdF w v snd B Y i) i) i = -1 := by rw [e5]; exact nI_m1 (by omega)
      rw [e1, show oI (fs (fun i => !gdF w v snd B Y i) i) (i + 1) = oI (fs (fun i => !gdF w v snd B Y i) i) i from by rw [e5]; unfold oI; rw [if_pos (by omega)]] at key
      first | rw [br_n (hne)] | rw [br_q (hne)] | rw [br_u (hne)]
      exact key
    · have e5 : oI (fs (fun i => !gdF w v snd B Y i) i) i = -1 := by unfold oI; rw [if_neg c]
      have e1 : fs (fun i => !gdF w v snd B Y i) (i + 1) = if (!gdF w v snd B Y i) = true then i else i + 1 := by
        show (if fs _ i < i then fs _ i else if (!gdF w v snd B Y i) = true then i else i + 1) = _
        rw [if_neg c]
      first | rw [br_p (e5)] | rw [br_r (e5)] | rw [br_s (e5)]
      by_cases c2 : goodY w v snd B y
      · have e6 : (!gdF w v snd B Y i) = false := by rw [(gdF_y hy).mpr c2]; rfl
        rw [e6] at e1
        rw [e1, show (if false = true then i else i + 1) = i + 1 from rfl, show oI (i + 1) (i + 1) = -1 from by unfold oI; rw [if_neg (by omega)]] at key
        first | rw [br_p (c2)] | rw [br_r (c2)] | rw [br_s (c2)]
        rw [e5]
        exact key
      · have e6 : (!gdF w v snd B Y i) = true := by
          have : ¬ gdF w v snd B Y i = true := fun q => c2 ((gdF_y hy).mp q)
          simp [this]
        rw [e6] at e1
        rw [e1, show (if true = true then i else i + 1) = i from rfl, show oI i (i + 1) = nI i from by unfold oI; rw [if_pos (by omega)]] at key
        first | rw [br_n (c2)] | rw [br_q (c2)] | rw [br_u (c2)]
        exact key
end
theorem m_clash (v w : Int32) : MqO 270 [.int v, .int w] (aCls v w) := by
  intro d M b D Q hD hL h hQ
  have n8 := dN_8 hD
  have eS := fun v Q => m_isShip hD hL h (d + 18) v Q
  have e2 : (2 : Int32).toInt = 2 := rfl
  unfold aCls at hQ
  rw [eX11_clash]
  simp +decide only [qX11_clash_0, qX11_clash_1, qX11_clash_2, lm hL, eS, c_m_is, bI_0, Classical.not_not, am_w1_i, am_w1_r, am_w1_x, am_w1_l, am_w1_w, va_rf_s, am_push_n, am_push_s, am_cs_0, am_cs_i, am_cs_l, am_cs_r, m_uI_K, m_uI_N, m_uI_R, m_uI_L, m_uI_I, m_uL_K, m_uL_N, m_uL_R, m_uL_I, m_uL_L, m_uR_K, m_uR_N, m_uR_I, m_uR_L, m_uR_R, true_and, and_true, true_implies, false_implies, not_true_eq_false, not_false_eq_true, if_true, if_false, false_and, and_false]
  by_cases hv : 0 ≤ v.toInt ∧ v.toInt < dN D
  · first | rw [br_p (hv)] | rw [br_r (hv)] | rw [br_s (hv)]
    by_cases w2 : 0 ≤ w ∧ w ≤ 2
    · first | rw [br_p (w2)] | rw [br_r (w2)] | rw [br_s (w2)]
      rw [le32, le32, z32, e2] at w2
      rw [if_pos ⟨hv, w2⟩] at hQ
      obtain ⟨s, s1, s2, s3⟩ := sh_of (by omega) hv
      rw [s3] at hQ
      obtain ⟨k, hk⟩ : ∃ k, w.toInt.toNat = k := ⟨_, rfl⟩
      have ek : w = nI k := i32_of (by omega) (by omega)
      have hk2 : k ≤ 2 := by omega
      rw [hk] at hQ
      rw [s2, ek]
      refine m_pairs hD hL h s1 (d + 14) _ (fun M1 g1 p1 => ?_)
      have h0 := hQ M1 g1
      have L1 := gF_LayN g1 hL
      have h48 := dY_len hD s
      unfold clA at h0
      have h9 := l_m_cls1 (d + 20) (dWt D s) (dV D s) (dSn D s) (dBs D s) (dY D s) M1 Q (nI s) (nI k) L1 p1 h48 ?_ (dY D s).length 0 (by omega) am_x (Or.inl rfl)
      · simp +decide only [qX11_clash_0, qX11_clash_1, qX11_clash_2, am_w1_i, am_w1_r, am_w1_x, am_w1_l, am_w1_w, va_rf_s, am_push_n, am_push_s, am_cs_0, am_cs_i, am_cs_l, am_cs_r, m_uI_K, m_uI_N, m_uI_R, m_uI_L, m_uI_I, m_uL_K, m_uL_N, m_uL_R, m_uL_I, m_uL_L, m_uR_K, m_uR_N, m_uR_I, m_uR_L, m_uR_R, true_and, and_true, true_implies, false_implies, not_true_eq_false, not_false_eq_true, if_true, if_false, false_and, and_false]
        exact h9
      · intro v7 hv7
        have hhr : ∀ i, i < (dY D s).length → mI M1 322 i = hrN (dY D s) i := fun i hi => by
          have e := List.getElem?_eq_getElem hi
          unfold hrN
          rw [e]
          exact p1.1.2 i _ e
        obtain ⟨a, ha⟩ : ∃ a, a = cl1 (dWt D s) (dV D s) (dSn D s) (dBs D s) (dY D s) := ⟨_, rfl⟩
        have hal : a ≤ (dY D s).length := by rw [ha]; exact fs_le _ _
        obtain ⟨l, hl⟩ : ∃ l, l = cl2 (dWt D s) (dV D s) (dY D s) (dY D s).length := ⟨_, rfl⟩
        have hll : l ≤ (dY D s).length := by rw [hl]; exact fs_le _ _
        obtain ⟨e, he⟩ : ∃ e, e = cl3 (dWt D s) (dV D s) (dY D s) l := ⟨_, rfl⟩
        have hel : e ≤ l := by rw [he]; exact fs_le _ _
        have hel2 : l < (dY D s).length → e < l := fun q => by
          have := fs_at (fun i => decide (cl3 (dWt D s) (dV D s) (dY D s) i < i)) (dY D s).length (by rw [show fs _ (dY D s).length = l from hl.symm]; exact q)
          rw [show fs _ (dY D s).length = l from hl.symm] at this
          rw [he]
          exact of_decide_eq_true this
        rw [← ha, ← hl, ← he] at h0 ⊢
        unfold oI
        by_cases ca : a < (dY D s).length
        · have na : ¬ nI a = -1 := nI_m1 (by omega)
          rw [if_pos ca]
          by_cases cl : l < (dY D s).length
          · have nl : ¬ nI l = -1 := nI_m1 (by omega)
            have he' := hel2 cl
            rw [if_pos cl, if_pos cl]
            simp +decide (disch := omega) only [qX11_clash_0, qX11_clash_1, qX11_clash_2, lm L1, na, nl, hhr a ca, hhr e (by omega), ni_in_t, ni_tn, ni_lt, am_w1_i, am_w1_r, am_w1_x, am_w1_l, am_w1_w, va_rf_s, am_push_n, am_push_s, am_cs_0, am_cs_i, am_cs_l, am_cs_r, m_uI_K, m_uI_N, m_uI_R, m_uI_L, m_uI_I, m_uL_K, m_uL_N, m_uL_R, m_uL_I, m_uL_L, m_uR_K, m_uR_N, m_uR_I, m_uR_L, m_uR_R, true_and, and_true, true_implies, false_implies, not_true_eq_false, not_false_eq_true, if_true, if_false, false_and, and_false]
            by_cases c : l < a
            · rw [if_pos ⟨cl, c⟩] at h0
              first | rw [br_p (c)] | rw [br_r (c)] | rw [br_s (c)]
              rcases (by omega : k = 0 ∨ k = 1 ∨ k = 2) with q | q | q <;> subst q
              · simp +decide only [show nI 0 = (0 : Int32) from rfl, if_true, am_w1_i, am_w1_r, am_w1_x, am_w1_l, am_w1_w, va_rf_s, am_push_n, am_push_s, am_cs_0, am_cs_i, am_cs_l, am_cs_r, m_uI_K, m_uI_N, m_uI_R, m_uI_L, m_uI_I, m_uL_K, m_uL_N, m_uL_R, m_uL_I, m_uL_L, m_uR_K, m_uR_N, m_uR_I, m_uR_L, m_uR_R, true_and, and_true, true_implies, false_implies, not_true_eq_false, not_false_eq_true, if_true, if_false, false_and, and_false] at h0 ⊢
                exact h0
              · simp +decide only [show nI 1 = (1 : Int32) from rfl, if_true, if_false, am_w1_i, am_w1_r, am_w1_x, am_w1_l, am_w1_w, va_rf_s, am_push_n, am_push_s, am_cs_0, am_cs_i, am_cs_l, am_cs_r, m_uI_K, m_uI_N, m_uI_R, m_uI_L, m_uI_I, m_uL_K, m_uL_N, m_uL_R, m_uL_I, m_uL_L, m_uR_K, m_uR_N, m_uR_I, m_uR_L, m_uR_R, true_and, and_true, true_implies, false_implies, not_true_eq_false, not_false_eq_true, if_true, if_false, false_and, and_false] at h0 ⊢
                exact h0
              · simp +decide only [show nI 2 = (2 : Int32) from rfl, if_true, if_false, am_w1_i, am_w1_r, am_w1_x, am_w1_l, am_w1_w, va_rf_s, am_push_n, am_push_s, am_cs_0, am_cs_i, am_cs_l, am_cs_r, m_uI_K, m_uI_N, m_uI_R, m_uI_L, m_uI_I, m_uL_K, m_uL_N, m_uL_R, m_uL_I, m_uL_L, m_uR_K, m_uR_N, m_uR_I, m_uR_L, m_uR_R, true_and, and_true, true_implies, false_implies, not_true_eq_false, not_false_eq_true, if_true, if_false, false_and, and_false] at h0 ⊢
                exact h0
            · rw [if_neg (fun q => c q.2), if_pos ca] at h0
              first | rw [br_n (c)] | rw [br_q (c)] | rw [br_u (c)]
              rcases (by omega : k = 0 ∨ k = 1 ∨ k = 2) with q | q | q <;> subst q
              · simp +decide only [show nI 0 = (0 : Int32) from rfl, if_true, am_w1_i, am_w1_r, am_w1_x, am_w1_l, am_w1_w, va_rf_s, am_push_n, am_push_s, am_cs_0, am_cs_i, am_cs_l, am_cs_r, m_uI_K, m_uI_N, m_uI_R, m_uI_L, m_uI_I, m_uL_K, m_uL_N, m_uL_R, m_uL_I, m_uL_L, m_uR_K, m_uR_N, m_uR_I, m_uR_L, m_uR_R, true_and, and_true, true_implies, false_implies, not_true_eq_false, not_false_eq_true, if_true, if_false, false_and, and_false] at h0 ⊢
                exact h0
              · simp +decide only [show nI 1 = (1 : Int32) from rfl, if_true, if_false, am_w1_i, am_w1_r, am_w1_x, am_w1_l, am_w1_w, va_rf_s, am_push_n, am_push_s, am_cs_0, am_cs_i, am_cs_l, am_cs_r, m_uI_K, m_uI_N, m_uI_R, m_uI_L, m_uI_I, m_uL_K, m_uL_N, m_uL_R, m_uL_I, m_uL_L, m_uR_K, m_uR_N, m_uR_I, m_uR_L, m_uR_R, true_and, and_true, true_implies, false_implies, not_true_eq_false, not_false_eq_true, if_true, if_false, false_and, and_false] at h0 ⊢
                exact h0
              · simp +decide only [show nI 2 = (2 : Int32) from rfl, if_true, if_false, am_w1_i, am_w1_r, am_w1_x, am_w1_l, am_w1_w, va_rf_s, am_push_n, am_push_s, am_cs_0, am_cs_i, am_cs_l, am_cs_r, m_uI_K, m_uI_N, m_uI_R, m_uI_L, m_uI_I, m_uL_K, m_uL_N, m_uL_R, m_uL_I, m_uL_L, m_uR_K, m_uR_N, m_uR_I, m_uR_L, m_uR_R, true_and, and_true, true_implies, false_implies, not_true_eq_false, not_false_eq_true, if_true, if_false, false_and, and_false] at h0 ⊢
                exact h0
          · rw [if_neg cl, if_neg cl]
            rw [if_neg (fun q => cl q.1), if_pos ca] at h0
            simp +decide (disch := omega) only [qX11_clash_0, qX11_clash_1, qX11_clash_2, lm L1, na, hhr a ca, ni_in_t, ni_tn, am_w1_i, am_w1_r, am_w1_x, am_w1_l, am_w1_w, va_rf_s, am_push_n, am_push_s, am_cs_0, am_cs_i, am_cs_l, am_cs_r, m_uI_K, m_uI_N, m_uI_R, m_uI_L, m_uI_I, m_uL_K, m_uL_N, m_uL_R, m_uL_I, m_uL_L, m_uR_K, m_uR_N, m_uR_I, m_uR_L, m_uR_R, true_and, and_true, true_implies, false_implies, not_true_eq_false, not_false_eq_true, if_true, if_false, false_and, and_false]
            rcases (by omega : k = 0 ∨ k = 1 ∨ k = 2) with q | q | q <;> subst q
            · simp +decide only [show nI 0 = (0 : Int32) from rfl, if_true, am_w1_i, am_w1_r, am_w1_x, am_w1_l, am_w1_w, va_rf_s, am_push_n, am_push_s, am_cs_0, am_cs_i, am_cs_l, am_cs_r, m_uI_K, m_uI_N, m_uI_R, m_uI_L, m_uI_I, m_uL_K, m_uL_N, m_uL_R, m_uL_I, m_uL_L, m_uR_K, m_uR_N, m_uR_I, m_uR_L, m_uR_R, true_and, and_true, true_implies, false_implies, not_true_eq_false, not_false_eq_true, if_true, if_false, false_and, and_false] at h0 ⊢
              exact h0
            · simp +decide only [show nI 1 = (1 : Int32) from rfl, if_true, if_false, am_w1_i, am_w1_r, am_w1_x, am_w1_l, am_w1_w, va_rf_s, am_push_n, am_push_s, am_cs_0, am_cs_i, am_cs_l, am_cs_r, m_uI_K, m_uI_N, m_uI_R, m_uI_L, m_uI_I, m_uL_K, m_uL_N, m_uL_R, m_uL_I, m_uL_L, m_uR_K, m_uR_N, m_uR_I, m_uR_L, m_uR_R, true_and, and_true, true_implies, false_implies, not_true_eq_false, not_false_eq_true, if_true, if_false, false_and, and_false] at h0 ⊢
              exact h0
            · simp +decide only [show nI 2 = (2 : Int32) from rfl, if_true, if_false, am_w1_i, am_w1_r, am_w1_x, am_w1_l, am_w1_w, va_rf_s, am_push_n, am_push_s, am_cs_0, am_cs_i, am_cs_l, am_cs_r, m_uI_K, m_uI_N, m_uI_R, m_uI_L, m_uI_I, m_uL_K, m_uL_N, m_uL_R, m_uL_I, m_uL_L, m_uR_K, m_uR_N, m_uR_I, m_uR_L, m_uR_R, true_and, and_true, true_implies, false_implies, not_true_eq_false, not_false_eq_true, if_true, if_false, false_and, and_false] at h0 ⊢
              exact h0
        · rw [if_neg ca]
          by_cases cl : l < (dY D s).length
          · have nl : ¬ nI l = -1 := nI_m1 (by omega)
            have he' := hel2 cl
            rw [if_pos ⟨cl, by omega⟩] at h0
            rw [if_pos cl, if_pos cl]
            simp +decide (disch := omega) only [qX11_clash_0, qX11_clash_1, qX11_clash_2, lm L1, nl, hhr e (by omega), ni_in_t, ni_tn, am_w1_i, am_w1_r, am_w1_x, am_w1_l, am_w1_w, va_rf_s, am_push_n, am_push_s, am_cs_0, am_cs_i, am_cs_l, am_cs_r, m_uI_K, m_uI_N, m_uI_R, m_uI_L, m_uI_I, m_uL_K, m_uL_N, m_uL_R, m_uL_I, m_uL_L, m_uR_K, m_uR_N, m_uR_I, m_uR_L, m_uR_R, true_and, and_true, true_implies, false_implies, not_true_eq_false, not_false_eq_true, if_true, if_false, false_and, and_false]
            rcases (by omega : k = 0 ∨ k = 1 ∨ k = 2) with q | q | q <;> subst q
            · simp +decide only [show nI 0 = (0 : Int32) from rfl, if_true, am_w1_i, am_w1_r, am_w1_x, am_w1_l, am_w1_w, va_rf_s, am_push_n, am_push_s, am_cs_0, am_cs_i, am_cs_l, am_cs_r, m_uI_K, m_uI_N, m_uI_R, m_uI_L, m_uI_I, m_uL_K, m_uL_N, m_uL_R, m_uL_I, m_uL_L, m_uR_K, m_uR_N, m_uR_I, m_uR_L, m_uR_R, true_and, and_true, true_implies, false_implies, not_true_eq_false, not_false_eq_true, if_true, if_false, false_and, and_false] at h0 ⊢
              exact h0
            · simp +decide only [show nI 1 = (1 : Int32) from rfl, if_true, if_false, am_w1_i, am_w1_r, am_w1_x, am_w1_l, am_w1_w, va_rf_s, am_push_n, am_push_s, am_cs_0, am_cs_i, am_cs_l, am_cs_r, m_uI_K, m_uI_N, m_uI_R, m_uI_L, m_uI_I, m_uL_K, m_uL_N, m_uL_R, m_uL_I, m_uL_L, m_uR_K, m_uR_N, m_uR_I, m_uR_L, m_uR_R, true_and, and_true, true_implies, false_implies, not_true_eq_false, not_false_eq_true, if_true, if_false, false_and, and_false] at h0 ⊢
              exact h0
            · simp +decide only [show nI 2 = (2 : Int32) from rfl, if_true, if_false, am_w1_i, am_w1_r, am_w1_x, am_w1_l, am_w1_w, va_rf_s, am_push_n, am_push_s, am_cs_0, am_cs_i, am_cs_l, am_cs_r, m_uI_K, m_uI_N, m_uI_R, m_uI_L, m_uI_I, m_uL_K, m_uL_N, m_uL_R, m_uL_I, m_uL_L, m_uR_K, m_uR_N, m_uR_I, m_uR_L, m_uR_R, true_and, and_true, true_implies, false_implies, not_true_eq_false, not_false_eq_true, if_true, if_false, false_and, and_false] at h0 ⊢
              exact h0
          · rw [if_neg (fun q => cl q.1), if_neg ca] at h0
            rw [if_neg cl, if_neg cl]
            simp +decide only [qX11_clash_0, qX11_clash_1, qX11_clash_2, am_w1_i, am_w1_r, am_w1_x, am_w1_l, am_w1_w, va_rf_s, am_push_n, am_push_s, am_cs_0, am_cs_i, am_cs_l, am_cs_r, m_uI_K, m_uI_N, m_uI_R, m_uI_L, m_uI_I, m_uL_K, m_uL_N, m_uL_R, m_uL_I, m_uL_L, m_uR_K, m_uR_N, m_uR_I, m_uR_L, m_uR_R, true_and, and_true, true_implies, false_implies, not_true_eq_false, not_false_eq_true, if_true, if_false, false_and, and_false]
            exact h0
    · have h0 := hQ M (gF_refl _ _ _)
      rw [if_neg (fun q => w2 (by rw [le32, le32, z32, e2]; exact q.2))] at h0
      first | rw [br_n (w2)] | rw [br_q (w2)] | rw [br_u (w2)]
      exact h0
  · have h0 := hQ M (gF_refl _ _ _)
    rw [if_neg (fun q => hv q.1)] at h0
    first | rw [br_n (hv)] | rw [br_q (hv)] | rw [br_u (hv)]
    exact h0
theorem op_clash (v w : Int32) : OpI 125 270 [.int v, .int w] isI := op_q (fun D => ⟨_, rfl⟩) (x_clash v w) (m_clash v w)
