/-! saying, cell, far, can -/
abbrev isSy (D : Dat) (v i : Int32) : Prop := (0 ≤ v.toInt ∧ v.toInt < dN D) ∧ 0 ≤ i.toInt ∧ i.toInt < (dY D v.toInt.toNat).length
theorem x_isSaying {M : am_M} {z : Nat} {D : Dat} (hD : dOK D) (h : XR M z D) (d : Nat) (v i : Int32) (Q : Option Value → am_M → Prop) : am_E am_P0 (d + 1) 151 [.ref 0, .int v, .int i] M Q ↔ Q (some (.int (bI (isSy D v i)))) M := by
  have hz := h.1.2.2.1
  have hL := h.1.1
  have hr := h.1.2.2.2.1
  have n8 := dN_8 hD
  have eS := fun v Q => x_isShip hD h d v Q
  rw [eX10_isSaying]
  simp +decide only [qX10_isSaying, lx hL, lz hL hz, hr, eS, bI_0, am_w1_i, am_w1_r, am_w1_x, am_w1_l, am_w1_w, va_rf_s, am_push_n, am_push_s, am_cs_0, am_cs_i, am_cs_l, am_cs_r, m_uI_K, m_uI_N, m_uI_R, m_uI_L, m_uI_I, m_uL_K, m_uL_N, m_uL_R, m_uL_I, m_uL_L, m_uR_K, m_uR_N, m_uR_I, m_uR_L, m_uR_R, true_and, and_true, true_implies, false_implies, not_true_eq_false, not_false_eq_true, if_true, if_false, false_and, and_false]
  by_cases hv : 0 ≤ v.toInt ∧ v.toInt < dN D
  · first | rw [br_p (hv)] | rw [br_r (hv)] | rw [br_s (hv)]
    obtain ⟨s, s1, s2, s3⟩ := sh_of (by omega) hv
    have hsh := lsh hL hz (s := s) (by omega)
    have hw_ := lw_ hL (isSh_z (z := z) (s := s) hz (by omega))
    have h48 := dY_len hD s
    by_cases i0 : i < 0
    · first | rw [br_p (i0)] | rw [br_r (i0)] | rw [br_s (i0)]
      rw [bI_f (fun q => by rw [lt32, z32] at i0; have := q.2.1; omega)]
    · first | rw [br_n (i0)] | rw [br_q (i0)] | rw [br_u (i0)]
      rw [lt32, z32] at i0
      rw [s2]
      simp +decide (disch := omega) only [qX10_isSaying, lx hL, lz hL hz, hr, hsh, hw_, (x_ship h s1).2.1.1, ni_in_t, ni_tn, am_w1_i, am_w1_r, am_w1_x, am_w1_l, am_w1_w, va_rf_s, am_push_n, am_push_s, am_cs_0, am_cs_i, am_cs_l, am_cs_r, m_uI_K, m_uI_N, m_uI_R, m_uI_L, m_uI_I, m_uL_K, m_uL_N, m_uL_R, m_uL_I, m_uL_L, m_uR_K, m_uR_N, m_uR_I, m_uR_L, m_uR_R, true_and, and_true, true_implies, false_implies, not_true_eq_false, not_false_eq_true, if_true, if_false, false_and, and_false]
      by_cases i1 : nI (dY D s).length ≤ i
      · first | rw [br_p (i1)] | rw [br_r (i1)] | rw [br_s (i1)]
        rw [le32, ni_ti (by omega)] at i1
        rw [← s2, bI_f (fun q => by have := q.2.2; rw [s3] at this; omega)]
      · first | rw [br_n (i1)] | rw [br_q (i1)] | rw [br_u (i1)]
        rw [le32, ni_ti (by omega)] at i1
        rw [← s2, bI_t ⟨hv, by omega, by rw [s3]; omega⟩]
  · first | rw [br_n (hv)] | rw [br_q (hv)] | rw [br_u (hv)]
    rw [bI_f (fun q => hv q.1)]
theorem bef_at {Y : List Sy} (hs : srtY Y) {y : Sy} {t : Nat} (hy : y ∈ Y) (ht : y.1 = t) : Y[(bef Y t).length]? = some y := by
  obtain ⟨j, hj, e⟩ := List.mem_iff_getElem.mp hy
  have hj' : Y[j]? = some y := by rw [List.getElem?_eq_getElem hj, e]
  have h1 := bef_lt hs hj' (h := t)
  have h2 := bef_lt hs hj' (h := t + 1)
  have h3 : (bef Y (t + 1)).length = (bef Y t).length + 1 := by rw [bef_t hs hy ht, List.length_append]; rfl
  have : j = (bef Y t).length := by omega
  rw [← this]
  exact hj'
theorem hSaid_Y {M : am_M} {b C R s : Nat} {Y : List Sy} (hY : SyM M b C R s Y) (hC : C ≤ 16) (hR : R ≤ 16) : ∀ (m k : Nat), k + m = 48 → ∀ i : Int, hSaid (mSaid M b s) i m k = if i < 0 then -1 else (match Y[(bef Y k).length + i.toNat]? with | some y => nI y.1 | none => -1) := by
  intro m
  induction m with
  | zero =>
    intro k hk i
    have e : k = 48 := by omega
    subst e
    have e2 : bef Y 48 = Y := bef_all (fun y hy => (hY.2.1 y hy).1)
    show (-1 : Int32) = _
    rw [e2, List.getElem?_eq_none (by omega)]
    split <;> rfl
  | succ m ih =>
    intro k hk i
    show (if i < 0 then (-1 : Int32) else if mI M 292 (384 * b + 48 * s + k) = -1 then hSaid (mSaid M b s) i m (k + 1) else if i = 0 then nI k else hSaid (mSaid M b s) (i - 1) m (k + 1)) = _
    by_cases i0 : i < 0
    · rw [if_pos i0, if_pos i0]
    · rw [if_neg i0, if_neg i0]
      rcases hY.2.2 k (by omega) with ⟨y, y1, y2, y3, y4⟩ | ⟨y1, y2⟩
      · have hv := (hY.2.1 y y1).2
        have hne : ¬ mI M 292 (384 * b + 48 * s + k) = -1 := by rw [y3]; exact nI_m1 (by have := (cel_lt hC hR hv).2.1; omega)
        have hat := bef_at hY.1 y1 y2
        have h3 : (bef Y (k + 1)).length = (bef Y k).length + 1 := by rw [bef_t hY.1 y1 y2, List.length_append]; rfl
        rw [if_neg hne]
        by_cases i1 : i = 0
        · rw [if_pos i1, i1, show (bef Y k).length + (0 : Int).toNat = (bef Y k).length from rfl, hat]
          dsimp only
          rw [y2]
        · rw [if_neg i1, ih (k + 1) (by omega) (i - 1), if_neg (by omega), h3, show (bef Y k).length + 1 + (i - 1).toNat = (bef Y k).length + i.toNat by omega]
      · rw [if_pos y2, ih (k + 1) (by omega) i, if_neg i0, bef_f y1]
/-- the hour of a saying -/
def hrI (Y : List Sy) (i : Int32) : Int32 := if i.toInt < 0 then -1 else (match Y[i.toInt.toNat]? with | some y => nI y.1 | none => -1)
theorem m_hourOf {M : am_M} {b s : Nat} {D : Dat} (hD : dOK D) (hL : Lay M) (h : MdM M b D) (hs : s < 8) (d : Nat) (i : Int32) (Q : Option Value → am_M → Prop) : am_E am_P0 (d + 1) 229 [.ref 277, .int (nI s), .int i] M Q ↔ Q (some (.int (hrI (dY D s) i))) M := by
  rw [c_m_hourOf d s i M Q hL b h.1.1 h.1.2 hs, hSaid_Y (h.2.2.2.2.1.2 s hs) hD.1.1.1 hD.1.1.2 48 0 (by omega), bef_0]
  unfold hrI
  rw [show ([] : List Sy).length = 0 from rfl, Nat.zero_add]
theorem hrI_t {Y : List Sy} {i : Int32} {y : Sy} {k : Nat} (hk : i = nI k) (hb : k < 2147483648) (h : Y[k]? = some y) : hrI Y i = nI y.1 := by
  unfold hrI
  have e : i.toInt = k := by rw [hk, ni_ti hb]
  rw [if_neg (by omega), show i.toInt.toNat = k by omega, h]
theorem hrI_f {Y : List Sy} {i : Int32} (h : ¬ (0 ≤ i.toInt ∧ i.toInt < Y.length)) : hrI Y i = -1 := by
  unfold hrI
  by_cases c : i.toInt < 0
  · rw [if_pos c]
  · rw [if_neg c, List.getElem?_eq_none (by omega)]
/-- a saying of a ship, as it is told -/
theorem sy_of {D : Dat} {s : Nat} {i : Int32} (hD : dOK D) (h : 0 ≤ i.toInt ∧ i.toInt < (dY D s).length) : ∃ k y, k < 48 ∧ i = nI k ∧ i.toInt.toNat = k ∧ (dY D s)[k]? = some y ∧ y.1 < 48 ∧ vld (dC D) (dR D) y.2.1 ∧ y.2.1 < 256 ∧ y ∈ dY D s := by
  have h48 := dY_len hD s
  have hk : i.toInt.toNat < (dY D s).length := by omega
  have hm : (dY D s)[i.toInt.toNat] ∈ dY D s := List.getElem_mem hk
  have h2 := hD.1.2.2.2.1 s _ hm
  exact ⟨i.toInt.toNat, (dY D s)[i.toInt.toNat], by omega, i32_of (by omega) (by omega), rfl, List.getElem?_eq_getElem hk, h2.1, h2.2, (cel_lt hD.1.1.1 hD.1.1.2 h2.2).2.2, hm⟩
noncomputable def syA (D : Dat) (s k : Nat) (w : Int32) : Int32 := match (dY D s)[k]? with
  | none => -1
  | some y => if w.toInt = 0 then nI y.1 else if w.toInt = 1 then nI (cel (dC D) y.2.1) else if w.toInt = 2 then b01 y.2.2 else if w.toInt = 3 then tI (dSn D s y.2.1 y.2.2) else if w.toInt = 4 then tI (fitP (dWt D s) (dV D s) (dBs D s) ∧ keptY (dWt D s) (dV D s) (dSn D s) (dBs D s) (dY D s) k) else -1
noncomputable def aSay (v i w : Int32) (D : Dat) : Value := .int (if isSy D v i then syA D v.toInt.toNat i.toInt.toNat w else -1)
theorem cel_n (C p : Nat) : p / 16 * C + p % 16 = cel C p := by unfold cel; rw [Nat.mul_comm]
theorem x_numberOf {M : am_M} {z : Nat} {D : Dat} (h : XR M z D) (d p : Nat) (Q : Option Value → am_M → Prop) (hp : p < 256) : am_E am_P0 d 58 [.ref z, .int (nI p)] M Q ↔ Q (some (.int (nI (cel (dC D) p)))) M := by
  rw [c_x_numberOf d p M Q h.1.1 z (dC D) h.1.2.2.1 (x_n h).2.1 hp, cel_n]
theorem x_saying (v i w : Int32) : XqO 116 [.int v, .int i, .int w] (aSay v i w) := by
  intro d M z D Q hD h hQ
  have hz := h.1.2.2.1
  have hL := h.1.1
  have hr := h.1.2.2.2.1
  have n8 := dN_8 hD
  have eS := fun v i Q => x_isSaying hD h (d + 18) v i Q
  unfold aSay at hQ
  rw [eX10_saying]
  simp +decide only [qX10_saying_0, qX10_saying_1, lx hL, lz hL hz, hr, eS, bI_0, Classical.not_not, am_w1_i, am_w1_r, am_w1_x, am_w1_l, am_w1_w, va_rf_s, am_push_n, am_push_s, am_cs_0, am_cs_i, am_cs_l, am_cs_r, m_uI_K, m_uI_N, m_uI_R, m_uI_L, m_uI_I, m_uL_K, m_uL_N, m_uL_R, m_uL_I, m_uL_L, m_uR_K, m_uR_N, m_uR_I, m_uR_L, m_uR_R, true_and, and_true, true_implies, false_implies, not_true_eq_false, not_false_eq_true, if_true, if_false, false_and, and_false]
  by_cases hv : isSy D v i
  · first | rw [br_p (hv)] | rw [br_r (hv)] | rw [br_s (hv)]
    obtain ⟨s, s1, s2, s3⟩ := sh_of (by omega) hv.1
    have hi := hv.2
    rw [s3] at hi
    obtain ⟨k, y, k48, k1, k2, hy, y48, yv, y256, ym⟩ := sy_of hD hi
    rw [if_pos hv, s3, k2] at hQ
    unfold syA at hQ
    rw [hy] at hQ
    dsimp only at hQ
    have hsh := lsh hL hz (s := s) (by omega)
    have hst := lt_ hL (isTr_of (show s < 8 by omega))
    have htr := ltr hL (show s < 8 by omega)
    have hw_ := lw_ hL (isSh_z (z := z) (s := s) hz (by omega))
    obtain ⟨-, f5, f9⟩ := x_ship h s1
    obtain ⟨g0, g1, g2, g3⟩ := f5.2.2 k y hy
    have en := fun Q => x_numberOf h (d + 19) y.2.1 Q y256
    have hb0 : b01 y.2.2 = 0 ∨ b01 y.2.2 = 1 := by unfold b01; split <;> simp
    have eb := fun Q => c_x_bit (d + 19) (b01 y.2.2) M Q hb0
    rw [s2, k1]
    simp +decide (disch := omega) only [qX10_saying_0, qX10_saying_1, lx hL, lz hL hz, hr, hsh, ni_in_t, ni_tn, am_w1_i, am_w1_r, am_w1_x, am_w1_l, am_w1_w, va_rf_s, am_push_n, am_push_s, am_cs_0, am_cs_i, am_cs_l, am_cs_r, m_uI_K, m_uI_N, m_uI_R, m_uI_L, m_uI_I, m_uL_K, m_uL_N, m_uL_R, m_uL_I, m_uL_L, m_uR_K, m_uR_N, m_uR_I, m_uR_L, m_uR_R, true_and, and_true, true_implies, false_implies, not_true_eq_false, not_false_eq_true, if_true, if_false, false_and, and_false]
    rcases sw_of w 5 (by omega) with ⟨n, n1, n2, n3⟩ | c1
    · rw [n3] at hQ
      rw [n2]
      rcases (by omega : n = 0 ∨ n = 1 ∨ n = 2 ∨ n = 3 ∨ n = 4) with e | e | e | e | e <;> subst e
      · have h0 := hQ M (XR_2 h) h
        rw [show am_tab 0 [56, 64, 79, 90, 117] 131 (nI 0) = 56 from rfl]
        simp +decide (disch := omega) only [qX10_saying_0, qX10_saying_1, hw_, g1, ni_in_t, ni_tn, if_true, if_false, am_w1_i, am_w1_r, am_w1_x, am_w1_l, am_w1_w, va_rf_s, am_push_n, am_push_s, am_cs_0, am_cs_i, am_cs_l, am_cs_r, m_uI_K, m_uI_N, m_uI_R, m_uI_L, m_uI_I, m_uL_K, m_uL_N, m_uL_R, m_uL_I, m_uL_L, m_uR_K, m_uR_N, m_uR_I, m_uR_L, m_uR_R, true_and, and_true, true_implies, false_implies, not_true_eq_false, not_false_eq_true, if_true, if_false, false_and, and_false] at h0 ⊢
        exact h0
      · have h0 := hQ M (XR_2 h) h
        rw [show am_tab 0 [56, 64, 79, 90, 117] 131 (nI 1) = 64 from rfl]
        simp +decide (disch := omega) only [qX10_saying_0, qX10_saying_1, lx hL, lz hL hz, hr, hw_, g2, en, ni_in_t, ni_tn, if_true, if_false, am_w1_i, am_w1_r, am_w1_x, am_w1_l, am_w1_w, va_rf_s, am_push_n, am_push_s, am_cs_0, am_cs_i, am_cs_l, am_cs_r, m_uI_K, m_uI_N, m_uI_R, m_uI_L, m_uI_I, m_uL_K, m_uL_N, m_uL_R, m_uL_I, m_uL_L, m_uR_K, m_uR_N, m_uR_I, m_uR_L, m_uR_R, true_and, and_true, true_implies, false_implies, not_true_eq_false, not_false_eq_true, if_true, if_false, false_and, and_false] at h0 ⊢
        exact h0
      · have h0 := hQ M (XR_2 h) h
        rw [show am_tab 0 [56, 64, 79, 90, 117] 131 (nI 2) = 79 from rfl]
        simp +decide (disch := omega) only [qX10_saying_0, qX10_saying_1, hw_, g3, hb0, eb, ni_in_t, ni_tn, if_true, if_false, am_w1_i, am_w1_r, am_w1_x, am_w1_l, am_w1_w, va_rf_s, am_push_n, am_push_s, am_cs_0, am_cs_i, am_cs_l, am_cs_r, m_uI_K, m_uI_N, m_uI_R, m_uI_L, m_uI_I, m_uL_K, m_uL_N, m_uL_R, m_uL_I, m_uL_L, m_uR_K, m_uR_N, m_uR_I, m_uR_L, m_uR_R, true_and, and_true, true_implies, false_implies, not_true_eq_false, not_false_eq_true, if_true, if_false, false_and, and_false] at h0 ⊢
        exact h0
      · have h0 := hQ M (XR_2 h) h
        have eso := fun Q => c_x_isSound (d + 19) (173 + 13 * s) (z + 25 + 7 * s) z y.2.1 y.2.2 (dDp D) (dDr D s) (dLd D s) M Q hL (isTr_of (by omega)) (isSh_z hz (by omega)) hz (h.2.2.2.1 s s1).1.2.1 y256
        have eb2 := fun Q => c_x_bit (d + 19) (tI (sndP (dDp D) (dDr D s) (dLd D s) y.2.1 y.2.2)) M Q (tI_01 _)
        rw [show am_tab 0 [56, 64, 79, 90, 117] 131 (nI 3) = 90 from rfl]
        simp +decide (disch := omega) only [qX10_saying_0, qX10_saying_1, lx hL, htr, hst, hw_, g2, g3, hb0, eso, eb2, ni_in_t, ni_tn, if_true, if_false, am_w1_i, am_w1_r, am_w1_x, am_w1_l, am_w1_w, va_rf_s, am_push_n, am_push_s, am_cs_0, am_cs_i, am_cs_l, am_cs_r, m_uI_K, m_uI_N, m_uI_R, m_uI_L, m_uI_I, m_uL_K, m_uL_N, m_uL_R, m_uL_I, m_uL_L, m_uR_K, m_uR_N, m_uR_I, m_uR_L, m_uR_R, true_and, and_true, true_implies, false_implies, not_true_eq_false, not_false_eq_true, if_true, if_false, false_and, and_false] at h0 ⊢
        exact h0
      · rw [show am_tab 0 [56, 64, 79, 90, 117] 131 (nI 4) = 117 from rfl]
        simp +decide only [qX10_saying_0, qX10_saying_1, lx hL, am_w1_i, am_w1_r, am_w1_x, am_w1_l, am_w1_w, va_rf_s, am_push_n, am_push_s, am_cs_0, am_cs_i, am_cs_l, am_cs_r, m_uI_K, m_uI_N, m_uI_R, m_uI_L, m_uI_I, m_uL_K, m_uL_N, m_uL_R, m_uL_I, m_uL_L, m_uR_K, m_uR_N, m_uR_I, m_uR_L, m_uR_R, true_and, and_true, true_implies, false_implies, not_true_eq_false, not_false_eq_true, if_true, if_false, false_and, and_false]
        refine x_settled hD h (d + 14) s1 _ (fun M1 g1 X1 _ S1 => ?_)
        have h0 := hQ M1 g1 X1
        have ht := lt_ X1.1.1 (isTr_of (show s < 8 by omega))
        have hkl : k < (dY D s).length := (List.getElem?_eq_some_iff.mp hy).1
        have hk := S1.2.2.2.1 k hkl
        have h01 := tI_01 (fitP (dWt D s) (dV D s) (dBs D s) ∧ keptY (dWt D s) (dV D s) (dSn D s) (dBs D s) (dY D s) k)
        have eb2 := fun Q => c_x_bit (d + 19) (tI (fitP (dWt D s) (dV D s) (dBs D s) ∧ keptY (dWt D s) (dV D s) (dSn D s) (dBs D s) (dY D s) k)) M1 Q h01
        rw [show 182 + 13 * s = 173 + 13 * s + 9 by omega] at hk
        simp +decide (disch := omega) only [qX10_saying_0, qX10_saying_1, ht, hk, h01, eb2, ni_in_t, ni_tn, if_true, if_false, am_w1_i, am_w1_r, am_w1_x, am_w1_l, am_w1_w, va_rf_s, am_push_n, am_push_s, am_cs_0, am_cs_i, am_cs_l, am_cs_r, m_uI_K, m_uI_N, m_uI_R, m_uI_L, m_uI_I, m_uL_K, m_uL_N, m_uL_R, m_uL_I, m_uL_L, m_uR_K, m_uR_N, m_uR_I, m_uR_L, m_uR_R, true_and, and_true, true_implies, false_implies, not_true_eq_false, not_false_eq_true, if_true, if_false, false_and, and_false] at h0 ⊢
        exact h0
    · have h0 := hQ M (XR_2 h) h
      rw [if_neg (by omega), if_neg (by omega), if_neg (by omega), if_neg (by omega), if_neg (by omega)] at h0
      rw [am_tab_out (by simp; omega)]
      simp +decide only [qX10_saying_0, qX10_saying_1, am_w1_i, am_w1_r, am_w1_x, am_w1_l, am_w1_w, va_rf_s, am_push_n, am_push_s, am_cs_0, am_cs_i, am_cs_l, am_cs_r, m_uI_K, m_uI_N, m_uI_R, m_uI_L, m_uI_I, m_uL_K, m_uL_N, m_uL_R, m_uL_I, m_uL_L, m_uR_K, m_uR_N, m_uR_I, m_uR_L, m_uR_R, true_and, and_true, true_implies, false_implies, not_true_eq_false, not_false_eq_true, if_true, if_false, false_and, and_false]
      exact h0
  · have h0 := hQ M (XR_2 h) h
    rw [if_neg hv] at h0
    first | rw [br_n (hv)] | rw [br_q (hv)] | rw [br_u (hv)]
    exact h0
theorem m_said {M : am_M} {b s : Nat} {D : Dat} {y : Sy} (hL : Lay M) (h : MdM M b D) (hs : s < 8) (hy : y ∈ dY D s) (y48 : y.1 < 48) (d : Nat) (Q : Option Value → am_M → Prop) : (am_E am_P0 d 226 [.ref 277, .int (nI s), .int (nI y.1)] M Q ↔ Q (some (.int (nI (cel (dC D) y.2.1)))) M) ∧ (am_E am_P0 d 227 [.ref 277, .int (nI s), .int (nI y.1)] M Q ↔ Q (some (.int (b01 y.2.2))) M) := by
  obtain ⟨q1, q2, q3, q4⟩ := SyM_at (h.2.2.2.2.1.2 s hs) hy
  constructor
  · rw [c_m_said d s y.1 M Q hL b h.1.1 h.1.2 hs y48, q3]
  · rw [c_m_laden d s y.1 M Q hL b h.1.1 h.1.2 hs y48 (by rw [q4]; unfold b01; split <;> simp), q4]
theorem m_saying (v i w : Int32) : MqO 254 [.int v, .int i, .int w] (aSay v i w) := by
  intro d M b D Q hD hL h hQ
  obtain ⟨⟨hb, hb2⟩, ⟨n0, n1⟩, n6, hsh, hsy, hbk, hsg, -, -⟩ := id h
  have n8 := dN_8 hD
  have eS := fun v Q => m_isShip hD hL h (d + 18) v Q
  unfold aSay at hQ
  rw [eX11_saying]
  simp +decide only [qX11_saying_0, qX11_saying_1, lm hL, eS, bI_0, am_w1_i, am_w1_r, am_w1_x, am_w1_l, am_w1_w, va_rf_s, am_push_n, am_push_s, am_cs_0, am_cs_i, am_cs_l, am_cs_r, m_uI_K, m_uI_N, m_uI_R, m_uI_L, m_uI_I, m_uL_K, m_uL_N, m_uL_R, m_uL_I, m_uL_L, m_uR_K, m_uR_N, m_uR_I, m_uR_L, m_uR_R, true_and, and_true, true_implies, false_implies, not_true_eq_false, not_false_eq_true, if_true, if_false, false_and, and_false]
  by_cases hv : 0 ≤ v.toInt ∧ v.toInt < dN D
  · first | rw [br_p (hv)] | rw [br_r (hv)] | rw [br_s (hv)]
    obtain ⟨s, s1, s2, s3⟩ := sh_of (by omega) hv
    have eh := fun i Q => m_hourOf hD hL h (s := s) (by omega) (d + 18) i Q
    rw [s2]
    simp +decide only [qX11_saying_0, qX11_saying_1, lm hL, eh, am_w1_i, am_w1_r, am_w1_x, am_w1_l, am_w1_w, va_rf_s, am_push_n, am_push_s, am_cs_0, am_cs_i, am_cs_l, am_cs_r, m_uI_K, m_uI_N, m_uI_R, m_uI_L, m_uI_I, m_uL_K, m_uL_N, m_uL_R, m_uL_I, m_uL_L, m_uR_K, m_uR_N, m_uR_I, m_uR_L, m_uR_R, true_and, and_true, true_implies, false_implies, not_true_eq_false, not_false_eq_true, if_true, if_false, false_and, and_false]
    by_cases hi : 0 ≤ i.toInt ∧ i.toInt < (dY D s).length
    · obtain ⟨k, y, k48, k1, k2, hy, y48, yv, y256, ym⟩ := sy_of hD hi
      rw [if_pos ⟨hv, by rw [s3]; exact hi⟩, s3, k2] at hQ
      unfold syA at hQ
      rw [hy] at hQ
      dsimp only at hQ
      rw [hrI_t k1 (by omega) hy]
      have hne : ¬ nI y.1 = -1 := nI_m1 (by omega)
      first | rw [br_n (hne)] | rw [br_q (hne)] | rw [br_u (hne)]
      obtain ⟨m1, m2, m3, m4, m5⟩ := mh hD h s1
      have esd := fun Q => (m_said hL h (s := s) (by omega) ym y48 (d + 19) Q).1
      have eld := fun Q => (m_said hL h (s := s) (by omega) ym y48 (d + 19) Q).2
      have hc := (cel_lt hD.1.1.1 hD.1.1.2 yv).2.1
      rcases sw_of w 5 (by omega) with ⟨n, n1, n2, n3⟩ | c1
      · rw [n3] at hQ
        rw [n2]
        rcases (by omega : n = 0 ∨ n = 1 ∨ n = 2 ∨ n = 3 ∨ n = 4) with e | e | e | e | e <;> subst e
        · have h0 := hQ M (gF_refl _ _ _)
          rw [show am_tab 0 [64, 67, 75, 91, 119] 139 (nI 0) = 64 from rfl]
          simp +decide only [qX11_saying_0, qX11_saying_1, if_true, if_false, am_w1_i, am_w1_r, am_w1_x, am_w1_l, am_w1_w, va_rf_s, am_push_n, am_push_s, am_cs_0, am_cs_i, am_cs_l, am_cs_r, m_uI_K, m_uI_N, m_uI_R, m_uI_L, m_uI_I, m_uL_K, m_uL_N, m_uL_R, m_uL_I, m_uL_L, m_uR_K, m_uR_N, m_uR_I, m_uR_L, m_uR_R, true_and, and_true, true_implies, false_implies, not_true_eq_false, not_false_eq_true, if_true, if_false, false_and, and_false] at h0 ⊢
          exact h0
        · have h0 := hQ M (gF_refl _ _ _)
          rw [show am_tab 0 [64, 67, 75, 91, 119] 139 (nI 1) = 67 from rfl]
          simp +decide only [qX11_saying_0, qX11_saying_1, lm hL, esd, if_true, if_false, am_w1_i, am_w1_r, am_w1_x, am_w1_l, am_w1_w, va_rf_s, am_push_n, am_push_s, am_cs_0, am_cs_i, am_cs_l, am_cs_r, m_uI_K, m_uI_N, m_uI_R, m_uI_L, m_uI_I, m_uL_K, m_uL_N, m_uL_R, m_uL_I, m_uL_L, m_uR_K, m_uR_N, m_uR_I, m_uR_L, m_uR_R, true_and, and_true, true_implies, false_implies, not_true_eq_false, not_false_eq_true, if_true, if_false, false_and, and_false] at h0 ⊢
          exact h0
        · have h0 := hQ M (gF_refl _ _ _)
          rw [show am_tab 0 [64, 67, 75, 91, 119] 139 (nI 2) = 75 from rfl]
          simp +decide only [qX11_saying_0, qX11_saying_1, lm hL, eld, if_true, if_false, am_w1_i, am_w1_r, am_w1_x, am_w1_l, am_w1_w, va_rf_s, am_push_n, am_push_s, am_cs_0, am_cs_i, am_cs_l, am_cs_r, m_uI_K, m_uI_N, m_uI_R, m_uI_L, m_uI_I, m_uL_K, m_uL_N, m_uL_R, m_uL_I, m_uL_L, m_uR_K, m_uR_N, m_uR_I, m_uR_L, m_uR_R, true_and, and_true, true_implies, false_implies, not_true_eq_false, not_false_eq_true, if_true, if_false, false_and, and_false] at h0 ⊢
          cases hl : y.2.2 with
          | true => rw [hl] at h0; simp +decide only [show b01 true = (1 : Int32) from rfl, qX11_saying_0, qX11_saying_1, am_w1_i, am_w1_r, am_w1_x, am_w1_l, am_w1_w, va_rf_s, am_push_n, am_push_s, am_cs_0, am_cs_i, am_cs_l, am_cs_r, m_uI_K, m_uI_N, m_uI_R, m_uI_L, m_uI_I, m_uL_K, m_uL_N, m_uL_R, m_uL_I, m_uL_L, m_uR_K, m_uR_N, m_uR_I, m_uR_L, m_uR_R, true_and, and_true, true_implies, false_implies, not_true_eq_false, not_false_eq_true, if_true, if_false, false_and, and_false] at h0 ⊢; exact h0
          | false => rw [hl] at h0; simp +decide only [show b01 false = (0 : Int32) from rfl, qX11_saying_0, qX11_saying_1, am_w1_i, am_w1_r, am_w1_x, am_w1_l, am_w1_w, va_rf_s, am_push_n, am_push_s, am_cs_0, am_cs_i, am_cs_l, am_cs_r, m_uI_K, m_uI_N, m_uI_R, m_uI_L, m_uI_I, m_uL_K, m_uL_N, m_uL_R, m_uL_I, m_uL_L, m_uR_K, m_uR_N, m_uR_I, m_uR_L, m_uR_R, true_and, and_true, true_implies, false_implies, not_true_eq_false, not_false_eq_true, if_true, if_false, false_and, and_false] at h0 ⊢; exact h0
        · have h0 := hQ M (gF_refl _ _ _)
          have eso := fun Q => c_m_isSound (d + 19) s (cel (dC D) y.2.1) (b01 y.2.2) M Q hL b hb hb2 (by omega) hc
          rw [show am_tab 0 [64, 67, 75, 91, 119] 139 (nI 3) = 91 from rfl]
          simp +decide only [qX11_saying_0, qX11_saying_1, lm hL, esd, eld, eso, if_true, if_false, am_w1_i, am_w1_r, am_w1_x, am_w1_l, am_w1_w, va_rf_s, am_push_n, am_push_s, am_cs_0, am_cs_i, am_cs_l, am_cs_r, m_uI_K, m_uI_N, m_uI_R, m_uI_L, m_uI_I, m_uL_K, m_uL_N, m_uL_R, m_uL_I, m_uL_L, m_uR_K, m_uR_N, m_uR_I, m_uR_L, m_uR_R, true_and, and_true, true_implies, false_implies, not_true_eq_false, not_false_eq_true, if_true, if_false, false_and, and_false] at h0 ⊢
          rw [bI_tI (m_snd m2.2.2.2.1 yv y.2.2), show sndP (dDp D) (dDr D s) (dLd D s) y.2.1 y.2.2 = dSn D s y.2.1 y.2.2 from rfl]
          by_cases c : dSn D s y.2.1 y.2.2
          · rw [tI_t c] at h0 ⊢; simp +decide only [qX11_saying_0, qX11_saying_1, am_w1_i, am_w1_r, am_w1_x, am_w1_l, am_w1_w, va_rf_s, am_push_n, am_push_s, am_cs_0, am_cs_i, am_cs_l, am_cs_r, m_uI_K, m_uI_N, m_uI_R, m_uI_L, m_uI_I, m_uL_K, m_uL_N, m_uL_R, m_uL_I, m_uL_L, m_uR_K, m_uR_N, m_uR_I, m_uR_L, m_uR_R, true_and, and_true, true_implies, false_implies, not_true_eq_false, not_false_eq_true, if_true, if_false, false_and, and_false]; exact h0
          · rw [tI_f c] at h0 ⊢; simp +decide only [qX11_saying_0, qX11_saying_1, am_w1_i, am_w1_r, am_w1_x, am_w1_l, am_w1_w, va_rf_s, am_push_n, am_push_s, am_cs_0, am_cs_i, am_cs_l, am_cs_r, m_uI_K, m_uI_N, m_uI_R, m_uI_L, m_uI_I, m_uL_K, m_uL_N, m_uL_R, m_uL_I, m_uL_L, m_uR_K, m_uR_N, m_uR_I, m_uR_L, m_uR_R, true_and, and_true, true_implies, false_implies, not_true_eq_false, not_false_eq_true, if_true, if_false, false_and, and_false]; exact h0
        · rw [show am_tab 0 [64, 67, 75, 91, 119] 139 (nI 4) = 119 from rfl]
          simp +decide only [qX11_saying_0, qX11_saying_1, lm hL, am_w1_i, am_w1_r, am_w1_x, am_w1_l, am_w1_w, va_rf_s, am_push_n, am_push_s, am_cs_0, am_cs_i, am_cs_l, am_cs_r, m_uI_K, m_uI_N, m_uI_R, m_uI_L, m_uI_I, m_uL_K, m_uL_N, m_uL_R, m_uL_I, m_uL_L, m_uR_K, m_uR_N, m_uR_I, m_uR_L, m_uR_R, true_and, and_true, true_implies, false_implies, not_true_eq_false, not_false_eq_true, if_true, if_false, false_and, and_false]
          refine m_keeps hD hL h s1 (d + 13) _ (fun M1 g1 q1 => ?_)
          have h0 := hQ M1 g1
          have L1 := gF_LayN g1 hL
          have hkl : k < (dY D s).length := (List.getElem?_eq_some_iff.mp hy).1
          have hk := q1.2.2.2.2 k hkl
          rw [k1]
          simp +decide (disch := omega) only [qX11_saying_0, qX11_saying_1, lm L1, hk, tI_01, ni_in_t, ni_tn, if_true, if_false, am_w1_i, am_w1_r, am_w1_x, am_w1_l, am_w1_w, va_rf_s, am_push_n, am_push_s, am_cs_0, am_cs_i, am_cs_l, am_cs_r, m_uI_K, m_uI_N, m_uI_R, m_uI_L, m_uI_I, m_uL_K, m_uL_N, m_uL_R, m_uL_I, m_uL_L, m_uR_K, m_uR_N, m_uR_I, m_uR_L, m_uR_R, true_and, and_true, true_implies, false_implies, not_true_eq_false, not_false_eq_true, if_true, if_false, false_and, and_false] at h0 ⊢
          by_cases c : fitP (dWt D s) (dV D s) (dBs D s) ∧ keptY (dWt D s) (dV D s) (dSn D s) (dBs D s) (dY D s) k
          · rw [tI_t c] at h0 ⊢; simp +decide only [qX11_saying_0, qX11_saying_1, am_w1_i, am_w1_r, am_w1_x, am_w1_l, am_w1_w, va_rf_s, am_push_n, am_push_s, am_cs_0, am_cs_i, am_cs_l, am_cs_r, m_uI_K, m_uI_N, m_uI_R, m_uI_L, m_uI_I, m_uL_K, m_uL_N, m_uL_R, m_uL_I, m_uL_L, m_uR_K, m_uR_N, m_uR_I, m_uR_L, m_uR_R, true_and, and_true, true_implies, false_implies, not_true_eq_false, not_false_eq_true, if_true, if_false, false_and, and_false]; exact h0
          · rw [tI_f c] at h0 ⊢; simp +decide only [qX11_saying_0, qX11_saying_1, am_w1_i, am_w1_r, am_w1_x, am_w1_l, am_w1_w, va_rf_s, am_push_n, am_push_s, am_cs_0, am_cs_i, am_cs_l, am_cs_r, m_uI_K, m_uI_N, m_uI_R, m_uI_L, m_uI_I, m_uL_K, m_uL_N, m_uL_R, m_uL_I, m_uL_L, m_uR_K, m_uR_N, m_uR_I, m_uR_L, m_uR_R, true_and, and_true, true_implies, false_implies, not_true_eq_false, not_false_eq_true, if_true, if_false, false_and, and_false]; exact h0
      · have h0 := hQ M (gF_refl _ _ _)
        rw [if_neg (by omega), if_neg (by omega), if_neg (by omega), if_neg (by omega), if_neg (by omega)] at h0
        rw [am_tab_out (by simp; omega)]
        simp +decide only [qX11_saying_0, qX11_saying_1, am_w1_i, am_w1_r, am_w1_x, am_w1_l, am_w1_w, va_rf_s, am_push_n, am_push_s, am_cs_0, am_cs_i, am_cs_l, am_cs_r, m_uI_K, m_uI_N, m_uI_R, m_uI_L, m_uI_I, m_uL_K, m_uL_N, m_uL_R, m_uL_I, m_uL_L, m_uR_K, m_uR_N, m_uR_I, m_uR_L, m_uR_R, true_and, and_true, true_implies, false_implies, not_true_eq_false, not_false_eq_true, if_true, if_false, false_and, and_false]
        exact h0
    · have h0 := hQ M (gF_refl _ _ _)
      rw [if_neg (fun q => hi (by have := q.2; rw [s3] at this; exact this))] at h0
      rw [hrI_f hi]
      simp +decide only [qX11_saying_0, qX11_saying_1, am_w1_i, am_w1_r, am_w1_x, am_w1_l, am_w1_w, va_rf_s, am_push_n, am_push_s, am_cs_0, am_cs_i, am_cs_l, am_cs_r, m_uI_K, m_uI_N, m_uI_R, m_uI_L, m_uI_I, m_uL_K, m_uL_N, m_uL_R, m_uL_I, m_uL_L, m_uR_K, m_uR_N, m_uR_I, m_uR_L, m_uR_R, true_and, and_true, true_implies, false_implies, not_true_eq_false, not_false_eq_true, if_true, if_false, false_and, and_false]
      exact h0
  · have h0 := hQ M (gF_refl _ _ _)
    rw [if_neg (fun q => hv q.1)] at h0
    first | rw [br_n (hv)] | rw [br_q (hv)] | rw [br_u (hv)]
    exact h0
theorem op_saying (v i w : Int32) : OpI 116 254 [.int v, .int i, .int w] isI := op_q (fun D => ⟨_, rfl⟩) (x_saying v i w) (m_saying v i w)
