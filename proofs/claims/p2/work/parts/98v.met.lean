/-! met -/
theorem x_settledF {M : am_M} {z s : Nat} {D : Dat} (hD : dOK D) (h : XR M z D) (d : Nat) (hs : s < dN D) (Q : Option Value → am_M → Prop) (hQ : ∀ M', zF (sSt s) M M' → XR M' z D → mI M' (173 + 13 * s) 4 = 1 → SetX M' s (dV D s) (dWt D s) (dSn D s) (dBs D s) (dY D s) → Q none M') : am_E am_P0 (d + 4) 83 [.ref (173 + 13 * s)] M Q := by
  obtain ⟨⟨hL, hI, hz, r2, r3, hO⟩, -, hS1, hTk, hLk⟩ := id h
  have n8 := dN_8 hD
  obtain ⟨t1, t2, t3, t4⟩ := hTk s hs
  exact c_x_settle d s (z + 25 + 7 * s) z (dV D s) (dWt D s) (dDp D) (dDr D s) (dLd D s) (dBs D s) (dY D s) M Q hL hI (by omega) (isSh_z hz (by omega)) hz (hD.1.2.2.2.2.1 s) (dSn_w hD s) t1 t2 (fun M1 f1 h4 hS => hQ M1 f1 (XR_set hD hs h f1 h4 hS) h4 hS)
theorem sSt_q {s z a j : Nat} (hs : s < 8) (h : sSt s a j) : sXq z a j := by unfold sSt at h; unfold sXq; omega
abbrev dSX (M : am_M) (D : Dat) (s : Nat) : Prop := SetX M s (dV D s) (dWt D s) (dSn D s) (dBs D s) (dY D s)
theorem x_setT {M : am_M} {z s : Nat} {D : Dat} (hD : dOK D) (h : XR M z D) (d : Nat) (hs : s < dN D) (Q : Option Value → am_M → Prop) (hQ : ∀ M', zF (sSt s) M M' → XR M' z D → dSX M' D s → Q (some (.ref (173 + 13 * s))) M') : am_E am_P0 (d + 5) 154 [.ref 0, .int (nI s)] M Q := by
  have n8 := dN_8 hD
  have hL := h.1.1
  have hst := isTr_of (show s < 8 by omega)
  rw [eX10_settled]
  simp +decide (disch := omega) only [qX10_settled, lx hL, lt_ hL hst, ltr hL (show s < 8 by omega), ni_in_t, ni_tn, am_w1_i, am_w1_r, am_w1_x, am_w1_l, am_w1_w, va_rf_s, am_push_n, am_push_s, am_cs_0, am_cs_i, am_cs_l, am_cs_r, m_uI_K, m_uI_N, m_uI_R, m_uI_L, m_uI_I, m_uL_K, m_uL_N, m_uL_R, m_uL_I, m_uL_L, m_uR_K, m_uR_N, m_uR_I, m_uR_L, m_uR_R, true_and, and_true, true_implies, false_implies, not_true_eq_false, not_false_eq_true, if_true, if_false, false_and, and_false]
  refine x_settledF hD h d hs _ (fun M1 f1 X1 h4 hS => ?_)
  have h0 := hQ M1 f1 X1 hS
  simp +decide (disch := omega) only [qX10_settled, lx X1.1.1, ltr X1.1.1 (show s < 8 by omega), ni_in_t, ni_tn, am_w1_i, am_w1_r, am_w1_x, am_w1_l, am_w1_w, va_rf_s, am_push_n, am_push_s, am_cs_0, am_cs_i, am_cs_l, am_cs_r, m_uI_K, m_uI_N, m_uI_R, m_uI_L, m_uI_I, m_uL_K, m_uL_N, m_uL_R, m_uL_I, m_uL_L, m_uR_K, m_uR_N, m_uR_I, m_uR_L, m_uR_R, true_and, and_true, true_implies, false_implies, not_true_eq_false, not_false_eq_true, if_true, if_false, false_and, and_false]
  exact h0
def kpP (D : Dat) (s k : Nat) : Prop := fitP (dWt D s) (dV D s) (dBs D s) ∧ keptY (dWt D s) (dV D s) (dSn D s) (dBs D s) (dY D s) k
def chD (D : Dat) (s : Nat) (wl : Bool) (t : Nat) : Prop := chP (kpP D s) (dY D s) wl (dY D s).length t
noncomputable def mtN (D : Dat) (a b h : Nat) : Nat := cnt (fun p => dB (dMy D a h p ∧ dMy D b h p)) 256
noncomputable def mtH (D : Dat) (a b h : Nat) : Nat := @ite _ (chD D a true h ∧ chD D b false h) (Classical.propDecidable _) (mtN D a b h) 0
theorem mtH_t {D : Dat} {a b h : Nat} (c : chD D a true h ∧ chD D b false h) : mtH D a b h = mtN D a b h := if_pos c
theorem mtH_f {D : Dat} {a b h : Nat} (c : ¬ (chD D a true h ∧ chD D b false h)) : mtH D a b h = 0 := if_neg c
theorem mtH_le (D : Dat) (a b h : Nat) : mtH D a b h ≤ 256 := by
  by_cases c : chD D a true h ∧ chD D b false h
  · rw [mtH_t c]; exact cnt_le _ _
  · rw [mtH_f c]; omega
noncomputable def mtB (D : Dat) (a b h : Nat) : Bool := decide (0 < mtH D a b h)
noncomputable def mtA (D : Dat) (a b : Nat) (w : Int32) : Int32 := if w.toInt = 0 then nI (cnt (mtB D a b) 48) else if w.toInt = 1 then oI (fs (mtB D a b) 48) 48 else nI (sumF (mtH D a b) 48)
noncomputable def aMet (v u w : Int32) (D : Dat) : Value := .int (if ¬ v = u ∧ (0 ≤ v.toInt ∧ v.toInt < dN D) ∧ (0 ≤ u.toInt ∧ u.toInt < dN D) ∧ 0 ≤ w.toInt ∧ w.toInt ≤ 2 then mtA D v.toInt.toNat u.toInt.toNat w else -1)
theorem oI_s {c : Nat → Bool} {h : Nat} : oI (fs c (h + 1)) (h + 1) = if fs c h < h then oI (fs c h) h else if c h = true then nI h else -1 := by
  have e : fs c (h + 1) = if fs c h < h then fs c h else if c h = true then h else h + 1 := rfl
  rw [e]
  unfold oI
  by_cases q : fs c h < h
  · rw [if_pos q, if_pos q, if_pos q, if_pos (by omega)]
  · rw [if_neg q, if_neg q]
    by_cases r : c h = true
    · rw [if_pos r, if_pos r, if_pos (by omega)]
    · rw [if_neg r, if_neg r, if_neg (by omega)]
theorem mt_sum (D : Dat) (a b : Nat) : ∀ n, n ≤ 48 → sumF (mtH D a b) n ≤ n * 256 := fun n _ => sumF_le _ 256 (fun i => mtH_le D a b i) n
theorem l_x_met (d s o : Nat) (x : Int64) (w : Int32) (D : Dat) (M : am_M) (Q : Option Value → am_M → Prop) (hL : Lay M) (hs : s < 8) (ho : o < 8) (hS : dSX M D s) (hO : dSX M D o) (hx : ∀ t, t < 64 → (sbit x t = true ↔ chD D s true t ∧ chD D o false t)) (x1 x2 : Int32) (hw : 0 ≤ w.toInt ∧ w.toInt ≤ 2) (hQ : Q (some (.int (mtA D s o w))) M) :
    ∀ (m h : Nat), h + m = 48 → ∀ (v12 : Value), jk v12 → am_P am_P0 (d + 2) (am_look tX10_met) 73 [.ref 0, .int x1, .int x2, .int w, .ref (173 + 13 * s), .ref (173 + 13 * o), .long x, am_x, .int (nI (cnt (mtB D s o) h)), .int (oI (fs (mtB D s o) h) h), .int (nI (sumF (mtH D s o) h)), .int (nI h), v12] [] M Q := by
  intro m
  induction m with
  | zero =>
    intro h hh v12 hv
    have eh : h = 48 := by omega
    subst eh
    unfold mtA at hQ
    rw [hX10_met_73]
    simp +decide only [qX10_met_0, qX10_met_1, qX10_met_2, show nI 48 = (48 : Int32) from rfl, Classical.not_not, am_w1_i, am_w1_r, am_w1_x, am_w1_l, am_w1_w, va_rf_s, am_push_n, am_push_s, am_cs_0, am_cs_i, am_cs_l, am_cs_r, m_uI_K, m_uI_N, m_uI_R, m_uI_L, m_uI_I, m_uL_K, m_uL_N, m_uL_R, m_uL_I, m_uL_L, m_uR_K, m_uR_N, m_uR_I, m_uR_L, m_uR_R, true_and, and_true, true_implies, false_implies, not_true_eq_false, not_false_eq_true, if_true, if_false, false_and, and_false]
    by_cases c : w = 0
    · rw [if_pos (by rw [c]; rfl)] at hQ
      first | rw [br_p (c)] | rw [br_r (c)] | rw [br_s (c)]
      exact hQ
    · have c' : ¬ w.toInt = 0 := fun q => c (Int32.toInt_inj.mp q)
      rw [if_neg c'] at hQ
      first | rw [br_n (c)] | rw [br_q (c)] | rw [br_u (c)]
      by_cases c1 : w = 1
      · rw [if_pos (by rw [c1]; rfl)] at hQ
        first | rw [br_p (c1)] | rw [br_r (c1)] | rw [br_s (c1)]
        exact hQ
      · have c1' : ¬ w.toInt = 1 := fun q => c1 (Int32.toInt_inj.mp q)
        rw [if_neg c1'] at hQ
        first | rw [br_n (c1)] | rw [br_q (c1)] | rw [br_u (c1)]
        exact hQ
  | succ m ih =>
    intro h hh v12 hv
    have hlt : ¬ (48 : Int32) ≤ nI h := by rw [show (48 : Int32) = nI 48 from rfl, ni_le (by omega) (by omega)]; omega
    have hst := lt_ hL (isTr_of hs)
    have hso := lt_ hL (isTr_of ho)
    have ec := fun Q => c_x_countShared (d + 0) s o h M Q hL hs ho (by omega)
    have e1 : cnt (fun p => dB (inS (my4 M s h) p ∧ inS (my4 M o h) p)) 256 = mtN D s o h := by
      unfold mtN
      congr 1
      funext p
      exact congrArg dB (propext (and_congr (hS.2.2.2.2 h (by omega) p) (hO.2.2.2.2 h (by omega) p)))
    have hb := bt_test x (i := h) (by omega)
    have hle := mtH_le D s o h
    have hsm := mt_sum D s o h (by omega)
    have hcn := cnt_le (mtB D s o) h
    -- behind the count
    have key : am_P am_P0 (d + 2) (am_look tX10_met) 107 [.ref 0, .int x1, .int x2, .int w, .ref (173 + 13 * s), .ref (173 + 13 * o), .long x, am_x, .int (nI (cnt (mtB D s o) h)), .int (oI (fs (mtB D s o) h) h), .int (nI (sumF (mtH D s o) h)), .int (nI h), .int (nI (mtH D s o h))] [] M Q := by
      have h0 := ih (h + 1) (by omega) (.int (nI (mtH D s o h))) (Or.inr ⟨_, rfl⟩)
      rw [oI_s, show sumF (mtH D s o) (h + 1) = sumF (mtH D s o) h + mtH D s o h from rfl] at h0
      simp +decide only [qX10_met_0, qX10_met_1, qX10_met_2, ni_add1, ni_add, Classical.not_not, am_w1_i, am_w1_r, am_w1_x, am_w1_l, am_w1_w, va_rf_s, am_push_n, am_push_s, am_cs_0, am_cs_i, am_cs_l, am_cs_r, m_uI_K, m_uI_N, m_uI_R, m_uI_L, m_uI_I, m_uL_K, m_uL_N, m_uL_R, m_uL_I, m_uL_L, m_uR_K, m_uR_N, m_uR_I, m_uR_L, m_uR_R, true_and, and_true, true_implies, false_implies, not_true_eq_false, not_false_eq_true, if_true, if_false, false_and, and_false]
      rw [ni_pos (by omega)]
      by_cases c : mtH D s o h = 0
      · have hf : ¬ mtB D s o h = true := by unfold mtB; simp; omega
        rw [cnt_f hf, c, Nat.add_zero] at h0
        first | rw [br_p (c)] | rw [br_r (c)] | rw [br_s (c)]
        by_cases q : fs (mtB D s o) h < h
        · rw [if_pos q] at h0
          rw [c]
          exact h0
        · rw [if_neg q, if_neg hf] at h0
          rw [c, show oI (fs (mtB D s o) h) h = -1 from by unfold oI; rw [if_neg q]]
          exact h0
      · have hf : mtB D s o h = true := by unfold mtB; simp; omega
        rw [cnt_t hf] at h0
        first | rw [br_n (c)] | rw [br_q (c)] | rw [br_u (c)]
        by_cases q : fs (mtB D s o) h < h
        · rw [if_pos q] at h0
          have hne : ¬ oI (fs (mtB D s o) h) h = -1 := by unfold oI; rw [if_pos q]; exact nI_m1 (by omega)
          first | rw [br_n (hne)] | rw [br_q (hne)] | rw [br_u (hne)]
          exact h0
        · rw [if_neg q, if_pos hf] at h0
          have e : oI (fs (mtB D s o) h) h = -1 := by unfold oI; rw [if_neg q]
          first | rw [br_p (e)] | rw [br_r (e)] | rw [br_s (e)]
          exact h0
    rw [hX10_met_73]
    simp +decide only [qX10_met_0, qX10_met_1, qX10_met_2, hst, hso, ec, e1, lgc_0, hb, Classical.not_not, jk_w hv, am_w1_i, am_w1_r, am_w1_x, am_w1_l, am_w1_w, va_rf_s, am_push_n, am_push_s, am_cs_0, am_cs_i, am_cs_l, am_cs_r, m_uI_K, m_uI_N, m_uI_R, m_uI_L, m_uI_I, m_uL_K, m_uL_N, m_uL_R, m_uL_I, m_uL_L, m_uR_K, m_uR_N, m_uR_I, m_uR_L, m_uR_R, true_and, and_true, true_implies, false_implies, not_true_eq_false, not_false_eq_true, if_true, if_false, false_and, and_false]
    first | rw [br_n (hlt)] | rw [br_q (hlt)] | rw [br_u (hlt)]
    by_cases c : sbit x h = true
    · have k0 := key
      rw [mtH_t ((hx h (by omega)).mp c)] at k0
      first | rw [br_p (c)] | rw [br_r (c)] | rw [br_s (c)]
      simp +decide only [qX10_met_0, qX10_met_1, qX10_met_2, ni_add1, ni_add, Classical.not_not, am_w1_i, am_w1_r, am_w1_x, am_w1_l, am_w1_w, va_rf_s, am_push_n, am_push_s, am_cs_0, am_cs_i, am_cs_l, am_cs_r, m_uI_K, m_uI_N, m_uI_R, m_uI_L, m_uI_I, m_uL_K, m_uL_N, m_uL_R, m_uL_I, m_uL_L, m_uR_K, m_uR_N, m_uR_I, m_uR_L, m_uR_R, true_and, and_true, true_implies, false_implies, not_true_eq_false, not_false_eq_true, if_true, if_false, false_and, and_false] at k0 ⊢
      exact k0
    · have k0 := key
      rw [mtH_f (fun q => c ((hx h (by omega)).mpr q))] at k0
      first | rw [br_n (c)] | rw [br_q (c)] | rw [br_u (c)]
      simp +decide only [qX10_met_0, qX10_met_1, qX10_met_2, show nI 0 = (0 : Int32) from rfl, ni_add1, ni_add, Classical.not_not, am_w1_i, am_w1_r, am_w1_x, am_w1_l, am_w1_w, va_rf_s, am_push_n, am_push_s, am_cs_0, am_cs_i, am_cs_l, am_cs_r, m_uI_K, m_uI_N, m_uI_R, m_uI_L, m_uI_I, m_uL_K, m_uL_N, m_uL_R, m_uL_I, m_uL_L, m_uR_K, m_uR_N, m_uR_I, m_uR_L, m_uR_R, true_and, and_true, true_implies, false_implies, not_true_eq_false, not_false_eq_true, if_true, if_false, false_and, and_false] at k0 ⊢
      exact k0
theorem x_met (v u w : Int32) : XqO 130 [.int v, .int u, .int w] (aMet v u w) := by
  intro d M z D Q hD h hQ
  have hz := h.1.2.2.1
  have hL := h.1.1
  have n8 := dN_8 hD
  have eS := fun v Q => x_isShip hD h (d + 19) v Q
  have e2 : (2 : Int32).toInt = 2 := rfl
  unfold aMet at hQ
  rw [eX10_met]
  simp +decide only [qX10_met_0, qX10_met_1, qX10_met_2, lx hL, eS, bI_0, Classical.not_not, am_w1_i, am_w1_r, am_w1_x, am_w1_l, am_w1_w, va_rf_s, am_push_n, am_push_s, am_cs_0, am_cs_i, am_cs_l, am_cs_r, m_uI_K, m_uI_N, m_uI_R, m_uI_L, m_uI_I, m_uL_K, m_uL_N, m_uL_R, m_uL_I, m_uL_L, m_uR_K, m_uR_N, m_uR_I, m_uR_L, m_uR_R, true_and, and_true, true_implies, false_implies, not_true_eq_false, not_false_eq_true, if_true, if_false, false_and, and_false]
  by_cases e : v = u
  · have h0 := hQ M (XR_2 h) h
    rw [if_neg (fun q => q.1 e)] at h0
    first | rw [br_p (e)] | rw [br_r (e)] | rw [br_s (e)]
    exact h0
  · first | rw [br_n (e)] | rw [br_q (e)] | rw [br_u (e)]
    by_cases hv : 0 ≤ v.toInt ∧ v.toInt < dN D
    · first | rw [br_p (hv)] | rw [br_r (hv)] | rw [br_s (hv)]
      by_cases hu : 0 ≤ u.toInt ∧ u.toInt < dN D
      · first | rw [br_p (hu)] | rw [br_r (hu)] | rw [br_s (hu)]
        by_cases w0 : w < 0
        · have h0 := hQ M (XR_2 h) h
          rw [if_neg (fun q => by rw [lt32, z32] at w0; omega)] at h0
          first | rw [br_p (w0)] | rw [br_r (w0)] | rw [br_s (w0)]
          exact h0
        · first | rw [br_n (w0)] | rw [br_q (w0)] | rw [br_u (w0)]
          rw [lt32, z32] at w0
          by_cases w2 : w ≤ 2
          · first | rw [br_p (w2)] | rw [br_r (w2)] | rw [br_s (w2)]
            rw [le32, e2] at w2
            rw [if_pos ⟨e, hv, hu, by omega, by omega⟩] at hQ
            obtain ⟨s, s1, s2, s3⟩ := sh_of (by omega) hv
            obtain ⟨o, o1, o2, o3⟩ := sh_of (by omega) hu
            have hso : ¬ s = o := fun q => e (by rw [s2, o2, q])
            rw [s3, o3] at hQ
            rw [s2, o2]
            refine x_setT hD h (d + 14) s1 _ (fun M1 f1 X1 S1 => ?_)
            simp +decide only [qX10_met_0, qX10_met_1, qX10_met_2, lx X1.1.1, am_w1_i, am_w1_r, am_w1_x, am_w1_l, am_w1_w, va_rf_s, am_push_n, am_push_s, am_cs_0, am_cs_i, am_cs_l, am_cs_r, m_uI_K, m_uI_N, m_uI_R, m_uI_L, m_uI_I, m_uL_K, m_uL_N, m_uL_R, m_uL_I, m_uL_L, m_uR_K, m_uR_N, m_uR_I, m_uR_L, m_uR_R, true_and, and_true, true_implies, false_implies, not_true_eq_false, not_false_eq_true, if_true, if_false, false_and, and_false]
            refine x_setT hD X1 (d + 14) o1 _ (fun M2 f2 X2 S2 => ?_)
            have S1' : dSX M2 D s := SetX_z (by omega) S1 f2 (fun a j q w => by unfold sSt at w; omega)
            have L2 := X2.1.1
            have hst := lt_ L2 (isTr_of (show s < 8 by omega))
            have hot := lt_ L2 (isTr_of (show o < 8 by omega))
            simp +decide only [qX10_met_0, qX10_met_1, qX10_met_2, hst, am_w1_i, am_w1_r, am_w1_x, am_w1_l, am_w1_w, va_rf_s, am_push_n, am_push_s, am_cs_0, am_cs_i, am_cs_l, am_cs_r, m_uI_K, m_uI_N, m_uI_R, m_uI_L, m_uI_I, m_uL_K, m_uL_N, m_uL_R, m_uL_I, m_uL_L, m_uR_K, m_uR_N, m_uR_I, m_uR_L, m_uR_R, true_and, and_true, true_implies, false_implies, not_true_eq_false, not_false_eq_true, if_true, if_false, false_and, and_false]
            refine c_x_hoursOfChange (d + 19) s (z + 25 + 7 * s) z (dV D s) (dWt D s) (dDp D) (dDr D s) (dLd D s) (dBs D s) (dY D s) true (kpP D s) M2 _ L2 (by omega) (isSh_z hz (by omega)) (hD.1.2.2.2.2.1 s) (X2.2.2.2.1 s s1).1 S1'.2.2.2.1 (fun x hx => ?_)
            simp +decide only [qX10_met_0, qX10_met_1, qX10_met_2, hot, am_w1_i, am_w1_r, am_w1_x, am_w1_l, am_w1_w, va_rf_s, am_push_n, am_push_s, am_cs_0, am_cs_i, am_cs_l, am_cs_r, m_uI_K, m_uI_N, m_uI_R, m_uI_L, m_uI_I, m_uL_K, m_uL_N, m_uL_R, m_uL_I, m_uL_L, m_uR_K, m_uR_N, m_uR_I, m_uR_L, m_uR_R, true_and, and_true, true_implies, false_implies, not_true_eq_false, not_false_eq_true, if_true, if_false, false_and, and_false]
            refine c_x_hoursOfChange (d + 19) o (z + 25 + 7 * o) z (dV D o) (dWt D o) (dDp D) (dDr D o) (dLd D o) (dBs D o) (dY D o) false (kpP D o) M2 _ L2 (by omega) (isSh_z hz (by omega)) (hD.1.2.2.2.2.1 o) (X2.2.2.2.1 o o1).1 S2.2.2.2.1 (fun y hy => ?_)
            have h0 := hQ M2 (zF_trans (zF_up f1 (fun a j q => sSt_q (by omega) q)) (zF_up f2 (fun a j q => sSt_q (by omega) q))) X2
            have h9 := l_x_met (d + 18) s o (x &&& y) w D M2 Q L2 (by omega) (by omega) S1' S2 (fun t ht => by
              rw [sb_and, Bool.and_eq_true, hx t ht, hy t ht]
              exact Iff.rfl) (nI s) (nI o) ⟨by omega, by omega⟩ h0 48 0 (by omega) am_x (Or.inl rfl)
            simp +decide only [qX10_met_0, qX10_met_1, qX10_met_2, am_w1_i, am_w1_r, am_w1_x, am_w1_l, am_w1_w, va_rf_s, am_push_n, am_push_s, am_cs_0, am_cs_i, am_cs_l, am_cs_r, m_uI_K, m_uI_N, m_uI_R, m_uI_L, m_uI_I, m_uL_K, m_uL_N, m_uL_R, m_uL_I, m_uL_L, m_uR_K, m_uR_N, m_uR_I, m_uR_L, m_uR_R, true_and, and_true, true_implies, false_implies, not_true_eq_false, not_false_eq_true, if_true, if_false, false_and, and_false]
            exact h9
          · have h0 := hQ M (XR_2 h) h
            rw [if_neg (fun q => w2 (by rw [le32, e2]; omega))] at h0
            first | rw [br_n (w2)] | rw [br_q (w2)] | rw [br_u (w2)]
            exact h0
      · have h0 := hQ M (XR_2 h) h
        rw [if_neg (fun q => hu q.2.2.1)] at h0
        first | rw [br_n (hu)] | rw [br_q (hu)] | rw [br_u (hu)]
        exact h0
    · have h0 := hQ M (XR_2 h) h
      rw [if_neg (fun q => hv q.2.1)] at h0
      first | rw [br_n (hv)] | rw [br_q (hv)] | rw [br_u (hv)]
      exact h0
