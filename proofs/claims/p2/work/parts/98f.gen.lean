/-! the model's workers, as they are asked of what is told -/
theorem br_s {c A B : Prop} (h : c) : ((¬ c → A) ∧ (c → B)) ↔ B := ⟨fun q => q.2 h, fun b => ⟨fun n => absurd h n, fun _ => b⟩⟩
theorem br_u {c A B : Prop} (h : ¬ c) : ((¬ c → A) ∧ (c → B)) ↔ A := ⟨fun q => q.1 h, fun b => ⟨fun _ => b, fun n => absurd n h⟩⟩
theorem sMq_Y {a j : Nat} (h : sY a j) : sMq a j := by unfold sY sK sP sFG sF sG at h; unfold sMq; omega
theorem sMq_K {a j : Nat} (h : sK a j) : sMq a j := sMq_Y (Or.inl h)
theorem sMq_P {a j : Nat} (h : sP a j) : sMq a j := sMq_K (Or.inl h)
theorem sMq_FG {a j : Nat} (h : sFG a j) : sMq a j := sMq_P (Or.inl h)
theorem m_keeps {M : am_M} {b s : Nat} {D : Dat} (hD : dOK D) (hL : Lay M) (hM : MdM M b D) (hs : s < dN D) (d : Nat) (Q : Option Value → am_M → Prop) (hQ : ∀ M', gF sMq nT M M' → KpM (dWt D s) (dV D s) (dSn D s) (dBs D s) (dY D s) M' → Q none M') : am_E am_P0 (d + 6) 248 [.ref 277, .int (nI s)] M Q := by
  obtain ⟨h1, h2, h3, h4, h5⟩ := mh hD hM hs
  have n8 := dN_8 hD
  refine c_m_keeps d s b (dC D) (dR D) (dV D s) (dDp D) (dDr D s) (dLd D s) (dBk D) (dY D s) M Q hL h1 (by omega) h2 h3 h4 (dY_len hD s) (fun M1 g1 k1 => ?_)
  rw [h5] at k1
  exact hQ M1 (gF_up (gF_o g1) (fun a j q => sMq_K q) (fun _ _ q => q)) k1
theorem m_laysS {M : am_M} {b s : Nat} {D : Dat} (hD : dOK D) (hL : Lay M) (hM : MdM M b D) (hs : s < dN D) (d : Nat) (Q : Option Value → am_M → Prop) (hQ : ∀ M', gF sMq nT M M' → LyM M' (dC D) (dR D) (dWt D s) (dV D s) (dSn D s) (dBs D s) (dY D s) → Q none M') : am_E am_P0 (d + 7) 249 [.ref 277, .int (nI s)] M Q := by
  obtain ⟨h1, h2, h3, h4, h5⟩ := mh hD hM hs
  have n8 := dN_8 hD
  refine c_m_lays d s b (dC D) (dR D) (dV D s) (dDp D) (dDr D s) (dLd D s) (dBk D) (dY D s) M Q hL h1 (by omega) h2 h3 h4 (dY_len hD s) (fun M1 g1 k1 => ?_)
  rw [h5] at k1
  exact hQ M1 (gF_up (gF_o g1) (fun a j q => sMq_Y q) (fun _ _ q => q)) k1
theorem m_pairs {M : am_M} {b s : Nat} {D : Dat} (hD : dOK D) (hL : Lay M) (hM : MdM M b D) (hs : s < dN D) (d : Nat) (Q : Option Value → am_M → Prop) (hQ : ∀ M', gF sMq nT M M' → PrM (dWt D s) (dV D s) (dSn D s) (dBs D s) (dY D s) M' (dY D s).length → Q none M') : am_E am_P0 (d + 5) 247 [.ref 277, .int (nI s)] M Q := by
  obtain ⟨h1, h2, h3, h4, h5⟩ := mh hD hM hs
  have n8 := dN_8 hD
  refine c_m_pairs d s b (dC D) (dR D) (dV D s) (dDp D) (dDr D s) (dLd D s) (dBk D) (dY D s) M Q hL h1 (by omega) h2 h3 h4 (dY_len hD s) (fun M1 g1 k1 => ?_)
  rw [h5] at k1
  exact hQ M1 (gF_up (gF_o g1) (fun a j q => sMq_P q) (fun _ _ q => q)) k1
theorem m_booksFit {M : am_M} {b s : Nat} {D : Dat} (hD : dOK D) (hL : Lay M) (hM : MdM M b D) (hs : s < dN D) (d : Nat) (Q : Option Value → am_M → Prop) (hQ : ∀ M', gF sMq nT M M' → Q (some (.int (tI (fitP (dWt D s) (dV D s) (dBs D s))))) M') : am_E am_P0 (d + 5) 245 [.ref 277, .int (nI s)] M Q := by
  obtain ⟨h1, h2, h3, h4, h5⟩ := mh hD hM hs
  have n8 := dN_8 hD
  refine c_m_booksFit d s b (dC D) (dR D) (dV D s) (dBk D) M Q hL h1 (by omega) h2.1 h2.2.1 h2.2.2.1 h3 h4 (fun M1 g1 => ?_)
  rw [h5]
  exact hQ M1 (gF_up (gF_o g1) (fun a j q => sMq_FG q) (fun _ _ q => q))
theorem m_mayBe {M : am_M} {b s : Nat} {D : Dat} (hD : dOK D) (hL : Lay M) (hM : MdM M b D) (hs : s < dN D) (d : Nat) (Q : Option Value → am_M → Prop) (hY : LyM M (dC D) (dR D) (dWt D s) (dV D s) (dSn D s) (dBs D s) (dY D s)) {q t : Nat} (hq : vld (dC D) (dR D) q) (ht : t < 48) : am_E am_P0 (d + 1) 250 [.ref 277, .int (nI s), .int (nI (cel (dC D) q)), .int (nI t)] M Q ↔ Q (some (.int (tI (dMy D s t q)))) M := by
  obtain ⟨h1, h2, h3, h4, h5⟩ := mh hD hM hs
  have n8 := dN_8 hD
  exact c_m_mayBe d s b (dC D) (dR D) (dV D s) q t (dWt D s) (dSn D s) (dBs D s) (dY D s) M Q hL h1 (by omega) h5.symm hY (dBs_len hD s) (dY_len hD s) hq ht
theorem m_cellsOf {M : am_M} {b s : Nat} {D : Dat} (hD : dOK D) (hL : Lay M) (hM : MdM M b D) (hs : s < dN D) (d : Nat) (Q : Option Value → am_M → Prop) (hY : LyM M (dC D) (dR D) (dWt D s) (dV D s) (dSn D s) (dBs D s) (dY D s)) {t : Nat} (ht : t < 48) : am_E am_P0 (d + 2) 251 [.ref 277, .int (nI s), .int (nI t)] M Q ↔ Q (some (.int (nI (dMc D s t)))) M := by
  obtain ⟨h1, h2, h3, h4, h5⟩ := mh hD hM hs
  have n8 := dN_8 hD
  have e : cnt (fun c => dB (dMy D s t (plc (dC D) c))) (dC D * dR D) = dMc D s t := (cnt_places (P := fun p => dMy D s t p) hD.1.1.1 hD.1.1.2 (fun p q => ((dWt_v hD hs p).mp q.2.1).1)).symm
  rw [← e]
  exact c_m_cellsOf d s b (dC D) (dR D) (dV D s) t (dWt D s) (dSn D s) (dBs D s) (dY D s) M Q hL h1 (by omega) h5.symm hY (dBs_len hD s) (dY_len hD s) ht
theorem KpM_kc {w : Nat → Prop} {v : Nat} {snd : Nat → Bool → Prop} {B : List Fct} {Y : List Sy} {M : am_M} (h : KpM w v snd B Y M) : mI M 277 66 = nI (kcY w v snd B Y) ∧ mI M 277 65 = nI Y.length := by
  refine ⟨?_, h.1.1.1⟩
  by_cases c : fitP w v B
  · rw [kcY_t c]; exact h.2.2.1 c
  · rw [kcY_f c]; exact h.2.2.2.1 c
theorem l_m_booksOf (d b C s : Nat) (L : List Bk) (M : am_M) (Q : Option Value → am_M → Prop) (hL : Lay M) (hb : mI M 277 12 = nI b) (hb2 : b < 2) (hK : BkM M b C L) (h12 : L.length ≤ 12) (hk : ∀ k, k ∈ L → k.1 < 8) (hs : s < 8) : ∀ (m i : Nat), i + m = L.length → (am_P am_P0 d (am_look tX11_booksOf) 4 [.ref 277, .int (nI s), .int (nI (bkOf (L.take i) s).length), .int (nI i)] [] M Q ↔ Q (some (.int (nI (bkOf L s).length))) M) := by
  intro m
  induction m with
  | zero =>
    intro i hi
    have hle : nI L.length ≤ nI i := (ni_le (by omega) (by omega)).mpr (by omega)
    rw [hX11_booksOf_4]
    simp +decide (disch := omega) only [qX11_booksOf, lm hL, hb, hK.1, ni_in_t, ni_tn, am_w1_i, am_w1_r, am_w1_x, am_w1_l, am_w1_w, va_rf_s, am_push_n, am_push_s, am_cs_0, am_cs_i, am_cs_l, am_cs_r, m_uI_K, m_uI_N, m_uI_R, m_uI_L, m_uI_I, m_uL_K, m_uL_N, m_uL_R, m_uL_I, m_uL_L, m_uR_K, m_uR_N, m_uR_I, m_uR_L, m_uR_R, true_and, and_true, true_implies, false_implies, not_true_eq_false, not_false_eq_true, if_true, if_false, false_and, and_false]
    rw [br_p hle, List.take_of_length_le (by omega)]
  | succ m ih =>
    intro i hi
    have hlt : ¬ nI L.length ≤ nI i := by rw [ni_le (by omega) (by omega)]; omega
    have h0 := ih (i + 1) (by omega)
    obtain ⟨k, hk1⟩ : ∃ k, L[i]? = some k := ⟨L[i]'(by omega), List.getElem?_eq_getElem (by omega)⟩
    have hk8 := hk k (List.mem_of_getElem? hk1)
    have e12 : (12 : Int32) * nI b + nI i = nI (12 * b + i) := by rw [show (12 : Int32) = nI 12 from rfl, ni_mul, ni_add]
    have e1 := (hK.2 i k hk1).1
    rw [bkOf_take hk1] at h0
    rw [hX11_booksOf_4]
    simp +decide (disch := omega) only [qX11_booksOf, lm hL, hb, hK.1, e12, e1, ni_in_t, ni_tn, ni_add1, am_w1_i, am_w1_r, am_w1_x, am_w1_l, am_w1_w, va_rf_s, am_push_n, am_push_s, am_cs_0, am_cs_i, am_cs_l, am_cs_r, m_uI_K, m_uI_N, m_uI_R, m_uI_L, m_uI_I, m_uL_K, m_uL_N, m_uL_R, m_uL_I, m_uL_L, m_uR_K, m_uR_N, m_uR_I, m_uR_L, m_uR_R, true_and, and_true, true_implies, false_implies, not_true_eq_false, not_false_eq_true, if_true, if_false, false_and, and_false]
    rw [br_n hlt, ni_eq (by omega) (by omega)]
    by_cases c : k.1 = s
    · rw [if_pos c, List.length_append] at h0
      rw [br_r c]
      exact h0
    · rw [if_neg c] at h0
      rw [br_q c, show (0 : Int32) = nI 0 from rfl, ni_add]
      exact h0
theorem m_booksOf {M : am_M} {b s : Nat} {D : Dat} (hD : dOK D) (hL : Lay M) (hM : MdM M b D) (hs : s < 8) (d : Nat) (Q : Option Value → am_M → Prop) : am_E am_P0 d 231 [.ref 277, .int (nI s)] M Q ↔ Q (some (.int (nI (dBs D s).length))) M := by
  have hbk := hD.1.2.2.2.2.2.2.1.1
  have h0 := l_m_booksOf d b (dC D) s (dBk D) M Q hL hM.1.1 hM.1.2 hM.2.2.2.2.2.1 hbk.1 (fun k hk => (hbk.2 k hk).1) hs (dBk D).length 0 (by omega)
  rw [eX11_booksOf]
  simp +decide only [qX11_booksOf, am_w1_i, am_w1_r, am_w1_x, am_w1_l, am_w1_w, va_rf_s, am_push_n, am_push_s, am_cs_0, am_cs_i, am_cs_l, am_cs_r, m_uI_K, m_uI_N, m_uI_R, m_uI_L, m_uI_I, m_uL_K, m_uL_N, m_uL_R, m_uL_I, m_uL_L, m_uR_K, m_uR_N, m_uR_I, m_uR_L, m_uR_R, true_and, and_true, true_implies, false_implies, not_true_eq_false, not_false_eq_true, if_true, if_false, false_and, and_false]
  exact h0
/-! ship -/
noncomputable def shA (D : Dat) (s w : Nat) : Int32 := if w = 0 then nI (dSp D s).2.1 else if w = 1 then nI (dV D s) else if w = 2 then nI (dDr D s) else if w = 3 then nI (dLd D s) else if w = 4 then nI (dY D s).length else if w = 5 then nI (kcY (dWt D s) (dV D s) (dSn D s) (dBs D s) (dY D s)) else if w = 6 then nI ((dY D s).length - kcY (dWt D s) (dV D s) (dSn D s) (dBs D s) (dY D s)) else if w = 7 then nI (dBs D s).length else tI (fitP (dWt D s) (dV D s) (dBs D s))
noncomputable def aShp (v w : Int32) (D : Dat) : Value := .int (if (0 ≤ v.toInt ∧ v.toInt < dN D) ∧ 0 ≤ w.toInt ∧ w.toInt < 9 then shA D v.toInt.toNat w.toInt.toNat else -1)
theorem x_shipA (v w : Int32) : XqO 115 [.int v, .int w] (aShp v w) := by
  intro d M z D Q hD h hQ
  have hz := h.1.2.2.1
  have hL := h.1.1
  have hr := h.1.2.2.2.1
  have n8 := dN_8 hD
  have eS := fun v Q => x_isShip hD h (d + 19) v Q
  unfold aShp at hQ
  rw [eX10_ship]
  simp +decide only [qX10_ship_0, qX10_ship_1, lx hL, lz hL hz, hr, eS, bI_0, Classical.not_not, am_w1_i, am_w1_r, am_w1_x, am_w1_l, am_w1_w, va_rf_s, am_push_n, am_push_s, am_cs_0, am_cs_i, am_cs_l, am_cs_r, m_uI_K, m_uI_N, m_uI_R, m_uI_L, m_uI_I, m_uL_K, m_uL_N, m_uL_R, m_uL_I, m_uL_L, m_uR_K, m_uR_N, m_uR_I, m_uR_L, m_uR_R, true_and, and_true, true_implies, false_implies, not_true_eq_false, not_false_eq_true, if_true, if_false, false_and, and_false]
  by_cases hv : 0 ≤ v.toInt ∧ v.toInt < dN D
  · rw [br_p hv]
    obtain ⟨s, s1, s2, s3⟩ := sh_of (by omega) hv
    have hsh := lsh hL hz (s := s) (by omega)
    have hw_ := lw_ hL (isSh_z (z := z) (s := s) hz (by omega))
    obtain ⟨⟨f0, f1, f2, f3, f4⟩, f5, f9⟩ := x_ship h s1
    rw [s2]
    simp +decide (disch := omega) only [qX10_ship_0, qX10_ship_1, lx hL, lz hL hz, hr, hsh, ni_in_t, ni_tn, am_w1_i, am_w1_r, am_w1_x, am_w1_l, am_w1_w, va_rf_s, am_push_n, am_push_s, am_cs_0, am_cs_i, am_cs_l, am_cs_r, m_uI_K, m_uI_N, m_uI_R, m_uI_L, m_uI_I, m_uL_K, m_uL_N, m_uL_R, m_uL_I, m_uL_L, m_uR_K, m_uR_N, m_uR_I, m_uR_L, m_uR_R, true_and, and_true, true_implies, false_implies, not_true_eq_false, not_false_eq_true, if_true, if_false, false_and, and_false]
    rcases sw_of w 9 (by omega) with ⟨k, k1, k2, k3⟩ | c1
    · rw [if_pos ⟨hv, by omega, by omega⟩, s3, show w.toInt.toNat = k by omega] at hQ
      rw [k2]
      have kS : ∀ (Q' : Option Value → am_M → Prop), (∀ M', zF (sXq z) M M' → XR M' z D → SetX M' s (dV D s) (dWt D s) (dSn D s) (dBs D s) (dY D s) → Q' (some (.ref (173 + 13 * s))) M') → am_E am_P0 (d + 19) 154 [.ref 0, .int (nI s)] M Q' := fun Q' hq => x_settled hD h (d + 14) s1 Q' (fun M1 g1 X1 _ S1 => hq M1 g1 X1 S1)
      rcases (by omega : k = 0 ∨ k = 1 ∨ k = 2 ∨ k = 3 ∨ k = 4 ∨ k = 5 ∨ k = 6 ∨ k = 7 ∨ k = 8) with e | e | e | e | e | e | e | e | e <;> subst e
      · have h0 := hQ M (XR_2 h) h
        rw [show am_tab 0 [72, 77, 82, 87, 92, 97, 106, 120, 125] 137 (nI 0) = 72 from rfl]
        simp +decide only [qX10_ship_0, qX10_ship_1, hw_, f1, am_w1_i, am_w1_r, am_w1_x, am_w1_l, am_w1_w, va_rf_s, am_push_n, am_push_s, am_cs_0, am_cs_i, am_cs_l, am_cs_r, m_uI_K, m_uI_N, m_uI_R, m_uI_L, m_uI_I, m_uL_K, m_uL_N, m_uL_R, m_uL_I, m_uL_L, m_uR_K, m_uR_N, m_uR_I, m_uR_L, m_uR_R, true_and, and_true, true_implies, false_implies, not_true_eq_false, not_false_eq_true, if_true, if_false, false_and, and_false]
        exact h0
      · have h0 := hQ M (XR_2 h) h
        rw [show am_tab 0 [72, 77, 82, 87, 92, 97, 106, 120, 125] 137 (nI 1) = 77 from rfl]
        simp +decide only [qX10_ship_0, qX10_ship_1, hw_, f2, am_w1_i, am_w1_r, am_w1_x, am_w1_l, am_w1_w, va_rf_s, am_push_n, am_push_s, am_cs_0, am_cs_i, am_cs_l, am_cs_r, m_uI_K, m_uI_N, m_uI_R, m_uI_L, m_uI_I, m_uL_K, m_uL_N, m_uL_R, m_uL_I, m_uL_L, m_uR_K, m_uR_N, m_uR_I, m_uR_L, m_uR_R, true_and, and_true, true_implies, false_implies, not_true_eq_false, not_false_eq_true, if_true, if_false, false_and, and_false]
        exact h0
      · have h0 := hQ M (XR_2 h) h
        rw [show am_tab 0 [72, 77, 82, 87, 92, 97, 106, 120, 125] 137 (nI 2) = 82 from rfl]
        simp +decide only [qX10_ship_0, qX10_ship_1, hw_, f3, am_w1_i, am_w1_r, am_w1_x, am_w1_l, am_w1_w, va_rf_s, am_push_n, am_push_s, am_cs_0, am_cs_i, am_cs_l, am_cs_r, m_uI_K, m_uI_N, m_uI_R, m_uI_L, m_uI_I, m_uL_K, m_uL_N, m_uL_R, m_uL_I, m_uL_L, m_uR_K, m_uR_N, m_uR_I, m_uR_L, m_uR_R, true_and, and_true, true_implies, false_implies, not_true_eq_false, not_false_eq_true, if_true, if_false, false_and, and_false]
        exact h0
      · have h0 := hQ M (XR_2 h) h
        rw [show am_tab 0 [72, 77, 82, 87, 92, 97, 106, 120, 125] 137 (nI 3) = 87 from rfl]
        simp +decide only [qX10_ship_0, qX10_ship_1, hw_, f4, am_w1_i, am_w1_r, am_w1_x, am_w1_l, am_w1_w, va_rf_s, am_push_n, am_push_s, am_cs_0, am_cs_i, am_cs_l, am_cs_r, m_uI_K, m_uI_N, m_uI_R, m_uI_L, m_uI_I, m_uL_K, m_uL_N, m_uL_R, m_uL_I, m_uL_L, m_uR_K, m_uR_N, m_uR_I, m_uR_L, m_uR_R, true_and, and_true, true_implies, false_implies, not_true_eq_false, not_false_eq_true, if_true, if_false, false_and, and_false]
        exact h0
      · have h0 := hQ M (XR_2 h) h
        rw [show am_tab 0 [72, 77, 82, 87, 92, 97, 106, 120, 125] 137 (nI 4) = 92 from rfl]
        simp +decide only [qX10_ship_0, qX10_ship_1, hw_, f5.1, am_w1_i, am_w1_r, am_w1_x, am_w1_l, am_w1_w, va_rf_s, am_push_n, am_push_s, am_cs_0, am_cs_i, am_cs_l, am_cs_r, m_uI_K, m_uI_N, m_uI_R, m_uI_L, m_uI_I, m_uL_K, m_uL_N, m_uL_R, m_uL_I, m_uL_L, m_uR_K, m_uR_N, m_uR_I, m_uR_L, m_uR_R, true_and, and_true, true_implies, false_implies, not_true_eq_false, not_false_eq_true, if_true, if_false, false_and, and_false]
        exact h0
      · rw [show am_tab 0 [72, 77, 82, 87, 92, 97, 106, 120, 125] 137 (nI 5) = 97 from rfl]
        simp +decide only [qX10_ship_0, qX10_ship_1, lx hL, am_w1_i, am_w1_r, am_w1_x, am_w1_l, am_w1_w, va_rf_s, am_push_n, am_push_s, am_cs_0, am_cs_i, am_cs_l, am_cs_r, m_uI_K, m_uI_N, m_uI_R, m_uI_L, m_uI_I, m_uL_K, m_uL_N, m_uL_R, m_uL_I, m_uL_L, m_uR_K, m_uR_N, m_uR_I, m_uR_L, m_uR_R, true_and, and_true, true_implies, false_implies, not_true_eq_false, not_false_eq_true, if_true, if_false, false_and, and_false]
        refine kS _ (fun M1 g1 X1 S1 => ?_)
        have h0 := hQ M1 g1 X1
        have ht := lt_ X1.1.1 (isTr_of (show s < 8 by omega))
        simp +decide only [qX10_ship_0, qX10_ship_1, ht, S1.2.2.1, am_w1_i, am_w1_r, am_w1_x, am_w1_l, am_w1_w, va_rf_s, am_push_n, am_push_s, am_cs_0, am_cs_i, am_cs_l, am_cs_r, m_uI_K, m_uI_N, m_uI_R, m_uI_L, m_uI_I, m_uL_K, m_uL_N, m_uL_R, m_uL_I, m_uL_L, m_uR_K, m_uR_N, m_uR_I, m_uR_L, m_uR_R, true_and, and_true, true_implies, false_implies, not_true_eq_false, not_false_eq_true, if_true, if_false, false_and, and_false]
        exact h0
      · rw [show am_tab 0 [72, 77, 82, 87, 92, 97, 106, 120, 125] 137 (nI 6) = 106 from rfl]
        simp +decide only [qX10_ship_0, qX10_ship_1, lx hL, hw_, f5.1, am_w1_i, am_w1_r, am_w1_x, am_w1_l, am_w1_w, va_rf_s, am_push_n, am_push_s, am_cs_0, am_cs_i, am_cs_l, am_cs_r, m_uI_K, m_uI_N, m_uI_R, m_uI_L, m_uI_I, m_uL_K, m_uL_N, m_uL_R, m_uL_I, m_uL_L, m_uR_K, m_uR_N, m_uR_I, m_uR_L, m_uR_R, true_and, and_true, true_implies, false_implies, not_true_eq_false, not_false_eq_true, if_true, if_false, false_and, and_false]
        refine kS _ (fun M1 g1 X1 S1 => ?_)
        have h0 := hQ M1 g1 X1
        have ht := lt_ X1.1.1 (isTr_of (show s < 8 by omega))
        simp +decide only [qX10_ship_0, qX10_ship_1, ht, S1.2.2.1, ni_sub kc_le, am_w1_i, am_w1_r, am_w1_x, am_w1_l, am_w1_w, va_rf_s, am_push_n, am_push_s, am_cs_0, am_cs_i, am_cs_l, am_cs_r, m_uI_K, m_uI_N, m_uI_R, m_uI_L, m_uI_I, m_uL_K, m_uL_N, m_uL_R, m_uL_I, m_uL_L, m_uR_K, m_uR_N, m_uR_I, m_uR_L, m_uR_R, true_and, and_true, true_implies, false_implies, not_true_eq_false, not_false_eq_true, if_true, if_false, false_and, and_false]
        exact h0
      · have h0 := hQ M (XR_2 h) h
        rw [show am_tab 0 [72, 77, 82, 87, 92, 97, 106, 120, 125] 137 (nI 7) = 120 from rfl]
        simp +decide only [qX10_ship_0, qX10_ship_1, hw_, f9.1, am_w1_i, am_w1_r, am_w1_x, am_w1_l, am_w1_w, va_rf_s, am_push_n, am_push_s, am_cs_0, am_cs_i, am_cs_l, am_cs_r, m_uI_K, m_uI_N, m_uI_R, m_uI_L, m_uI_I, m_uL_K, m_uL_N, m_uL_R, m_uL_I, m_uL_L, m_uR_K, m_uR_N, m_uR_I, m_uR_L, m_uR_R, true_and, and_true, true_implies, false_implies, not_true_eq_false, not_false_eq_true, if_true, if_false, false_and, and_false]
        exact h0
      · rw [show am_tab 0 [72, 77, 82, 87, 92, 97, 106, 120, 125] 137 (nI 8) = 125 from rfl]
        simp +decide only [qX10_ship_0, qX10_ship_1, lx hL, am_w1_i, am_w1_r, am_w1_x, am_w1_l, am_w1_w, va_rf_s, am_push_n, am_push_s, am_cs_0, am_cs_i, am_cs_l, am_cs_r, m_uI_K, m_uI_N, m_uI_R, m_uI_L, m_uI_I, m_uL_K, m_uL_N, m_uL_R, m_uL_I, m_uL_L, m_uR_K, m_uR_N, m_uR_I, m_uR_L, m_uR_R, true_and, and_true, true_implies, false_implies, not_true_eq_false, not_false_eq_true, if_true, if_false, false_and, and_false]
        refine kS _ (fun M1 g1 X1 S1 => ?_)
        have h0 := hQ M1 g1 X1
        have ht := lt_ X1.1.1 (isTr_of (show s < 8 by omega))
        have eb := fun Q => c_x_bit (d + 19) (tI (fitP (dWt D s) (dV D s) (dBs D s))) M1 Q (tI_01 _)
        simp +decide only [qX10_ship_0, qX10_ship_1, ht, S1.1, eb, tI_01, am_w1_i, am_w1_r, am_w1_x, am_w1_l, am_w1_w, va_rf_s, am_push_n, am_push_s, am_cs_0, am_cs_i, am_cs_l, am_cs_r, m_uI_K, m_uI_N, m_uI_R, m_uI_L, m_uI_I, m_uL_K, m_uL_N, m_uL_R, m_uL_I, m_uL_L, m_uR_K, m_uR_N, m_uR_I, m_uR_L, m_uR_R, true_and, and_true, true_implies, false_implies, not_true_eq_false, not_false_eq_true, if_true, if_false, false_and, and_false]
        exact h0
    · have h0 := hQ M (XR_2 h) h
      rw [if_neg (by omega)] at h0
      rw [am_tab_out (by simp; omega)]
      simp +decide only [qX10_ship_0, qX10_ship_1, am_w1_i, am_w1_r, am_w1_x, am_w1_l, am_w1_w, va_rf_s, am_push_n, am_push_s, am_cs_0, am_cs_i, am_cs_l, am_cs_r, m_uI_K, m_uI_N, m_uI_R, m_uI_L, m_uI_I, m_uL_K, m_uL_N, m_uL_R, m_uL_I, m_uL_L, m_uR_K, m_uR_N, m_uR_I, m_uR_L, m_uR_R, true_and, and_true, true_implies, false_implies, not_true_eq_false, not_false_eq_true, if_true, if_false, false_and, and_false]
      exact h0
  · have h0 := hQ M (XR_2 h) h
    rw [if_neg (by omega)] at h0
    rw [br_n hv]
    exact h0
theorem m_shipA (v w : Int32) : MqO 253 [.int v, .int w] (aShp v w) := by
  intro d M b D Q hD hL h hQ
  obtain ⟨⟨hb, hb2⟩, ⟨n0, n1⟩, n6, hsh, hsy, hbk, hsg, -, -⟩ := id h
  have n8 := dN_8 hD
  have eS := fun v Q => m_isShip hD hL h (d + 18) v Q
  have e8i : (8 : Int32).toInt = 8 := rfl
  unfold aShp at hQ
  rw [eX11_ship_]
  simp +decide only [qX11_ship__0, qX11_ship__1, lm hL, eS, c_m_is, bI_0, Classical.not_not, am_w1_i, am_w1_r, am_w1_x, am_w1_l, am_w1_w, va_rf_s, am_push_n, am_push_s, am_cs_0, am_cs_i, am_cs_l, am_cs_r, m_uI_K, m_uI_N, m_uI_R, m_uI_L, m_uI_I, m_uL_K, m_uL_N, m_uL_R, m_uL_I, m_uL_L, m_uR_K, m_uR_N, m_uR_I, m_uR_L, m_uR_R, true_and, and_true, true_implies, false_implies, not_true_eq_false, not_false_eq_true, if_true, if_false, false_and, and_false]
  by_cases hv : 0 ≤ v.toInt ∧ v.toInt < dN D
  · first | rw [br_p (hv)] | rw [br_r (hv)] | rw [br_s (hv)]
    obtain ⟨s, s1, s2, s3⟩ := sh_of (by omega) hv
    obtain ⟨q0, q1, q2, q3, q4⟩ := hsh.2 s _ (dSp_at s1)
    have e8 : (8 : Int32) * nI b + nI s = nI (8 * b + s) := by rw [show (8 : Int32) = nI 8 from rfl, ni_mul, ni_add]
    rcases sw_of w 9 (by omega) with ⟨k, k1, k2, k3⟩ | c1
    · rw [if_pos ⟨hv, by omega, by omega⟩, s3, show w.toInt.toNat = k by omega] at hQ
      rw [br_p (by rw [le32, le32, z32, e8i]; omega), k2, s2]
      rcases (by omega : k = 0 ∨ k = 1 ∨ k = 2 ∨ k = 3 ∨ k = 4 ∨ k = 5 ∨ k = 6 ∨ k = 7 ∨ k = 8) with e | e | e | e | e | e | e | e | e <;> subst e
      · have h0 := hQ M (gF_refl _ _ _)
        rw [show am_tab 0 [80, 87, 94, 101, 108, 134, 134, 114, 120] 134 (nI 0) = 80 from rfl]
        simp +decide (disch := omega) only [qX11_ship__0, qX11_ship__1, lm hL, hb, e8, q1, ni_in_t, ni_tn, am_w1_i, am_w1_r, am_w1_x, am_w1_l, am_w1_w, va_rf_s, am_push_n, am_push_s, am_cs_0, am_cs_i, am_cs_l, am_cs_r, m_uI_K, m_uI_N, m_uI_R, m_uI_L, m_uI_I, m_uL_K, m_uL_N, m_uL_R, m_uL_I, m_uL_L, m_uR_K, m_uR_N, m_uR_I, m_uR_L, m_uR_R, true_and, and_true, true_implies, false_implies, not_true_eq_false, not_false_eq_true, if_true, if_false, false_and, and_false]
        exact h0
      · have h0 := hQ M (gF_refl _ _ _)
        rw [show am_tab 0 [80, 87, 94, 101, 108, 134, 134, 114, 120] 134 (nI 1) = 87 from rfl]
        simp +decide (disch := omega) only [qX11_ship__0, qX11_ship__1, lm hL, hb, e8, q2, ni_in_t, ni_tn, am_w1_i, am_w1_r, am_w1_x, am_w1_l, am_w1_w, va_rf_s, am_push_n, am_push_s, am_cs_0, am_cs_i, am_cs_l, am_cs_r, m_uI_K, m_uI_N, m_uI_R, m_uI_L, m_uI_I, m_uL_K, m_uL_N, m_uL_R, m_uL_I, m_uL_L, m_uR_K, m_uR_N, m_uR_I, m_uR_L, m_uR_R, true_and, and_true, true_implies, false_implies, not_true_eq_false, not_false_eq_true, if_true, if_false, false_and, and_false]
        exact h0
      · have h0 := hQ M (gF_refl _ _ _)
        rw [show am_tab 0 [80, 87, 94, 101, 108, 134, 134, 114, 120] 134 (nI 2) = 94 from rfl]
        simp +decide (disch := omega) only [qX11_ship__0, qX11_ship__1, lm hL, hb, e8, q3, ni_in_t, ni_tn, am_w1_i, am_w1_r, am_w1_x, am_w1_l, am_w1_w, va_rf_s, am_push_n, am_push_s, am_cs_0, am_cs_i, am_cs_l, am_cs_r, m_uI_K, m_uI_N, m_uI_R, m_uI_L, m_uI_I, m_uL_K, m_uL_N, m_uL_R, m_uL_I, m_uL_L, m_uR_K, m_uR_N, m_uR_I, m_uR_L, m_uR_R, true_and, and_true, true_implies, false_implies, not_true_eq_false, not_false_eq_true, if_true, if_false, false_and, and_false]
        exact h0
      · have h0 := hQ M (gF_refl _ _ _)
        rw [show am_tab 0 [80, 87, 94, 101, 108, 134, 134, 114, 120] 134 (nI 3) = 101 from rfl]
        simp +decide (disch := omega) only [qX11_ship__0, qX11_ship__1, lm hL, hb, e8, q4, ni_in_t, ni_tn, am_w1_i, am_w1_r, am_w1_x, am_w1_l, am_w1_w, va_rf_s, am_push_n, am_push_s, am_cs_0, am_cs_i, am_cs_l, am_cs_r, m_uI_K, m_uI_N, m_uI_R, m_uI_L, m_uI_I, m_uL_K, m_uL_N, m_uL_R, m_uL_I, m_uL_L, m_uR_K, m_uR_N, m_uR_I, m_uR_L, m_uR_R, true_and, and_true, true_implies, false_implies, not_true_eq_false, not_false_eq_true, if_true, if_false, false_and, and_false]
        exact h0
      · have h0 := hQ M (gF_refl _ _ _)
        have hsay := fun Q => m_sayN hD hL h (s := s) (by omega) (d + 18) Q
        rw [show am_tab 0 [80, 87, 94, 101, 108, 134, 134, 114, 120] 134 (nI 4) = 108 from rfl]
        simp +decide (disch := omega) only [qX11_ship__0, qX11_ship__1, lm hL, hsay, am_w1_i, am_w1_r, am_w1_x, am_w1_l, am_w1_w, va_rf_s, am_push_n, am_push_s, am_cs_0, am_cs_i, am_cs_l, am_cs_r, m_uI_K, m_uI_N, m_uI_R, m_uI_L, m_uI_I, m_uL_K, m_uL_N, m_uL_R, m_uL_I, m_uL_L, m_uR_K, m_uR_N, m_uR_I, m_uR_L, m_uR_R, true_and, and_true, true_implies, false_implies, not_true_eq_false, not_false_eq_true, if_true, if_false, false_and, and_false]
        exact h0
      · rw [show am_tab 0 [80, 87, 94, 101, 108, 134, 134, 114, 120] 134 (nI 5) = 134 from rfl]
        simp +decide (disch := omega) only [qX11_ship__0, qX11_ship__1, lm hL, am_w1_i, am_w1_r, am_w1_x, am_w1_l, am_w1_w, va_rf_s, am_push_n, am_push_s, am_cs_0, am_cs_i, am_cs_l, am_cs_r, m_uI_K, m_uI_N, m_uI_R, m_uI_L, m_uI_I, m_uL_K, m_uL_N, m_uL_R, m_uL_I, m_uL_L, m_uR_K, m_uR_N, m_uR_I, m_uR_L, m_uR_R, true_and, and_true, true_implies, false_implies, not_true_eq_false, not_false_eq_true, if_true, if_false, false_and, and_false]
        refine m_keeps hD hL h s1 (d + 13) _ (fun M1 g1 k1 => ?_)
        have h0 := hQ M1 g1
        have L1 := gF_LayN g1 hL
        simp +decide only [qX11_ship__0, qX11_ship__1, lm L1, (KpM_kc k1).1, show nI 5 = (5 : Int32) from rfl, am_w1_i, am_w1_r, am_w1_x, am_w1_l, am_w1_w, va_rf_s, am_push_n, am_push_s, am_cs_0, am_cs_i, am_cs_l, am_cs_r, m_uI_K, m_uI_N, m_uI_R, m_uI_L, m_uI_I, m_uL_K, m_uL_N, m_uL_R, m_uL_I, m_uL_L, m_uR_K, m_uR_N, m_uR_I, m_uR_L, m_uR_R, true_and, and_true, true_implies, false_implies, not_true_eq_false, not_false_eq_true, if_true, if_false, false_and, and_false]
        exact h0
      · rw [show am_tab 0 [80, 87, 94, 101, 108, 134, 134, 114, 120] 134 (nI 6) = 134 from rfl]
        simp +decide (disch := omega) only [qX11_ship__0, qX11_ship__1, lm hL, am_w1_i, am_w1_r, am_w1_x, am_w1_l, am_w1_w, va_rf_s, am_push_n, am_push_s, am_cs_0, am_cs_i, am_cs_l, am_cs_r, m_uI_K, m_uI_N, m_uI_R, m_uI_L, m_uI_I, m_uL_K, m_uL_N, m_uL_R, m_uL_I, m_uL_L, m_uR_K, m_uR_N, m_uR_I, m_uR_L, m_uR_R, true_and, and_true, true_implies, false_implies, not_true_eq_false, not_false_eq_true, if_true, if_false, false_and, and_false]
        refine m_keeps hD hL h s1 (d + 13) _ (fun M1 g1 k1 => ?_)
        have h0 := hQ M1 g1
        have L1 := gF_LayN g1 hL
        simp +decide only [qX11_ship__0, qX11_ship__1, lm L1, (KpM_kc k1).1, (KpM_kc k1).2, ni_sub kc_le, show nI 6 = (6 : Int32) from rfl, am_w1_i, am_w1_r, am_w1_x, am_w1_l, am_w1_w, va_rf_s, am_push_n, am_push_s, am_cs_0, am_cs_i, am_cs_l, am_cs_r, m_uI_K, m_uI_N, m_uI_R, m_uI_L, m_uI_I, m_uL_K, m_uL_N, m_uL_R, m_uL_I, m_uL_L, m_uR_K, m_uR_N, m_uR_I, m_uR_L, m_uR_R, true_and, and_true, true_implies, false_implies, not_true_eq_false, not_false_eq_true, if_true, if_false, false_and, and_false]
        exact h0
      · have h0 := hQ M (gF_refl _ _ _)
        have hbo := fun Q => m_booksOf hD hL h (s := s) (by omega) (d + 19) Q
        rw [show am_tab 0 [80, 87, 94, 101, 108, 134, 134, 114, 120] 134 (nI 7) = 114 from rfl]
        simp +decide (disch := omega) only [qX11_ship__0, qX11_ship__1, lm hL, hbo, am_w1_i, am_w1_r, am_w1_x, am_w1_l, am_w1_w, va_rf_s, am_push_n, am_push_s, am_cs_0, am_cs_i, am_cs_l, am_cs_r, m_uI_K, m_uI_N, m_uI_R, m_uI_L, m_uI_I, m_uL_K, m_uL_N, m_uL_R, m_uL_I, m_uL_L, m_uR_K, m_uR_N, m_uR_I, m_uR_L, m_uR_R, true_and, and_true, true_implies, false_implies, not_true_eq_false, not_false_eq_true, if_true, if_false, false_and, and_false]
        exact h0
      · rw [show am_tab 0 [80, 87, 94, 101, 108, 134, 134, 114, 120] 134 (nI 8) = 120 from rfl]
        simp +decide (disch := omega) only [qX11_ship__0, qX11_ship__1, lm hL, am_w1_i, am_w1_r, am_w1_x, am_w1_l, am_w1_w, va_rf_s, am_push_n, am_push_s, am_cs_0, am_cs_i, am_cs_l, am_cs_r, m_uI_K, m_uI_N, m_uI_R, m_uI_L, m_uI_I, m_uL_K, m_uL_N, m_uL_R, m_uL_I, m_uL_L, m_uR_K, m_uR_N, m_uR_I, m_uR_L, m_uR_R, true_and, and_true, true_implies, false_implies, not_true_eq_false, not_false_eq_true, if_true, if_false, false_and, and_false]
        refine m_booksFit hD hL h s1 (d + 14) _ (fun M1 g1 => ?_)
        have h0 : Q (some (.int (tI (fitP (dWt D s) (dV D s) (dBs D s))))) M1 := hQ M1 g1
        by_cases c : fitP (dWt D s) (dV D s) (dBs D s)
        · rw [tI_t c] at h0 ⊢
          simp +decide only [qX11_ship__0, qX11_ship__1, am_w1_i, am_w1_r, am_w1_x, am_w1_l, am_w1_w, va_rf_s, am_push_n, am_push_s, am_cs_0, am_cs_i, am_cs_l, am_cs_r, m_uI_K, m_uI_N, m_uI_R, m_uI_L, m_uI_I, m_uL_K, m_uL_N, m_uL_R, m_uL_I, m_uL_L, m_uR_K, m_uR_N, m_uR_I, m_uR_L, m_uR_R, true_and, and_true, true_implies, false_implies, not_true_eq_false, not_false_eq_true, if_true, if_false, false_and, and_false]
          exact h0
        · rw [tI_f c] at h0 ⊢
          simp +decide only [qX11_ship__0, qX11_ship__1, am_w1_i, am_w1_r, am_w1_x, am_w1_l, am_w1_w, va_rf_s, am_push_n, am_push_s, am_cs_0, am_cs_i, am_cs_l, am_cs_r, m_uI_K, m_uI_N, m_uI_R, m_uI_L, m_uI_I, m_uL_K, m_uL_N, m_uL_R, m_uL_I, m_uL_L, m_uR_K, m_uR_N, m_uR_I, m_uR_L, m_uR_R, true_and, and_true, true_implies, false_implies, not_true_eq_false, not_false_eq_true, if_true, if_false, false_and, and_false]
          exact h0
    · have h0 := hQ M (gF_refl _ _ _)
      rw [if_neg (by omega)] at h0
      rw [br_n (by rw [le32, le32, z32, e8i]; omega)]
      exact h0
  · have h0 := hQ M (gF_refl _ _ _)
    rw [if_neg (by omega)] at h0
    first | rw [br_n (hv)] | rw [br_q (hv)] | rw [br_u (hv)]
    exact h0
theorem op_ship (v w : Int32) : OpI 115 253 [.int v, .int w] isI := op_q (fun D => ⟨_, rfl⟩) (x_shipA v w) (m_shipA v w)
