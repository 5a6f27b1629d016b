/-! a call of the class and the same call of the model -/
def OpI (y ym : Nat) (as : List Value) (K : Value → Prop) : Prop := ∀ (M : am_M), Inv M → ∀ d, 200 ≤ d → am_E am_P0 d y (.ref 0 :: as) M (fun r M1 => ∃ v, r = some v ∧ K v ∧ Lay M1 ∧ am_E am_P0 d ym (.ref 277 :: as) M1 (fun r2 M2 => r2 = some v ∧ Inv M2))
def isI (v : Value) : Prop := ∃ x, v = .int x
def isJ (v : Value) : Prop := ∃ x, v = .long x
/-- asking: the class, the model -/
def XqO (y : Nat) (as : List Value) (ans : Dat → Value) : Prop := ∀ (d : Nat) (M : am_M) (z : Nat) (D : Dat) (Q : Option Value → am_M → Prop), dOK D → XR M z D → (∀ M', zF (sXq z) M M' → XR M' z D → Q (some (ans D)) M') → am_E am_P0 (d + 20) y (.ref 0 :: as) M Q
def MqO (y : Nat) (as : List Value) (ans : Dat → Value) : Prop := ∀ (d : Nat) (M : am_M) (b : Nat) (D : Dat) (Q : Option Value → am_M → Prop), dOK D → Lay M → MdM M b D → (∀ M', gF sMq nT M M' → Q (some (ans D)) M') → am_E am_P0 (d + 20) y (.ref 277 :: as) M Q
def MzO (y : Nat) (as : List Value) (ans : Dat → Value) : Prop := ∀ (d : Nat) (M : am_M) (b : Nat) (D : Dat) (Q : Option Value → am_M → Prop), dOK D → Lay M → MdM M b D → (∀ M', gF sMz nT M M' → Q (some (ans D)) M') → am_E am_P0 (d + 20) y (.ref 277 :: as) M Q
theorem op_z {y ym : Nat} {as : List Value} {ans : Dat → Value} {K : Value → Prop} (hK : ∀ D, K (ans D)) (hx : XqO y as ans) (hm : MzO ym as ans) : OpI y ym as K := by
  intro M ⟨z, b, D, hD, hX, hM, ⟨T, n, t1, t2, t3, t4⟩, hRf, hFt, ⟨k, k1, k2, k3, k4⟩⟩ d hd
  obtain ⟨e, rfl⟩ : ∃ e, d = e + 20 := ⟨d - 20, by omega⟩
  refine hx e M z D _ hD hX (fun M1 f1 X1 => ⟨_, rfl, hK D, X1.1.1, ?_⟩)
  have hz := hX.1.2.2.1
  have fx : fX M M1 := fX_z f1 (fun a j q => by unfold sXq sMm at q; omega)
  refine hm e M1 b D _ hD X1.1.1 (MdM_x hM fx) (fun M2 g2 => ⟨rfl, z, b, D, hD, XR_m hD X1 g2 (fun a j q => by unfold sMz sMq at q; omega), MdM_g (MdM_x hM fx) g2 (fun a j q w => by unfold tlM at q; unfold sMz sMq at w; omega), ?_⟩)
  have kx : ∀ a j, a < 336 → ¬ sXq z a j → ¬ sMz a j → mI M2 a j = mI M a j := fun a j h1 h2 h3 => by
    rw [g2.1 _ _ h3]
    refine f1.2.2.2.1 _ _ h1 (fun s' q w => ?_) h2
    exact h2 (by unfold sXq; omega)
  refine ⟨⟨T, n, t1, ?_, ?_, fun j hj => ⟨(t4 j hj).1, ?_, ?_⟩⟩, fun j hj => ?_, ⟨?_, ?_⟩, ⟨k, k1, ?_, ?_, fun j hj => ?_⟩⟩
  · rw [kx _ _ (by omega) (by unfold sXq sMm; omega) (by unfold sMz sMq; omega)]; exact t2
  · rw [kx _ _ (by omega) (by unfold sXq sMm; omega) (by unfold sMz sMq; omega)]; exact t3
  · rw [kx _ _ (by omega) (by unfold sXq sMm; omega) (by unfold sMz sMq; omega)]; exact (t4 j hj).2.1
  · rw [kx _ _ (by omega) (by unfold sXq sMm; omega) (by unfold sMz sMq; omega)]; exact (t4 j hj).2.2
  · rw [kx _ _ (by omega) (by unfold sXq sMm; omega) (by unfold sMz sMq; omega), kx _ _ (by omega) (by unfold sXq sMm; omega) (by unfold sMz sMq; omega)]; exact hRf j hj
  · rw [kx _ _ (by omega) (by unfold sXq sMm; omega) (by unfold sMz sMq; omega), kx _ _ (by omega) (by unfold sXq sMm; omega) (by unfold sMz sMq; omega)]; exact hFt.1
  · trivial
  · rw [kx _ _ (by omega) (by unfold sXq sMm; omega) (by unfold sMz sMq; omega)]; exact k2
  · rw [kx _ _ (by omega) (by unfold sXq sMm; omega) (by unfold sMz sMq; omega)]; exact k3
  · rw [kx _ _ (by omega) (by unfold sXq sMm; omega) (by unfold sMz sMq; omega), kx _ _ (by omega) (by unfold sXq sMm; omega) (by unfold sMz sMq; omega)]; exact k4 j hj
theorem op_q {y ym : Nat} {as : List Value} {ans : Dat → Value} {K : Value → Prop} (hK : ∀ D, K (ans D)) (hx : XqO y as ans) (hm : MqO ym as ans) : OpI y ym as K := op_z hK hx (fun d M b D Q hD hL h hQ => hm d M b D Q hD hL h (fun M' g' => hQ M' (gF_up g' (fun a j q => Or.inl q) (fun _ _ q => q))))
theorem XR_2 {M : am_M} {z : Nat} {D : Dat} (h : XR M z D) : zF (sXq z) M M := zF_refl h.1.1 h.1.2.1
/-- a ship's number, or not -/
theorem sh_of {x : Int32} {n : Nat} (hn : n ≤ 2147483647) (h : 0 ≤ x.toInt ∧ x.toInt < n) : ∃ s, s < n ∧ x = nI s ∧ x.toInt.toNat = s := ⟨x.toInt.toNat, by omega, i32_of (by omega) (by omega), rfl⟩
theorem x_n {M : am_M} {z : Nat} {D : Dat} (h : XR M z D) : mI M z 3 = nI (dN D) ∧ mI M z 0 = nI (dC D) ∧ mI M z 1 = nI (dR D) ∧ mI M z 2 = nI (dLk D) := by
  obtain ⟨-, ⟨c, hP⟩, -⟩ := h
  exact ⟨hP.1.2.2.2, hP.1.1, hP.1.2.1, hP.1.2.2.1⟩
theorem x_isShip {M : am_M} {z : Nat} {D : Dat} (hD : dOK D) (h : XR M z D) (d : Nat) (v : Int32) (Q : Option Value → am_M → Prop) : am_E am_P0 d 150 [.ref 0, .int v] M Q ↔ Q (some (.int (bI (0 ≤ v.toInt ∧ v.toInt < dN D)))) M := c_x_isShip d v M Q h.1.1 z (dN D) h.1.2.2.1 h.1.2.2.2.1 (x_n h).1 (dN_8 hD)
theorem m_isShip {M : am_M} {b : Nat} {D : Dat} (hD : dOK D) (hL : Lay M) (h : MdM M b D) (d : Nat) (v : Int32) (Q : Option Value → am_M → Prop) : am_E am_P0 (d + 1) 220 [.ref 277, .int v] M Q ↔ Q (some (.int (bI (0 ≤ v.toInt ∧ v.toInt < dN D)))) M := c_m_isShip d v M Q hL b (dN D) h.1.1 h.1.2 h.2.2.2.1.1 (dN_8 hD)
theorem m_isCell {M : am_M} {b : Nat} {D : Dat} (hD : dOK D) (hL : Lay M) (h : MdM M b D) (d : Nat) (v w : Int32) (Q : Option Value → am_M → Prop) : am_E am_P0 (d + 1) 217 [.ref 277, .int v, .int w] M Q ↔ Q (some (.int (bI ((0 ≤ v.toInt ∧ v.toInt < dC D) ∧ (0 ≤ w.toInt ∧ w.toInt < dR D))))) M := c_m_isCell d v w M Q hL b (dC D) (dR D) h.1.1 h.1.2 h.2.1.1 h.2.1.2 hD.1.1.1 hD.1.1.2
theorem x_placeAt {M : am_M} {z : Nat} {D : Dat} (hD : dOK D) (h : XR M z D) (d : Nat) (x y : Int32) (Q : Option Value → am_M → Prop) : am_E am_P0 d 56 [.ref z, .int x, .int y] M Q ↔ Q (some (.int (if (0 ≤ x.toInt ∧ x.toInt < dC D) ∧ (0 ≤ y.toInt ∧ y.toInt < dR D) then nI (16 * y.toInt.toNat + x.toInt.toNat) else -1))) M := c_x_placeAt d x y M Q h.1.1 z (dC D) (dR D) h.1.2.2.1 (x_n h).2.1 (x_n h).2.2.1 hD.1.1.1 hD.1.1.2
/-- a track is asked: it is settled first -/
theorem x_settled {M : am_M} {z s : Nat} {D : Dat} (hD : dOK D) (h : XR M z D) (d : Nat) (hs : s < dN D) (Q : Option Value → am_M → Prop) (hQ : ∀ M', zF (sXq z) M M' → XR M' z D → mI M' (173 + 13 * s) 4 = 1 → SetX M' s (dV D s) (dWt D s) (dSn D s) (dBs D s) (dY D s) → Q (some (.ref (173 + 13 * s))) M') : am_E am_P0 (d + 5) 154 [.ref 0, .int (nI s)] M Q := by
  obtain ⟨⟨hL, hI, hz, r2, r3, hO⟩, -, hS1, hTk, hLk⟩ := id h
  have n8 := dN_8 hD
  obtain ⟨t1, t2, t3, t4⟩ := hTk s hs
  have hst := isTr_of (show s < 8 by omega)
  rw [eX10_settled]
  simp +decide (disch := omega) only [qX10_settled, lx hL, lt_ hL hst, ltr hL (show s < 8 by omega), ni_in_t, ni_tn, am_w1_i, am_w1_r, am_w1_x, am_w1_l, am_w1_w, va_rf_s, am_push_n, am_push_s, am_cs_0, am_cs_i, am_cs_l, am_cs_r, m_uI_K, m_uI_N, m_uI_R, m_uI_L, m_uI_I, m_uL_K, m_uL_N, m_uL_R, m_uL_I, m_uL_L, m_uR_K, m_uR_N, m_uR_I, m_uR_L, m_uR_R, true_and, and_true, true_implies, false_implies, not_true_eq_false, not_false_eq_true, if_true, if_false, false_and, and_false]
  refine c_x_settle d s (z + 25 + 7 * s) z (dV D s) (dWt D s) (dDp D) (dDr D s) (dLd D s) (dBs D s) (dY D s) M _ hL hI (by omega) (isSh_z hz (by omega)) hz (hD.1.2.2.2.2.1 s) (dSn_w hD s) t1 t2 (fun M1 f1 h4 hS => ?_)
  have X1 := XR_set hD hs h f1 h4 hS
  have h0 := hQ M1 (zq_up (s := s) (by omega) f1 (fun a j q => by unfold sSt at q; unfold sQ1; omega)) X1 h4 hS
  simp +decide (disch := omega) only [qX10_settled, lx X1.1.1, ltr X1.1.1 (show s < 8 by omega), ni_in_t, ni_tn, am_w1_i, am_w1_r, am_w1_x, am_w1_l, am_w1_w, va_rf_s, am_push_n, am_push_s, am_cs_0, am_cs_i, am_cs_l, am_cs_r, m_uI_K, m_uI_N, m_uI_R, m_uI_L, m_uI_I, m_uL_K, m_uL_N, m_uL_R, m_uL_I, m_uL_L, m_uR_K, m_uR_N, m_uR_I, m_uR_L, m_uR_R, true_and, and_true, true_implies, false_implies, not_true_eq_false, not_false_eq_true, if_true, if_false, false_and, and_false]
  exact h0
