/-! the row of a place, made when first asked for -/
set_option maxRecDepth 100000 in
theorem ly_F3 : ∀ q ∈ ly_F, ∀ s, s < 8 → ¬ (q.1 = 176 + 13 * s) := by decide +kernel
theorem c_x_ringsOf (d s p v : Nat) (wt : Nat → Prop) (M : am_M) (Q : Option Value → am_M → Prop) (hL : Lay M) (hs : s < 8) (hp : p < 256) (hv : mI M (174 + 13 * s) 1 = nI v) (hv2 : v ≤ 4) (hwt : ∀ q, inS (fun i => mL M (175 + 13 * s) i) q ↔ wt q) (hI : RInv M) (hK : RKn M s v wt p)
    (hQ : ∀ r M', rgP M M' s p r v wt → Q (some (.ref r)) M') : am_E am_P0 (d + 1) 105 [.ref (174 + 13 * s), .int (nI p)] M Q := by
  obtain ⟨w, hwe⟩ : ∃ w, w = 173 + 13 * s := ⟨_, rfl⟩
  have hw : isTr w := ⟨s, hs, hwe⟩
  have e1 : 174 + 13 * s = w + 1 := by omega
  have e2 : 175 + 13 * s = w + 2 := by omega
  have e3 : 176 + 13 * s = w + 3 := by omega
  have e4 : 177 + 13 * s = w + 4 := by omega
  obtain ⟨n0, ln0, ln1, ln2⟩ := lay_C hL
  obtain ⟨k1, k2⟩ := hK
  have hb := hI.1 s p
  rw [e1] at hv ⊢
  rw [e2] at hwt
  rw [e4] at k1 k2
  unfold rgP at hQ
  rw [e3] at k2 hb
  rw [e3, e4] at hQ
  rw [eX9_ringsOf]
  cases hr : mR M (w + 3) p with
  | some r =>
    have hb2 := hb r hs hp hr
    have hrk := lay_ring hL hb2.1 hb2.2
    rcases k1 with hk | hk
    · have h24 := l_x_rings0 d w p r v wt Q M hL hw hp (by omega) hrk hv hv2 hwt hk am_x am_x am_x (fun M' a1 a2 => by
        refine hQ r M' ⟨?_, a2, onlyL_Lay a1 hL, ?_, ?_, ⟨hb2.1, ?_⟩, ?_, fun a j ha _ => ?_, fun a j _ ha => a1.2.2.2 a j ha, fun a j _ _ => a1.2.1 a j, Or.inl hr⟩
        · rw [a1.2.1]; exact hr
        · obtain ⟨i1, i2, i3⟩ := hI
          have eS : mS M' = mS M := a1.2.2.1
          have eC : mC M' = mC M := by unfold mC; rw [eS]
          refine ⟨fun s p r q1 q2 q3 => by rw [eC]; exact i1 s p r q1 q2 (by rw [← q3]; exact (a1.2.1 _ _).symm), fun s p s' p' r q1 q2 q3 q4 q5 q6 => i2 s p s' p' r q1 q2 q3 q4 (by rw [← q5]; exact (a1.2.1 _ _).symm) (by rw [← q6]; exact (a1.2.1 _ _).symm), ?_⟩
          have ec : cnt (rgC M') 2048 = cnt (rgC M) 2048 := cnt_ext (fun t _ => by
            unfold rgC
            rw [a1.2.1]
            rfl)
          rw [eC, i3, ec]
        · show (mS M).length ≤ (mS M').length
          rw [a1.2.2.1]
          exact Nat.le_refl _
        · show r < (mS M').length
          rw [a1.2.2.1]
          exact hb2.2
        · rw [a1.1, m_uI_I, if_pos ⟨rfl, rfl⟩]
        · rw [a1.1, m_uI_I, if_neg ha])
      simp +decide (disch := omega) only [qX9_ringsOf_0, qX9_ringsOf_1, lt_ hL hw, hr, hk, ni_in_t, ni_tn, am_w1_i, am_w1_r, am_w1_x, am_w1_l, am_w1_w, va_rf_s, am_push_n, am_push_s, am_cs_0, am_cs_i, am_cs_l, am_cs_r, m_uI_K, m_uI_N, m_uI_R, m_uI_L, m_uI_I, m_uL_K, m_uL_N, m_uL_R, m_uL_I, m_uL_L, m_uR_K, m_uR_N, m_uR_I, m_uR_L, m_uR_R, true_and, and_true, true_implies, false_implies, or_true] at h24 ⊢
      exact h24
    · obtain ⟨r', q1, q2⟩ := k2 hk
      cases hr.symm.trans q1
      simp +decide (disch := omega) only [qX9_ringsOf_0, qX9_ringsOf_1, lt_ hL hw, hr, hk, ni_in_t, ni_tn, am_w1_i, am_w1_r, am_w1_x, am_w1_l, am_w1_w, va_rf_s, am_push_n, am_push_s, am_cs_0, am_cs_i, am_cs_l, am_cs_r, m_uI_K, m_uI_N, m_uI_R, m_uI_L, m_uI_I, m_uL_K, m_uL_N, m_uL_R, m_uL_I, m_uL_L, m_uR_K, m_uR_N, m_uR_I, m_uR_L, m_uR_R, true_and, and_true, true_implies, false_implies, or_true]
      exact hQ r M ⟨hr, q2, hL, hI, Nat.le_refl _, hb2, hk, fun _ _ _ _ => rfl, fun _ _ _ _ => rfl, fun _ _ _ _ => rfl, Or.inl hr⟩
  | none =>
    have hk : mI M (w + 4) p = 0 := by
      rcases k1 with hk | hk
      · exact hk
      · obtain ⟨r', q1, q2⟩ := k2 hk
        rw [hr] at q1; cases q1
    have hn := RInv_new hL hI hs hp (by rw [e3]; exact hr)
    rw [e3] at hn
    have hL1 := lay_uN hL hn.1
    have hL2 : Lay (uR (uN M (1, 192)) (w + 3) p (some (mC M))) := Lay_uR hL1 (fun q hq => by
      rintro ⟨a1, a2⟩
      exact ly_F3 q hq s hs (by omega))
    have hC1 : mC (uN M (1, 192)) = mC M + 1 := by
      show (mS M ++ [(1, 192)]).length = _
      rw [List.length_append]; rfl
    have hrk : mK (uN M (1, 192)) (mC M) = 1 ∧ mN (uN M (1, 192)) (mC M) = 192 := lay_ring hL1 (by omega) (by omega)
    have t192 : (192 : Int32).toInt.toNat = 192 := rfl
    have hk' : mI (uN M (1, 192)) (w + 4) p = 0 := by rw [uN_I (by omega)]; exact hk
    have h24 := l_x_rings0 d w p (mC M) v wt Q (uR (uN M (1, 192)) (w + 3) p (some (mC M))) hL2 hw hp (by omega) hrk (by show mI (uN M (1, 192)) (w + 1) 1 = _; rw [uN_I (by omega)]; exact hv) hv2 (fun q => (inS_ext (fun i _ => uN_L (sh := (1, 192)) (by omega) i) q).trans (hwt q)) hk' am_x am_x am_x (fun M' a1 a2 => by
        have eS : mS M' = mS M ++ [(1, 192)] := a1.2.2.1
        have eC : mC M' = mC M + 1 := by unfold mC; rw [eS, List.length_append]; rfl
        refine hQ (mC M) M' ⟨?_, a2, onlyL_Lay a1 hL2, ?_, by omega, ⟨by omega, by omega⟩, ?_, fun a j ha _ => ?_, fun a j h1 ha => ?_, fun a j ha h1 => ?_, Or.inr ⟨hr, rfl⟩⟩
        · rw [a1.2.1, m_uI_R, m_uR_R, if_pos ⟨rfl, rfl⟩]
        · obtain ⟨i1, i2, i3⟩ := hn.2
          refine ⟨fun s0 p0 r q1 q2 q3 => by rw [eC]; have := i1 s0 p0 r q1 q2 (by rw [← q3]; exact (a1.2.1 _ _).symm); have e9 : mC (uR (uN M (1, 192)) (w + 3) p (some (mC M))) = mC M + 1 := hC1; omega, fun s p s' p' r q1 q2 q3 q4 q5 q6 => i2 s p s' p' r q1 q2 q3 q4 (by rw [← q5]; exact (a1.2.1 _ _).symm) (by rw [← q6]; exact (a1.2.1 _ _).symm), ?_⟩
          have e9 : mC (uR (uN M (1, 192)) (w + 3) p (some (mC M))) = mC M + 1 := hC1
          have ec : cnt (rgC M') 2048 = cnt (rgC (uR (uN M (1, 192)) (w + 3) p (some (mC M)))) 2048 := cnt_ext (fun t _ => by
            unfold rgC
            rw [a1.2.1]
            rfl)
          rw [eC, ← e9, i3, ec]
        · rw [a1.1, m_uI_I, if_pos ⟨rfl, rfl⟩]
        · rw [a1.1, m_uI_I, if_neg ha]
          exact uN_I (sh := (1, 192)) (by assumption) j
        · rw [a1.2.2.2 a j ha]
          exact uN_L (sh := (1, 192)) h1 j
        · rw [a1.2.1, m_uI_R, m_uR_R, if_neg ha]
          exact uN_R (sh := (1, 192)) h1 j)
    simp +decide (disch := omega) only [qX9_ringsOf_0, qX9_ringsOf_1, zr_6, zr_7, va_rf_n, lt_ hL hw, lt_ hL1 hw, lt_ hL2 hw, hr, hk', hrk, t192, ni_in_t, ni_tn, am_w1_i, am_w1_r, am_w1_x, am_w1_l, am_w1_w, va_rf_s, am_push_n, am_push_s, am_cs_0, am_cs_i, am_cs_l, am_cs_r, m_uI_K, m_uI_N, m_uI_R, m_uI_L, m_uI_I, m_uL_K, m_uL_N, m_uL_R, m_uL_I, m_uL_L, m_uR_K, m_uR_N, m_uR_I, m_uR_L, m_uR_R, true_and, and_true, true_implies, false_implies, or_true, and_self, or_false, false_or, false_and] at h24 ⊢
    exact h24
