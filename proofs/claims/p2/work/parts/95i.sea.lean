/-! the class: a text is read -/
def tOp (a j : Nat) : Prop := (a = 164 ∧ j = 1) ∨ (a = 165 ∧ j = 1)
theorem tOp_free : ∀ q ∈ ly_F, ¬ tOp q.1 q.2.1 := fun q hq w => by
  have h := lyF_free q hq
  rcases w with w | w
  · exact h.2.1 w
  · exact h.2.2.1 w
def tR1 (a j : Nat) : Prop := a = 165 ∧ j = 1
theorem tR1_free : ∀ q ∈ ly_F, ¬ tR1 q.1 q.2.1 := fun q hq w => (lyF_free q hq).2.2.1 w
section
variable {T : Nat → Nat} {n z : Nat}
theorem c_x_sclear (d : Nat) (M : am_M) (Q : Option Value → am_M → Prop) (hL : Lay M) (hz : z = 2 ∨ z = 83) (hQ : ∀ M', gF (sSea z) nT M M' → PsX M' z dat0 0 → Q none M') : am_E am_P0 d 52 [.ref z] M Q := by
  rw [eX5_clear]
  simp +decide only [qX5_clear, lz hL hz, am_w1_i, am_w1_r, am_w1_x, am_w1_l, am_w1_w, va_rf_s, am_push_n, am_push_s, am_cs_0, am_cs_i, am_cs_l, am_cs_r, m_uI_K, m_uI_N, m_uI_R, m_uI_L, m_uI_I, m_uL_K, m_uL_N, m_uL_R, m_uL_I, m_uL_L, m_uR_K, m_uR_N, m_uR_I, m_uR_L, m_uR_R, true_and, and_true, true_implies, false_implies, not_true_eq_false, not_false_eq_true, if_true, if_false, false_and, and_false]
  refine hQ _ (gF_trans (gF_i _ (Or.inr ⟨by omega, by omega⟩)) (gF_trans (gF_i _ (Or.inr ⟨by omega, by omega⟩)) (gF_trans (gF_i _ (Or.inr ⟨by omega, by omega⟩)) (gF_trans (gF_i _ (Or.inr ⟨by omega, by omega⟩)) (gF_trans (gF_i _ (Or.inr ⟨by omega, by omega⟩)) (gF_trans (gF_i _ (Or.inr ⟨by omega, by omega⟩)) (gF_trans (gF_i _ (Or.inr ⟨by omega, by omega⟩)) (gF_trans (gF_i _ (Or.inr ⟨by omega, by omega⟩)) (gF_i _ (Or.inr ⟨by omega, by omega⟩)))))))))) ⟨⟨?_, ?_, ?_, ?_⟩, fun s sp hs => absurd hs (by show ¬ (none : Option Shp) = some sp; simp), ⟨?_, fun i g hi => absurd hi (by show ¬ (none : Option (Nat × Nat × Nat)) = some g; simp)⟩, ⟨⟨?_, fun k r hr => absurd hr (by show ¬ (none : Option (Den × Den)) = some r; simp)⟩, ⟨?_, fun k r hr => absurd hr (by show ¬ (none : Option (Den × Den)) = some r; simp)⟩, ⟨?_, fun k r hr => absurd hr (by show ¬ (none : Option (Den × Den)) = some r; simp)⟩⟩, ⟨?_, by omega⟩⟩
  · simp [m_uI_I]; rfl
  · simp [m_uI_I]; rfl
  · simp [m_uI_I]; rfl
  · simp [m_uI_I]; rfl
  · simp [m_uI_I]; rfl
  · simp [m_uI_I]; rfl
  · simp [m_uI_I]; rfl
  · simp [m_uI_I]; rfl
  · simp [m_uI_I]; rfl
def tk0 : Tok := (0, 0, [], 0, 0)
theorem c_x_ropen (d : Nat) (M : am_M) (Q : Option Value → am_M → Prop) (hL : Lay M) (hn : n ≤ 1800) (hT : ∀ j, j < 1800 → T j < 256 ∧ mI M 1 j = nI (T j)) (hO : OwX M) (hQ : ∀ M', gF sRd tR1 M M' → Lay M' → StR M' T n (advR T n tk0) → Q none M') : am_E am_P0 (d + 2) 34 [.ref 165, .ref 1, .int (nI n)] M Q := by
  have g1 : gF sRd tR1 M (uR M 165 1 (some 1)) := gF_r _ ⟨rfl, rfl⟩
  have L1 : Lay (uR M 165 1 (some 1)) := gF_Lay g1 hL tR1_free
  have hmi := fun M Q => c_minI (d + 1) (nI n) 1800 M Q
  have em : (if (1800 : Int32) < nI n then (1800 : Int32) else nI n) = nI n := by rw [if_neg]; rw [show (1800 : Int32) = nI 1800 from rfl, ni_lt (by omega) (by omega)]; omega
  have e18 : Int32.ofNat 1800 = (1800 : Int32) := rfl
  rw [eX3_open]
  simp +decide only [qX3_open, lx hL, e18, hmi, em, am_w1_i, am_w1_r, am_w1_x, am_w1_l, am_w1_w, va_rf_s, am_push_n, am_push_s, am_cs_0, am_cs_i, am_cs_l, am_cs_r, m_uI_K, m_uI_N, m_uI_R, m_uI_L, m_uI_I, m_uL_K, m_uL_N, m_uL_R, m_uL_I, m_uL_L, m_uR_K, m_uR_N, m_uR_I, m_uR_L, m_uR_R, true_and, and_true, true_implies, false_implies, not_true_eq_false, not_false_eq_true, if_true, if_false, false_and, and_false]
  obtain ⟨M2, hM2⟩ : ∃ M2, M2 = uI (uI (uI (uI (uI (uR M 165 1 (some 1)) 165 2 (nI n)) 165 3 0) 165 8 0) 165 9 (-1)) 165 4 0 := ⟨_, rfl⟩
  have g2 : gF sRd tR1 M M2 := by rw [hM2]; exact gF_trans g1 (gF_trans (gF_i _ rfl) (gF_trans (gF_i _ rfl) (gF_trans (gF_i _ rfl) (gF_trans (gF_i _ rfl) (gF_i _ rfl)))))
  have L2 : Lay M2 := by rw [hM2]; exact L1
  have hT2 : TpX M2 T n := ⟨by rw [hM2]; simp [m_uI_R, m_uR_R], by rw [hM2]; simp [m_uI_I], hn, fun j hj => ⟨(hT j hj).1, by rw [g2.1 _ _ (by unfold sRd; omega)]; exact (hT j hj).2⟩⟩
  have hO2 : OwX M2 := OwX_g hO g2 (fun j w => by unfold sRd at w; omega)
  have hG0 : tkG T n tk0 := ⟨Nat.zero_le _, Nat.le_refl _, by show 0 ≤ 3; omega, fun q => (by rcases q with q | q <;> cases q), fun _ => Or.inl rfl, fun q => (by cases q), fun q => (by cases q), fun q => (by cases q), fun q => absurd rfl q⟩
  rw [← hM2]
  refine c_x_stepW d n T tk0 M2 _ L2 hT2 hO2 (by rw [hM2]; simp [m_uI_I]) (by rw [hM2]; simp [m_uI_I]; rfl) (by rw [hM2]; simp [m_uI_I]; rfl) hG0 (by rw [hM2]; simp [m_uI_I]) (fun h4 M3 g3 f3 => ?_) (fun h4 M3 g3 f3 => ?_)
  · have h0 := hQ M3 (gF_trans g2 (gF_up g3 (fun _ _ q => q) (fun _ _ q => q.elim))) (gF_LayN g3 L2) (by unfold advR; rw [if_pos h4]; exact f3)
    simp +decide only [qX3_open, am_w1_i, am_w1_r, am_w1_x, am_w1_l, am_w1_w, va_rf_s, am_push_n, am_push_s, am_cs_0, am_cs_i, am_cs_l, am_cs_r, m_uI_K, m_uI_N, m_uI_R, m_uI_L, m_uI_I, m_uL_K, m_uL_N, m_uL_R, m_uL_I, m_uL_L, m_uR_K, m_uR_N, m_uR_I, m_uR_L, m_uR_R, true_and, and_true, true_implies, false_implies, not_true_eq_false, not_false_eq_true, if_true, if_false, false_and, and_false]
    exact h0
  · have h0 := hQ M3 (gF_trans g2 (gF_up g3 (fun _ _ q => q) (fun _ _ q => q.elim))) (gF_LayN g3 L2) (by unfold advR; rw [if_neg h4]; exact f3)
    simp +decide only [qX3_open, am_w1_i, am_w1_r, am_w1_x, am_w1_l, am_w1_w, va_rf_s, am_push_n, am_push_s, am_cs_0, am_cs_i, am_cs_l, am_cs_r, m_uI_K, m_uI_N, m_uI_R, m_uI_L, m_uI_I, m_uL_K, m_uL_N, m_uL_R, m_uL_I, m_uL_L, m_uR_K, m_uR_N, m_uR_I, m_uR_L, m_uR_R, true_and, and_true, true_implies, false_implies, not_true_eq_false, not_false_eq_true, if_true, if_false, false_and, and_false]
    exact h0
theorem c_x_popen (d : Nat) (M : am_M) (Q : Option Value → am_M → Prop) (hL : Lay M) (hz : z = 2 ∨ z = 83) (hn : n ≤ 1800) (hT : ∀ j, j < 1800 → T j < 256 ∧ mI M 1 j = nI (T j)) (hO : OwX M) (hQ : ∀ M', gF (sSea z) tOp M M' → Lay M' → mR M' 164 1 = some z → PsX M' z dat0 0 → StR M' T n (advR T n tk0) → Q none M') : am_E am_P0 (d + 3) 10 [.ref 164, .ref z, .ref 1, .int (nI n)] M Q := by
  have g1 : gF (sSea z) tOp M (uR M 164 1 (some z)) := gF_r _ (Or.inl ⟨rfl, rfl⟩)
  have L1 : Lay (uR M 164 1 (some z)) := gF_Lay g1 hL tOp_free
  have r1 : mR (uR M 164 1 (some z)) 164 1 = some z := by rw [m_uR_R, if_pos ⟨rfl, rfl⟩]
  rw [eX2_open]
  simp +decide only [qX2_open, lx hL, lz hL hz, am_w1_i, am_w1_r, am_w1_x, am_w1_l, am_w1_w, va_rf_s, am_push_n, am_push_s, am_cs_0, am_cs_i, am_cs_l, am_cs_r, m_uI_K, m_uI_N, m_uI_R, m_uI_L, m_uI_I, m_uL_K, m_uL_N, m_uL_R, m_uL_I, m_uL_L, m_uR_K, m_uR_N, m_uR_I, m_uR_L, m_uR_R, true_and, and_true, true_implies, false_implies, not_true_eq_false, not_false_eq_true, if_true, if_false, false_and, and_false]
  refine c_x_sclear (d + 2) _ _ L1 hz (fun M2 g2 P2 => ?_)
  have L2 := gF_LayN g2 L1
  have r2 : mR M2 164 1 = some z := by rw [g2.2.2.1 _ _ (fun q => q)]; exact r1
  have G2 : gF (sSea z) tOp M M2 := gF_trans g1 (gF_up g2 (fun _ _ q => q) (fun _ _ q => q.elim))
  simp +decide only [qX2_open, lx L2, am_w1_i, am_w1_r, am_w1_x, am_w1_l, am_w1_w, va_rf_s, am_push_n, am_push_s, am_cs_0, am_cs_i, am_cs_l, am_cs_r, m_uI_K, m_uI_N, m_uI_R, m_uI_L, m_uI_I, m_uL_K, m_uL_N, m_uL_R, m_uL_I, m_uL_L, m_uR_K, m_uR_N, m_uR_I, m_uR_L, m_uR_R, true_and, and_true, true_implies, false_implies, not_true_eq_false, not_false_eq_true, if_true, if_false, false_and, and_false]
  refine c_x_ropen d M2 _ L2 hn (fun j hj => ⟨(hT j hj).1, by rw [G2.1 _ _ (by unfold sSea; omega)]; exact (hT j hj).2⟩) (OwX_g hO G2 (fun j w => by unfold sSea at w; omega)) (fun M3 g3 L3 h3 => ?_)
  have hf : FmX M3 z 0 := ⟨by rw [g3.1 _ _ (by unfold sRd; omega)]; exact P2.2.2.2.2.1, by omega⟩
  have h0 := hQ M3 (gF_trans G2 (gF_up g3 (fun a j q => Or.inl q) (fun _ _ q => Or.inr q))) L3 (by rw [g3.2.2.1 _ _ (fun q => by unfold tR1 at q; omega)]; exact r2) (PsX_g P2 g3 (by decide) (fun a j q1 q2 _ _ _ _ w => by unfold sRd at w; omega) hf (Nat.le_refl _)) h3
  simp +decide only [qX2_open, am_w1_i, am_w1_r, am_w1_x, am_w1_l, am_w1_w, va_rf_s, am_push_n, am_push_s, am_cs_0, am_cs_i, am_cs_l, am_cs_r, m_uI_K, m_uI_N, m_uI_R, m_uI_L, m_uI_I, m_uL_K, m_uL_N, m_uL_R, m_uL_I, m_uL_L, m_uR_K, m_uR_N, m_uR_I, m_uR_L, m_uR_R, true_and, and_true, true_implies, false_implies, not_true_eq_false, not_false_eq_true, if_true, if_false, false_and, and_false]
  exact h0
end
