/-! a ship's waters: what stays while rows are asked for -/
def TrW (M : am_M) (s v : Nat) (wt : Nat → Prop) : Prop := mI M (174 + 13 * s) 1 = nI v ∧ v ≤ 4 ∧ (∀ q, inS (fun i => mL M (175 + 13 * s) i) q ↔ wt q) ∧ ∀ p, p < 256 → RKn M s v wt p
/-- nothing is changed but rows and what is known of them -/
def rgF (M M' : am_M) : Prop := Lay M' ∧ RInv M' ∧ mC M ≤ mC M' ∧ (∀ a j, a < 336 → (∀ s, s < 8 → ¬ a = 177 + 13 * s) → mI M' a j = mI M a j) ∧ (∀ a j, a < 336 → mL M' a j = mL M a j) ∧ (∀ a j, a < 336 → (∀ s, s < 8 → ¬ a = 176 + 13 * s) → mR M' a j = mR M a j) ∧ ∀ s v wt, s < 8 → TrW M s v wt → TrW M' s v wt
theorem rgF_refl {M : am_M} (h : Lay M) (hI : RInv M) : rgF M M := ⟨h, hI, Nat.le_refl _, fun _ _ _ _ => rfl, fun _ _ _ => rfl, fun _ _ _ _ => rfl, fun _ _ _ _ h => h⟩
theorem rgF_trans {M M' M'' : am_M} (h1 : rgF M M') (h2 : rgF M' M'') : rgF M M'' :=
  ⟨h2.1, h2.2.1, Nat.le_trans h1.2.2.1 h2.2.2.1, fun a j q1 q2 => (h2.2.2.2.1 a j q1 q2).trans (h1.2.2.2.1 a j q1 q2), fun a j q1 => (h2.2.2.2.2.1 a j q1).trans (h1.2.2.2.2.1 a j q1), fun a j q1 q2 => (h2.2.2.2.2.2.1 a j q1 q2).trans (h1.2.2.2.2.2.1 a j q1 q2), fun s v wt q1 q2 => h2.2.2.2.2.2.2 s v wt q1 (h1.2.2.2.2.2.2 s v wt q1 q2)⟩
theorem rgP_F {M M' : am_M} {s p r v : Nat} {wt : Nat → Prop} (hL : Lay M) (hI : RInv M) (hs : s < 8) (hp : p < 256) (hT : TrW M s v wt) (h : rgP M M' s p r v wt) : rgF M M' := by
  obtain ⟨h1, h2, h3, h4, h5, h6, h7, h8, h9, h10, h11⟩ := h
  obtain ⟨n, n1, n2, n3⟩ := lay_C hL
  refine ⟨h3, h4, h5, fun a j q1 q2 => h8 a j (fun z => q2 s hs z.1) (by omega), fun a j q1 => h9 a j (by omega) (by omega), fun a j q1 q2 => h10 a j (fun z => q2 s hs z.1) (by omega), fun s' v' wt' hs' hT' => ?_⟩
  obtain ⟨a1, a2, a3, a4⟩ := hT'
  have eI : mI M' (174 + 13 * s') 1 = mI M (174 + 13 * s') 1 := h8 _ _ (by omega) (by omega)
  have eL : ∀ i, mL M' (175 + 13 * s') i = mL M (175 + 13 * s') i := fun i => h9 _ _ (by omega) (by omega)
  refine ⟨by rw [eI]; exact a1, a2, fun q => (inS_ext (fun i _ => eL i) q).trans (a3 q), fun p' hp' => ?_⟩
  by_cases e : s' = s ∧ p' = p
  · obtain ⟨rfl, rfl⟩ := e
    have ev : v' = v := by
      have h0 := a1.symm.trans hT.1
      rw [ni_eq (by omega) (by have := hT.2.1; omega)] at h0
      exact h0
    subst ev
    refine ⟨Or.inr h7, fun _ => ⟨r, h1, fun i hi q => ?_⟩⟩
    rw [h2 i hi q]
    exact ball_ext (fun x => (hT.2.2.1 x).symm.trans (a3 x)) _ _ _
  · obtain ⟨k1, k2⟩ := a4 p' hp'
    have eK : mI M' (177 + 13 * s') p' = mI M (177 + 13 * s') p' := h8 _ _ (fun z => e ⟨by omega, z.2⟩) (by omega)
    refine ⟨by rw [eK]; exact k1, fun hk => ?_⟩
    rw [eK] at hk
    obtain ⟨r', q1, q2⟩ := k2 hk
    have b1 := hI.1 s' p' r' hs' hp' q1
    have hne : ¬ r' = r := by
      intro er
      subst er
      rcases h11 with q | q
      · exact e (hI.2.1 s' p' s p r' hs' hp' hs hp q1 q)
      · omega
    refine ⟨r', ?_, fun i hi q => ?_⟩
    · rw [h10 _ _ (fun z => e ⟨by omega, z.2⟩) (by omega)]; exact q1
    · rw [← q2 i hi q]
      exact inS_ext (fun j _ => h9 _ _ (by omega) hne) q
/-- no farther than so many hours -/
theorem c_x_isWithin (d s p q t v : Nat) (wt : Nat → Prop) (M : am_M) (Q : Option Value → am_M → Prop) (hL : Lay M) (hI : RInv M) (hs : s < 8) (hp : p < 256) (hq : q < 256) (ht : t < 48) (hT : TrW M s v wt)
    (hQ : ∀ M', rgF M M' → Q (some (.int (tI (wit wt v p q t)))) M') : am_E am_P0 (d + 2) 104 [.ref (174 + 13 * s), .int (nI p), .int (nI q), .int (nI t)] M Q := by
  have hw : isTr (173 + 13 * s) := ⟨s, hs, rfl⟩
  have e1 : 174 + 13 * s = (173 + 13 * s) + 1 := by omega
  have hK : mK M (174 + 13 * s) = 19 := by rw [e1]; exact (lt_ hL hw).2.1
  rw [eX9_isWithin]
  simp +decide only [qX9_isWithin, hK, am_w1_i, am_w1_r, am_w1_x, am_w1_l, am_w1_w, va_rf_s, am_push_n, am_push_s, am_cs_0, am_cs_i, am_cs_l, am_cs_r, m_uI_K, m_uI_N, m_uI_R, m_uI_L, m_uI_I, m_uL_K, m_uL_N, m_uL_R, m_uL_I, m_uL_L, m_uR_K, m_uR_N, m_uR_I, m_uR_L, m_uR_R, true_and, and_true]
  refine c_x_ringsOf d s p v wt M _ hL hs hp hT.1 hT.2.1 hT.2.2.1 hI (hT.2.2.2 p hp) (fun r M' h => ?_)
  have hF := rgP_F hL hI hs hp hT h
  have hrk := lay_ring hF.1 h.2.2.2.2.2.1.1 h.2.2.2.2.2.1.2
  have e2 : nI t * 4 + nI (q / 64) = nI (4 * t + q / 64) := by
    rw [show (4 : Int32) = nI 4 from rfl, ni_mul, ni_add, Nat.mul_comm]
  simp +decide (disch := omega) only [qX9_isWithin, hrk, sr6 q hq, an63 q hq, e2, ni_in_t, ni_tn, lgc_0, bt_test _ (Nat.mod_lt q (show 0 < 64 by decide)), am_w1_i, am_w1_r, am_w1_x, am_w1_l, am_w1_w, va_rf_s, am_push_n, am_push_s, am_cs_0, am_cs_i, am_cs_l, am_cs_r, m_uI_K, m_uI_N, m_uI_R, m_uI_L, m_uI_I, m_uL_K, m_uL_N, m_uL_R, m_uL_I, m_uL_L, m_uR_K, m_uR_N, m_uR_I, m_uR_L, m_uR_R, true_and, and_true]
  have hb : inS (rw4 M' r t) q ↔ wit wt v p q t := h.2.1 t ht q
  by_cases e : sbit (mL M' r (4 * t + q / 64)) (q % 64) = true
  · rw [br_r e]
    have h0 := hQ M' hF
    rw [tI_t (hb.mp ⟨hq, e⟩)] at h0
    exact h0
  · rw [br_q e]
    have h0 := hQ M' hF
    rw [tI_f (fun z => e (hb.mpr z).2)] at h0
    exact h0
