/-! the model's keeps -/
/-- what keeps leaves -/
def KpM (w : Nat → Prop) (v : Nat) (snd : Nat → Bool → Prop) (B : List Fct) (Y : List Sy) (M : am_M) : Prop := PrM w v snd B Y M Y.length ∧ mI M 277 64 = tI (fitP w v B) ∧ (fitP w v B → mI M 277 66 = nI (mostY w v snd B Y)) ∧ (¬ fitP w v B → mI M 277 66 = nI 0) ∧ ∀ k, k < Y.length → mI M 324 k = tI (fitP w v B ∧ keptY w v snd B Y k)
theorem l_m_keeps0 (d s : Nat) (Y : List Sy) (M0 : am_M) (Q : Option Value → am_M → Prop) (hl : Y.length ≤ 48) (hL : Lay M0) (hn : mI M0 277 65 = nI Y.length) (v3 v4 : Value)
    (hQ : ∀ M', oS sK M0 M' → (∀ a j, ¬ a = 324 → mI M' a j = mI M0 a j) → (∀ k, k < Y.length → mI M' 324 k = 0) → am_P am_P0 d (am_look tX11_keeps) 42 [.ref 277, .int (nI s), .int (nI Y.length), v3, v4] [] M' Q) :
    ∀ (m i : Nat), i + m = Y.length → ∀ (M : am_M), oS sK M0 M → (∀ a j, ¬ a = 324 → mI M a j = mI M0 a j) → (∀ k, k < i → mI M 324 k = 0) → am_P am_P0 d (am_look tX11_keeps) 21 [.ref 277, .int (nI s), .int (nI i), v3, v4] [] M Q := by
  intro m
  induction m with
  | zero =>
    intro i hi M hM hk hm
    have e : i = Y.length := by omega
    subst e
    have hn' : mI M 277 65 = nI Y.length := by rw [hk _ _ (by omega)]; exact hn
    have hle : nI Y.length ≤ nI Y.length := (ni_le (by omega) (by omega)).mpr (Nat.le_refl _)
    have h0 := hQ M hM hk hm
    rw [hX11_keeps_21]
    simp +decide only [qX11_keeps_0, qX11_keeps_1, qX11_keeps_2, qX11_keeps_3, lm (oS_Lay hM hL), hn', am_w1_i, am_w1_r, am_w1_x, am_w1_l, am_w1_w, va_rf_s, am_push_n, am_push_s, am_cs_0, am_cs_i, am_cs_l, am_cs_r, m_uI_K, m_uI_N, m_uI_R, m_uI_L, m_uI_I, m_uL_K, m_uL_N, m_uL_R, m_uL_I, m_uL_L, m_uR_K, m_uR_N, m_uR_I, m_uR_L, m_uR_R, true_and, and_true] at h0 ⊢
    rw [br_p hle]
    exact h0
  | succ m ih =>
    intro i hi M hM hk hm
    have hn' : mI M 277 65 = nI Y.length := by rw [hk _ _ (by omega)]; exact hn
    have hlt : ¬ nI Y.length ≤ nI i := by rw [ni_le (by omega) (by omega)]; omega
    have g1 : oS sK M (uI M 324 i 0) := ⟨fun a k h => by rw [m_uI_I, if_neg (fun q => h (Or.inr (Or.inl q.1)))], fun _ _ => rfl, fun _ _ => rfl, rfl⟩
    rw [hX11_keeps_21]
    simp +decide (disch := omega) only [qX11_keeps_0, qX11_keeps_1, qX11_keeps_2, qX11_keeps_3, lm (oS_Lay hM hL), hn', ni_in_t, ni_tn, ni_add1, am_w1_i, am_w1_r, am_w1_x, am_w1_l, am_w1_w, va_rf_s, am_push_n, am_push_s, am_cs_0, am_cs_i, am_cs_l, am_cs_r, m_uI_K, m_uI_N, m_uI_R, m_uI_L, m_uI_I, m_uL_K, m_uL_N, m_uL_R, m_uL_I, m_uL_L, m_uR_K, m_uR_N, m_uR_I, m_uR_L, m_uR_R, true_and, and_true]
    rw [br_n hlt]
    refine ih (i + 1) (by omega) _ (oS_trans hM g1) (fun a j h => by rw [m_uI_I, if_neg (fun q => h q.1)]; exact hk a j h) (fun k hk2 => ?_)
    rw [m_uI_I]
    by_cases ek : k = i
    · rw [if_pos ⟨rfl, ek⟩]
    · rw [if_neg (fun q => ek q.2)]; exact hm k (by omega)
theorem c_m_keeps (d s b C R v : Nat) (dep : Nat → Nat) (dr ld : Nat) (L : List Bk) (Y : List Sy) (M : am_M) (Q : Option Value → am_M → Prop) (hL : Lay M) (hB : MB M b C R) (hs : s < 8) (hS : ShM M b C R s v dep dr ld Y) (hK : BkM M b C L) (hO : bkOK C R L) (hl : Y.length ≤ 48)
    (hQ : ∀ M', oS sK M M' → KpM (mW_ M b C R s) v (sndP dep dr ld) (bkOf L s) Y M' → Q none M') : am_E am_P0 (d + 6) 248 [.ref 277, .int (nI s)] M Q := by
  obtain ⟨w, hw⟩ : ∃ w, w = mW_ M b C R s := ⟨_, rfl⟩
  rw [← hw] at hQ
  rw [eX11_keeps]
  simp +decide only [qX11_keeps_0, qX11_keeps_1, qX11_keeps_2, qX11_keeps_3, lm hL, am_w1_i, am_w1_r, am_w1_x, am_w1_l, am_w1_w, va_rf_s, am_push_n, am_push_s, am_cs_0, am_cs_i, am_cs_l, am_cs_r, m_uI_K, m_uI_N, m_uI_R, m_uI_L, m_uI_I, m_uL_K, m_uL_N, m_uL_R, m_uL_I, m_uL_L, m_uR_K, m_uR_N, m_uR_I, m_uR_L, m_uR_R, true_and, and_true]
  refine c_m_booksFit d s b C R v L M _ hL hB hs hS.1 hS.2.1 hS.2.2.1 hK hO (fun M1 g1 => ?_)
  rw [← hw]
  have G1 : oS sK M M1 := oS_up g1 (fun a j h => Or.inl (Or.inl h))
  have L1 := oS_Lay G1 hL
  obtain ⟨x, hx⟩ : ∃ x, x = tI (fitP w v (bkOf L s)) := ⟨_, rfl⟩
  have hx01 : x = 0 ∨ x = 1 := by rw [hx]; exact tI_01 _
  rw [← hx]
  simp +decide only [qX11_keeps_0, qX11_keeps_1, qX11_keeps_2, qX11_keeps_3, lm L1, am_w1_i, am_w1_r, am_w1_x, am_w1_l, am_w1_w, va_rf_s, am_push_n, am_push_s, am_cs_0, am_cs_i, am_cs_l, am_cs_r, m_uI_K, m_uI_N, m_uI_R, m_uI_L, m_uI_I, m_uL_K, m_uL_N, m_uL_R, m_uL_I, m_uL_L, m_uR_K, m_uR_N, m_uR_I, m_uR_L, m_uR_R, true_and, and_true]
  refine ⟨hx01, ?_⟩
  have g2 : oS sK M1 (uI M1 277 64 x) := ⟨fun a k h => by rw [m_uI_I, if_neg (fun q => h (Or.inr (Or.inr (Or.inr ⟨q.1, Or.inl q.2⟩))))], fun _ _ => rfl, fun _ _ => rfl, rfl⟩
  have G2 := oS_trans G1 g2
  have L2 := oS_Lay G2 hL
  refine c_m_pairs d s b C R v dep dr ld L Y (uI M1 277 64 x) _ L2 (MB_T hB G2 tld_K) hs (ShM_S hS G2 tld_K) (BkM_T hK G2 tld_K) hO hl (fun M3 g3 h3 => ?_)
  rw [mW_T G2 tld_K, ← hw] at h3
  have G3 := oS_trans G2 (oS_up g3 (fun a j h => Or.inl h))
  have L3 := oS_Lay G3 hL
  have f64 : mI M3 277 64 = x := by
    rw [g3.1 _ _ (by unfold sP sFG sF sG; omega), m_uI_I, if_pos ⟨rfl, rfl⟩]
  simp +decide only [qX11_keeps_0, qX11_keeps_1, qX11_keeps_2, qX11_keeps_3, lm L3, am_w1_i, am_w1_r, am_w1_x, am_w1_l, am_w1_w, va_rf_s, am_push_n, am_push_s, am_cs_0, am_cs_i, am_cs_l, am_cs_r, m_uI_K, m_uI_N, m_uI_R, m_uI_L, m_uI_I, m_uL_K, m_uL_N, m_uL_R, m_uL_I, m_uL_L, m_uR_K, m_uR_N, m_uR_I, m_uR_L, m_uR_R, true_and, and_true]
  have g4 : oS sK M3 (uI M3 277 66 0) := ⟨fun a k h => by rw [m_uI_I, if_neg (fun q => h (Or.inr (Or.inr (Or.inr ⟨q.1, Or.inr q.2⟩))))], fun _ _ => rfl, fun _ _ => rfl, rfl⟩
  have G4 := oS_trans G3 g4
  have L4 := oS_Lay G4 hL
  have r4 : ∀ a j, ¬ (a = 277 ∧ j = 66) → mI (uI M3 277 66 0) a j = mI M3 a j := fun a j h => by rw [m_uI_I, if_neg h]
  have P4 := PrM_S (M' := uI M3 277 66 0) h3 (r4 _ _ (by omega)) (fun j => r4 _ _ (by omega)) (fun j => r4 _ _ (by omega)) (fun j => r4 _ _ (by omega))
  rw [show (0 : Int32) = nI 0 from rfl] at *
  refine l_m_keeps0 (d + 6) s Y (uI M3 277 66 (nI 0)) Q hl L4 P4.1.1 am_x am_x (fun M5 g5 k5 z5 => ?_) Y.length 0 (by omega) _ (oS_refl _ _) (fun _ _ _ => rfl) (fun k hk => by omega)
  have G5 := oS_trans G4 g5
  have L5 := oS_Lay G5 hL
  have P5 := PrM_S (M' := M5) P4 (k5 _ _ (by omega)) (fun j => k5 _ _ (by omega)) (fun j => k5 _ _ (by omega)) (fun j => k5 _ _ (by omega))
  have f64' : mI M5 277 64 = x := by rw [k5 _ _ (by omega), r4 _ _ (by omega)]; exact f64
  have f66 : mI M5 277 66 = nI 0 := by rw [k5 _ _ (by omega), m_uI_I, if_pos ⟨rfl, rfl⟩]
  by_cases c1 : fitP w v (bkOf L s)
  · have hx1 : x = 1 := by rw [hx, tI_t c1]
    rw [hx1] at f64'
    have e1 : nI Y.length - 1 = nI Y.length - 1 := rfl
    have h0 := l_m_keeps1 (d + 6) s w v (sndP dep dr ld) (bkOf L s) Y M5 Q hl L5 P5 (fun M6 v4 g6 k6 z6 => ?_) Y.length (Nat.le_refl _) M5 am_x (Or.inl rfl) (oS_refl _ _) (fun _ _ _ => rfl) (fun k q1 q2 => by omega)
    · rw [Nat.sub_self] at h0
      have e0 : mx1 (lgY w v (sndP dep dr ld) (bkOf L s) Y) (fun _ => true) Y.length 0 = 0 := rfl
      rw [e0] at h0
      simp +decide only [qX11_keeps_0, qX11_keeps_1, qX11_keeps_2, qX11_keeps_3, lm L5, f64', P5.1.1, am_w1_i, am_w1_r, am_w1_x, am_w1_l, am_w1_w, va_rf_s, am_push_n, am_push_s, am_cs_0, am_cs_i, am_cs_l, am_cs_r, m_uI_K, m_uI_N, m_uI_R, m_uI_L, m_uI_I, m_uL_K, m_uL_N, m_uL_R, m_uL_I, m_uL_L, m_uR_K, m_uR_N, m_uR_I, m_uR_L, m_uR_R, true_and, and_true, not_true_eq_false, not_false_eq_true, true_implies, false_implies]
      exact h0
    · have G6 := oS_trans G5 g6
      have L6 := oS_Lay G6 hL
      simp +decide only [qX11_keeps_0, qX11_keeps_1, qX11_keeps_2, qX11_keeps_3, lm L6, am_w1_i, am_w1_r, am_w1_x, am_w1_l, am_w1_w, va_rf_s, am_push_n, am_push_s, am_cs_0, am_cs_i, am_cs_l, am_cs_r, m_uI_K, m_uI_N, m_uI_R, m_uI_L, m_uI_I, m_uL_K, m_uL_N, m_uL_R, m_uL_I, m_uL_L, m_uR_K, m_uR_N, m_uR_I, m_uR_L, m_uR_R, true_and, and_true]
      have g7 : oS sK M6 (uI M6 277 66 (nI (mostY w v (sndP dep dr ld) (bkOf L s) Y))) := ⟨fun a k h => by rw [m_uI_I, if_neg (fun q => h (Or.inr (Or.inr (Or.inr ⟨q.1, Or.inr q.2⟩))))], fun _ _ => rfl, fun _ _ => rfl, rfl⟩
      have G7 := oS_trans G6 g7
      have r7 : ∀ a j, ¬ (a = 277 ∧ j = 66) → mI (uI M6 277 66 (nI (mostY w v (sndP dep dr ld) (bkOf L s) Y))) a j = mI M6 a j := fun a j h => by rw [m_uI_I, if_neg h]
      have P6 := PrM_S (M' := M6) P5 (k6 _ _ (by omega)) (fun j => k6 _ _ (by omega)) (fun j => k6 _ _ (by omega)) (fun j => k6 _ _ (by omega))
      have P7 := PrM_S (M' := uI M6 277 66 (nI (mostY w v (sndP dep dr ld) (bkOf L s) Y))) P6 (r7 _ _ (by omega)) (fun j => r7 _ _ (by omega)) (fun j => r7 _ _ (by omega)) (fun j => r7 _ _ (by omega))
      have h9 := l_m_keeps4 (d + 6) s w v (sndP dep dr ld) (bkOf L s) Y (uI M6 277 66 (nI (mostY w v (sndP dep dr ld) (bkOf L s) Y))) Q hl (oS_Lay G7 hL) P7 (fun k hk => by rw [r7 _ _ (by omega)]; exact z6 k hk) (fun M8 g8 k8 z8 => ?_) Y.length 0 (by omega) _ (oS_refl _ _) (fun _ _ _ => rfl) (fun k hk => ?_)
      · have e9 : (kpS (mostY w v (sndP dep dr ld) (bkOf L s) Y) (lgY w v (sndP dep dr ld) (bkOf L s) Y) (goF w v Y) 0) = (0, none) := rfl
        rw [e9] at h9
        dsimp only at h9
        rw [Nat.sub_zero] at h9
        exact h9
      · have P8 := PrM_S (M' := M8) P7 (k8 _ _ (by omega)) (fun j => k8 _ _ (by omega)) (fun j => k8 _ _ (by omega)) (fun j => k8 _ _ (by omega))
        refine hQ M8 (oS_trans G7 g8) ⟨P8, ?_, fun _ => ?_, fun h => absurd c1 h, fun k hk => ?_⟩
        · rw [k8 _ _ (by omega), r7 _ _ (by omega), k6 _ _ (by omega), f64', tI_t c1]
        · rw [k8 _ _ (by omega), m_uI_I, if_pos ⟨rfl, rfl⟩]
        · rw [z8 k hk]
          exact tI_i ⟨fun z => ⟨c1, z⟩, fun z => z.2⟩
      · rw [r7 _ _ (by omega), k6 _ _ (by omega), z5 k hk]
        exact (tI_f (fun z => by omega)).symm
  · have hx0 : x = nI 0 := by rw [hx, tI_f c1]; rfl
    rw [hx0] at f64'
    simp +decide only [qX11_keeps_0, qX11_keeps_1, qX11_keeps_2, qX11_keeps_3, lm L5, f64', am_w1_i, am_w1_r, am_w1_x, am_w1_l, am_w1_w, va_rf_s, am_push_n, am_push_s, am_cs_0, am_cs_i, am_cs_l, am_cs_r, m_uI_K, m_uI_N, m_uI_R, m_uI_L, m_uI_I, m_uL_K, m_uL_N, m_uL_R, m_uL_I, m_uL_L, m_uR_K, m_uR_N, m_uR_I, m_uR_L, m_uR_R, true_and, and_true]
    refine ⟨fun h => h.elim, fun _ => ?_⟩
    refine hQ M5 G5 ⟨P5, by rw [f64', tI_f c1]; rfl, fun h => absurd h c1, fun _ => f66, fun k hk => ?_⟩
    rw [z5 k hk]
    exact (tI_f (fun z => c1 z.1)).symm
