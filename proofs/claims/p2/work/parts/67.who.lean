/-! the model: said by another, for another -/
def sFG (a j : Nat) : Prop := sF a j ∨ sG a j
/-- a ship in the model's rows: speed, depths, sayings -/
def ShM (M : am_M) (b C R s v : Nat) (dep : Nat → Nat) (dr ld : Nat) (Y : List Sy) : Prop := mI M 288 (8 * b + s) = nI v ∧ 1 ≤ v ∧ v ≤ 4 ∧ DpM M b C R s dep dr ld ∧ SyM M b C R s Y
/-- cells that hold what is told -/
def tld (a j : Nat) : Prop := (a = 277 ∧ j = 12) ∨ (279 ≤ a ∧ a ≤ 303) ∨ a = 315 ∨ a = 316
theorem ShM_S {M M' : am_M} {b C R s v : Nat} {dep : Nat → Nat} {dr ld : Nat} {Y : List Sy} {S : Nat → Nat → Prop} (h : ShM M b C R s v dep dr ld Y) (hS : oS S M M') (hd : ∀ a j, tld a j → ¬ S a j) : ShM M' b C R s v dep dr ld Y := by
  obtain ⟨h1, h2, h3, h4, h5⟩ := h
  exact ⟨by rw [hS.1 _ _ (hd _ _ (by unfold tld; omega))]; exact h1, h2, h3, DpM_S h4 hS (fun a j q => hd a j (by unfold tld; omega)), SyM_S h5 hS (fun a j q => hd a j (by unfold tld; omega))⟩
theorem MB_T {M M' : am_M} {b C R : Nat} {S : Nat → Nat → Prop} (h : MB M b C R) (g : oS S M M') (hd : ∀ a j, tld a j → ¬ S a j) : MB M' b C R := MB_S h g (fun a j q => hd a j (by unfold tld; omega))
theorem BkM_T {M M' : am_M} {b C : Nat} {L : List Bk} {S : Nat → Nat → Prop} (h : BkM M b C L) (hS : oS S M M') (hd : ∀ a j, tld a j → ¬ S a j) : BkM M' b C L := BkM_S h hS (fun a j q1 q2 => hd a j (by unfold tld; omega))
theorem tld_F (a j : Nat) (h : tld a j) : ¬ sF a j := fun z => by unfold tld at h; unfold sF at z; omega
theorem tld_G (a j : Nat) (h : tld a j) : ¬ sG a j := fun z => by unfold tld at h; unfold sG at z; omega
theorem tld_FG (a j : Nat) (h : tld a j) : ¬ sFG a j := fun z => z.elim (tld_F a j h) (tld_G a j h)
theorem mW_T {M M' : am_M} {b C R s : Nat} {S : Nat → Nat → Prop} (hS : oS S M M') (hd : ∀ a j, tld a j → ¬ S a j) : mW_ M' b C R s = mW_ M b C R s := by
  funext p
  unfold mW_
  rw [hS.1 _ _ (hd _ _ (by unfold tld; omega)), hS.1 _ _ (hd _ _ (by unfold tld; omega))]
theorem Fc0 (M : am_M) (C R : Nat) : FcM (uI M 277 60 0) C R [] ∧ oS sF M (uI M 277 60 0) := ⟨⟨by rw [m_uI_I, if_pos ⟨rfl, rfl⟩]; rfl, by decide, fun i f h => by cases h⟩, fun a j h => by rw [m_uI_I, if_neg (fun z => h (Or.inr (Or.inr (Or.inr z))))], fun _ _ => rfl, fun _ _ => rfl, rfl⟩
theorem c_m_isFor (d s so b C R v v' : Nat) (dep : Nat → Nat) (dr ld dr' ld' : Nat) (Y Y' : List Sy) (L : List Bk) (M : am_M) (Q : Option Value → am_M → Prop) (hL : Lay M) (hB : MB M b C R) (hs : s < 8) (hso : so < 8) (hS : ShM M b C R s v dep dr ld Y) (hSo : ShM M b C R so v' dep dr' ld' Y') (hK : BkM M b C L) (hO : bkOK C R L)
    (hQ : ∀ M', oS sFG M M' → Q (some (.int (tI (syS Y' 0 (sndP dep dr ld) ∧ fitP (mW_ M b C R s) v (syF Y' 0 ++ bkOf L s))))) M') : am_E am_P0 (d + 5) 272 [.ref 277, .int (nI so), .int (nI s)] M Q := by
  have hC := hB.2.2.2.2.2.1
  have hR := hB.2.2.2.2.2.2.2
  obtain ⟨hF0, g0⟩ := Fc0 M C R
  rw [eX11_isFor]
  simp +decide only [qX11_isFor, lm hL, am_w1_i, am_w1_r, am_w1_x, am_w1_l, am_w1_w, va_rf_s, am_push_n, am_push_s, am_cs_0, am_cs_i, am_cs_l, am_cs_r, m_uI_K, m_uI_N, m_uI_R, m_uI_L, m_uI_I, m_uL_K, m_uL_N, m_uL_R, m_uL_I, m_uL_L, m_uR_K, m_uR_N, m_uR_I, m_uR_L, m_uR_R, true_and, and_true]
  have L0 := oS_Lay g0 hL
  have B0 := MB_T hB g0 tld_F
  have S0 := ShM_S hS g0 tld_F
  have So0 := ShM_S hSo g0 tld_F
  refine c_m_addSayings (d + 2) s so b C R dep dr ld [] Y' 0 (uI M 277 60 0) _ L0 B0.1 B0.2.1 hC hR hs hso (by decide) (by decide) S0.2.2.2.1 So0.2.2.2.2 (by decide) hF0 (fun M1 g1 h1 => ?_)
  rw [List.nil_append, show (0 : Int32).toInt = 0 from rfl] at h1
  rw [show (0 : Int32).toInt = 0 from rfl]
  have G1 := oS_trans g0 g1
  have L1 := oS_Lay G1 hL
  have hlen : (syF Y' 0).length + 12 ≤ 120 := by
    have a1 := syF_len Y' 0
    have a2 := bef_len hSo.2.2.2.2.1 48
    rw [bef_all (fun y hy => (hSo.2.2.2.2.2.1 y hy).1)] at a2
    omega
  simp +decide only [qX11_isFor, lm L1, am_w1_i, am_w1_r, am_w1_x, am_w1_l, am_w1_w, va_rf_s, am_push_n, am_push_s, am_cs_0, am_cs_i, am_cs_l, am_cs_r, m_uI_K, m_uI_N, m_uI_R, m_uI_L, m_uI_I, m_uL_K, m_uL_N, m_uL_R, m_uL_I, m_uL_L, m_uR_K, m_uR_N, m_uR_I, m_uR_L, m_uR_R, true_and, and_true]
  have B1 := MB_T hB G1 tld_F
  refine c_m_addBooks (d + 3) s b C R L (syF Y' 0) M1 _ L1 B1.1 B1.2.1 hs (BkM_T hK G1 tld_F) hO hlen h1 (fun M2 g2 h2 => ?_)
  have G2 := oS_trans G1 g2
  have L2 := oS_Lay G2 hL
  simp +decide only [qX11_isFor, lm L2, am_w1_i, am_w1_r, am_w1_x, am_w1_l, am_w1_w, va_rf_s, am_push_n, am_push_s, am_cs_0, am_cs_i, am_cs_l, am_cs_r, m_uI_K, m_uI_N, m_uI_R, m_uI_L, m_uI_I, m_uL_K, m_uL_N, m_uL_R, m_uL_I, m_uL_L, m_uR_K, m_uR_N, m_uR_I, m_uR_L, m_uR_R, true_and, and_true]
  by_cases c1 : syS Y' 0 (sndP dep dr ld)
  · rw [tI_t c1, br_n (by decide)]
    have S2 := ShM_S hS G2 tld_F
    refine c_m_fit d s b C R v (syF Y' 0 ++ bkOf L s) M2 _ L2 (MB_T hB G2 tld_F) hs S2.1 S2.2.1 S2.2.2.1 h2 (fun M3 g3 => ?_)
    rw [mW_T G2 tld_F]
    have h0 := hQ M3 (oS_trans (oS_up G2 (fun a j z => Or.inl z)) (oS_up (onlyG_S g3) (fun a j z => Or.inr z)))
    simp +decide only [qX11_isFor, am_w1_i, am_w1_r, am_w1_x, am_w1_l, am_w1_w, va_rf_s, am_push_n, am_push_s, am_cs_0, am_cs_i, am_cs_l, am_cs_r, m_uI_K, m_uI_N, m_uI_R, m_uI_L, m_uI_I, m_uL_K, m_uL_N, m_uL_R, m_uL_I, m_uL_L, m_uR_K, m_uR_N, m_uR_I, m_uR_L, m_uR_R, true_and, and_true]
    by_cases c2 : fitP (mW_ M b C R s) v (syF Y' 0 ++ bkOf L s)
    · rw [tI_t c2, br_n (by decide)]
      rw [tI_t ⟨c1, c2⟩] at h0
      exact h0
    · rw [tI_f c2, br_p rfl]
      rw [tI_f (fun z => c2 z.2)] at h0
      exact h0
  · rw [tI_f c1, br_p rfl]
    have h0 := hQ M2 (oS_up G2 (fun a j z => Or.inl z))
    rw [tI_f (fun z => c1 z.1)] at h0
    exact h0
theorem c_m_saidBy (d s so b C R v v' : Nat) (dep : Nat → Nat) (dr ld dr' ld' : Nat) (Y Y' : List Sy) (L : List Bk) (M : am_M) (Q : Option Value → am_M → Prop) (hL : Lay M) (hB : MB M b C R) (hs : s < 8) (hso : so < 8) (hS : ShM M b C R s v dep dr ld Y) (hSo : ShM M b C R so v' dep dr' ld' Y') (hK : BkM M b C L) (hO : bkOK C R L)
    (hQ : ∀ M', oS sFG M M' → Q (some (.int (tI (syS Y' 0 (sndP dep dr ld) ∧ syS Y 0 (sndP dep dr ld) ∧ fitP (mW_ M b C R s) v (syF Y' 0 ++ syF Y 0 ++ bkOf L s))))) M') : am_E am_P0 (d + 5) 259 [.ref 277, .int (nI so), .int (nI s)] M Q := by
  have hC := hB.2.2.2.2.2.1
  have hR := hB.2.2.2.2.2.2.2
  obtain ⟨hF0, g0⟩ := Fc0 M C R
  rw [eX11_saidBy]
  simp +decide only [qX11_saidBy, lm hL, am_w1_i, am_w1_r, am_w1_x, am_w1_l, am_w1_w, va_rf_s, am_push_n, am_push_s, am_cs_0, am_cs_i, am_cs_l, am_cs_r, m_uI_K, m_uI_N, m_uI_R, m_uI_L, m_uI_I, m_uL_K, m_uL_N, m_uL_R, m_uL_I, m_uL_L, m_uR_K, m_uR_N, m_uR_I, m_uR_L, m_uR_R, true_and, and_true]
  have L0 := oS_Lay g0 hL
  have B0 := MB_T hB g0 tld_F
  have S0 := ShM_S hS g0 tld_F
  have So0 := ShM_S hSo g0 tld_F
  have l48 : ∀ (Z : List Sy) (s' v'' dr'' ld'' : Nat), ShM M b C R s' v'' dep dr'' ld'' Z → (syF Z 0).length ≤ 48 := fun Z s' v'' dr'' ld'' hZ => by
    have a1 := syF_len Z 0
    have a2 := bef_len hZ.2.2.2.2.1 48
    rw [bef_all (fun y hy => (hZ.2.2.2.2.2.1 y hy).1)] at a2
    omega
  have lo := l48 Y' so v' dr' ld' hSo
  have lY := l48 Y s v dr ld hS
  refine c_m_addSayings (d + 2) s so b C R dep dr ld [] Y' 0 (uI M 277 60 0) _ L0 B0.1 B0.2.1 hC hR hs hso (by decide) (by decide) S0.2.2.2.1 So0.2.2.2.2 (by decide) hF0 (fun M1 g1 h1 => ?_)
  rw [List.nil_append, show (0 : Int32).toInt = 0 from rfl] at h1
  rw [show (0 : Int32).toInt = 0 from rfl]
  have G1 := oS_trans g0 g1
  have L1 := oS_Lay G1 hL
  simp +decide only [qX11_saidBy, lm L1, am_w1_i, am_w1_r, am_w1_x, am_w1_l, am_w1_w, va_rf_s, am_push_n, am_push_s, am_cs_0, am_cs_i, am_cs_l, am_cs_r, m_uI_K, m_uI_N, m_uI_R, m_uI_L, m_uI_I, m_uL_K, m_uL_N, m_uL_R, m_uL_I, m_uL_L, m_uR_K, m_uR_N, m_uR_I, m_uR_L, m_uR_R, true_and, and_true]
  have B1 := MB_T hB G1 tld_F
  have S1 := ShM_S hS G1 tld_F
  refine c_m_addSayings (d + 2) s s b C R dep dr ld (syF Y' 0) Y 0 M1 _ L1 B1.1 B1.2.1 hC hR hs hs (by decide) (by decide) S1.2.2.2.1 S1.2.2.2.2 (by omega) h1 (fun M2 g2 h2 => ?_)
  rw [show (0 : Int32).toInt = 0 from rfl] at h2 ⊢
  have G2 := oS_trans G1 g2
  have L2 := oS_Lay G2 hL
  have B2 := MB_T hB G2 tld_F
  have key : am_P am_P0 (d + 5) (am_look tX11_saidBy) 32 [.ref 277, .int (nI so), .int (nI s), .int (tI (syS Y' 0 (sndP dep dr ld)))] [.int (tI (syS Y 0 (sndP dep dr ld) ∧ syS Y' 0 (sndP dep dr ld)))] M2 Q := by
    simp +decide only [qX11_saidBy, lm L2, am_w1_i, am_w1_r, am_w1_x, am_w1_l, am_w1_w, va_rf_s, am_push_n, am_push_s, am_cs_0, am_cs_i, am_cs_l, am_cs_r, m_uI_K, m_uI_N, m_uI_R, m_uI_L, m_uI_I, m_uL_K, m_uL_N, m_uL_R, m_uL_I, m_uL_L, m_uR_K, m_uR_N, m_uR_I, m_uR_L, m_uR_R, true_and, and_true]
    refine c_m_addBooks (d + 3) s b C R L (syF Y' 0 ++ syF Y 0) M2 _ L2 B2.1 B2.2.1 hs (BkM_T hK G2 tld_F) hO (by rw [List.length_append]; omega) h2 (fun M3 g3 h3 => ?_)
    have G3 := oS_trans G2 g3
    have L3 := oS_Lay G3 hL
    simp +decide only [qX11_saidBy, lm L3, am_w1_i, am_w1_r, am_w1_x, am_w1_l, am_w1_w, va_rf_s, am_push_n, am_push_s, am_cs_0, am_cs_i, am_cs_l, am_cs_r, m_uI_K, m_uI_N, m_uI_R, m_uI_L, m_uI_I, m_uL_K, m_uL_N, m_uL_R, m_uL_I, m_uL_L, m_uR_K, m_uR_N, m_uR_I, m_uR_L, m_uR_R, true_and, and_true]
    by_cases c1 : syS Y 0 (sndP dep dr ld) ∧ syS Y' 0 (sndP dep dr ld)
    · rw [tI_t c1, br_n (by decide)]
      have S3 := ShM_S hS G3 tld_F
      refine c_m_fit d s b C R v (syF Y' 0 ++ syF Y 0 ++ bkOf L s) M3 _ L3 (MB_T hB G3 tld_F) hs S3.1 S3.2.1 S3.2.2.1 h3 (fun M4 g4 => ?_)
      rw [mW_T G3 tld_F]
      have h0 := hQ M4 (oS_trans (oS_up G3 (fun a j z => Or.inl z)) (oS_up (onlyG_S g4) (fun a j z => Or.inr z)))
      simp +decide only [qX11_saidBy, am_w1_i, am_w1_r, am_w1_x, am_w1_l, am_w1_w, va_rf_s, am_push_n, am_push_s, am_cs_0, am_cs_i, am_cs_l, am_cs_r, m_uI_K, m_uI_N, m_uI_R, m_uI_L, m_uI_I, m_uL_K, m_uL_N, m_uL_R, m_uL_I, m_uL_L, m_uR_K, m_uR_N, m_uR_I, m_uR_L, m_uR_R, true_and, and_true]
      by_cases c2 : fitP (mW_ M b C R s) v (syF Y' 0 ++ syF Y 0 ++ bkOf L s)
      · rw [tI_t c2, br_n (by decide)]
        rw [tI_t ⟨c1.2, c1.1, c2⟩] at h0
        exact h0
      · rw [tI_f c2, br_p rfl]
        rw [tI_f (fun z => c2 z.2.2)] at h0
        exact h0
    · rw [tI_f c1, br_p rfl]
      have h0 := hQ M3 (oS_up G3 (fun a j z => Or.inl z))
      rw [tI_f (fun z => c1 ⟨z.2.1, z.1⟩)] at h0
      exact h0
  by_cases c1 : syS Y 0 (sndP dep dr ld)
  · by_cases c2 : syS Y' 0 (sndP dep dr ld)
    · have e : tI (syS Y 0 (sndP dep dr ld) ∧ syS Y' 0 (sndP dep dr ld)) = 1 := tI_t ⟨c1, c2⟩
      rw [e, tI_t c2] at key
      simp +decide only [qX11_saidBy, tI_t c1, tI_t c2, lm L2, am_w1_i, am_w1_r, am_w1_x, am_w1_l, am_w1_w, va_rf_s, am_push_n, am_push_s, am_cs_0, am_cs_i, am_cs_l, am_cs_r, m_uI_K, m_uI_N, m_uI_R, m_uI_L, m_uI_I, m_uL_K, m_uL_N, m_uL_R, m_uL_I, m_uL_L, m_uR_K, m_uR_N, m_uR_I, m_uR_L, m_uR_R, true_and, and_true, true_implies, false_implies] at key ⊢
      exact key
    · have e : tI (syS Y 0 (sndP dep dr ld) ∧ syS Y' 0 (sndP dep dr ld)) = 0 := tI_f (fun z => c2 z.2)
      rw [e, tI_f c2] at key
      simp +decide only [qX11_saidBy, tI_t c1, tI_f c2, lm L2, am_w1_i, am_w1_r, am_w1_x, am_w1_l, am_w1_w, va_rf_s, am_push_n, am_push_s, am_cs_0, am_cs_i, am_cs_l, am_cs_r, m_uI_K, m_uI_N, m_uI_R, m_uI_L, m_uI_I, m_uL_K, m_uL_N, m_uL_R, m_uL_I, m_uL_L, m_uR_K, m_uR_N, m_uR_I, m_uR_L, m_uR_R, true_and, and_true, true_implies, false_implies] at key ⊢
      exact key
  · have e : tI (syS Y 0 (sndP dep dr ld) ∧ syS Y' 0 (sndP dep dr ld)) = 0 := tI_f (fun z => c1 z.1)
    rw [e] at key
    simp +decide only [qX11_saidBy, tI_f c1, lm L2, am_w1_i, am_w1_r, am_w1_x, am_w1_l, am_w1_w, va_rf_s, am_push_n, am_push_s, am_cs_0, am_cs_i, am_cs_l, am_cs_r, m_uI_K, m_uI_N, m_uI_R, m_uI_L, m_uI_I, m_uL_K, m_uL_N, m_uL_R, m_uL_I, m_uL_L, m_uR_K, m_uR_N, m_uR_I, m_uR_L, m_uR_R, true_and, and_true, true_implies, false_implies] at key ⊢
    exact key
