/-! 67.who 68.pairs 69.pairs2 70.keeps 71.keeps2 72.keeps3 73.keeps4 74.lays 75.lays2 -/
section
/-! the model: said by another, for another -/
def sFG (a j : Nat) : Prop := sF a j ∨ sG a j
/-- a ship in the model's rows: speed, depths, sayings -/
def ShM (M : am_M) (b C R s v : Nat) (dep : Nat → Nat) (dr ld : Nat) (Y : List Sy) : Prop := mI M 288 (8 * b + s) = nI v ∧ 1 ≤ v ∧ v ≤ 4 ∧ DpM M b C R s dep dr ld ∧ SyM M b C R s Y
/-- cells that hold what is told -/
def tld (a j : Nat) : Prop := (a = 277 ∧ j = 12) ∨ (279 ≤ a ∧ a ≤ 303) ∨ a = 315 ∨ a = 316
theorem ShM_S {M M' : am_M} {b C R s v : Nat} {dep : Nat → Nat} {dr ld : Nat} {Y : List Sy} {S : Nat → Nat → Prop} (h : ShM M b C R s v dep dr ld Y) (hS : oS S M M') (hd : ∀ a j, tld a j → ¬ S a j) : ShM M' b C R s v dep dr ld Y := by
  obtain ⟨h1, h2, h3, h4, h5⟩ := h
  exact ⟨by rw [hS.1 _ _ (hd _ _ (by unfold tld; omega))]; exact h1, h2, h3, DpM_S h4 hS (fun a j q => hd a j (by unfold tld; omega)), SyM_S h5 hS (fun a j q => hd a j (by unfold tld; omega))⟩
theorem MB_T {M M' : am_M} {b C R : Nat} {S : Nat → Nat → Prop} (h : MB M b C R) (g : oS S M M') (hd : ∀ a j, tld a j → ¬ S a j) : MB M' b C R := MB_S h g (fun a j q => hd a j (by unfold tld; omega))
theorem BkM_T {M M' : am_M} {b C : Nat} {L : List Bk} {S : Nat → Nat → Prop} (h : BkM M b C L) (hS : oS S M M') (hd : ∀ a j, tld a j → ¬ S a j) : BkM M' b C L := BkM_S h hS (fun a j q1 q2 => hd a j (by unfold tld; omega))
theorem tld_F (a j : Nat) (h : tld a j) : ¬ sF a j := fun z => by unfold tld at h; unfold sF at z; omega
theorem tld_G (a j : Nat) (h : tld a j) : ¬ sG a j := fun z => by unfold tld at h; unfold sG at z; omega
theorem tld_FG (a j : Nat) (h : tld a j) : ¬ sFG a j := fun z => z.elim (tld_F a j h) (tld_G a j h)
theorem mW_T {M M' : am_M} {b C R s : Nat} {S : Nat → Nat → Prop} (hS : oS S M M') (hd : ∀ a j, tld a j → ¬ S a j) : mW_ M' b C R s = mW_ M b C R s := by
  funext p
  unfold mW_
  rw [hS.1 _ _ (hd _ _ (by unfold tld; omega)), hS.1 _ _ (hd _ _ (by unfold tld; omega))]
theorem Fc0 (M : am_M) (C R : Nat) : FcM (uI M 277 60 0) C R [] ∧ oS sF M (uI M 277 60 0) := ⟨⟨by rw [m_uI_I, if_pos ⟨rfl, rfl⟩]; rfl, by decide, fun i f h => by cases h⟩, fun a j h => by rw [m_uI_I, if_neg (fun z => h (Or.inr (Or.inr (Or.inr z))))], fun _ _ => rfl, fun _ _ => rfl, rfl⟩
theorem c_m_isFor (d s so b C R v v' : Nat) (dep : Nat → Nat) (dr ld dr' ld' : Nat) (Y Y' : List Sy) (L : List Bk) (M : am_M) (Q : Option Value → am_M → Prop) (hL : Lay M) (hB : MB M b C R) (hs : s < 8) (hso : so < 8) (hS : ShM M b C R s v dep dr ld Y) (hSo : ShM M b C R so v' dep dr' ld' Y') (hK : BkM M b C L) (hO : bkOK C R L)
    (hQ : ∀ M', oS sFG M M' → Q (some (.int (tI (syS Y' 0 (sndP dep dr ld) ∧ fitP (mW_ M b C R s) v (syF Y' 0 ++ bkOf L s))))) M') : am_E am_P0 (d + 5) 272 [.ref 277, .int (nI so), .int (nI s)] M Q := by
  have hC := hB.2.2.2.2.2.1
  have hR := hB.2.2.2.2.2.2.2
  obtain ⟨hF0, g0⟩ := Fc0 M C R
  rw [eX11_isFor]
  simp +decide only [qX11_isFor, lm hL, am_w1_i, am_w1_r, am_w1_x, am_w1_l, am_w1_w, va_rf_s, am_push_n, am_push_s, am_cs_0, am_cs_i, am_cs_l, am_cs_r, m_uI_K, m_uI_N, m_uI_R, m_uI_L, m_uI_I, m_uL_K, m_uL_N, m_uL_R, m_uL_I, m_uL_L, m_uR_K, m_uR_N, m_uR_I, m_uR_L, m_uR_R, true_and, and_true]
  have L0 := oS_Lay g0 hL
  have B0 := MB_T hB g0 tld_F
  have S0 := ShM_S hS g0 tld_F
  have So0 := ShM_S hSo g0 tld_F
  refine c_m_addSayings (d + 2) s so b C R dep dr ld [] Y' 0 (uI M 277 60 0) _ L0 B0.1 B0.2.1 hC hR hs hso (by decide) (by decide) S0.2.2.2.1 So0.2.2.2.2 (by decide) hF0 (fun M1 g1 h1 => ?_)
  rw [List.nil_append, show (0 : Int32).toInt = 0 from rfl] at h1
  rw [show (0 : Int32).toInt = 0 from rfl]
  have G1 := oS_trans g0 g1
  have L1 := oS_Lay G1 hL
  have hlen : (syF Y' 0).length + 12 ≤ 120 := by
    have a1 := syF_len Y' 0
    have a2 := bef_len hSo.2.2.2.2.1 48
    rw [bef_all (fun y hy => (hSo.2.2.2.2.2.1 y hy).1)] at a2
    omega
  simp +decide only [qX11_isFor, lm L1, am_w1_i, am_w1_r, am_w1_x, am_w1_l, am_w1_w, va_rf_s, am_push_n, am_push_s, am_cs_0, am_cs_i, am_cs_l, am_cs_r, m_uI_K, m_uI_N, m_uI_R, m_uI_L, m_uI_I, m_uL_K, m_uL_N, m_uL_R, m_uL_I, m_uL_L, m_uR_K, m_uR_N, m_uR_I, m_uR_L, m_uR_R, true_and, and_true]
  have B1 := MB_T hB G1 tld_F
  refine c_m_addBooks (d + 3) s b C R L (syF Y' 0) M1 _ L1 B1.1 B1.2.1 hs (BkM_T hK G1 tld_F) hO hlen h1 (fun M2 g2 h2 => ?_)
  have G2 := oS_trans G1 g2
  have L2 := oS_Lay G2 hL
  simp +decide only [qX11_isFor, lm L2, am_w1_i, am_w1_r, am_w1_x, am_w1_l, am_w1_w, va_rf_s, am_push_n, am_push_s, am_cs_0, am_cs_i, am_cs_l, am_cs_r, m_uI_K, m_uI_N, m_uI_R, m_uI_L, m_uI_I, m_uL_K, m_uL_N, m_uL_R, m_uL_I, m_uL_L, m_uR_K, m_uR_N, m_uR_I, m_uR_L, m_uR_R, true_and, and_true]
  by_cases c1 : syS Y' 0 (sndP dep dr ld)
  · rw [tI_t c1, br_n (by decide)]
    have S2 := ShM_S hS G2 tld_F
    refine c_m_fit d s b C R v (syF Y' 0 ++ bkOf L s) M2 _ L2 (MB_T hB G2 tld_F) hs S2.1 S2.2.1 S2.2.2.1 h2 (fun M3 g3 => ?_)
    rw [mW_T G2 tld_F]
    have h0 := hQ M3 (oS_trans (oS_up G2 (fun a j z => Or.inl z)) (oS_up (onlyG_S g3) (fun a j z => Or.inr z)))
    simp +decide only [qX11_isFor, am_w1_i, am_w1_r, am_w1_x, am_w1_l, am_w1_w, va_rf_s, am_push_n, am_push_s, am_cs_0, am_cs_i, am_cs_l, am_cs_r, m_uI_K, m_uI_N, m_uI_R, m_uI_L, m_uI_I, m_uL_K, m_uL_N, m_uL_R, m_uL_I, m_uL_L, m_uR_K, m_uR_N, m_uR_I, m_uR_L, m_uR_R, true_and, and_true]
    by_cases c2 : fitP (mW_ M b C R s) v (syF Y' 0 ++ bkOf L s)
    · rw [tI_t c2, br_n (by decide)]
      rw [tI_t ⟨c1, c2⟩] at h0
      exact h0
    · rw [tI_f c2, br_p rfl]
      rw [tI_f (fun z => c2 z.2)] at h0
      exact h0
  · rw [tI_f c1, br_p rfl]
    have h0 := hQ M2 (oS_up G2 (fun a j z => Or.inl z))
    rw [tI_f (fun z => c1 z.1)] at h0
    exact h0
theorem c_m_saidBy (d s so b C R v v' : Nat) (dep : Nat → Nat) (dr ld dr' ld' : Nat) (Y Y' : List Sy) (L : List Bk) (M : am_M) (Q : Option Value → am_M → Prop) (hL : Lay M) (hB : MB M b C R) (hs : s < 8) (hso : so < 8) (hS : ShM M b C R s v dep dr ld Y) (hSo : ShM M b C R so v' dep dr' ld' Y') (hK : BkM M b C L) (hO : bkOK C R L)
    (hQ : ∀ M', oS sFG M M' → Q (some (.int (tI (syS Y' 0 (sndP dep dr ld) ∧ syS Y 0 (sndP dep dr ld) ∧ fitP (mW_ M b C R s) v (syF Y' 0 ++ syF Y 0 ++ bkOf L s))))) M') : am_E am_P0 (d + 5) 259 [.ref 277, .int (nI so), .int (nI s)] M Q := by
  have hC := hB.2.2.2.2.2.1
  have hR := hB.2.2.2.2.2.2.2
  obtain ⟨hF0, g0⟩ := Fc0 M C R
  rw [eX11_saidBy]
  simp +decide only [qX11_saidBy, lm hL, am_w1_i, am_w1_r, am_w1_x, am_w1_l, am_w1_w, va_rf_s, am_push_n, am_push_s, am_cs_0, am_cs_i, am_cs_l, am_cs_r, m_uI_K, m_uI_N, m_uI_R, m_uI_L, m_uI_I, m_uL_K, m_uL_N, m_uL_R, m_uL_I, m_uL_L, m_uR_K, m_uR_N, m_uR_I, m_uR_L, m_uR_R, true_and, and_true]
  have L0 := oS_Lay g0 hL
  have B0 := MB_T hB g0 tld_F
  have S0 := ShM_S hS g0 tld_F
  have So0 := ShM_S hSo g0 tld_F
  have l48 : ∀ (Z : List Sy) (s' v'' dr'' ld'' : Nat), ShM M b C R s' v'' dep dr'' ld'' Z → (syF Z 0).length ≤ 48 := fun Z s' v'' dr'' ld'' hZ => by
    have a1 := syF_len Z 0
    have a2 := bef_len hZ.2.2.2.2.1 48
    rw [bef_all (fun y hy => (hZ.2.2.2.2.2.1 y hy).1)] at a2
    omega
  have lo := l48 Y' so v' dr' ld' hSo
  have lY := l48 Y s v dr ld hS
  refine c_m_addSayings (d + 2) s so b C R dep dr ld [] Y' 0 (uI M 277 60 0) _ L0 B0.1 B0.2.1 hC hR hs hso (by decide) (by decide) S0.2.2.2.1 So0.2.2.2.2 (by decide) hF0 (fun M1 g1 h1 => ?_)
  rw [List.nil_append, show (0 : Int32).toInt = 0 from rfl] at h1
  rw [show (0 : Int32).toInt = 0 from rfl]
  have G1 := oS_trans g0 g1
  have L1 := oS_Lay G1 hL
  simp +decide only [qX11_saidBy, lm L1, am_w1_i, am_w1_r, am_w1_x, am_w1_l, am_w1_w, va_rf_s, am_push_n, am_push_s, am_cs_0, am_cs_i, am_cs_l, am_cs_r, m_uI_K, m_uI_N, m_uI_R, m_uI_L, m_uI_I, m_uL_K, m_uL_N, m_uL_R, m_uL_I, m_uL_L, m_uR_K, m_uR_N, m_uR_I, m_uR_L, m_uR_R, true_and, and_true]
  have B1 := MB_T hB G1 tld_F
  have S1 := ShM_S hS G1 tld_F
  refine c_m_addSayings (d + 2) s s b C R dep dr ld (syF Y' 0) Y 0 M1 _ L1 B1.1 B1.2.1 hC hR hs hs (by decide) (by decide) S1.2.2.2.1 S1.2.2.2.2 (by omega) h1 (fun M2 g2 h2 => ?_)
  rw [show (0 : Int32).toInt = 0 from rfl] at h2 ⊢
  have G2 := oS_trans G1 g2
  have L2 := oS_Lay G2 hL
  have B2 := MB_T hB G2 tld_F
  have key : am_P am_P0 (d + 5) (am_look tX11_saidBy) 32 [.ref 277, .int (nI so), .int (nI s), .int (tI (syS Y' 0 (sndP dep dr ld)))] [.int (tI (syS Y 0 (sndP dep dr ld) ∧ syS Y' 0 (sndP dep dr ld)))] M2 Q := by
    simp +decide only [qX11_saidBy, lm L2, am_w1_i, am_w1_r, am_w1_x, am_w1_l, am_w1_w, va_rf_s, am_push_n, am_push_s, am_cs_0, am_cs_i, am_cs_l, am_cs_r, m_uI_K, m_uI_N, m_uI_R, m_uI_L, m_uI_I, m_uL_K, m_uL_N, m_uL_R, m_uL_I, m_uL_L, m_uR_K, m_uR_N, m_uR_I, m_uR_L, m_uR_R, true_and, and_true]
    refine c_m_addBooks (d + 3) s b C R L (syF Y' 0 ++ syF Y 0) M2 _ L2 B2.1 B2.2.1 hs (BkM_T hK G2 tld_F) hO (by rw [List.length_append]; omega) h2 (fun M3 g3 h3 => ?_)
    have G3 := oS_trans G2 g3
    have L3 := oS_Lay G3 hL
    simp +decide only [qX11_saidBy, lm L3, am_w1_i, am_w1_r, am_w1_x, am_w1_l, am_w1_w, va_rf_s, am_push_n, am_push_s, am_cs_0, am_cs_i, am_cs_l, am_cs_r, m_uI_K, m_uI_N, m_uI_R, m_uI_L, m_uI_I, m_uL_K, m_uL_N, m_uL_R, m_uL_I, m_uL_L, m_uR_K, m_uR_N, m_uR_I, m_uR_L, m_uR_R, true_and, and_true]
    by_cases c1 : syS Y 0 (sndP dep dr ld) ∧ syS Y' 0 (sndP dep dr ld)
    · rw [tI_t c1, br_n (by decide)]
      have S3 := ShM_S hS G3 tld_F
      refine c_m_fit d s b C R v (syF Y' 0 ++ syF Y 0 ++ bkOf L s) M3 _ L3 (MB_T hB G3 tld_F) hs S3.1 S3.2.1 S3.2.2.1 h3 (fun M4 g4 => ?_)
      rw [mW_T G3 tld_F]
      have h0 := hQ M4 (oS_trans (oS_up G3 (fun a j z => Or.inl z)) (oS_up (onlyG_S g4) (fun a j z => Or.inr z)))
      simp +decide only [qX11_saidBy, am_w1_i, am_w1_r, am_w1_x, am_w1_l, am_w1_w, va_rf_s, am_push_n, am_push_s, am_cs_0, am_cs_i, am_cs_l, am_cs_r, m_uI_K, m_uI_N, m_uI_R, m_uI_L, m_uI_I, m_uL_K, m_uL_N, m_uL_R, m_uL_I, m_uL_L, m_uR_K, m_uR_N, m_uR_I, m_uR_L, m_uR_R, true_and, and_true]
      by_cases c2 : fitP (mW_ M b C R s) v (syF Y' 0 ++ syF Y 0 ++ bkOf L s)
      · rw [tI_t c2, br_n (by decide)]
        rw [tI_t ⟨c1.2, c1.1, c2⟩] at h0
        exact h0
      · rw [tI_f c2, br_p rfl]
        rw [tI_f (fun z => c2 z.2.2)] at h0
        exact h0
    · rw [tI_f c1, br_p rfl]
      have h0 := hQ M3 (oS_up G3 (fun a j z => Or.inl z))
      rw [tI_f (fun z => c1 ⟨z.2.1, z.1⟩)] at h0
      exact h0
  by_cases c1 : syS Y 0 (sndP dep dr ld)
  · by_cases c2 : syS Y' 0 (sndP dep dr ld)
    · have e : tI (syS Y 0 (sndP dep dr ld) ∧ syS Y' 0 (sndP dep dr ld)) = 1 := tI_t ⟨c1, c2⟩
      rw [e, tI_t c2] at key
      simp +decide only [qX11_saidBy, tI_t c1, tI_t c2, lm L2, am_w1_i, am_w1_r, am_w1_x, am_w1_l, am_w1_w, va_rf_s, am_push_n, am_push_s, am_cs_0, am_cs_i, am_cs_l, am_cs_r, m_uI_K, m_uI_N, m_uI_R, m_uI_L, m_uI_I, m_uL_K, m_uL_N, m_uL_R, m_uL_I, m_uL_L, m_uR_K, m_uR_N, m_uR_I, m_uR_L, m_uR_R, true_and, and_true, true_implies, false_implies] at key ⊢
      exact key
    · have e : tI (syS Y 0 (sndP dep dr ld) ∧ syS Y' 0 (sndP dep dr ld)) = 0 := tI_f (fun z => c2 z.2)
      rw [e, tI_f c2] at key
      simp +decide only [qX11_saidBy, tI_t c1, tI_f c2, lm L2, am_w1_i, am_w1_r, am_w1_x, am_w1_l, am_w1_w, va_rf_s, am_push_n, am_push_s, am_cs_0, am_cs_i, am_cs_l, am_cs_r, m_uI_K, m_uI_N, m_uI_R, m_uI_L, m_uI_I, m_uL_K, m_uL_N, m_uL_R, m_uL_I, m_uL_L, m_uR_K, m_uR_N, m_uR_I, m_uR_L, m_uR_R, true_and, and_true, true_implies, false_implies] at key ⊢
      exact key
  · have e : tI (syS Y 0 (sndP dep dr ld) ∧ syS Y' 0 (sndP dep dr ld)) = 0 := tI_f (fun z => c1 z.1)
    rw [e] at key
    simp +decide only [qX11_saidBy, tI_f c1, lm L2, am_w1_i, am_w1_r, am_w1_x, am_w1_l, am_w1_w, va_rf_s, am_push_n, am_push_s, am_cs_0, am_cs_i, am_cs_l, am_cs_r, m_uI_K, m_uI_N, m_uI_R, m_uI_L, m_uI_I, m_uL_K, m_uL_N, m_uL_R, m_uL_I, m_uL_L, m_uR_K, m_uR_N, m_uR_I, m_uR_L, m_uR_R, true_and, and_true, true_implies, false_implies] at key ⊢
    exact key
end
section
/-! the model: a saying with the books; sayings by twos -/
def wbP (w : Nat → Prop) (v : Nat) (B : List Fct) (p t : Nat) : Prop := ∀ f, f ∈ B → wit w v p f.1 (btw t t f.2.1 f.2.2)
theorem bkOf_mem {L : List Bk} {s : Nat} {f : Fct} : f ∈ bkOf L s ↔ ∃ k, k ∈ L ∧ k.1 = s ∧ k.2 = f := by
  unfold bkOf
  rw [List.mem_map]
  constructor
  · rintro ⟨k, hk, rfl⟩
    rw [List.mem_filter] at hk
    exact ⟨k, hk.1, by simpa using hk.2, rfl⟩
  · rintro ⟨k, h1, h2, rfl⟩
    exact ⟨k, List.mem_filter.mpr ⟨h1, by simpa using h2⟩, rfl⟩
theorem l_m_withB (d s b C R v p t : Nat) (L : List Bk) (M : am_M) (Q : Option Value → am_M → Prop) (w : Nat → Prop) (x2 : Int32) (hL : Lay M) (hB : MB M b C R) (hs : s < 8) (hv : mI M 288 (8 * b + s) = nI v) (hv1 : 1 ≤ v) (hv2 : v ≤ 4) (ht : t < 48) (hK : BkM M b C L) (hO : bkOK C R L) (hG : GoesP M C R w p)
    (hQ : Q (some (.int (tI (wbP w v (bkOf L s) p t)))) M) :
    ∀ (m i : Nat), i + m = L.length → (∀ j k, j < i → L[j]? = some k → k.1 = s → wit w v p k.2.1 (btw t t k.2.2.1 k.2.2.2)) → am_P am_P0 (d + 1) (am_look tX11_withBooks) 15 [.ref 277, .int (nI s), .int x2, .int (nI t), .int (nI (12 * b + i))] [] M Q := by
  obtain ⟨b1, b2, b3, b4, b5, b6, b7, b8⟩ := hB
  have e12 : 12 * nI b = nI (12 * b) := by rw [show (12 : Int32) = nI 12 from rfl, ni_mul]
  have h12 := hO.1
  intro m
  induction m with
  | zero =>
    intro i hi hall
    have e : i = L.length := by omega
    subst e
    have hle : nI (12 * b + L.length) ≤ nI (12 * b + L.length) := (ni_le (by omega) (by omega)).mpr (Nat.le_refl _)
    rw [hX11_withBooks_15]
    simp +decide (disch := omega) only [qX11_withBooks_0, qX11_withBooks_1, lm hL, b1, hK.1, e12, ni_add, ni_in_t, ni_tn, am_w1_i, am_w1_r, am_w1_x, am_w1_l, am_w1_w, va_rf_s, am_push_n, am_push_s, am_cs_0, am_cs_i, am_cs_l, am_cs_r, m_uI_K, m_uI_N, m_uI_R, m_uI_L, m_uI_I, m_uL_K, m_uL_N, m_uL_R, m_uL_I, m_uL_L, m_uR_K, m_uR_N, m_uR_I, m_uR_L, m_uR_R, true_and, and_true]
    rw [br_p hle]
    have hy : wbP w v (bkOf L s) p t := fun f hf => by
      obtain ⟨k, hk, hks, rfl⟩ := bkOf_mem.mp hf
      obtain ⟨j, hj⟩ := List.mem_iff_getElem?.mp hk
      exact hall j k (List.getElem?_eq_some_iff.mp hj).1 hj hks
    rw [tI_t hy] at hQ
    exact hQ
  | succ m ih =>
    intro i hi hall
    have hlt : ¬ nI (12 * b + L.length) ≤ nI (12 * b + i) := by rw [ni_le (by omega) (by omega)]; omega
    obtain ⟨k, hk⟩ : ∃ k, L[i]? = some k := ⟨L[i]'(by omega), List.getElem?_eq_getElem (by omega)⟩
    obtain ⟨q1, q2, q3, q4⟩ := hK.2 i k hk
    have hok := hO.2 k (List.mem_of_getElem? hk)
    have hkl := cel_lt b6 b8 hok.2.1
    have hh := fun Q => c_m_hoursTo d s b v (cel C k.2.1) M Q hL b1 b2 hs hv hv1 hv2 hkl.2.1
    have hbt := fun Q => c_m_between d (nI t) (nI t) (nI k.2.2.1) (nI k.2.2.2) M Q
    have hw := hrT_wit (w := w) (v := v) (p := p) (q := k.2.1) (h := btw t t k.2.2.1 k.2.2.2) (x := mI M 317 (cel C k.2.1)) hv1 hv2 (by have := btw_lt (f := t) ht hok.2.2.2 (Nat.le_refl _) hok.2.2.1; omega) (hG k.2.1 hok.2.1)
    rw [hX11_withBooks_15]
    simp +decide (disch := omega) only [qX11_withBooks_0, qX11_withBooks_1, lm hL, b1, hK.1, e12, q1, q2, q3, q4, hh, hbt, btw_I ht hok.2.2.2 (Nat.le_refl t) hok.2.2.1, ni_add, ni_add1, ni_in_t, ni_tn, am_w1_i, am_w1_r, am_w1_x, am_w1_l, am_w1_w, va_rf_s, am_push_n, am_push_s, am_cs_0, am_cs_i, am_cs_l, am_cs_r, m_uI_K, m_uI_N, m_uI_R, m_uI_L, m_uI_I, m_uL_K, m_uL_N, m_uL_R, m_uL_I, m_uL_L, m_uR_K, m_uR_N, m_uR_I, m_uR_L, m_uR_R, true_and, and_true]
    rw [br_n hlt]
    by_cases c : k.1 = s
    · rw [br_r (by rw [c])]
      by_cases hc : wit w v p k.2.1 (btw t t k.2.2.1 k.2.2.2)
      · rw [br_p (hw.mpr hc)]
        refine ih (i + 1) (by omega) (fun j k' hj hk' hks => ?_)
        by_cases ej : j = i
        · subst ej
          cases hk.symm.trans hk'
          exact hc
        · exact hall j k' (by omega) hk' hks
      · rw [br_n (fun z => hc (hw.mp z))]
        have hn : ¬ wbP w v (bkOf L s) p t := fun z => hc (z k.2 (bkOf_mem.mpr ⟨k, List.mem_of_getElem? hk, c, rfl⟩))
        rw [tI_f hn] at hQ
        exact hQ
    · rw [br_q (by rw [ni_eq (by omega) (by omega)]; exact c)]
      refine ih (i + 1) (by omega) (fun j k' hj hk' hks => ?_)
      by_cases ej : j = i
      · subst ej
        cases hk.symm.trans hk'
        exact absurd hks c
      · exact hall j k' (by omega) hk' hks
theorem c_m_withBooks (d s b C R v p t : Nat) (L : List Bk) (M : am_M) (Q : Option Value → am_M → Prop) (hL : Lay M) (hB : MB M b C R) (hs : s < 8) (hv : mI M 288 (8 * b + s) = nI v) (hv1 : 1 ≤ v) (hv2 : v ≤ 4) (hp : vld C R p) (ht : t < 48) (hK : BkM M b C L) (hO : bkOK C R L)
    (hQ : ∀ M', onlyG M M' → Q (some (.int (tI (wbP (mW_ M b C R s) v (bkOf L s) p t)))) M') : am_E am_P0 (d + 4) 246 [.ref 277, .int (nI s), .int (nI (cel C p)), .int (nI t)] M Q := by
  have e12 : 12 * nI b = nI (12 * b) := by rw [show (12 : Int32) = nI 12 from rfl, ni_mul]
  rw [eX11_withBooks]
  simp +decide only [qX11_withBooks_0, qX11_withBooks_1, lm hL, am_w1_i, am_w1_r, am_w1_x, am_w1_l, am_w1_w, va_rf_s, am_push_n, am_push_s, am_cs_0, am_cs_i, am_cs_l, am_cs_r, m_uI_K, m_uI_N, m_uI_R, m_uI_L, m_uI_I, m_uL_K, m_uL_N, m_uL_R, m_uL_I, m_uL_L, m_uR_K, m_uR_N, m_uR_I, m_uR_L, m_uR_R, true_and, and_true]
  refine c_m_goes d s b C R p M _ hL hB hs hp (fun M1 g1 h1 => ?_)
  have G1 := onlyG_S g1
  have L1 := oS_Lay G1 hL
  have B1 := MB_T hB G1 tld_G
  simp +decide only [qX11_withBooks_0, qX11_withBooks_1, lm L1, B1.1, e12, am_w1_i, am_w1_r, am_w1_x, am_w1_l, am_w1_w, va_rf_s, am_push_n, am_push_s, am_cs_0, am_cs_i, am_cs_l, am_cs_r, m_uI_K, m_uI_N, m_uI_R, m_uI_L, m_uI_I, m_uL_K, m_uL_N, m_uL_R, m_uL_I, m_uL_L, m_uR_K, m_uR_N, m_uR_I, m_uR_L, m_uR_R, true_and, and_true]
  exact l_m_withB (d + 3) s b C R v p t L M1 Q (mW_ M b C R s) _ L1 B1 hs (by rw [G1.1 _ _ (tld_G _ _ (by unfold tld; omega))]; exact hv) hv1 hv2 ht (BkM_T hK G1 tld_G) hO h1 (hQ M1 g1) L.length 0 (by omega) (fun j k hj => by omega)
/-- hours between two hours -/
def hd_ (a b : Nat) : Nat := if a < b then b - a else a - b
def gowY (w : Nat → Prop) (v : Nat) (y y' : Sy) : Prop := wit w v y.2.1 y'.2.1 (hd_ y.1 y'.1)
def goodY (w : Nat → Prop) (v : Nat) (snd : Nat → Bool → Prop) (B : List Fct) (y : Sy) : Prop := snd y.2.1 y.2.2 ∧ wbP w v B y.2.1 y.1
def sP (a j : Nat) : Prop := sFG a j ∨ a = 322 ∨ a = 323 ∨ a = 325 ∨ (a = 277 ∧ j = 65)
theorem tld_P (a j : Nat) (h : tld a j) : ¬ sP a j := fun z => by
  rcases z with z | z
  · exact tld_FG a j h z
  · unfold tld at h; omega
/-- the hours of the sayings -/
def HrM (M : am_M) (Y : List Sy) : Prop := mI M 277 65 = nI Y.length ∧ ∀ i y, Y[i]? = some y → mI M 322 i = nI y.1
theorem l_m_pairs1 (d s b C R : Nat) (Y : List Sy) (M0 : am_M) (Q : Option Value → am_M → Prop) (hL : Lay M0) (hb : mI M0 277 12 = nI b) (hb2 : b < 2) (hC : C ≤ 16) (hR : R ≤ 16) (hs : s < 8) (hY : SyM M0 b C R s Y) (v3 v4 : Value)
    (hQ : ∀ M', oS sP M0 M' → HrM M' Y → am_P am_P0 (d + 1) (am_look tX11_pairs) 52 [.ref 277, .int (nI s), .int (nI 48), v3, v4] [] M' Q) :
    ∀ (m t : Nat), t + m = 48 → ∀ (M : am_M), oS sP M0 M → HrM M (bef Y t) → am_P am_P0 (d + 1) (am_look tX11_pairs) 7 [.ref 277, .int (nI s), .int (nI t), v3, v4] [] M Q := by
  intro m
  induction m with
  | zero =>
    intro t ht M hM hH
    have e : t = 48 := by omega
    subst e
    rw [bef_all (fun y hy => (hY.2.1 y hy).1)] at hH
    have h0 := hQ M hM hH
    rw [hX11_pairs_7]
    simp +decide only [qX11_pairs_0, qX11_pairs_1, qX11_pairs_2, qX11_pairs_3, lm (oS_Lay hM hL), am_w1_i, am_w1_r, am_w1_x, am_w1_l, am_w1_w, va_rf_s, am_push_n, am_push_s, am_cs_0, am_cs_i, am_cs_l, am_cs_r, m_uI_K, m_uI_N, m_uI_R, m_uI_L, m_uI_I, m_uL_K, m_uL_N, m_uL_R, m_uL_I, m_uL_L, m_uR_K, m_uR_N, m_uR_I, m_uR_L, m_uR_R, true_and, and_true, true_implies, false_implies] at h0 ⊢
    exact h0
  | succ m ih =>
    intro t ht M hM hH
    have hLM := oS_Lay hM hL
    have hbM : mI M 277 12 = nI b := by rw [hM.1 _ _ (tld_P _ _ (by unfold tld; omega))]; exact hb
    have hYM := SyM_S hY hM (fun a j q => tld_P a j (by unfold tld; omega))
    have hlt : ¬ (48 : Int32) ≤ nI t := by rw [show (48 : Int32) = nI 48 from rfl, ni_le (by omega) (by omega)]; omega
    have hsa := fun Q => c_m_said d s t M Q hLM b hbM hb2 hs (by omega)
    have hlen := bef_len hYM.1 t
    rw [hX11_pairs_7]
    rcases hYM.2.2 t (by omega) with ⟨y, hy, hyt, hm1, hm2⟩ | ⟨hno, hm1⟩
    · have hv := (hYM.2.1 y hy).2
      have hcl := cel_lt hC hR hv
      have hbt := bef_t hYM.1 hy hyt
      have hn1 : ¬ nI (cel C y.2.1) = -1 := nI_m1 (by omega)
      simp +decide (disch := omega) only [qX11_pairs_0, qX11_pairs_1, qX11_pairs_2, qX11_pairs_3, lm hLM, hsa, hm1, hH.1, ni_in_t, ni_tn, ni_add1, am_w1_i, am_w1_r, am_w1_x, am_w1_l, am_w1_w, va_rf_s, am_push_n, am_push_s, am_cs_0, am_cs_i, am_cs_l, am_cs_r, m_uI_K, m_uI_N, m_uI_R, m_uI_L, m_uI_I, m_uL_K, m_uL_N, m_uL_R, m_uL_I, m_uL_L, m_uR_K, m_uR_N, m_uR_I, m_uR_L, m_uR_R, true_and, and_true, false_and, if_false]
      rw [br_n hlt, br_q hn1]
      have g1 : oS sP M (uI (uI M 322 (bef Y t).length (nI t)) 277 65 (nI ((bef Y t).length + 1))) := ⟨fun a j h => by
        rw [m_uI_I, if_neg (fun z => h (Or.inr (Or.inr (Or.inr (Or.inr z))))), m_uI_I, if_neg (fun z => h (Or.inr (Or.inl z.1)))], fun _ _ => rfl, fun _ _ => rfl, rfl⟩
      refine ih (t + 1) (by omega) _ (oS_trans hM g1) ?_
      rw [hbt]
      refine ⟨?_, fun i y' hi => ?_⟩
      · rw [m_uI_I, if_pos ⟨rfl, rfl⟩, List.length_append]
        rfl
      · have r1 : ∀ x n i, mI (uI (uI M 322 (bef Y t).length x) 277 65 n) 322 i = if i = (bef Y t).length then x else mI M 322 i := fun x n i => by simp [m_uI_I]
        rw [r1]
        by_cases e : i = (bef Y t).length
        · subst e
          rw [List.getElem?_append_right (Nat.le_refl _), Nat.sub_self] at hi
          cases hi
          rw [if_pos rfl, hyt]
        · have hil := (List.getElem?_eq_some_iff.mp hi).1
          rw [List.length_append] at hil
          have hil2 : i < (bef Y t).length := by
            have : [y].length = 1 := rfl
            omega
          rw [List.getElem?_append_left hil2] at hi
          rw [if_neg e]
          exact hH.2 i y' hi
    · simp +decide (disch := omega) only [qX11_pairs_0, qX11_pairs_1, qX11_pairs_2, qX11_pairs_3, lm hLM, hsa, hm1, ni_add1, am_w1_i, am_w1_r, am_w1_x, am_w1_l, am_w1_w, va_rf_s, am_push_n, am_push_s, am_cs_0, am_cs_i, am_cs_l, am_cs_r, m_uI_K, m_uI_N, m_uI_R, m_uI_L, m_uI_I, m_uL_K, m_uL_N, m_uL_R, m_uL_I, m_uL_L, m_uR_K, m_uR_N, m_uR_I, m_uR_L, m_uR_R, true_and, and_true, not_true_eq_false, not_false_eq_true, true_implies, false_implies]
      rw [br_n hlt]
      refine ih (t + 1) (by omega) M hM ?_
      rw [bef_f hno]
      exact hH
end
section
/-! the model: sayings by twos, the loops -/
section
variable (w : Nat → Prop) (v : Nat) (snd : Nat → Bool → Prop) (B : List Fct) (Y : List Sy)
/-- what pairs leaves -/
def PrM (M : am_M) (n : Nat) : Prop := HrM M Y ∧ (∀ k y, k < n → Y[k]? = some y → mI M 323 k = tI (goodY w v snd B y)) ∧ ∀ k j y y', k < n → Y[k]? = some y → Y[j]? = some y' → mI M 325 (48 * k + j) = tI (gowY w v y y')
end
theorem hd_I {a b : Nat} (ha : a < 48) (hb : b < 48) : (if nI a < nI b then nI b - nI a else nI a - nI b) = nI (hd_ a b) := by
  unfold hd_
  by_cases c : a < b
  · rw [if_pos ((ni_lt (by omega) (by omega)).mpr c), if_pos c, ni_sub (by omega)]
  · rw [if_neg (fun z => c ((ni_lt (by omega) (by omega)).mp z)), if_neg c, ni_sub (by omega)]
theorem hd_lt {a b : Nat} (ha : a < 48) (hb : b < 48) : hd_ a b < 48 := by
  unfold hd_
  split <;> omega
theorem SyM_at {M : am_M} {b C R s : Nat} {Y : List Sy} (h : SyM M b C R s Y) {y : Sy} (hy : y ∈ Y) : y.1 < 48 ∧ vld C R y.2.1 ∧ mI M 292 (384 * b + 48 * s + y.1) = nI (cel C y.2.1) ∧ mI M 293 (384 * b + 48 * s + y.1) = b01 y.2.2 := by
  obtain ⟨h1, h2, h3⟩ := h
  obtain ⟨q1, q2⟩ := h2 y hy
  rcases h3 y.1 q1 with ⟨y', a1, a2, a3, a4⟩ | ⟨a1, -⟩
  · have e : y' = y := by
      have key : ∀ (Z : List Sy), srtY Z → y ∈ Z → y' ∈ Z → y' = y := by
        intro Z
        induction Z with
        | nil => intro _ h _; cases h
        | cons a r ih =>
          intro hs m1 m2
          have hs' := List.pairwise_cons.mp hs
          rcases List.mem_cons.mp m1 with e1 | n1 <;> rcases List.mem_cons.mp m2 with e2 | n2
          · rw [e1, e2]
          · have := hs'.1 y' n2; rw [← e1] at this; omega
          · have := hs'.1 y n1; rw [← e2] at this; omega
          · exact ih hs'.2 n1 n2
      exact key Y h1 hy a1
    subst e
    exact ⟨q1, q2, a3, a4⟩
  · exact absurd rfl (a1 y hy)
theorem l_m_pairs3 (d s b C R v i : Nat) (w : Nat → Prop) (snd : Nat → Bool → Prop) (B : List Fct) (Y : List Sy) (y : Sy) (M0 : am_M) (Q : Option Value → am_M → Prop) (x3 : Int32) (hL : Lay M0) (hB : MB M0 b C R) (hs : s < 8) (hv : mI M0 288 (8 * b + s) = nI v) (hv1 : 1 ≤ v) (hv2 : v ≤ 4) (hY : SyM M0 b C R s Y) (hl : Y.length ≤ 48) (hy : Y[i]? = some y)
    (hQ : ∀ M' v4, oS sP M0 M' → PrM w v snd B Y M' (i + 1) → am_P am_P0 (d + 1) (am_look tX11_pairs) 54 [.ref 277, .int (nI s), .int (nI i + 1), .int x3, .int v4] [] M' Q) :
    ∀ (m j : Nat), j + m = Y.length → ∀ (M : am_M), oS sP M0 M → GoesP M C R w y.2.1 → PrM w v snd B Y M i → mI M 323 i = tI (goodY w v snd B y) → (∀ j' y', j' < j → Y[j']? = some y' → mI M 325 (48 * i + j') = tI (gowY w v y y')) → am_P am_P0 (d + 1) (am_look tX11_pairs) 129 [.ref 277, .int (nI s), .int (nI i), .int x3, .int (nI j)] [] M Q := by
  have hil := (List.getElem?_eq_some_iff.mp hy).1
  obtain ⟨y1, y2, y3, y4⟩ := SyM_at hY (List.mem_of_getElem? hy)
  intro m
  induction m with
  | zero =>
    intro j hj M hM hG hP hg hall
    have e : j = Y.length := by omega
    subst e
    have hle : nI Y.length ≤ nI Y.length := (ni_le (by omega) (by omega)).mpr (Nat.le_refl _)
    rw [hX11_pairs_129]
    simp +decide only [qX11_pairs_0, qX11_pairs_1, qX11_pairs_2, qX11_pairs_3, lm (oS_Lay hM hL), hP.1.1, am_w1_i, am_w1_r, am_w1_x, am_w1_l, am_w1_w, va_rf_s, am_push_n, am_push_s, am_cs_0, am_cs_i, am_cs_l, am_cs_r, m_uI_K, m_uI_N, m_uI_R, m_uI_L, m_uI_I, m_uL_K, m_uL_N, m_uL_R, m_uL_I, m_uL_L, m_uR_K, m_uR_N, m_uR_I, m_uR_L, m_uR_R, true_and, and_true]
    rw [br_p hle]
    refine hQ M _ hM ⟨hP.1, fun k z hk hz => ?_, fun k j' z z' hk hz hz' => ?_⟩
    · by_cases ek : k = i
      · subst ek
        cases hy.symm.trans hz
        exact hg
      · exact hP.2.1 k z (by omega) hz
    · by_cases ek : k = i
      · subst ek
        cases hy.symm.trans hz
        exact hall j' z' (List.getElem?_eq_some_iff.mp hz').1 hz'
      · exact hP.2.2 k j' z z' (by omega) hz hz'
  | succ m ih =>
    intro j hj M hM hG hP hg hall
    have hLM := oS_Lay hM hL
    have hBM := MB_T hB hM tld_P
    have hYM := SyM_S hY hM (fun a j q => tld_P a j (by unfold tld; omega))
    have hvM : mI M 288 (8 * b + s) = nI v := by rw [hM.1 _ _ (tld_P _ _ (by unfold tld; omega))]; exact hv
    obtain ⟨z, hz⟩ : ∃ z, Y[j]? = some z := ⟨Y[j]'(by omega), List.getElem?_eq_getElem (by omega)⟩
    obtain ⟨z1, z2, z3, z4⟩ := SyM_at hYM (List.mem_of_getElem? hz)
    have hzl := cel_lt hBM.2.2.2.2.2.1 hBM.2.2.2.2.2.2.2 z2
    have hlt : ¬ nI Y.length ≤ nI j := by rw [ni_le (by omega) (by omega)]; omega
    have hsa := fun Q => c_m_said d s z.1 M Q hLM b hBM.1 hBM.2.1 hs z1
    have hh := fun Q => c_m_hoursTo d s b v (cel C z.2.1) M Q hLM hBM.1 hBM.2.1 hs hvM hv1 hv2 hzl.2.1
    have hw := hrT_wit (w := w) (v := v) (p := y.2.1) (q := z.2.1) (h := hd_ y.1 z.1) (x := mI M 317 (cel C z.2.1)) hv1 hv2 (by have := hd_lt y1 z1; omega) (hG z.2.1 z2)
    have hH := hP.1.2
    have e48 : 48 * nI i + nI j = nI (48 * i + j) := by rw [show (48 : Int32) = nI 48 from rfl, ni_mul, ni_add]
    rw [hX11_pairs_129]
    simp +decide (disch := omega) only [qX11_pairs_0, qX11_pairs_1, qX11_pairs_2, qX11_pairs_3, lm hLM, hP.1.1, hH i y hy, hH j z hz, hsa, z3, hh, e48, ni_in_t, ni_tn, ni_add1, am_w1_i, am_w1_r, am_w1_x, am_w1_l, am_w1_w, va_rf_s, am_push_n, am_push_s, am_cs_0, am_cs_i, am_cs_l, am_cs_r, m_uI_K, m_uI_N, m_uI_R, m_uI_L, m_uI_I, m_uL_K, m_uL_N, m_uL_R, m_uL_I, m_uL_L, m_uR_K, m_uR_N, m_uR_I, m_uR_L, m_uR_R, true_and, and_true]
    rw [br_n hlt]
    have fin : ∀ x, x = tI (gowY w v y z) → am_P am_P0 (d + 1) (am_look tX11_pairs) 129 [.ref 277, .int (nI s), .int (nI i), .int x3, .int (nI (j + 1))] [] (uI M 325 (48 * i + j) x) Q := by
      intro x hx
      have g1 : oS sP M (uI M 325 (48 * i + j) x) := ⟨fun a k h => by rw [m_uI_I, if_neg (fun q => h (Or.inr (Or.inr (Or.inr (Or.inl q.1)))))], fun _ _ => rfl, fun _ _ => rfl, rfl⟩
      have r1 : ∀ a k, ¬ a = 325 → mI (uI M 325 (48 * i + j) x) a k = mI M a k := fun a k h => by rw [m_uI_I, if_neg (fun q => h q.1)]
      refine ih (j + 1) (by omega) _ (oS_trans hM g1) (fun q hq => by rw [r1 _ _ (by decide)]; exact hG q hq) ⟨⟨by rw [r1 _ _ (by decide)]; exact hP.1.1, fun k y' hk => by rw [r1 _ _ (by decide)]; exact hH k y' hk⟩, fun k y' hk hy' => by rw [r1 _ _ (by decide)]; exact hP.2.1 k y' hk hy', fun k j' y' y'' hk hy' hy'' => ?_⟩ (by rw [r1 _ _ (by decide)]; exact hg) (fun j' y' hj' hy' => ?_)
      · have hj'l := (List.getElem?_eq_some_iff.mp hy'').1
        rw [m_uI_I, if_neg (by omega)]
        exact hP.2.2 k j' y' y'' hk hy' hy''
      · rw [m_uI_I]
        by_cases ej : j' = j
        · subst ej
          cases hz.symm.trans hy'
          rw [if_pos ⟨rfl, rfl⟩]
          exact hx
        · rw [if_neg (by omega)]
          exact hall j' y' (by omega) hy'
    have hdi := hd_I y1 z1
    by_cases c : nI z.1 ≤ nI y.1
    · rw [br_p c]
      rw [if_neg (Int32.not_lt.mpr c)] at hdi
      rw [hdi]
      by_cases cw : wit w v y.2.1 z.2.1 (hd_ y.1 z.1)
      · rw [br_n (Int32.not_lt.mpr (hw.mpr cw))]
        exact fin 1 (tI_t cw).symm
      · rw [br_p (Int32.not_le.mp (fun q => cw (hw.mp q)))]
        exact fin 0 (tI_f cw).symm
    · rw [br_n c]
      rw [if_pos (Int32.not_le.mp c)] at hdi
      rw [hdi]
      by_cases cw : wit w v y.2.1 z.2.1 (hd_ y.1 z.1)
      · rw [br_n (Int32.not_lt.mpr (hw.mpr cw))]
        exact fin 1 (tI_t cw).symm
      · rw [br_p (Int32.not_le.mp (fun q => cw (hw.mp q)))]
        exact fin 0 (tI_f cw).symm
theorem l_m_pairs2 (d s b C R v : Nat) (dep : Nat → Nat) (dr ld : Nat) (L : List Bk) (Y : List Sy) (M0 : am_M) (Q : Option Value → am_M → Prop) (hL : Lay M0) (hB : MB M0 b C R) (hs : s < 8) (hS : ShM M0 b C R s v dep dr ld Y) (hK : BkM M0 b C L) (hO : bkOK C R L) (hl : Y.length ≤ 48)
    (hQ : ∀ M', oS sP M0 M' → PrM (mW_ M0 b C R s) v (sndP dep dr ld) (bkOf L s) Y M' Y.length → Q none M') :
    ∀ (m i : Nat), i + m = Y.length → ∀ (M : am_M) (v3 v4 : Value), oS sP M0 M → PrM (mW_ M0 b C R s) v (sndP dep dr ld) (bkOf L s) Y M i → am_P am_P0 (d + 5) (am_look tX11_pairs) 54 [.ref 277, .int (nI s), .int (nI i), v3, v4] [] M Q := by
  intro m
  induction m with
  | zero =>
    intro i hi M v3 v4 hM hP
    have e : i = Y.length := by omega
    subst e
    have hle : nI Y.length ≤ nI Y.length := (ni_le (by omega) (by omega)).mpr (Nat.le_refl _)
    rw [hX11_pairs_54]
    simp +decide only [qX11_pairs_0, qX11_pairs_1, qX11_pairs_2, qX11_pairs_3, lm (oS_Lay hM hL), hP.1.1, am_w1_i, am_w1_r, am_w1_x, am_w1_l, am_w1_w, va_rf_s, am_push_n, am_push_s, am_cs_0, am_cs_i, am_cs_l, am_cs_r, m_uI_K, m_uI_N, m_uI_R, m_uI_L, m_uI_I, m_uL_K, m_uL_N, m_uL_R, m_uL_I, m_uL_L, m_uR_K, m_uR_N, m_uR_I, m_uR_L, m_uR_R, true_and, and_true]
    rw [br_p hle]
    exact hQ M hM hP
  | succ m ih =>
    intro i hi M v3 v4 hM hP
    have hLM := oS_Lay hM hL
    have hBM := MB_T hB hM tld_P
    have hSM := ShM_S hS hM tld_P
    have hKM := BkM_T hK hM tld_P
    obtain ⟨y, hy⟩ : ∃ y, Y[i]? = some y := ⟨Y[i]'(by omega), List.getElem?_eq_getElem (by omega)⟩
    obtain ⟨y1, y2, y3, y4⟩ := SyM_at hSM.2.2.2.2 (List.mem_of_getElem? hy)
    have hyl := cel_lt hBM.2.2.2.2.2.1 hBM.2.2.2.2.2.2.2 y2
    have hlt : ¬ nI Y.length ≤ nI i := by rw [ni_le (by omega) (by omega)]; omega
    have hsa := fun Q => c_m_said (d + 4) s y.1 M Q hLM b hBM.1 hBM.2.1 hs y1
    have hla := fun Q => c_m_laden (d + 4) s y.1 M Q hLM b hBM.1 hBM.2.1 hs y1 (by rw [y4]; cases y.2.2 <;> decide)
    have hsn := fun Q => c_m_isSound (d + 4) s (cel C y.2.1) (b01 y.2.2) M Q hLM b hBM.1 hBM.2.1 hs hyl.2.1
    have hsnd := bI_tI (m_snd hSM.2.2.2.1 y2 y.2.2)
    have hH := hP.1.2
    have hwM := mW_T (b := b) (C := C) (R := R) (s := s) hM tld_P
    -- from the store on
    have key : ∀ (x : Int32) (M1 : am_M), oS sG M M1 → x = tI (goodY (mW_ M0 b C R s) v (sndP dep dr ld) (bkOf L s) y) → am_P am_P0 (d + 5) (am_look tX11_pairs) 119 [.ref 277, .int (nI s), .int (nI i), .int (nI (cel C y.2.1)), am_w1 v4] [.int x, .int (nI i), .ref 323] M1 Q := by
      intro x M1 g1 hx
      have hM1 := oS_trans hM (oS_up g1 (fun a j h => Or.inl (Or.inr h)))
      have L1 := oS_Lay hM1 hL
      have hx01 : x = 0 ∨ x = 1 := by rw [hx]; exact tI_01 _
      have g2 : oS sP M1 (uI M1 323 i x) := ⟨fun a k h => by rw [m_uI_I, if_neg (fun q => h (Or.inr (Or.inr (Or.inl q.1))))], fun _ _ => rfl, fun _ _ => rfl, rfl⟩
      have hM2 := oS_trans hM1 g2
      have L2 := oS_Lay hM2 hL
      simp +decide (disch := omega) only [qX11_pairs_0, qX11_pairs_1, qX11_pairs_2, qX11_pairs_3, lm L1, ni_in_t, ni_tn, am_w1_i, am_w1_r, am_w1_x, am_w1_l, am_w1_w, va_rf_s, am_push_n, am_push_s, am_cs_0, am_cs_i, am_cs_l, am_cs_r, m_uI_K, m_uI_N, m_uI_R, m_uI_L, m_uI_I, m_uL_K, m_uL_N, m_uL_R, m_uL_I, m_uL_L, m_uR_K, m_uR_N, m_uR_I, m_uR_L, m_uR_R, true_and, and_true]
      refine ⟨hx01, ?_⟩
      refine c_m_goes (d + 1) s b C R y.2.1 (uI M1 323 i x) _ L2 (MB_T hB hM2 tld_P) hs y2 (fun M3 g3 h3 => ?_)
      rw [mW_T hM2 tld_P] at h3
      have G3 := onlyG_S g3
      have hM3 := oS_trans hM2 (oS_up G3 (fun a j h => Or.inl (Or.inr h)))
      simp +decide only [qX11_pairs_0, qX11_pairs_1, qX11_pairs_2, qX11_pairs_3, am_w1_i, am_w1_r, am_w1_x, am_w1_l, am_w1_w, va_rf_s, am_push_n, am_push_s, am_cs_0, am_cs_i, am_cs_l, am_cs_r, m_uI_K, m_uI_N, m_uI_R, m_uI_L, m_uI_I, m_uL_K, m_uL_N, m_uL_R, m_uL_I, m_uL_L, m_uR_K, m_uR_N, m_uR_I, m_uR_L, m_uR_R, true_and, and_true]
      have r3 : ∀ a k, ¬ sG a k → ¬ (a = 323 ∧ k = i) → mI M3 a k = mI M a k := fun a k q1 q2 => by
        rw [G3.1 _ _ q1, m_uI_I, if_neg q2, g1.1 _ _ q1]
      have sg : ∀ a k, 322 ≤ a ∨ (a = 277 ∧ k = 65) → ¬ sG a k := fun a k h z => by unfold sG at z; omega
      have hP3 : PrM (mW_ M0 b C R s) v (sndP dep dr ld) (bkOf L s) Y M3 i := ⟨⟨by rw [r3 _ _ (sg _ _ (Or.inr ⟨rfl, rfl⟩)) (by omega)]; exact hP.1.1, fun k y' hk => by rw [r3 _ _ (sg _ _ (Or.inl (by omega))) (by omega)]; exact hH k y' hk⟩, fun k y' hk hy' => by rw [r3 _ _ (sg _ _ (Or.inl (by omega))) (by omega)]; exact hP.2.1 k y' hk hy', fun k j' y' y'' hk hy' hy'' => by rw [r3 _ _ (sg _ _ (Or.inl (by omega))) (by omega)]; exact hP.2.2 k j' y' y'' hk hy' hy''⟩
      refine l_m_pairs3 (d + 4) s b C R v i (mW_ M0 b C R s) (sndP dep dr ld) (bkOf L s) Y y M0 Q (nI (cel C y.2.1)) hL hB hs hS.1 hS.2.1 hS.2.2.1 hS.2.2.2.2 hl hy (fun M4 v4' g4 h4 => ?_) Y.length 0 (by omega) M3 hM3 h3 hP3 ?_ (fun j' y' hj' => by omega)
      · rw [ni_add1]
        exact ih (i + 1) (by omega) M4 _ _ g4 h4
      · rw [G3.1 _ _ (sg _ _ (Or.inl (by omega))), m_uI_I, if_pos ⟨rfl, rfl⟩]
        exact hx
    rw [hX11_pairs_54]
    simp +decide (disch := omega) only [qX11_pairs_0, qX11_pairs_1, qX11_pairs_2, qX11_pairs_3, lm hLM, hP.1.1, hH i y hy, hsa, y3, hla, y4, hsn, hsnd, ni_in_t, ni_tn, am_w1_i, am_w1_r, am_w1_x, am_w1_l, am_w1_w, va_rf_s, am_push_n, am_push_s, am_cs_0, am_cs_i, am_cs_l, am_cs_r, m_uI_K, m_uI_N, m_uI_R, m_uI_L, m_uI_I, m_uL_K, m_uL_N, m_uL_R, m_uL_I, m_uL_L, m_uR_K, m_uR_N, m_uR_I, m_uR_L, m_uR_R, true_and, and_true]
    rw [br_n hlt]
    by_cases c1 : sndP dep dr ld y.2.1 y.2.2
    · rw [tI_t c1, br_n (by decide)]
      refine c_m_withBooks d s b C R v y.2.1 y.1 L M _ hLM hBM hs hSM.1 hSM.2.1 hSM.2.2.1 y2 y1 hKM hO (fun M1 g1 => ?_)
      rw [hwM]
      by_cases c2 : wbP (mW_ M0 b C R s) v (bkOf L s) y.2.1 y.1
      · have hk := key 1 M1 (onlyG_S g1) (tI_t ⟨c1, c2⟩).symm
        simp +decide only [qX11_pairs_0, qX11_pairs_1, qX11_pairs_2, qX11_pairs_3, lm (oS_Lay (onlyG_S g1) hLM), tI_t c2, am_w1_i, am_w1_r, am_w1_x, am_w1_l, am_w1_w, va_rf_s, am_push_n, am_push_s, am_cs_0, am_cs_i, am_cs_l, am_cs_r, m_uI_K, m_uI_N, m_uI_R, m_uI_L, m_uI_I, m_uL_K, m_uL_N, m_uL_R, m_uL_I, m_uL_L, m_uR_K, m_uR_N, m_uR_I, m_uR_L, m_uR_R, true_and, and_true, true_implies, false_implies] at hk ⊢
        exact hk
      · have hk := key 0 M1 (onlyG_S g1) (tI_f (fun z => c2 z.2)).symm
        simp +decide only [qX11_pairs_0, qX11_pairs_1, qX11_pairs_2, qX11_pairs_3, lm (oS_Lay (onlyG_S g1) hLM), tI_f c2, am_w1_i, am_w1_r, am_w1_x, am_w1_l, am_w1_w, va_rf_s, am_push_n, am_push_s, am_cs_0, am_cs_i, am_cs_l, am_cs_r, m_uI_K, m_uI_N, m_uI_R, m_uI_L, m_uI_I, m_uL_K, m_uL_N, m_uL_R, m_uL_I, m_uL_L, m_uR_K, m_uR_N, m_uR_I, m_uR_L, m_uR_R, true_and, and_true, true_implies, false_implies] at hk ⊢
        exact hk
    · rw [tI_f c1, br_p rfl]
      have hk := key 0 M (oS_refl _ _) (tI_f (fun z => c1 z.1)).symm
      simp +decide (disch := omega) only [qX11_pairs_0, qX11_pairs_1, qX11_pairs_2, qX11_pairs_3, lm hLM, ni_in_t, ni_tn, am_w1_i, am_w1_r, am_w1_x, am_w1_l, am_w1_w, va_rf_s, am_push_n, am_push_s, am_cs_0, am_cs_i, am_cs_l, am_cs_r, m_uI_K, m_uI_N, m_uI_R, m_uI_L, m_uI_I, m_uL_K, m_uL_N, m_uL_R, m_uL_I, m_uL_L, m_uR_K, m_uR_N, m_uR_I, m_uR_L, m_uR_R, true_and, and_true, true_implies, false_implies] at hk ⊢
      exact hk
theorem c_m_pairs (d s b C R v : Nat) (dep : Nat → Nat) (dr ld : Nat) (L : List Bk) (Y : List Sy) (M : am_M) (Q : Option Value → am_M → Prop) (hL : Lay M) (hB : MB M b C R) (hs : s < 8) (hS : ShM M b C R s v dep dr ld Y) (hK : BkM M b C L) (hO : bkOK C R L) (hl : Y.length ≤ 48)
    (hQ : ∀ M', oS sP M M' → PrM (mW_ M b C R s) v (sndP dep dr ld) (bkOf L s) Y M' Y.length → Q none M') : am_E am_P0 (d + 5) 247 [.ref 277, .int (nI s)] M Q := by
  rw [eX11_pairs]
  simp +decide only [qX11_pairs_0, qX11_pairs_1, qX11_pairs_2, qX11_pairs_3, lm hL, am_w1_i, am_w1_r, am_w1_x, am_w1_l, am_w1_w, va_rf_s, am_push_n, am_push_s, am_cs_0, am_cs_i, am_cs_l, am_cs_r, m_uI_K, m_uI_N, m_uI_R, m_uI_L, m_uI_I, m_uL_K, m_uL_N, m_uL_R, m_uL_I, m_uL_L, m_uR_K, m_uR_N, m_uR_I, m_uR_L, m_uR_R, true_and, and_true]
  rw [show (0 : Int32) = nI 0 from rfl]
  have g0 : oS sP M (uI M 277 65 (nI 0)) := ⟨fun a j h => by rw [m_uI_I, if_neg (fun z => h (Or.inr (Or.inr (Or.inr (Or.inr z)))))], fun _ _ => rfl, fun _ _ => rfl, rfl⟩
  refine l_m_pairs1 (d + 4) s b C R Y M Q hL hB.1 hB.2.1 hB.2.2.2.2.2.1 hB.2.2.2.2.2.2.2 hs hS.2.2.2.2 am_x am_x (fun M1 g1 h1 => ?_) 48 0 (by omega) _ g0 ⟨by rw [m_uI_I, if_pos ⟨rfl, rfl⟩, bef_0]; rfl, fun i y h => by rw [bef_0] at h; cases h⟩
  have h0 := l_m_pairs2 d s b C R v dep dr ld L Y M Q hL hB hs hS hK hO hl hQ Y.length 0 (by omega) M1 am_x am_x g1 ⟨h1, fun k y hk => by omega, fun k j y y' hk => by omega⟩
  simp +decide only [qX11_pairs_0, qX11_pairs_1, qX11_pairs_2, qX11_pairs_3, am_w1_i, am_w1_r, am_w1_x, am_w1_l, am_w1_w, va_rf_s, am_push_n, am_push_s, am_cs_0, am_cs_i, am_cs_l, am_cs_r, m_uI_K, m_uI_N, m_uI_R, m_uI_L, m_uI_I, m_uL_K, m_uL_N, m_uL_R, m_uL_I, m_uL_L, m_uR_K, m_uR_N, m_uR_I, m_uR_L, m_uR_R, true_and, and_true]
  rw [show (0 : Int32) = nI 0 from rfl]
  exact h0
end
section
/-! the model: which sayings are kept -/
noncomputable def dB (p : Prop) : Bool := @decide p (Classical.propDecidable p)
theorem dB_t {p : Prop} : dB p = true ↔ p := by
  unfold dB
  exact @decide_eq_true_iff p (Classical.propDecidable p)
theorem dB_f {p : Prop} : dB p = false ↔ ¬ p := by
  have h := dB_t (p := p)
  constructor
  · intro e q
    rw [h.mpr q] at e
    cases e
  · intro q
    cases e : dB p with
    | false => rfl
    | true => exact absurd (h.mp e) q
section
variable (w : Nat → Prop) (v : Nat) (snd : Nat → Bool → Prop) (B : List Fct) (Y : List Sy)
noncomputable def gdF (i : Nat) : Bool := dB (∃ y, Y[i]? = some y ∧ goodY w v snd B y)
noncomputable def goF (i j : Nat) : Bool := dB (∃ y y', Y[i]? = some y ∧ Y[j]? = some y' ∧ gowY w v y y')
noncomputable def lgY (i : Nat) : Nat := lg Y.length (gdF w v snd B Y) (goF w v Y) i
/-- the longest chain -/
noncomputable def mostY : Nat := lgM (lgY w v snd B Y) Y.length
def keptY (i : Nat) : Prop := i < Y.length ∧ kpT (mostY w v snd B Y) (lgY w v snd B Y) (goF w v Y) i
end
theorem gdF_y {w : Nat → Prop} {v : Nat} {snd : Nat → Bool → Prop} {B : List Fct} {Y : List Sy} {i : Nat} {y : Sy} (h : Y[i]? = some y) : gdF w v snd B Y i = true ↔ goodY w v snd B y := by
  unfold gdF
  rw [dB_t]
  constructor
  · rintro ⟨z, h1, h2⟩; cases h.symm.trans h1; exact h2
  · intro h1; exact ⟨y, h, h1⟩
theorem goF_y {w : Nat → Prop} {v : Nat} {Y : List Sy} {i j : Nat} {y y' : Sy} (h : Y[i]? = some y) (h' : Y[j]? = some y') : goF w v Y i j = true ↔ gowY w v y y' := by
  unfold goF
  rw [dB_t]
  constructor
  · rintro ⟨z, z', h1, h2, h3⟩; cases h.symm.trans h1; cases h'.symm.trans h2; exact h3
  · intro h1; exact ⟨y, y', h, h', h1⟩
def sK (a j : Nat) : Prop := sP a j ∨ a = 324 ∨ a = 326 ∨ (a = 277 ∧ (j = 64 ∨ j = 66))
theorem tld_K (a j : Nat) (h : tld a j) : ¬ sK a j := fun z => by
  rcases z with z | z
  · exact tld_P a j h z
  · unfold tld at h; omega
theorem PrM_S {w : Nat → Prop} {v : Nat} {snd : Nat → Bool → Prop} {B : List Fct} {Y : List Sy} {M M' : am_M} {n : Nat} (h : PrM w v snd B Y M n) (h1 : mI M' 277 65 = mI M 277 65) (h2 : ∀ j, mI M' 322 j = mI M 322 j) (h3 : ∀ j, mI M' 323 j = mI M 323 j) (h4 : ∀ j, mI M' 325 j = mI M 325 j) : PrM w v snd B Y M' n :=
  ⟨⟨by rw [h1]; exact h.1.1, fun i y hy => by rw [h2]; exact h.1.2 i y hy⟩, fun k y hk hy => by rw [h3]; exact h.2.1 k y hk hy, fun k j y y' hk hy hy' => by rw [h4]; exact h.2.2 k j y y' hk hy hy'⟩
theorem mx1_all (f : Nat → Nat) : ∀ n, mx1 f (fun _ => true) 0 n = lgM f n := by
  intro n
  induction n with
  | zero => rfl
  | succ n ih =>
    show max _ (if true = true then f (0 + n) else 0) = max _ _
    rw [ih, if_pos rfl, Nat.zero_add]
theorem mx1_dn (f : Nat → Nat) (g : Nat → Bool) (a : Nat) : ∀ m, mx1 f g a (m + 1) = max (if g a = true then f a else 0) (mx1 f g (a + 1) m) := by
  intro m
  induction m with
  | zero =>
    show max 0 (if g (a + 0) = true then f (a + 0) else 0) = max _ 0
    rw [Nat.max_comm]
    rfl
  | succ m ih =>
    show max (mx1 f g a (m + 1)) (if g (a + (m + 1)) = true then f (a + (m + 1)) else 0) = max _ (max (mx1 f g (a + 1) m) (if g (a + 1 + m) = true then f (a + 1 + m) else 0))
    rw [ih, Nat.max_assoc, show a + (m + 1) = a + 1 + m by omega]
/-- reading the isKept row, the fields -/
theorem l_m_keeps2 (d s : Nat) (w : Nat → Prop) (v : Nat) (snd : Nat → Bool → Prop) (B : List Fct) (Y : List Sy) (M0 : am_M) (Q : Option Value → am_M → Prop) (i : Nat) (hi : i < Y.length) (hl : Y.length ≤ 48) (x2 : Int32) (f : Nat → Nat) (hf : f = lgY w v snd B Y)
    (hgi : gdF w v snd B Y i = true)
    (hQ : ∀ M' v4, oS sK M0 M' → (∀ a j, ¬ (a = 326 ∧ j = i) → mI M' a j = mI M0 a j) → mI M' 326 i = nI (f i) → am_P am_P0 d (am_look tX11_keeps) 170 [.ref 277, .int (nI s), .int x2, .int (nI i), .int v4] [] M' Q)
    (hL : Lay M0) (hP : PrM w v snd B Y M0 Y.length) (hlg : ∀ k, i < k → k < Y.length → mI M0 326 k = nI (f k)) :
    ∀ (m j : Nat), j + m = Y.length → i + 1 ≤ j → ∀ (M : am_M), oS sK M0 M → (∀ a k, ¬ (a = 326 ∧ k = i) → mI M a k = mI M0 a k) → mI M 326 i = nI (1 + mx1 f (goF w v Y i) (i + 1) (j - (i + 1))) → am_P am_P0 d (am_look tX11_keeps) 88 [.ref 277, .int (nI s), .int x2, .int (nI i), .int (nI j)] [] M Q := by
  have hfb : ∀ k, f k ≤ 48 := fun k => by
    rw [hf]
    have := lg_le (n := Y.length) (gd := gdF w v snd B Y) (go := goF w v Y) Y.length k (by omega)
    unfold lgY
    omega
  have hmb : ∀ m, mx1 f (goF w v Y i) (i + 1) m ≤ 48 := fun m => by
    rcases mx1_at (f := f) (g := goF w v Y i) (a := i + 1) (m := m) with e | ⟨j, -, -, -, e⟩
    · omega
    · rw [← e]; exact hfb j
  obtain ⟨y, hy⟩ : ∃ y, Y[i]? = some y := ⟨Y[i]'hi, List.getElem?_eq_getElem hi⟩
  intro m
  induction m with
  | zero =>
    intro j hj hij M hM hk hm
    have e : j = Y.length := by omega
    subst e
    have hLM := oS_Lay hM hL
    have hPM := PrM_S (M' := M) hP (hk _ _ (by omega)) (fun j => hk _ _ (by omega)) (fun j => hk _ _ (by omega)) (fun j => hk _ _ (by omega))
    have hle : nI Y.length ≤ nI Y.length := (ni_le (by omega) (by omega)).mpr (Nat.le_refl _)
    have h0 := hQ M (nI Y.length) hM hk (by rw [hm, hf]; unfold lgY; rw [lg_eq hi, if_pos hgi])
    rw [hX11_keeps_88]
    simp +decide (disch := omega) only [qX11_keeps_0, qX11_keeps_1, qX11_keeps_2, qX11_keeps_3, lm hLM, hPM.1.1, ni_in_t, ni_tn, am_w1_i, am_w1_r, am_w1_x, am_w1_l, am_w1_w, va_rf_s, am_push_n, am_push_s, am_cs_0, am_cs_i, am_cs_l, am_cs_r, m_uI_K, m_uI_N, m_uI_R, m_uI_L, m_uI_I, m_uL_K, m_uL_N, m_uL_R, m_uL_I, m_uL_L, m_uR_K, m_uR_N, m_uR_I, m_uR_L, m_uR_R, true_and, and_true] at h0 ⊢
    rw [br_p hle]
    exact h0
  | succ m ih =>
    intro j hj hij M hM hk hm
    have hLM := oS_Lay hM hL
    have hPM := PrM_S (M' := M) hP (hk _ _ (by omega)) (fun j => hk _ _ (by omega)) (fun j => hk _ _ (by omega)) (fun j => hk _ _ (by omega))
    have hlt : ¬ nI Y.length ≤ nI j := by rw [ni_le (by omega) (by omega)]; omega
    obtain ⟨z, hz⟩ : ∃ z, Y[j]? = some z := ⟨Y[j]'(by omega), List.getElem?_eq_getElem (by omega)⟩
    have e48 : 48 * nI i + nI j = nI (48 * i + j) := by rw [show (48 : Int32) = nI 48 from rfl, ni_mul, ni_add]
    have r1 := hPM.2.1 i y hi hy
    have r2 := hPM.2.1 j z (by omega) hz
    have r3 := hPM.2.2 i j y z hi hy hz
    have r4 : mI M 326 j = nI (f j) := by rw [hk _ _ (by omega)]; exact hlg j (by omega) (by omega)
    rw [tI_t ((gdF_y hy).mp hgi)] at r1
    have hgo := goF_y (w := w) (v := v) hy hz
    have hgd := gdF_y (w := w) (v := v) (snd := snd) (B := B) hz
    have hstep : mx1 f (goF w v Y i) (i + 1) (j + 1 - (i + 1)) = max (mx1 f (goF w v Y i) (i + 1) (j - (i + 1))) (if goF w v Y i j = true then f j else 0) := by
      rw [show j + 1 - (i + 1) = (j - (i + 1)) + 1 by omega]
      show max _ _ = _
      rw [show i + 1 + (j - (i + 1)) = j by omega]
    have b1 := hfb j
    have b2 := hmb (j - (i + 1))
    rw [hX11_keeps_88]
    simp +decide (disch := omega) only [qX11_keeps_0, qX11_keeps_1, qX11_keeps_2, qX11_keeps_3, lm hLM, hPM.1.1, r1, r2, r3, r4, hm, e48, ni_in_t, ni_tn, ni_add1, am_w1_i, am_w1_r, am_w1_x, am_w1_l, am_w1_w, va_rf_s, am_push_n, am_push_s, am_cs_0, am_cs_i, am_cs_l, am_cs_r, m_uI_K, m_uI_N, m_uI_R, m_uI_L, m_uI_I, m_uL_K, m_uL_N, m_uL_R, m_uL_I, m_uL_L, m_uR_K, m_uR_N, m_uR_I, m_uR_L, m_uR_R, true_and, and_true, true_implies, false_implies]
    rw [br_n hlt]
    by_cases c1 : gowY w v y z
    · rw [tI_t c1, br_n (by decide)]
      rw [if_pos (hgo.mpr c1)] at hstep
      by_cases c2 : goodY w v snd B z
      · rw [tI_t c2, br_n (by decide)]
        by_cases c3 : f j + 1 ≤ 1 + mx1 f (goF w v Y i) (i + 1) (j - (i + 1))
        · rw [br_p ((ni_le (by omega) (by omega)).mpr c3)]
          refine ih (j + 1) (by omega) (by omega) M hM hk ?_
          rw [hm, hstep, Nat.max_eq_left (by omega)]
        · rw [br_n (fun q => c3 ((ni_le (by omega) (by omega)).mp q))]
          have g1 : oS sK M (uI M 326 i (nI (f j + 1))) := ⟨fun a k h => by rw [m_uI_I, if_neg (fun q => h (Or.inr (Or.inr (Or.inl q.1))))], fun _ _ => rfl, fun _ _ => rfl, rfl⟩
          refine ih (j + 1) (by omega) (by omega) _ (oS_trans hM g1) (fun a k h => by rw [m_uI_I, if_neg h]; exact hk a k h) ?_
          rw [m_uI_I, if_pos ⟨rfl, rfl⟩, hstep, Nat.max_eq_right (by omega), Nat.add_comm]
      · rw [tI_f c2, br_p rfl]
        refine ih (j + 1) (by omega) (by omega) M hM hk ?_
        have hz0 : f j = 0 := by rw [hf]; unfold lgY; exact lg_0 (fun q => c2 (hgd.mp q))
        rw [hm, hstep, hz0, Nat.max_zero]
    · rw [tI_f c1, br_p rfl]
      refine ih (j + 1) (by omega) (by omega) M hM hk ?_
      rw [if_neg (fun q => c1 (hgo.mp q)), Nat.max_zero] at hstep
      rw [hm, hstep]
end
section
/-! the model's keeps: the loops -/
theorem lgY_b (w : Nat → Prop) (v : Nat) (snd : Nat → Bool → Prop) (B : List Fct) (Y : List Sy) (hl : Y.length ≤ 48) (k : Nat) : lgY w v snd B Y k ≤ 48 := by
  have := lg_le (n := Y.length) (gd := gdF w v snd B Y) (go := goF w v Y) Y.length k (by omega)
  unfold lgY
  omega
theorem l_m_keeps1 (d s : Nat) (w : Nat → Prop) (v : Nat) (snd : Nat → Bool → Prop) (B : List Fct) (Y : List Sy) (M0 : am_M) (Q : Option Value → am_M → Prop) (hl : Y.length ≤ 48) (hL : Lay M0) (hP : PrM w v snd B Y M0 Y.length)
    (hQ : ∀ M' v4, oS sK M0 M' → (∀ a j, ¬ a = 326 → mI M' a j = mI M0 a j) → (∀ k, k < Y.length → mI M' 326 k = nI (lgY w v snd B Y k)) → am_P am_P0 d (am_look tX11_keeps) 197 [.ref 277, .int (nI s), .int (nI (mostY w v snd B Y)), .int (-1), v4] [] M' Q) :
    ∀ (i : Nat), i ≤ Y.length → ∀ (M : am_M) (v4 : Value), (v4 = am_x ∨ ∃ x, v4 = .int x) → oS sK M0 M → (∀ a j, ¬ a = 326 → mI M a j = mI M0 a j) → (∀ k, i ≤ k → k < Y.length → mI M 326 k = nI (lgY w v snd B Y k)) → am_P am_P0 d (am_look tX11_keeps) 59 [.ref 277, .int (nI s), .int (nI (mx1 (lgY w v snd B Y) (fun _ => true) i (Y.length - i))), .int (nI i - 1), v4] [] M Q := by
  have hfb := lgY_b w v snd B Y hl
  have hmb : ∀ a m, mx1 (lgY w v snd B Y) (fun _ => true) a m ≤ 48 := fun a m => by
    rcases mx1_at (f := lgY w v snd B Y) (g := fun _ => true) (a := a) (m := m) with e | ⟨j, -, -, -, e⟩
    · omega
    · rw [← e]; exact hfb j
  intro i
  induction i with
  | zero =>
    intro _ M v4 hv4 hM hk hm
    have h0 := hQ M v4 hM hk (fun k hk => hm k (by omega) hk)
    rw [hX11_keeps_59]
    have e : mx1 (lgY w v snd B Y) (fun _ => true) 0 (Y.length - 0) = mostY w v snd B Y := mx1_all _ _
    rw [e]
    have e1 : nI 0 - 1 = -1 := rfl
    rw [e1]
    simp +decide only [qX11_keeps_0, qX11_keeps_1, qX11_keeps_2, qX11_keeps_3, lm (oS_Lay hM hL), am_w1_i, am_w1_r, am_w1_x, am_w1_l, am_w1_w, va_rf_s, am_push_n, am_push_s, am_cs_0, am_cs_i, am_cs_l, am_cs_r, m_uI_K, m_uI_N, m_uI_R, m_uI_L, m_uI_I, m_uL_K, m_uL_N, m_uL_R, m_uL_I, m_uL_L, m_uR_K, m_uR_N, m_uR_I, m_uR_L, m_uR_R, true_and, and_true, true_implies, false_implies] at h0 ⊢
    exact h0
  | succ i ih =>
    intro hi M v4 hv4 hM hk hm
    have hLM := oS_Lay hM hL
    have hPM := PrM_S (M' := M) hP (hk _ _ (by omega)) (fun j => hk _ _ (by omega)) (fun j => hk _ _ (by omega)) (fun j => hk _ _ (by omega))
    have ei : nI (i + 1) - 1 = nI i := by rw [show (1 : Int32) = nI 1 from rfl, ni_sub (by omega)]; rfl
    have hn0 : ¬ nI i < 0 := by rw [show (0 : Int32) = nI 0 from rfl, ni_lt (by omega) (by omega)]; omega
    obtain ⟨y, hy⟩ : ∃ y, Y[i]? = some y := ⟨Y[i]'(by omega), List.getElem?_eq_getElem (by omega)⟩
    have r1 := hPM.2.1 i y (by omega) hy
    have hgd := gdF_y (w := w) (v := v) (snd := snd) (B := B) hy
    have hw4 : am_w1 v4 = v4 := by rcases hv4 with rfl | ⟨x, rfl⟩ <;> rfl
    have b1 := hfb i
    have b2 := hmb (i + 1) (Y.length - (i + 1))
    -- behind the inner loop
    have key : ∀ (M1 : am_M) (x4 : Int32), oS sK M0 M1 → (∀ a j, ¬ a = 326 → mI M1 a j = mI M0 a j) → (∀ k, i ≤ k → k < Y.length → mI M1 326 k = nI (lgY w v snd B Y k)) → am_P am_P0 d (am_look tX11_keeps) 170 [.ref 277, .int (nI s), .int (nI (mx1 (lgY w v snd B Y) (fun _ => true) (i + 1) (Y.length - (i + 1)))), .int (nI i), .int x4] [] M1 Q := by
      intro M1 x4 g1 k1 m1
      have hL1 := oS_Lay g1 hL
      have hm1 := m1 i (Nat.le_refl _) (by omega)
      have e0 : nI i + -1 = nI i - 1 := (Int32.sub_eq_add_neg _ _).symm
      have hstep : mx1 (lgY w v snd B Y) (fun _ => true) i (Y.length - i) = max (lgY w v snd B Y i) (mx1 (lgY w v snd B Y) (fun _ => true) (i + 1) (Y.length - (i + 1))) := by
        rw [show Y.length - i = (Y.length - (i + 1)) + 1 by omega, mx1_dn, if_pos rfl]
      have h0 := ih (by omega) M1 (.int x4) (Or.inr ⟨_, rfl⟩) g1 k1 m1
      simp +decide (disch := omega) only [qX11_keeps_0, qX11_keeps_1, qX11_keeps_2, qX11_keeps_3, lm hL1, hm1, e0, ni_in_t, ni_tn, am_w1_i, am_w1_r, am_w1_x, am_w1_l, am_w1_w, va_rf_s, am_push_n, am_push_s, am_cs_0, am_cs_i, am_cs_l, am_cs_r, m_uI_K, m_uI_N, m_uI_R, m_uI_L, m_uI_I, m_uL_K, m_uL_N, m_uL_R, m_uL_I, m_uL_L, m_uR_K, m_uR_N, m_uR_I, m_uR_L, m_uR_R, true_and, and_true]
      by_cases c : lgY w v snd B Y i ≤ mx1 (lgY w v snd B Y) (fun _ => true) (i + 1) (Y.length - (i + 1))
      · rw [br_p ((ni_le (by omega) (by omega)).mpr c)]
        rw [hstep, Nat.max_eq_right c] at h0
        exact h0
      · rw [br_n (fun q => c ((ni_le (by omega) (by omega)).mp q))]
        rw [hstep, Nat.max_eq_left (by omega)] at h0
        exact h0
    rw [hX11_keeps_59, ei]
    simp +decide (disch := omega) only [qX11_keeps_0, qX11_keeps_1, qX11_keeps_2, qX11_keeps_3, lm hLM, r1, ni_in_t, ni_tn, ni_add1, am_w1_i, am_w1_r, am_w1_x, am_w1_l, am_w1_w, va_rf_s, am_push_n, am_push_s, am_cs_0, am_cs_i, am_cs_l, am_cs_r, m_uI_K, m_uI_N, m_uI_R, m_uI_L, m_uI_I, m_uL_K, m_uL_N, m_uL_R, m_uL_I, m_uL_L, m_uR_K, m_uR_N, m_uR_I, m_uR_L, m_uR_R, true_and, and_true]
    rw [br_n hn0]
    by_cases c1 : goodY w v snd B y
    · have hgi := hgd.mpr c1
      rw [tI_t c1, br_n (by decide)]
      have g1 : oS sK M (uI M 326 i 1) := ⟨fun a k h => by rw [m_uI_I, if_neg (fun q => h (Or.inr (Or.inr (Or.inl q.1))))], fun _ _ => rfl, fun _ _ => rfl, rfl⟩
      have hP1 := PrM_S (M' := uI M 326 i 1) hPM (by rw [m_uI_I, if_neg (by omega)]) (fun j => by rw [m_uI_I, if_neg (by omega)]) (fun j => by rw [m_uI_I, if_neg (by omega)]) (fun j => by rw [m_uI_I, if_neg (by omega)])
      refine l_m_keeps2 d s w v snd B Y (uI M 326 i 1) Q i (by omega) hl _ (lgY w v snd B Y) rfl hgi (fun M' v4' a1 a2 a3 => ?_) (oS_Lay g1 hLM) hP1 (fun k k1 k2 => by rw [m_uI_I, if_neg (by omega)]; exact hm k (by omega) k2) (Y.length - (i + 1)) (i + 1) (by omega) (Nat.le_refl _) _ (oS_refl _ _) (fun _ _ _ => rfl) ?_
      · refine key M' v4' (oS_trans hM (oS_trans g1 a1)) (fun a j h => ?_) (fun k k1 k2 => ?_)
        · rw [a2 a j (fun q => h q.1), m_uI_I, if_neg (fun q => h q.1)]
          exact hk a j h
        · by_cases ek : k = i
          · subst ek; exact a3
          · rw [a2 _ _ (fun q => ek q.2), m_uI_I, if_neg (fun q => ek q.2)]
            exact hm k (by omega) k2
      · rw [m_uI_I, if_pos ⟨rfl, rfl⟩, Nat.sub_self]
        rfl
    · rw [tI_f c1, br_p rfl]
      have g1 : oS sK M (uI M 326 i 0) := ⟨fun a k h => by rw [m_uI_I, if_neg (fun q => h (Or.inr (Or.inr (Or.inl q.1))))], fun _ _ => rfl, fun _ _ => rfl, rfl⟩
      have hz0 : lgY w v snd B Y i = 0 := by unfold lgY; exact lg_0 (fun q => c1 (hgd.mp q))
      have h0 := key (uI M 326 i 0) (nI (i + 1)) (oS_trans hM g1) (fun a j h => by rw [m_uI_I, if_neg (fun q => h q.1)]; exact hk a j h) (fun k k1 k2 => by
        rw [m_uI_I]
        by_cases ek : k = i
        · subst ek; rw [if_pos ⟨rfl, rfl⟩, hz0]; rfl
        · rw [if_neg (fun q => ek q.2)]; exact hm k (by omega) k2)
      rw [hX11_keeps_88]
      have r1' : mI (uI M 326 i 0) 323 i = 0 := by rw [m_uI_I, if_neg (by omega), r1, tI_f c1]
      have hn' : mI (uI M 326 i 0) 277 65 = nI Y.length := by rw [m_uI_I, if_neg (by omega)]; exact hPM.1.1
      simp +decide (disch := omega) only [qX11_keeps_0, qX11_keeps_1, qX11_keeps_2, qX11_keeps_3, lm hLM, r1', hn', ni_in_t, ni_tn, am_w1_i, am_w1_r, am_w1_x, am_w1_l, am_w1_w, va_rf_s, am_push_n, am_push_s, am_cs_0, am_cs_i, am_cs_l, am_cs_r, m_uI_K, m_uI_N, m_uI_R, m_uI_L, m_uI_I, m_uL_K, m_uL_N, m_uL_R, m_uL_I, m_uL_L, m_uR_K, m_uR_N, m_uR_I, m_uR_L, m_uR_R, true_and, and_true, true_implies, false_implies] at h0 ⊢
      exact ⟨fun _ => h0, fun _ => h0⟩
end
section
/-! the model's keeps: the taking -/
theorem kpS_lt {L : Nat} {f : Nat → Nat} {go : Nat → Nat → Bool} : ∀ i l, (kpS L f go i).2 = some l → l < i := by
  intro i
  induction i with
  | zero => intro l h; cases h
  | succ i ih =>
    intro l h
    by_cases c : kpT L f go i
    · rw [kpS_t c] at h; cases h; omega
    · rw [kpS_f c] at h; have := ih l h; omega
theorem kpS_stop {L : Nat} {f : Nat → Nat} {go : Nat → Nat → Bool} {i : Nat} (h : ¬ (kpS L f go i).1 < L) : ∀ k, i ≤ k → kpS L f go k = kpS L f go i ∧ ¬ kpT L f go k := by
  intro k
  induction k with
  | zero => intro hk; have e : i = 0 := by omega
            subst e; exact ⟨rfl, fun z => h z.1⟩
  | succ k ih =>
    intro hk
    by_cases e : i = k + 1
    · subst e; exact ⟨rfl, fun z => h z.1⟩
    · obtain ⟨a, b⟩ := ih (by omega)
      have e2 : kpS L f go (k + 1) = kpS L f go i := by rw [kpS_f b, a]
      exact ⟨e2, fun z => h (by have := z.1; rw [e2] at this; exact this)⟩
theorem l_m_keeps4 (d s : Nat) (w : Nat → Prop) (v : Nat) (snd : Nat → Bool → Prop) (B : List Fct) (Y : List Sy) (M0 : am_M) (Q : Option Value → am_M → Prop) (hl : Y.length ≤ 48) (hL : Lay M0) (hP : PrM w v snd B Y M0 Y.length) (hlg : ∀ k, k < Y.length → mI M0 326 k = nI (lgY w v snd B Y k))
    (hQ : ∀ M', oS sK M0 M' → (∀ a j, ¬ a = 324 → mI M' a j = mI M0 a j) → (∀ k, k < Y.length → mI M' 324 k = tI (keptY w v snd B Y k)) → Q none M') :
    ∀ (m i : Nat), i + m = Y.length → ∀ (M : am_M), oS sK M0 M → (∀ a j, ¬ a = 324 → mI M a j = mI M0 a j) → (∀ k, k < Y.length → mI M 324 k = tI (k < i ∧ keptY w v snd B Y k)) →
    am_P am_P0 d (am_look tX11_keeps) 207 [.ref 277, .int (nI s), .int (nI (mostY w v snd B Y - (kpS (mostY w v snd B Y) (lgY w v snd B Y) (goF w v Y) i).1)), .int (match (kpS (mostY w v snd B Y) (lgY w v snd B Y) (goF w v Y) i).2 with | none => -1 | some l => nI l), .int (nI i)] [] M Q := by
  have hfb := lgY_b w v snd B Y hl
  obtain ⟨L, hLe⟩ : ∃ L, L = mostY w v snd B Y := ⟨_, rfl⟩
  obtain ⟨f, hfe⟩ : ∃ f, f = lgY w v snd B Y := ⟨_, rfl⟩
  obtain ⟨go, hge⟩ : ∃ go, go = goF w v Y := ⟨_, rfl⟩
  have hkY : ∀ k, keptY w v snd B Y k ↔ k < Y.length ∧ kpT L f go k := fun k => by rw [hLe, hfe, hge]; exact Iff.rfl
  rw [← hLe, ← hfe, ← hge]
  rw [← hfe] at hlg hfb
  have hLb : L ≤ 48 := by
    rw [hLe]
    unfold mostY
    rcases lgM_at (f := lgY w v snd B Y) (k := Y.length) with e | ⟨j, -, e⟩
    · omega
    · rw [← e, ← hfe]; exact hfb j
  intro m
  induction m with
  | zero =>
    intro i hi M hM hk hm
    have e : i = Y.length := by omega
    have hPM := PrM_S (M' := M) hP (hk _ _ (by omega)) (fun j => hk _ _ (by omega)) (fun j => hk _ _ (by omega)) (fun j => hk _ _ (by omega))
    have hle : nI Y.length ≤ nI i := (ni_le (by omega) (by omega)).mpr (by omega)
    rw [hX11_keeps_207]
    simp +decide only [qX11_keeps_0, qX11_keeps_1, qX11_keeps_2, qX11_keeps_3, lm (oS_Lay hM hL), hPM.1.1, am_w1_i, am_w1_r, am_w1_x, am_w1_l, am_w1_w, va_rf_s, am_push_n, am_push_s, am_cs_0, am_cs_i, am_cs_l, am_cs_r, m_uI_K, m_uI_N, m_uI_R, m_uI_L, m_uI_I, m_uL_K, m_uL_N, m_uL_R, m_uL_I, m_uL_L, m_uR_K, m_uR_N, m_uR_I, m_uR_L, m_uR_R, true_and, and_true]
    rw [br_p hle]
    refine hQ M hM hk (fun k hk2 => ?_)
    rw [hm k hk2]
    exact tI_i (and_iff_right (by omega))
  | succ m ih =>
    intro i hi M hM hk hm
    have hLM := oS_Lay hM hL
    have hPM := PrM_S (M' := M) hP (hk _ _ (by omega)) (fun j => hk _ _ (by omega)) (fun j => hk _ _ (by omega)) (fun j => hk _ _ (by omega))
    have hlt : ¬ nI Y.length ≤ nI i := by rw [ni_le (by omega) (by omega)]; omega
    obtain ⟨y, hy⟩ : ∃ y, Y[i]? = some y := ⟨Y[i]'(by omega), List.getElem?_eq_getElem (by omega)⟩
    have r4 : mI M 326 i = nI (f i) := by rw [hk _ _ (by omega)]; exact hlg i (by omega)
    have b1 := hfb i
    have hcl := (kp_inv (n := Y.length) (gd := gdF w v snd B Y) (go := goF w v Y) (L := mostY w v snd B Y) rfl i (by omega)).1
    have hcl' : (kpS L f go i).1 ≤ L := by rw [hLe, hfe, hge]; exact hcl
    -- not taken
    have hno : ¬ kpT L f go i → am_P am_P0 d (am_look tX11_keeps) 207 [.ref 277, .int (nI s), .int (nI (L - (kpS L f go i).1)), .int (match (kpS L f go i).2 with | none => -1 | some l => nI l), .int (nI (i + 1))] [] M Q := by
      intro hn
      have h0 := ih (i + 1) (by omega) M hM hk (fun k hk2 => ?_)
      · rw [kpS_f hn] at h0
        exact h0
      · rw [hm k hk2]
        refine tI_i ⟨fun z => ⟨by omega, z.2⟩, fun z => ⟨?_, z.2⟩⟩
        by_cases ek : k = i
        · subst ek; exact absurd ((hkY k).mp z.2).2 hn
        · omega
    -- taken
    have hyes : kpT L f go i → am_P am_P0 d (am_look tX11_keeps) 207 [.ref 277, .int (nI s), .int (nI (L - (kpS L f go i).1) + -1), .int (nI i), .int (nI (i + 1))] [] (uI M 324 i 1) Q := by
      intro ht
      have g1 : oS sK M (uI M 324 i 1) := ⟨fun a k h => by rw [m_uI_I, if_neg (fun q => h (Or.inr (Or.inl q.1)))], fun _ _ => rfl, fun _ _ => rfl, rfl⟩
      have h0 := ih (i + 1) (by omega) (uI M 324 i 1) (oS_trans hM g1) (fun a j h => by rw [m_uI_I, if_neg (fun q => h q.1)]; exact hk a j h) (fun k hk2 => ?_)
      · rw [kpS_t ht] at h0
        dsimp only at h0
        have e : nI (L - (kpS L f go i).1) + -1 = nI (L - ((kpS L f go i).1 + 1)) := by
          have := ht.1
          rw [show nI (L - (kpS L f go i).1) + -1 = nI (L - (kpS L f go i).1) - 1 from (Int32.sub_eq_add_neg _ _).symm, show (1 : Int32) = nI 1 from rfl, ni_sub (by omega)]
          rfl
        rw [e]
        exact h0
      · rw [m_uI_I]
        by_cases ek : k = i
        · subst ek
          rw [if_pos ⟨rfl, rfl⟩]
          exact (tI_t ⟨by omega, (hkY k).mpr ⟨by omega, ht⟩⟩).symm
        · rw [if_neg (fun q => ek q.2), hm k hk2]
          exact tI_i ⟨fun z => ⟨by omega, z.2⟩, fun z => ⟨by omega, z.2⟩⟩
    rw [hX11_keeps_207]
    by_cases c1 : (kpS L f go i).1 < L
    · have hpos : ¬ nI (L - (kpS L f go i).1) ≤ 0 := by rw [show (0 : Int32) = nI 0 from rfl, ni_le (by omega) (by omega)]; omega
      cases hls : (kpS L f go i).2 with
      | none =>
        rw [hls] at hno
        dsimp only at hno ⊢
        simp +decide (disch := omega) only [qX11_keeps_0, qX11_keeps_1, qX11_keeps_2, qX11_keeps_3, lm hLM, hPM.1.1, r4, ni_in_t, ni_tn, ni_add1, am_w1_i, am_w1_r, am_w1_x, am_w1_l, am_w1_w, va_rf_s, am_push_n, am_push_s, am_cs_0, am_cs_i, am_cs_l, am_cs_r, m_uI_K, m_uI_N, m_uI_R, m_uI_L, m_uI_I, m_uL_K, m_uL_N, m_uL_R, m_uL_I, m_uL_L, m_uR_K, m_uR_N, m_uR_I, m_uR_L, m_uR_R, true_and, and_true, true_implies, false_implies]
        rw [br_n hlt, br_n hpos]
        by_cases c2 : f i = L - (kpS L f go i).1
        · rw [br_r (by rw [c2])]
          exact hyes ⟨c1, c2, fun l h => by rw [hls] at h; cases h⟩
        · rw [br_q (fun q => c2 ((ni_eq (by omega) (by omega)).mp q))]
          exact hno (fun z => c2 z.2.1)
      | some l =>
        have hli := kpS_lt i l hls
        obtain ⟨z, hz⟩ : ∃ z, Y[l]? = some z := ⟨Y[l]'(by omega), List.getElem?_eq_getElem (by omega)⟩
        have r3 := hPM.2.2 l i z y (by omega) hz hy
        have hgo := goF_y (w := w) (v := v) hz hy
        rw [← hge] at hgo
        have e48 : 48 * nI l + nI i = nI (48 * l + i) := by rw [show (48 : Int32) = nI 48 from rfl, ni_mul, ni_add]
        have hl1 : ¬ nI l = -1 := nI_m1 (by omega)
        rw [hls] at hno
        dsimp only at hno ⊢
        simp +decide (disch := omega) only [qX11_keeps_0, qX11_keeps_1, qX11_keeps_2, qX11_keeps_3, lm hLM, hPM.1.1, r4, r3, e48, ni_in_t, ni_tn, ni_add1, am_w1_i, am_w1_r, am_w1_x, am_w1_l, am_w1_w, va_rf_s, am_push_n, am_push_s, am_cs_0, am_cs_i, am_cs_l, am_cs_r, m_uI_K, m_uI_N, m_uI_R, m_uI_L, m_uI_I, m_uL_K, m_uL_N, m_uL_R, m_uL_I, m_uL_L, m_uR_K, m_uR_N, m_uR_I, m_uR_L, m_uR_R, true_and, and_true]
        rw [br_n hlt, br_n hpos]
        by_cases c2 : f i = L - (kpS L f go i).1
        · rw [br_r (by rw [c2]), br_n hl1]
          by_cases c3 : gowY w v z y
          · rw [tI_t c3, br_q (by decide)]
            exact hyes ⟨c1, c2, fun l' h => by rw [hls] at h; cases h; exact hgo.mpr c3⟩
          · rw [tI_f c3, br_r rfl]
            exact hno (fun q => c3 (hgo.mp (q.2.2 l hls)))
        · rw [br_q (fun q => c2 ((ni_eq (by omega) (by omega)).mp q))]
          exact hno (fun q => c2 q.2.1)
    · have hz0 : nI (L - (kpS L f go i).1) ≤ 0 := by rw [show (0 : Int32) = nI 0 from rfl, ni_le (by omega) (by omega)]; omega
      have hst := kpS_stop c1
      simp +decide (disch := omega) only [qX11_keeps_0, qX11_keeps_1, qX11_keeps_2, qX11_keeps_3, lm hLM, hPM.1.1, am_w1_i, am_w1_r, am_w1_x, am_w1_l, am_w1_w, va_rf_s, am_push_n, am_push_s, am_cs_0, am_cs_i, am_cs_l, am_cs_r, m_uI_K, m_uI_N, m_uI_R, m_uI_L, m_uI_I, m_uL_K, m_uL_N, m_uL_R, m_uL_I, m_uL_L, m_uR_K, m_uR_N, m_uR_I, m_uR_L, m_uR_R, true_and, and_true]
      rw [br_n hlt, br_p hz0]
      refine hQ M hM hk (fun k hk2 => ?_)
      rw [hm k hk2]
      refine tI_i ⟨fun z => z.2, fun z => ⟨?_, z⟩⟩
      rcases Nat.lt_or_ge k i with q | q
      · exact q
      · exact absurd ((hkY k).mp z).2 (hst k q).2
end
section
/-! the model's keeps -/
/-- what keeps leaves -/
def KpM (w : Nat → Prop) (v : Nat) (snd : Nat → Bool → Prop) (B : List Fct) (Y : List Sy) (M : am_M) : Prop := PrM w v snd B Y M Y.length ∧ mI M 277 64 = tI (fitP w v B) ∧ (fitP w v B → mI M 277 66 = nI (mostY w v snd B Y)) ∧ (¬ fitP w v B → mI M 277 66 = nI 0) ∧ ∀ k, k < Y.length → mI M 324 k = tI (fitP w v B ∧ keptY w v snd B Y k)
theorem l_m_keeps0 (d s : Nat) (Y : List Sy) (M0 : am_M) (Q : Option Value → am_M → Prop) (hl : Y.length ≤ 48) (hL : Lay M0) (hn : mI M0 277 65 = nI Y.length) (v3 v4 : Value)
    (hQ : ∀ M', oS sK M0 M' → (∀ a j, ¬ a = 324 → mI M' a j = mI M0 a j) → (∀ k, k < Y.length → mI M' 324 k = 0) → am_P am_P0 d (am_look tX11_keeps) 42 [.ref 277, .int (nI s), .int (nI Y.length), v3, v4] [] M' Q) :
    ∀ (m i : Nat), i + m = Y.length → ∀ (M : am_M), oS sK M0 M → (∀ a j, ¬ a = 324 → mI M a j = mI M0 a j) → (∀ k, k < i → mI M 324 k = 0) → am_P am_P0 d (am_look tX11_keeps) 21 [.ref 277, .int (nI s), .int (nI i), v3, v4] [] M Q := by
  intro m
  induction m with
  | zero =>
    intro i hi M hM hk hm
    have e : i = Y.length := by omega
    subst e
    have hn' : mI M 277 65 = nI Y.length := by rw [hk _ _ (by omega)]; exact hn
    have hle : nI Y.length ≤ nI Y.length := (ni_le (by omega) (by omega)).mpr (Nat.le_refl _)
    have h0 := hQ M hM hk hm
    rw [hX11_keeps_21]
    simp +decide only [qX11_keeps_0, qX11_keeps_1, qX11_keeps_2, qX11_keeps_3, lm (oS_Lay hM hL), hn', am_w1_i, am_w1_r, am_w1_x, am_w1_l, am_w1_w, va_rf_s, am_push_n, am_push_s, am_cs_0, am_cs_i, am_cs_l, am_cs_r, m_uI_K, m_uI_N, m_uI_R, m_uI_L, m_uI_I, m_uL_K, m_uL_N, m_uL_R, m_uL_I, m_uL_L, m_uR_K, m_uR_N, m_uR_I, m_uR_L, m_uR_R, true_and, and_true] at h0 ⊢
    rw [br_p hle]
    exact h0
  | succ m ih =>
    intro i hi M hM hk hm
    have hn' : mI M 277 65 = nI Y.length := by rw [hk _ _ (by omega)]; exact hn
    have hlt : ¬ nI Y.length ≤ nI i := by rw [ni_le (by omega) (by omega)]; omega
    have g1 : oS sK M (uI M 324 i 0) := ⟨fun a k h => by rw [m_uI_I, if_neg (fun q => h (Or.inr (Or.inl q.1)))], fun _ _ => rfl, fun _ _ => rfl, rfl⟩
    rw [hX11_keeps_21]
    simp +decide (disch := omega) only [qX11_keeps_0, qX11_keeps_1, qX11_keeps_2, qX11_keeps_3, lm (oS_Lay hM hL), hn', ni_in_t, ni_tn, ni_add1, am_w1_i, am_w1_r, am_w1_x, am_w1_l, am_w1_w, va_rf_s, am_push_n, am_push_s, am_cs_0, am_cs_i, am_cs_l, am_cs_r, m_uI_K, m_uI_N, m_uI_R, m_uI_L, m_uI_I, m_uL_K, m_uL_N, m_uL_R, m_uL_I, m_uL_L, m_uR_K, m_uR_N, m_uR_I, m_uR_L, m_uR_R, true_and, and_true]
    rw [br_n hlt]
    refine ih (i + 1) (by omega) _ (oS_trans hM g1) (fun a j h => by rw [m_uI_I, if_neg (fun q => h q.1)]; exact hk a j h) (fun k hk2 => ?_)
    rw [m_uI_I]
    by_cases ek : k = i
    · rw [if_pos ⟨rfl, ek⟩]
    · rw [if_neg (fun q => ek q.2)]; exact hm k (by omega)
theorem c_m_keeps (d s b C R v : Nat) (dep : Nat → Nat) (dr ld : Nat) (L : List Bk) (Y : List Sy) (M : am_M) (Q : Option Value → am_M → Prop) (hL : Lay M) (hB : MB M b C R) (hs : s < 8) (hS : ShM M b C R s v dep dr ld Y) (hK : BkM M b C L) (hO : bkOK C R L) (hl : Y.length ≤ 48)
    (hQ : ∀ M', oS sK M M' → KpM (mW_ M b C R s) v (sndP dep dr ld) (bkOf L s) Y M' → Q none M') : am_E am_P0 (d + 6) 248 [.ref 277, .int (nI s)] M Q := by
  obtain ⟨w, hw⟩ : ∃ w, w = mW_ M b C R s := ⟨_, rfl⟩
  rw [← hw] at hQ
  rw [eX11_keeps]
  simp +decide only [qX11_keeps_0, qX11_keeps_1, qX11_keeps_2, qX11_keeps_3, lm hL, am_w1_i, am_w1_r, am_w1_x, am_w1_l, am_w1_w, va_rf_s, am_push_n, am_push_s, am_cs_0, am_cs_i, am_cs_l, am_cs_r, m_uI_K, m_uI_N, m_uI_R, m_uI_L, m_uI_I, m_uL_K, m_uL_N, m_uL_R, m_uL_I, m_uL_L, m_uR_K, m_uR_N, m_uR_I, m_uR_L, m_uR_R, true_and, and_true]
  refine c_m_booksFit d s b C R v L M _ hL hB hs hS.1 hS.2.1 hS.2.2.1 hK hO (fun M1 g1 => ?_)
  rw [← hw]
  have G1 : oS sK M M1 := oS_up g1 (fun a j h => Or.inl (Or.inl h))
  have L1 := oS_Lay G1 hL
  obtain ⟨x, hx⟩ : ∃ x, x = tI (fitP w v (bkOf L s)) := ⟨_, rfl⟩
  have hx01 : x = 0 ∨ x = 1 := by rw [hx]; exact tI_01 _
  rw [← hx]
  simp +decide only [qX11_keeps_0, qX11_keeps_1, qX11_keeps_2, qX11_keeps_3, lm L1, am_w1_i, am_w1_r, am_w1_x, am_w1_l, am_w1_w, va_rf_s, am_push_n, am_push_s, am_cs_0, am_cs_i, am_cs_l, am_cs_r, m_uI_K, m_uI_N, m_uI_R, m_uI_L, m_uI_I, m_uL_K, m_uL_N, m_uL_R, m_uL_I, m_uL_L, m_uR_K, m_uR_N, m_uR_I, m_uR_L, m_uR_R, true_and, and_true]
  refine ⟨hx01, ?_⟩
  have g2 : oS sK M1 (uI M1 277 64 x) := ⟨fun a k h => by rw [m_uI_I, if_neg (fun q => h (Or.inr (Or.inr (Or.inr ⟨q.1, Or.inl q.2⟩))))], fun _ _ => rfl, fun _ _ => rfl, rfl⟩
  have G2 := oS_trans G1 g2
  have L2 := oS_Lay G2 hL
  refine c_m_pairs d s b C R v dep dr ld L Y (uI M1 277 64 x) _ L2 (MB_T hB G2 tld_K) hs (ShM_S hS G2 tld_K) (BkM_T hK G2 tld_K) hO hl (fun M3 g3 h3 => ?_)
  rw [mW_T G2 tld_K, ← hw] at h3
  have G3 := oS_trans G2 (oS_up g3 (fun a j h => Or.inl h))
  have L3 := oS_Lay G3 hL
  have f64 : mI M3 277 64 = x := by
    rw [g3.1 _ _ (by unfold sP sFG sF sG; omega), m_uI_I, if_pos ⟨rfl, rfl⟩]
  simp +decide only [qX11_keeps_0, qX11_keeps_1, qX11_keeps_2, qX11_keeps_3, lm L3, am_w1_i, am_w1_r, am_w1_x, am_w1_l, am_w1_w, va_rf_s, am_push_n, am_push_s, am_cs_0, am_cs_i, am_cs_l, am_cs_r, m_uI_K, m_uI_N, m_uI_R, m_uI_L, m_uI_I, m_uL_K, m_uL_N, m_uL_R, m_uL_I, m_uL_L, m_uR_K, m_uR_N, m_uR_I, m_uR_L, m_uR_R, true_and, and_true]
  have g4 : oS sK M3 (uI M3 277 66 0) := ⟨fun a k h => by rw [m_uI_I, if_neg (fun q => h (Or.inr (Or.inr (Or.inr ⟨q.1, Or.inr q.2⟩))))], fun _ _ => rfl, fun _ _ => rfl, rfl⟩
  have G4 := oS_trans G3 g4
  have L4 := oS_Lay G4 hL
  have r4 : ∀ a j, ¬ (a = 277 ∧ j = 66) → mI (uI M3 277 66 0) a j = mI M3 a j := fun a j h => by rw [m_uI_I, if_neg h]
  have P4 := PrM_S (M' := uI M3 277 66 0) h3 (r4 _ _ (by omega)) (fun j => r4 _ _ (by omega)) (fun j => r4 _ _ (by omega)) (fun j => r4 _ _ (by omega))
  rw [show (0 : Int32) = nI 0 from rfl] at *
  refine l_m_keeps0 (d + 6) s Y (uI M3 277 66 (nI 0)) Q hl L4 P4.1.1 am_x am_x (fun M5 g5 k5 z5 => ?_) Y.length 0 (by omega) _ (oS_refl _ _) (fun _ _ _ => rfl) (fun k hk => by omega)
  have G5 := oS_trans G4 g5
  have L5 := oS_Lay G5 hL
  have P5 := PrM_S (M' := M5) P4 (k5 _ _ (by omega)) (fun j => k5 _ _ (by omega)) (fun j => k5 _ _ (by omega)) (fun j => k5 _ _ (by omega))
  have f64' : mI M5 277 64 = x := by rw [k5 _ _ (by omega), r4 _ _ (by omega)]; exact f64
  have f66 : mI M5 277 66 = nI 0 := by rw [k5 _ _ (by omega), m_uI_I, if_pos ⟨rfl, rfl⟩]
  by_cases c1 : fitP w v (bkOf L s)
  · have hx1 : x = 1 := by rw [hx, tI_t c1]
    rw [hx1] at f64'
    have e1 : nI Y.length - 1 = nI Y.length - 1 := rfl
    have h0 := l_m_keeps1 (d + 6) s w v (sndP dep dr ld) (bkOf L s) Y M5 Q hl L5 P5 (fun M6 v4 g6 k6 z6 => ?_) Y.length (Nat.le_refl _) M5 am_x (Or.inl rfl) (oS_refl _ _) (fun _ _ _ => rfl) (fun k q1 q2 => by omega)
    · rw [Nat.sub_self] at h0
      have e0 : mx1 (lgY w v (sndP dep dr ld) (bkOf L s) Y) (fun _ => true) Y.length 0 = 0 := rfl
      rw [e0] at h0
      simp +decide only [qX11_keeps_0, qX11_keeps_1, qX11_keeps_2, qX11_keeps_3, lm L5, f64', P5.1.1, am_w1_i, am_w1_r, am_w1_x, am_w1_l, am_w1_w, va_rf_s, am_push_n, am_push_s, am_cs_0, am_cs_i, am_cs_l, am_cs_r, m_uI_K, m_uI_N, m_uI_R, m_uI_L, m_uI_I, m_uL_K, m_uL_N, m_uL_R, m_uL_I, m_uL_L, m_uR_K, m_uR_N, m_uR_I, m_uR_L, m_uR_R, true_and, and_true, not_true_eq_false, not_false_eq_true, true_implies, false_implies]
      exact h0
    · have G6 := oS_trans G5 g6
      have L6 := oS_Lay G6 hL
      simp +decide only [qX11_keeps_0, qX11_keeps_1, qX11_keeps_2, qX11_keeps_3, lm L6, am_w1_i, am_w1_r, am_w1_x, am_w1_l, am_w1_w, va_rf_s, am_push_n, am_push_s, am_cs_0, am_cs_i, am_cs_l, am_cs_r, m_uI_K, m_uI_N, m_uI_R, m_uI_L, m_uI_I, m_uL_K, m_uL_N, m_uL_R, m_uL_I, m_uL_L, m_uR_K, m_uR_N, m_uR_I, m_uR_L, m_uR_R, true_and, and_true]
      have g7 : oS sK M6 (uI M6 277 66 (nI (mostY w v (sndP dep dr ld) (bkOf L s) Y))) := ⟨fun a k h => by rw [m_uI_I, if_neg (fun q => h (Or.inr (Or.inr (Or.inr ⟨q.1, Or.inr q.2⟩))))], fun _ _ => rfl, fun _ _ => rfl, rfl⟩
      have G7 := oS_trans G6 g7
      have r7 : ∀ a j, ¬ (a = 277 ∧ j = 66) → mI (uI M6 277 66 (nI (mostY w v (sndP dep dr ld) (bkOf L s) Y))) a j = mI M6 a j := fun a j h => by rw [m_uI_I, if_neg h]
      have P6 := PrM_S (M' := M6) P5 (k6 _ _ (by omega)) (fun j => k6 _ _ (by omega)) (fun j => k6 _ _ (by omega)) (fun j => k6 _ _ (by omega))
      have P7 := PrM_S (M' := uI M6 277 66 (nI (mostY w v (sndP dep dr ld) (bkOf L s) Y))) P6 (r7 _ _ (by omega)) (fun j => r7 _ _ (by omega)) (fun j => r7 _ _ (by omega)) (fun j => r7 _ _ (by omega))
      have h9 := l_m_keeps4 (d + 6) s w v (sndP dep dr ld) (bkOf L s) Y (uI M6 277 66 (nI (mostY w v (sndP dep dr ld) (bkOf L s) Y))) Q hl (oS_Lay G7 hL) P7 (fun k hk => by rw [r7 _ _ (by omega)]; exact z6 k hk) (fun M8 g8 k8 z8 => ?_) Y.length 0 (by omega) _ (oS_refl _ _) (fun _ _ _ => rfl) (fun k hk => ?_)
      · have e9 : (kpS (mostY w v (sndP dep dr ld) (bkOf L s) Y) (lgY w v (sndP dep dr ld) (bkOf L s) Y) (goF w v Y) 0) = (0, none) := rfl
        rw [e9] at h9
        dsimp only at h9
        rw [Nat.sub_zero] at h9
        exact h9
      · have P8 := PrM_S (M' := M8) P7 (k8 _ _ (by omega)) (fun j => k8 _ _ (by omega)) (fun j => k8 _ _ (by omega)) (fun j => k8 _ _ (by omega))
        refine hQ M8 (oS_trans G7 g8) ⟨P8, ?_, fun _ => ?_, fun h => absurd c1 h, fun k hk => ?_⟩
        · rw [k8 _ _ (by omega), r7 _ _ (by omega), k6 _ _ (by omega), f64', tI_t c1]
        · rw [k8 _ _ (by omega), m_uI_I, if_pos ⟨rfl, rfl⟩]
        · rw [z8 k hk]
          exact tI_i ⟨fun z => ⟨c1, z⟩, fun z => z.2⟩
      · rw [r7 _ _ (by omega), k6 _ _ (by omega), z5 k hk]
        exact (tI_f (fun z => by omega)).symm
  · have hx0 : x = nI 0 := by rw [hx, tI_f c1]; rfl
    rw [hx0] at f64'
    simp +decide only [qX11_keeps_0, qX11_keeps_1, qX11_keeps_2, qX11_keeps_3, lm L5, f64', am_w1_i, am_w1_r, am_w1_x, am_w1_l, am_w1_w, va_rf_s, am_push_n, am_push_s, am_cs_0, am_cs_i, am_cs_l, am_cs_r, m_uI_K, m_uI_N, m_uI_R, m_uI_L, m_uI_I, m_uL_K, m_uL_N, m_uL_R, m_uL_I, m_uL_L, m_uR_K, m_uR_N, m_uR_I, m_uR_L, m_uR_R, true_and, and_true]
    refine ⟨fun h => h.elim, fun _ => ?_⟩
    refine hQ M5 G5 ⟨P5, by rw [f64', tI_f c1]; rfl, fun h => absurd h c1, fun _ => f66, fun k hk => ?_⟩
    rw [z5 k hk]
    exact (tI_f (fun z => c1 z.1)).symm
end
section
/-! the model's lays of a ship, and where it may be -/
noncomputable def kpF (K : Nat → Prop) (Y : List Sy) (i : Nat) : List Fct := (List.range i).filterMap (fun k => if dB (K k) = true then (Y[k]?).map (fun y => (y.2.1, y.1, y.1)) else none)
theorem kpF_t {K : Nat → Prop} {Y : List Sy} {i : Nat} {y : Sy} (hy : Y[i]? = some y) (hk : K i) : kpF K Y (i + 1) = kpF K Y i ++ [(y.2.1, y.1, y.1)] := by
  unfold kpF
  rw [List.range_succ, List.filterMap_append]
  simp [dB_t.mpr hk, hy]
theorem kpF_f {K : Nat → Prop} {Y : List Sy} {i : Nat} (hk : ¬ K i) : kpF K Y (i + 1) = kpF K Y i := by
  unfold kpF
  rw [List.range_succ, List.filterMap_append]
  have : dB (K i) = false := dB_f.mpr hk
  simp [this]
theorem kpF_len (K : Nat → Prop) (Y : List Sy) (i : Nat) : (kpF K Y i).length ≤ i := by
  have h := List.length_filterMap_le (fun k => if dB (K k) = true then (Y[k]?).map (fun y => ((y.2.1, y.1, y.1) : Fct)) else none) (List.range i)
  rw [List.length_range] at h
  exact h
theorem kpF_mem {K : Nat → Prop} {Y : List Sy} {n : Nat} {f : Fct} : f ∈ kpF K Y n ↔ ∃ k y, k < n ∧ K k ∧ Y[k]? = some y ∧ f = (y.2.1, y.1, y.1) := by
  unfold kpF
  rw [List.mem_filterMap]
  constructor
  · rintro ⟨k, hk, e⟩
    split at e
    · rename_i h
      rw [Option.map_eq_some_iff] at e
      obtain ⟨y, hy, e⟩ := e
      exact ⟨k, y, List.mem_range.mp hk, dB_t.mp h, hy, e.symm⟩
    · cases e
  · rintro ⟨k, y, h1, h2, h3, rfl⟩
    refine ⟨k, List.mem_range.mpr h1, ?_⟩
    rw [if_pos (dB_t.mpr h2), h3]
    rfl
def sY (a j : Nat) : Prop := sK a j ∨ a = 327
theorem tld_Y (a j : Nat) (h : tld a j) : ¬ sY a j := fun z => by
  rcases z with z | z
  · exact tld_K a j h z
  · unfold tld at h; omega
/-- the facts of a ship that is laid: books and what is kept -/
noncomputable def fcY (w : Nat → Prop) (v : Nat) (snd : Nat → Bool → Prop) (B : List Fct) (Y : List Sy) : List Fct := B ++ kpF (fun k => fitP w v B ∧ keptY w v snd B Y k) Y Y.length
theorem KpM_S {w : Nat → Prop} {v : Nat} {snd : Nat → Bool → Prop} {B : List Fct} {Y : List Sy} {M M' : am_M} (h : KpM w v snd B Y M) (hk : ∀ a j, (a = 277 ∧ (j = 64 ∨ j = 65 ∨ j = 66)) ∨ (322 ≤ a ∧ a ≤ 325) → mI M' a j = mI M a j) : KpM w v snd B Y M' := by
  obtain ⟨h1, h2, h3, h4, h5⟩ := h
  refine ⟨PrM_S h1 (hk _ _ (by omega)) (fun j => hk _ _ (by omega)) (fun j => hk _ _ (by omega)) (fun j => hk _ _ (by omega)), by rw [hk _ _ (by omega)]; exact h2, fun q => by rw [hk _ _ (by omega)]; exact h3 q, fun q => by rw [hk _ _ (by omega)]; exact h4 q, fun k q => by rw [hk _ _ (by omega)]; exact h5 k q⟩
theorem l_m_lays1 (d s b C R v : Nat) (w : Nat → Prop) (snd : Nat → Bool → Prop) (B : List Fct) (Y : List Sy) (M0 : am_M) (Q : Option Value → am_M → Prop) (hL : Lay M0) (hB : MB M0 b C R) (hs : s < 8) (hY : SyM M0 b C R s Y) (hl : Y.length ≤ 48) (hBl : B.length ≤ 12) (hK : KpM w v snd B Y M0) (v3 : Value)
    (hQ : ∀ M', oS sF M0 M' → FcM M' C R (fcY w v snd B Y) → am_P am_P0 (d + 1) (am_look tX11_lays_) 67 [.ref 277, .int (nI s), .int (nI Y.length), v3] [] M' Q) :
    ∀ (m i : Nat), i + m = Y.length → ∀ (M : am_M), oS sF M0 M → FcM M C R (B ++ kpF (fun k => fitP w v B ∧ keptY w v snd B Y k) Y i) → am_P am_P0 (d + 1) (am_look tX11_lays_) 17 [.ref 277, .int (nI s), .int (nI i), v3] [] M Q := by
  intro m
  induction m with
  | zero =>
    intro i hi M hM hF
    have e : i = Y.length := by omega
    subst e
    have hn : mI M 277 65 = nI Y.length := by rw [hM.1 _ _ (by unfold sF; omega)]; exact hK.1.1.1
    have hle : nI Y.length ≤ nI Y.length := (ni_le (by omega) (by omega)).mpr (Nat.le_refl _)
    have h0 := hQ M hM hF
    rw [hX11_lays__17]
    simp +decide only [qX11_lays__0, qX11_lays__1, lm (oS_Lay hM hL), hn, am_w1_i, am_w1_r, am_w1_x, am_w1_l, am_w1_w, va_rf_s, am_push_n, am_push_s, am_cs_0, am_cs_i, am_cs_l, am_cs_r, m_uI_K, m_uI_N, m_uI_R, m_uI_L, m_uI_I, m_uL_K, m_uL_N, m_uL_R, m_uL_I, m_uL_L, m_uR_K, m_uR_N, m_uR_I, m_uR_L, m_uR_R, true_and, and_true] at h0 ⊢
    rw [br_p hle]
    exact h0
  | succ m ih =>
    intro i hi M hM hF
    have hLM := oS_Lay hM hL
    have hBM := MB_T hB hM tld_F
    have hYM := SyM_S hY hM (fun a j q => tld_F a j (by unfold tld; omega))
    have hKM : KpM w v snd B Y M := KpM_S hK (fun a j q => hM.1 _ _ (by unfold sF; omega))
    have hn : mI M 277 65 = nI Y.length := hKM.1.1.1
    have hlt : ¬ nI Y.length ≤ nI i := by rw [ni_le (by omega) (by omega)]; omega
    obtain ⟨y, hy⟩ : ∃ y, Y[i]? = some y := ⟨Y[i]'(by omega), List.getElem?_eq_getElem (by omega)⟩
    obtain ⟨y1, y2, y3, y4⟩ := SyM_at hYM (List.mem_of_getElem? hy)
    have hk := hKM.2.2.2.2 i (by omega)
    have hh := hKM.1.1.2 i y hy
    have hsa := fun Q => c_m_said d s y.1 M Q hLM b hBM.1 hBM.2.1 hs y1
    have hlen : (B ++ kpF (fun k => fitP w v B ∧ keptY w v snd B Y k) Y i).length < 120 := by
      have := kpF_len (fun k => fitP w v B ∧ keptY w v snd B Y k) Y i
      rw [List.length_append]; omega
    have hfa := fun Q => c_m_fact d (nI (cel C y.2.1)) (nI y.1) (nI y.1) M Q hLM (B ++ kpF (fun k => fitP w v B ∧ keptY w v snd B Y k) Y i).length hF.1 hlen
    rw [hX11_lays__17]
    simp +decide (disch := omega) only [qX11_lays__0, qX11_lays__1, lm hLM, hn, hk, hh, hsa, y3, hfa, ni_in_t, ni_tn, ni_add1, am_w1_i, am_w1_r, am_w1_x, am_w1_l, am_w1_w, va_rf_s, am_push_n, am_push_s, am_cs_0, am_cs_i, am_cs_l, am_cs_r, m_uI_K, m_uI_N, m_uI_R, m_uI_L, m_uI_I, m_uL_K, m_uL_N, m_uL_R, m_uL_I, m_uL_L, m_uR_K, m_uR_N, m_uR_I, m_uR_L, m_uR_R, true_and, and_true]
    rw [br_n hlt]
    by_cases c : fitP w v B ∧ keptY w v snd B Y i
    · rw [tI_t c, br_n (by decide)]
      obtain ⟨p1, p2⟩ := FcM_put (f := (y.2.1, y.1, y.1)) hF hlen ⟨y2, Nat.le_refl _, y1⟩
      dsimp only at p1 p2
      refine ih (i + 1) (by omega) _ (oS_trans hM p2) ?_
      rw [kpF_t hy c, ← List.append_assoc]
      exact p1
    · rw [tI_f c, br_p rfl]
      refine ih (i + 1) (by omega) M hM ?_
      rw [kpF_f c]
      exact hF
/-- how far each place is from each fact -/
def FrM (M : am_M) (C R : Nat) (w : Nat → Prop) (v : Nat) (F : List Fct) (n : Nat) : Prop := ∀ k f q, k < n → F[k]? = some f → vld C R q → ∀ h, h < 1000 → (mI M 327 (256 * k + cel C q) ≤ nI h ↔ wit w v f.1 q h)
theorem l_m_lays3 (d s b C R v i : Nat) (w : Nat → Prop) (F : List Fct) (f : Fct) (M0 : am_M) (Q : Option Value → am_M → Prop) (hL : Lay M0) (hB : MB M0 b C R) (hs : s < 8) (hv : mI M0 288 (8 * b + s) = nI v) (hv1 : 1 ≤ v) (hv2 : v ≤ 4) (hi : i < 60) (hf : F[i]? = some f) (hG : GoesP M0 C R w f.1) (hFr : FrM M0 C R w v F i)
    (hQ : ∀ M' v3, oS (fun a _ => a = 327) M0 M' → FrM M' C R w v F (i + 1) → am_P am_P0 (d + 1) (am_look tX11_lays_) 69 [.ref 277, .int (nI s), .int (nI i + 1), .int v3] [] M' Q) :
    ∀ (m c : Nat), c + m = C * R → ∀ (M : am_M), oS (fun a _ => a = 327) M0 M → (∀ j, ¬ (256 * i ≤ j ∧ j < 256 * i + c) → mI M 327 j = mI M0 327 j) → (∀ q, vld C R q → cel C q < c → ∀ h, h < 1000 → (mI M 327 (256 * i + cel C q) ≤ nI h ↔ wit w v f.1 q h)) → am_P am_P0 (d + 1) (am_look tX11_lays_) 90 [.ref 277, .int (nI s), .int (nI i), .int (nI c)] [] M Q := by
  have hB' := hB
  obtain ⟨b1, b2, b3, b4, b5, b6, b7, b8⟩ := hB'
  have hcr : C * R ≤ 16 * 16 := Nat.mul_le_mul b6 b8
  have nT : ∀ a j, tld a j → ¬ (fun a (_ : Nat) => a = 327) a j := fun a j h z => by unfold tld at h; have z' : a = 327 := z; omega
  intro m
  induction m with
  | zero =>
    intro c hc M hM hk hm
    have e : c = C * R := by omega
    subst e
    have hLM := oS_Lay hM hL
    have hBM := MB_T hB hM nT
    have hce := fun Q => c_m_cells d M Q hLM b C R hBM.1 hBM.2.1 hBM.2.2.1 hBM.2.2.2.1
    have hle : nI (C * R) ≤ nI (C * R) := (ni_le (by omega) (by omega)).mpr (Nat.le_refl _)
    rw [hX11_lays__90]
    simp +decide only [qX11_lays__0, qX11_lays__1, lm hLM, hce, am_w1_i, am_w1_r, am_w1_x, am_w1_l, am_w1_w, va_rf_s, am_push_n, am_push_s, am_cs_0, am_cs_i, am_cs_l, am_cs_r, m_uI_K, m_uI_N, m_uI_R, m_uI_L, m_uI_I, m_uL_K, m_uL_N, m_uL_R, m_uL_I, m_uL_L, m_uR_K, m_uR_N, m_uR_I, m_uR_L, m_uR_R, true_and, and_true]
    rw [br_p hle]
    refine hQ M _ hM (fun k f' q hk' hf' hq h hh => ?_)
    have hql := cel_lt b6 b8 hq
    by_cases ek : k = i
    · subst ek
      cases hf.symm.trans hf'
      exact hm q hq hql.1 h hh
    · rw [hk _ (by omega)]
      exact hFr k f' q (by omega) hf' hq h hh
  | succ m ih =>
    intro c hc M hM hk hm
    have hLM := oS_Lay hM hL
    have hBM := MB_T hB hM nT
    have hce := fun Q => c_m_cells d M Q hLM b C R hBM.1 hBM.2.1 hBM.2.2.1 hBM.2.2.2.1
    have hvM : mI M 288 (8 * b + s) = nI v := by rw [hM.1 _ _ (by omega)]; exact hv
    have hlt : ¬ nI (C * R) ≤ nI c := by rw [ni_le (by omega) (by omega)]; omega
    have hh := fun Q => c_m_hoursTo d s b v c M Q hLM hBM.1 hBM.2.1 hs hvM hv1 hv2 (by omega)
    have e256 : 256 * nI i + nI c = nI (256 * i + c) := by rw [show (256 : Int32) = nI 256 from rfl, ni_mul, ni_add]
    rw [hX11_lays__90]
    simp +decide (disch := omega) only [qX11_lays__0, qX11_lays__1, lm hLM, hce, hh, e256, ni_in_t, ni_tn, ni_add1, am_w1_i, am_w1_r, am_w1_x, am_w1_l, am_w1_w, va_rf_s, am_push_n, am_push_s, am_cs_0, am_cs_i, am_cs_l, am_cs_r, m_uI_K, m_uI_N, m_uI_R, m_uI_L, m_uI_I, m_uL_K, m_uL_N, m_uL_R, m_uL_I, m_uL_L, m_uR_K, m_uR_N, m_uR_I, m_uR_L, m_uR_R, true_and, and_true]
    rw [br_n hlt]
    have g1 : oS (fun a _ => a = 327) M (uI M 327 (256 * i + c) (hrT (mI M 317 c) v)) := ⟨fun a k h => by rw [m_uI_I, if_neg (fun q => h q.1)], fun _ _ => rfl, fun _ _ => rfl, rfl⟩
    refine ih (c + 1) (by omega) _ (oS_trans hM g1) (fun j hj => ?_) (fun q hq hqc h hh' => ?_)
    · rw [m_uI_I, if_neg (by omega)]
      exact hk j (by omega)
    · rw [m_uI_I]
      by_cases eq : cel C q = c
      · rw [if_pos ⟨rfl, by omega⟩]
        have h17 : mI M 317 c = mI M0 317 c := hM.1 _ _ (by omega)
        rw [h17, ← eq]
        exact hrT_wit hv1 hv2 hh' (hG q hq)
      · rw [if_neg (by omega)]
        exact hm q hq (by omega) h hh'
end
section
/-! the model's lays -/
theorem FcM_at {M : am_M} {C R : Nat} {F : List Fct} (h : FcM M C R F) {i : Nat} {f : Fct} (hf : F[i]? = some f) : i < F.length := (List.getElem?_eq_some_iff.mp hf).1
def sG7 (a j : Nat) : Prop := sG a j ∨ a = 327
theorem tld_G7 (a j : Nat) (h : tld a j) : ¬ sG7 a j := fun z => by
  rcases z with z | z
  · exact tld_G a j h z
  · unfold tld at h; omega
theorem l_m_lays2 (d s b C R v : Nat) (w : Nat → Prop) (F : List Fct) (M0 : am_M) (Q : Option Value → am_M → Prop) (hL : Lay M0) (hB : MB M0 b C R) (hs : s < 8) (hv : mI M0 288 (8 * b + s) = nI v) (hv1 : 1 ≤ v) (hv2 : v ≤ 4) (hl : F.length ≤ 60) (hF : FcM M0 C R F) (hw : w = mW_ M0 b C R s)
    (hQ : ∀ M', oS sG7 M0 M' → FrM M' C R w v F F.length → Q none M') :
    ∀ (m i : Nat), i + m = F.length → ∀ (M : am_M) (v3 : Value), oS sG7 M0 M → FrM M C R w v F i → am_P am_P0 (d + 4) (am_look tX11_lays_) 69 [.ref 277, .int (nI s), .int (nI i), v3] [] M Q := by
  intro m
  induction m with
  | zero =>
    intro i hi M v3 hM hFr
    have e : i = F.length := by omega
    subst e
    have hFM := FcM_S hF hM (fun a j h z => by rcases z with z | z; · unfold sF sG at *; omega
                                               · unfold sF at h; omega)
    have hle : nI F.length ≤ nI F.length := (ni_le (by omega) (by omega)).mpr (Nat.le_refl _)
    rw [hX11_lays__69]
    simp +decide only [qX11_lays__0, qX11_lays__1, lm (oS_Lay hM hL), hFM.1, am_w1_i, am_w1_r, am_w1_x, am_w1_l, am_w1_w, va_rf_s, am_push_n, am_push_s, am_cs_0, am_cs_i, am_cs_l, am_cs_r, m_uI_K, m_uI_N, m_uI_R, m_uI_L, m_uI_I, m_uL_K, m_uL_N, m_uL_R, m_uL_I, m_uL_L, m_uR_K, m_uR_N, m_uR_I, m_uR_L, m_uR_R, true_and, and_true]
    rw [br_p hle]
    exact hQ M hM hFr
  | succ m ih =>
    intro i hi M v3 hM hFr
    have hFM := FcM_S hF hM (fun a j h z => by rcases z with z | z; · unfold sF sG at *; omega
                                               · unfold sF at h; omega)
    have hLM := oS_Lay hM hL
    have hBM := MB_T hB hM tld_G7
    have hlt : ¬ nI F.length ≤ nI i := by rw [ni_le (by omega) (by omega)]; omega
    obtain ⟨f, hf⟩ : ∃ f, F[i]? = some f := ⟨F[i]'(by omega), List.getElem?_eq_getElem (by omega)⟩
    obtain ⟨⟨fv, fo, ft⟩, fc, ff, fg⟩ := hFM.2.2 i f hf
    rw [hX11_lays__69]
    simp +decide (disch := omega) only [qX11_lays__0, qX11_lays__1, lm hLM, hFM.1, fc, ni_in_t, ni_tn, am_w1_i, am_w1_r, am_w1_x, am_w1_l, am_w1_w, va_rf_s, am_push_n, am_push_s, am_cs_0, am_cs_i, am_cs_l, am_cs_r, m_uI_K, m_uI_N, m_uI_R, m_uI_L, m_uI_I, m_uL_K, m_uL_N, m_uL_R, m_uL_I, m_uL_L, m_uR_K, m_uR_N, m_uR_I, m_uR_L, m_uR_R, true_and, and_true]
    rw [br_n hlt]
    refine c_m_goes d s b C R f.1 M _ hLM hBM hs fv (fun M1 g1 h1 => ?_)
    rw [mW_T hM tld_G7, ← hw] at h1
    have G1 := onlyG_S g1
    have hM1 := oS_trans hM (oS_up G1 (fun a j h => Or.inl h) : oS sG7 M M1)
    have L1 := oS_Lay hM1 hL
    simp +decide only [qX11_lays__0, qX11_lays__1, am_w1_i, am_w1_r, am_w1_x, am_w1_l, am_w1_w, va_rf_s, am_push_n, am_push_s, am_cs_0, am_cs_i, am_cs_l, am_cs_r, m_uI_K, m_uI_N, m_uI_R, m_uI_L, m_uI_I, m_uL_K, m_uL_N, m_uL_R, m_uL_I, m_uL_L, m_uR_K, m_uR_N, m_uR_I, m_uR_L, m_uR_R, true_and, and_true]
    rw [show (0 : Int32) = nI 0 from rfl]
    refine l_m_lays3 (d + 3) s b C R v i w F f M1 Q L1 (MB_T hB hM1 tld_G7) hs (by rw [hM1.1 _ _ (tld_G7 _ _ (by unfold tld; omega))]; exact hv) hv1 hv2 (by omega) hf h1 (fun k f' q hk hf' hq h hh => by rw [G1.1 _ _ (by unfold sG; omega)]; exact hFr k f' q hk hf' hq h hh) (fun M2 v3' g2 h2 => ?_) (C * R) 0 (by omega) M1 (oS_refl _ _) (fun _ _ => rfl) (fun q hq hc => by omega)
    rw [ni_add1]
    exact ih (i + 1) (by omega) M2 _ (oS_trans hM1 (oS_up g2 (fun a j h => Or.inr h))) h2
/-- what lays leaves -/
def LyM (M : am_M) (C R : Nat) (w : Nat → Prop) (v : Nat) (snd : Nat → Bool → Prop) (B : List Fct) (Y : List Sy) : Prop := KpM w v snd B Y M ∧ FcM M C R (fcY w v snd B Y) ∧ FrM M C R w v (fcY w v snd B Y) (fcY w v snd B Y).length
theorem c_m_lays (d s b C R v : Nat) (dep : Nat → Nat) (dr ld : Nat) (L : List Bk) (Y : List Sy) (M : am_M) (Q : Option Value → am_M → Prop) (hL : Lay M) (hB : MB M b C R) (hs : s < 8) (hS : ShM M b C R s v dep dr ld Y) (hK : BkM M b C L) (hO : bkOK C R L) (hl : Y.length ≤ 48)
    (hQ : ∀ M', oS sY M M' → LyM M' C R (mW_ M b C R s) v (sndP dep dr ld) (bkOf L s) Y → Q none M') : am_E am_P0 (d + 7) 249 [.ref 277, .int (nI s)] M Q := by
  obtain ⟨w, hw⟩ : ∃ w, w = mW_ M b C R s := ⟨_, rfl⟩
  rw [← hw] at hQ
  have hbl : (bkOf L s).length ≤ 12 := Nat.le_trans (bkOf_len L s) hO.1
  rw [eX11_lays_]
  simp +decide only [qX11_lays__0, qX11_lays__1, lm hL, am_w1_i, am_w1_r, am_w1_x, am_w1_l, am_w1_w, va_rf_s, am_push_n, am_push_s, am_cs_0, am_cs_i, am_cs_l, am_cs_r, m_uI_K, m_uI_N, m_uI_R, m_uI_L, m_uI_I, m_uL_K, m_uL_N, m_uL_R, m_uL_I, m_uL_L, m_uR_K, m_uR_N, m_uR_I, m_uR_L, m_uR_R, true_and, and_true]
  refine c_m_keeps d s b C R v dep dr ld L Y M _ hL hB hs hS hK hO hl (fun M1 g1 h1 => ?_)
  rw [← hw] at h1
  have L1 := oS_Lay g1 hL
  simp +decide only [qX11_lays__0, qX11_lays__1, lm L1, am_w1_i, am_w1_r, am_w1_x, am_w1_l, am_w1_w, va_rf_s, am_push_n, am_push_s, am_cs_0, am_cs_i, am_cs_l, am_cs_r, m_uI_K, m_uI_N, m_uI_R, m_uI_L, m_uI_I, m_uL_K, m_uL_N, m_uL_R, m_uL_I, m_uL_L, m_uR_K, m_uR_N, m_uR_I, m_uR_L, m_uR_R, true_and, and_true]
  obtain ⟨hF0, g2⟩ := Fc0 M1 C R
  have G2 := oS_trans g1 (oS_up g2 (fun a j h => Or.inl (Or.inl (Or.inl h))) : oS sK M1 (uI M1 277 60 0))
  have L2 := oS_Lay G2 hL
  have B2 := MB_T hB G2 tld_K
  refine c_m_addBooks (d + 5) s b C R L [] (uI M1 277 60 0) _ L2 B2.1 B2.2.1 hs (BkM_T hK G2 tld_K) hO (by decide) hF0 (fun M3 g3 h3 => ?_)
  rw [List.nil_append] at h3
  have G3 := oS_trans G2 (oS_up g3 (fun a j h => Or.inl (Or.inl (Or.inl h))) : oS sK _ M3)
  have L3 := oS_Lay G3 hL
  have S3 := ShM_S hS G3 tld_K
  have K3 : KpM w v (sndP dep dr ld) (bkOf L s) Y M3 := KpM_S h1 (fun a j q => by rw [g3.1 _ _ (by unfold sF; omega), g2.1 _ _ (by unfold sF; omega)])
  simp +decide only [qX11_lays__0, qX11_lays__1, am_w1_i, am_w1_r, am_w1_x, am_w1_l, am_w1_w, va_rf_s, am_push_n, am_push_s, am_cs_0, am_cs_i, am_cs_l, am_cs_r, m_uI_K, m_uI_N, m_uI_R, m_uI_L, m_uI_I, m_uL_K, m_uL_N, m_uL_R, m_uL_I, m_uL_L, m_uR_K, m_uR_N, m_uR_I, m_uR_L, m_uR_R, true_and, and_true]
  rw [show (0 : Int32) = nI 0 from rfl]
  refine l_m_lays1 (d + 6) s b C R v w (sndP dep dr ld) (bkOf L s) Y M3 Q L3 (MB_T hB G3 tld_K) hs S3.2.2.2.2 hl hbl K3 am_x (fun M4 g4 h4 => ?_) Y.length 0 (by omega) M3 (oS_refl _ _) ?_
  · have G4 := oS_trans G3 (oS_up g4 (fun a j h => Or.inl (Or.inl (Or.inl h))) : oS sK M3 M4)
    have L4 := oS_Lay G4 hL
    have S4 := ShM_S hS G4 tld_K
    have hl60 : (fcY w v (sndP dep dr ld) (bkOf L s) Y).length ≤ 60 := by
      have := kpF_len (fun k => fitP w v (bkOf L s) ∧ keptY w v (sndP dep dr ld) (bkOf L s) Y k) Y Y.length
      unfold fcY
      rw [List.length_append]; omega
    have h0 := l_m_lays2 (d + 3) s b C R v w (fcY w v (sndP dep dr ld) (bkOf L s) Y) M4 Q L4 (MB_T hB G4 tld_K) hs S4.1 S4.2.1 S4.2.2.1 hl60 h4 (by rw [hw, mW_T G4 tld_K]) (fun M5 g5 h5 => ?_) (fcY w v (sndP dep dr ld) (bkOf L s) Y).length 0 (by omega) M4 am_x (oS_refl _ _) (fun k f q hk => by omega)
    · simp +decide only [qX11_lays__0, qX11_lays__1, am_w1_i, am_w1_r, am_w1_x, am_w1_l, am_w1_w, va_rf_s, am_push_n, am_push_s, am_cs_0, am_cs_i, am_cs_l, am_cs_r, m_uI_K, m_uI_N, m_uI_R, m_uI_L, m_uI_I, m_uL_K, m_uL_N, m_uL_R, m_uL_I, m_uL_L, m_uR_K, m_uR_N, m_uR_I, m_uR_L, m_uR_R, true_and, and_true]
      rw [show (0 : Int32) = nI 0 from rfl]
      exact h0
    · refine hQ M5 (oS_trans (oS_up G4 (fun a j h => Or.inl h)) (oS_up g5 (fun a j h => by
        rcases h with h | h
        · exact Or.inl (Or.inl (Or.inl (Or.inr h)))
        · exact Or.inr h))) ⟨?_, FcM_S h4 g5 (fun a j h z => by rcases z with z | z; · unfold sF sG at *; omega
                                                                · unfold sF at h; omega), h5⟩
      exact KpM_S K3 (fun a j q => by rw [g5.1 _ _ (by unfold sG7 sG; omega), g4.1 _ _ (by unfold sF; omega)])
  · show FcM M3 C R (bkOf L s ++ [])
    rw [List.append_nil]
    exact h3
end
