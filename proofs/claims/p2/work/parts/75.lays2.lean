/-! the model's lays -/
theorem FcM_at {M : am_M} {C R : Nat} {F : List Fct} (h : FcM M C R F) {i : Nat} {f : Fct} (hf : F[i]? = some f) : i < F.length := (List.getElem?_eq_some_iff.mp hf).1
def sG7 (a j : Nat) : Prop := sG a j ∨ a = 327
theorem tld_G7 (a j : Nat) (h : tld a j) : ¬ sG7 a j := fun z => by
  rcases z with z | z
  · exact tld_G a j h z
  · unfold tld at h; omega
theorem l_m_lays2 (d s b C R v : Nat) (w : Nat → Prop) (F : List Fct) (M0 : am_M) (Q : Option Value → am_M → Prop) (hL : Lay M0) (hB : MB M0 b C R) (hs : s < 8) (hv : mI M0 288 (8 * b + s) = nI v) (hv1 : 1 ≤ v) (hv2 : v ≤ 4) (hl : F.length ≤ 60) (hF : FcM M0 C R F) (hw : w = mW_ M0 b C R s)
    (hQ : ∀ M', oS sG7 M0 M' → FrM M' C R w v F F.length → Q none M') :
    ∀ (m i : Nat), i + m = F.length → ∀ (M : am_M) (v3 : Value), oS sG7 M0 M → FrM M C R w v F i → am_P am_P0 (d + 4) (am_look tX11_lays_) 69 [.ref 277, .int (nI s), .int (nI i), v3] [] M Q := by
  intro m
  induction m with
  | zero =>
    intro i hi M v3 hM hFr
    have e : i = F.length := by omega
    subst e
    have hFM := FcM_S hF hM (fun a j h z => by rcases z with z | z; · unfold sF sG at *; omega
                                               · unfold sF at h; omega)
    have hle : nI F.length ≤ nI F.length := (ni_le (by omega) (by omega)).mpr (Nat.le_refl _)
    rw [hX11_lays__69]
    simp +decide only [qX11_lays__0, qX11_lays__1, lm (oS_Lay hM hL), hFM.1, am_w1_i, am_w1_r, am_w1_x, am_w1_l, am_w1_w, va_rf_s, am_push_n, am_push_s, am_cs_0, am_cs_i, am_cs_l, am_cs_r, m_uI_K, m_uI_N, m_uI_R, m_uI_L, m_uI_I, m_uL_K, m_uL_N, m_uL_R, m_uL_I, m_uL_L, m_uR_K, m_uR_N, m_uR_I, m_uR_L, m_uR_R, true_and, and_true]
    rw [br_p hle]
    exact hQ M hM hFr
  | succ m ih =>
    intro i hi M v3 hM hFr
    have hFM := FcM_S hF hM (fun a j h z => by rcases z with z | z; · unfold sF sG at *; omega
                                               · unfold sF at h; omega)
    have hLM := oS_Lay hM hL
    have hBM := MB_T hB hM tld_G7
    have hlt : ¬ nI F.length ≤ nI i := by rw [ni_le (by omega) (by omega)]; omega
    obtain ⟨f, hf⟩ : ∃ f, F[i]? = some f := ⟨F[i]'(by omega), List.getElem?_eq_getElem (by omega)⟩
    obtain ⟨⟨fv, fo, ft⟩, fc, ff, fg⟩ := hFM.2.2 i f hf
    rw [hX11_lays__69]
    simp +decide (disch := omega) only [qX11_lays__0, qX11_lays__1, lm hLM, hFM.1, fc, ni_in_t, ni_tn, am_w1_i, am_w1_r, am_w1_x, am_w1_l, am_w1_w, va_rf_s, am_push_n, am_push_s, am_cs_0, am_cs_i, am_cs_l, am_cs_r, m_uI_K, m_uI_N, m_uI_R, m_uI_L, m_uI_I, m_uL_K, m_uL_N, m_uL_R, m_uL_I, m_uL_L, m_uR_K, m_uR_N, m_uR_I, m_uR_L, m_uR_R, true_and, and_true]
    rw [br_n hlt]
    refine c_m_goes d s b C R f.1 M _ hLM hBM hs fv (fun M1 g1 h1 => ?_)
    rw [mW_T hM tld_G7, ← hw] at h1
    have G1 := onlyG_S g1
    have hM1 := oS_trans hM (oS_up G1 (fun a j h => Or.inl h) : oS sG7 M M1)
    have L1 := oS_Lay hM1 hL
    simp +decide only [qX11_lays__0, qX11_lays__1, am_w1_i, am_w1_r, am_w1_x, am_w1_l, am_w1_w, va_rf_s, am_push_n, am_push_s, am_cs_0, am_cs_i, am_cs_l, am_cs_r, m_uI_K, m_uI_N, m_uI_R, m_uI_L, m_uI_I, m_uL_K, m_uL_N, m_uL_R, m_uL_I, m_uL_L, m_uR_K, m_uR_N, m_uR_I, m_uR_L, m_uR_R, true_and, and_true]
    rw [show (0 : Int32) = nI 0 from rfl]
    refine l_m_lays3 (d + 3) s b C R v i w F f M1 Q L1 (MB_T hB hM1 tld_G7) hs (by rw [hM1.1 _ _ (tld_G7 _ _ (by unfold tld; omega))]; exact hv) hv1 hv2 (by omega) hf h1 (fun k f' q hk hf' hq h hh => by rw [G1.1 _ _ (by unfold sG; omega)]; exact hFr k f' q hk hf' hq h hh) (fun M2 v3' g2 h2 => ?_) (C * R) 0 (by omega) M1 (oS_refl _ _) (fun _ _ => rfl) (fun q hq hc => by omega)
    rw [ni_add1]
    exact ih (i + 1) (by omega) M2 _ (oS_trans hM1 (oS_up g2 (fun a j h => Or.inr h))) h2
/-- what lays leaves -/
def LyM (M : am_M) (C R : Nat) (w : Nat → Prop) (v : Nat) (snd : Nat → Bool → Prop) (B : List Fct) (Y : List Sy) : Prop := KpM w v snd B Y M ∧ FcM M C R (fcY w v snd B Y) ∧ FrM M C R w v (fcY w v snd B Y) (fcY w v snd B Y).length
theorem c_m_lays (d s b C R v : Nat) (dep : Nat → Nat) (dr ld : Nat) (L : List Bk) (Y : List Sy) (M : am_M) (Q : Option Value → am_M → Prop) (hL : Lay M) (hB : MB M b C R) (hs : s < 8) (hS : ShM M b C R s v dep dr ld Y) (hK : BkM M b C L) (hO : bkOK C R L) (hl : Y.length ≤ 48)
    (hQ : ∀ M', oS sY M M' → LyM M' C R (mW_ M b C R s) v (sndP dep dr ld) (bkOf L s) Y → Q none M') : am_E am_P0 (d + 7) 249 [.ref 277, .int (nI s)] M Q := by
  obtain ⟨w, hw⟩ : ∃ w, w = mW_ M b C R s := ⟨_, rfl⟩
  rw [← hw] at hQ
  have hbl : (bkOf L s).length ≤ 12 := Nat.le_trans (bkOf_len L s) hO.1
  rw [eX11_lays_]
  simp +decide only [qX11_lays__0, qX11_lays__1, lm hL, am_w1_i, am_w1_r, am_w1_x, am_w1_l, am_w1_w, va_rf_s, am_push_n, am_push_s, am_cs_0, am_cs_i, am_cs_l, am_cs_r, m_uI_K, m_uI_N, m_uI_R, m_uI_L, m_uI_I, m_uL_K, m_uL_N, m_uL_R, m_uL_I, m_uL_L, m_uR_K, m_uR_N, m_uR_I, m_uR_L, m_uR_R, true_and, and_true]
  refine c_m_keeps d s b C R v dep dr ld L Y M _ hL hB hs hS hK hO hl (fun M1 g1 h1 => ?_)
  rw [← hw] at h1
  have L1 := oS_Lay g1 hL
  simp +decide only [qX11_lays__0, qX11_lays__1, lm L1, am_w1_i, am_w1_r, am_w1_x, am_w1_l, am_w1_w, va_rf_s, am_push_n, am_push_s, am_cs_0, am_cs_i, am_cs_l, am_cs_r, m_uI_K, m_uI_N, m_uI_R, m_uI_L, m_uI_I, m_uL_K, m_uL_N, m_uL_R, m_uL_I, m_uL_L, m_uR_K, m_uR_N, m_uR_I, m_uR_L, m_uR_R, true_and, and_true]
  obtain ⟨hF0, g2⟩ := Fc0 M1 C R
  have G2 := oS_trans g1 (oS_up g2 (fun a j h => Or.inl (Or.inl (Or.inl h))) : oS sK M1 (uI M1 277 60 0))
  have L2 := oS_Lay G2 hL
  have B2 := MB_T hB G2 tld_K
  refine c_m_addBooks (d + 5) s b C R L [] (uI M1 277 60 0) _ L2 B2.1 B2.2.1 hs (BkM_T hK G2 tld_K) hO (by decide) hF0 (fun M3 g3 h3 => ?_)
  rw [List.nil_append] at h3
  have G3 := oS_trans G2 (oS_up g3 (fun a j h => Or.inl (Or.inl (Or.inl h))) : oS sK _ M3)
  have L3 := oS_Lay G3 hL
  have S3 := ShM_S hS G3 tld_K
  have K3 : KpM w v (sndP dep dr ld) (bkOf L s) Y M3 := KpM_S h1 (fun a j q => by rw [g3.1 _ _ (by unfold sF; omega), g2.1 _ _ (by unfold sF; omega)])
  simp +decide only [qX11_lays__0, qX11_lays__1, am_w1_i, am_w1_r, am_w1_x, am_w1_l, am_w1_w, va_rf_s, am_push_n, am_push_s, am_cs_0, am_cs_i, am_cs_l, am_cs_r, m_uI_K, m_uI_N, m_uI_R, m_uI_L, m_uI_I, m_uL_K, m_uL_N, m_uL_R, m_uL_I, m_uL_L, m_uR_K, m_uR_N, m_uR_I, m_uR_L, m_uR_R, true_and, and_true]
  rw [show (0 : Int32) = nI 0 from rfl]
  refine l_m_lays1 (d + 6) s b C R v w (sndP dep dr ld) (bkOf L s) Y M3 Q L3 (MB_T hB G3 tld_K) hs S3.2.2.2.2 hl hbl K3 am_x (fun M4 g4 h4 => ?_) Y.length 0 (by omega) M3 (oS_refl _ _) ?_
  · have G4 := oS_trans G3 (oS_up g4 (fun a j h => Or.inl (Or.inl (Or.inl h))) : oS sK M3 M4)
    have L4 := oS_Lay G4 hL
    have S4 := ShM_S hS G4 tld_K
    have hl60 : (fcY w v (sndP dep dr ld) (bkOf L s) Y).length ≤ 60 := by
      have := kpF_len (fun k => fitP w v (bkOf L s) ∧ keptY w v (sndP dep dr ld) (bkOf L s) Y k) Y Y.length
      unfold fcY
      rw [List.length_append]; omega
    have h0 := l_m_lays2 (d + 3) s b C R v w (fcY w v (sndP dep dr ld) (bkOf L s) Y) M4 Q L4 (MB_T hB G4 tld_K) hs S4.1 S4.2.1 S4.2.2.1 hl60 h4 (by rw [hw, mW_T G4 tld_K]) (fun M5 g5 h5 => ?_) (fcY w v (sndP dep dr ld) (bkOf L s) Y).length 0 (by omega) M4 am_x (oS_refl _ _) (fun k f q hk => by omega)
    · simp +decide only [qX11_lays__0, qX11_lays__1, am_w1_i, am_w1_r, am_w1_x, am_w1_l, am_w1_w, va_rf_s, am_push_n, am_push_s, am_cs_0, am_cs_i, am_cs_l, am_cs_r, m_uI_K, m_uI_N, m_uI_R, m_uI_L, m_uI_I, m_uL_K, m_uL_N, m_uL_R, m_uL_I, m_uL_L, m_uR_K, m_uR_N, m_uR_I, m_uR_L, m_uR_R, true_and, and_true]
      rw [show (0 : Int32) = nI 0 from rfl]
      exact h0
    · refine hQ M5 (oS_trans (oS_up G4 (fun a j h => Or.inl h)) (oS_up g5 (fun a j h => by
        rcases h with h | h
        · exact Or.inl (Or.inl (Or.inl (Or.inr h)))
        · exact Or.inr h))) ⟨?_, FcM_S h4 g5 (fun a j h z => by rcases z with z | z; · unfold sF sG at *; omega
                                                                · unfold sF at h; omega), h5⟩
      exact KpM_S K3 (fun a j q => by rw [g5.1 _ _ (by unfold sG7 sG; omega), g4.1 _ _ (by unfold sF; omega)])
  · show FcM M3 C R (bkOf L s ++ [])
    rw [List.append_nil]
    exact h3
