/-! the class: firstBar -/
def fY (Z : List Sy) : List Fct := Z.map (fun y => (y.2.1, y.1, y.1))
theorem fY_take {Y : List Sy} {i : Nat} {y : Sy} (hy : Y[i]? = some y) : fY (Y.take (i + 1)) = fY (Y.take i) ++ [(y.2.1, y.1, y.1)] := by
  have e : Y.take (i + 1) = Y.take i ++ [y] := by
    rw [List.take_add_one, hy]
    rfl
  unfold fY
  rw [e, List.map_append]
  rfl
theorem fY_mem {Z : List Sy} {a : Fct} : a ∈ fY Z ↔ ∃ y, y ∈ Z ∧ a = (y.2.1, y.1, y.1) := by
  unfold fY
  rw [List.mem_map]
  exact ⟨fun ⟨y, h1, h2⟩ => ⟨y, h1, h2.symm⟩, fun ⟨y, h1, h2⟩ => ⟨y, h1, h2.symm⟩⟩
theorem ordF_fY (Z : List Sy) : ordF (fY Z) := fun a ha => by
  obtain ⟨y, -, rfl⟩ := fY_mem.mp ha
  exact Nat.le_refl _
def fbP (wt : Nat → Prop) (v : Nat) (snd : Nat → Bool → Prop) (B : List Fct) (Y : List Sy) (i : Nat) : Prop := fitP wt v (B ++ fY (Y.take (i + 1))) ∧ ∀ y, y ∈ Y.take (i + 1) → snd y.2.1 y.2.2
noncomputable def brY (wt : Nat → Prop) (v : Nat) (snd : Nat → Bool → Prop) (B : List Fct) (Y : List Sy) : Nat := fs (fun i => !dB (fbP wt v snd B Y i)) Y.length
theorem l_x_bar (d s g z v : Nat) (wt : Nat → Prop) (dep : Nat → Nat) (dr ld : Nat) (B : List Fct) (Y : List Sy) (M0 : am_M) (Q : Option Value → am_M → Prop) (hs : s < 8) (hg : isSh g) (hz : z = 2 ∨ z = 83) (hoB : ordF B)
    (hQ : ∀ M', xF s M0 M' → Q (some (.int (oI (brY wt v (sndP dep dr ld) B Y) Y.length))) M') :
    ∀ (m i : Nat), i + m = Y.length → ∀ (M : am_M), xF s M0 M → TkX M s g z v wt dep dr ld B Y → LnP M (173 + 13 * s) (cov (B ++ fY (Y.take i))) → (∀ y, y ∈ Y.take i → sndP dep dr ld y.2.1 y.2.2) → (∀ k, k < i → (!dB (fbP wt v (sndP dep dr ld) B Y k)) = false) → am_P am_P0 (d + 4) (am_look tX8_firstBar) 7 [.ref (173 + 13 * s), .int 1, .int (nI i)] [] M Q := by
  obtain ⟨w, hwe⟩ : ∃ w, w = 173 + 13 * s := ⟨_, rfl⟩
  have hw : isTr w := ⟨s, hs, hwe⟩
  have hgl := isSh_lt hg
  have e6 : w + 6 = 179 + 13 * s := by omega
  have e1 : w + 1 = 174 + 13 * s := by omega
  intro m
  induction m with
  | zero =>
    intro i hi M hM hT hc hsn hno
    have h48 := hT.2.2.2.2.1
    have hR := hT.2.1.1
    have e : i = Y.length := by omega
    subst e
    have hle : nI Y.length ≤ nI Y.length := (ni_le (by omega) (by omega)).mpr (Nat.le_refl _)
    have hf : brY wt v (sndP dep dr ld) B Y = Y.length := fs_all hno
    have h0 := hQ M hM
    rw [hf] at h0
    unfold oI at h0
    rw [if_neg (by omega)] at h0
    rw [← hwe] at hR ⊢
    rw [hX8_firstBar_7]
    simp +decide only [qX8_firstBar_0, qX8_firstBar_1, lt_ hM.1 hw, lw_ hM.1 hg, hR, hT.2.2.2.1, am_w1_i, am_w1_r, am_w1_x, am_w1_l, am_w1_w, va_rf_s, am_push_n, am_push_s, am_cs_0, am_cs_i, am_cs_l, am_cs_r, m_uI_K, m_uI_N, m_uI_R, m_uI_L, m_uI_I, m_uL_K, m_uL_N, m_uL_R, m_uL_I, m_uL_L, m_uR_K, m_uR_N, m_uR_I, m_uR_L, m_uR_R, true_and, and_true]
    rw [br_p hle]
    exact h0
  | succ m ih =>
    intro i hi M hM hT hc hsn hno
    have hL := hM.1
    have h48 := hT.2.2.2.2.1
    have hR := hT.2.1.1
    have hD := hT.2.1
    have hlt : ¬ nI Y.length ≤ nI i := by rw [ni_le (by omega) (by omega)]; omega
    obtain ⟨y, hy⟩ : ∃ y, Y[i]? = some y := ⟨Y[i]'(by omega), List.getElem?_eq_getElem (by omega)⟩
    obtain ⟨⟨y1, y2⟩, y3, y4, y5⟩ := hT.2.2.2.2.2 i y hy
    have etk : Y.take (i + 1) = Y.take i ++ [y] := by
      rw [List.take_add_one, hy]
      rfl
    have hord : ordF (B ++ fY (Y.take (i + 1))) := ordF_app hoB (ordF_fY _)
    have bad : ¬ fbP wt v (sndP dep dr ld) B Y i → ∀ M', xF s M M' → Q (some (.int (nI i))) M' := fun hn M' g1 => by
      have hf : brY wt v (sndP dep dr ld) B Y = i := fs_is hno (by omega) (by rw [dB_f.mpr hn]; rfl)
      have h0 := hQ M' (xF_trans hM g1)
      rw [hf] at h0
      unfold oI at h0
      rw [if_pos (by omega)] at h0
      exact h0
    have ecv : ∀ h p, (cov (B ++ fY (Y.take i)) h p ∨ (h = y.1 ∧ p = y.2.1)) ↔ cov (B ++ fY (Y.take (i + 1))) h p := fun h p => by
      rw [fY_take hy, ← List.append_assoc, cov_app (B ++ fY (Y.take i)), cov_one]
    rw [← hwe] at hR hD hc ⊢
    have hso := fun Q => c_x_isSound (d + 3) w g z y.2.1 y.2.2 dep dr ld M Q hL hw hg hz hD y2
    have hput := fun Q => c_x_lput (d + 3) w y.1 y.2.1 M Q _ hL hw hc y1 y2
    rw [hX8_firstBar_7]
    simp +decide (disch := omega) only [qX8_firstBar_0, qX8_firstBar_1, lt_ hL hw, lw_ hL hg, hR, hT.2.2.2.1, y3, y4, y5, hso, hput, ni_in_t, ni_tn, ni_add1, am_w1_i, am_w1_r, am_w1_x, am_w1_l, am_w1_w, va_rf_s, am_push_n, am_push_s, am_cs_0, am_cs_i, am_cs_l, am_cs_r, m_uI_K, m_uI_N, m_uI_R, m_uI_L, m_uI_I, m_uL_K, m_uL_N, m_uL_R, m_uL_I, m_uL_L, m_uR_K, m_uR_N, m_uR_I, m_uR_L, m_uR_R, true_and, and_true, not_true_eq_false, not_false_eq_true, true_implies, false_implies]
    rw [br_n hlt]
    by_cases c1 : sndP dep dr ld y.2.1 y.2.2
    · rw [tI_t c1, br_n (by decide)]
      by_cases c2 : ∀ q, cov (B ++ fY (Y.take i)) y.1 q → q = y.2.1
      · rw [br_p c2]
        have g2 : oS (sL w) M (uI M (w + 7) y.1 (nI y.2.1)) := ⟨fun a j h => by rw [m_uI_I, if_neg (fun z => h z.1)], fun _ _ => rfl, fun _ _ => rfl, rfl⟩
        have x2 : xF s M (uI M (w + 7) y.1 (nI y.2.1)) := xF_L hs hL hM.2.1 (by rw [← hwe]; exact g2)
        have hc2 := LnP_ext ecv (LnP_put hc y1 y2 c2)
        have hT2 := TkX_z hs hg hz hT (zF_x x2) (fun a j ha q => by omega)
        rw [e6, e1]
        refine c_x_holds d s v wt _ _ _ hs x2.1 x2.2.1 (by rw [← hwe]; exact hc2) hT2.1 (fun M3 g3 => ?_)
        have hfl := fit_lin (w := wt) (v := v) hord
        have x3 : xF s M M3 := xF_trans x2 (xF_r g3)
        simp +decide only [qX8_firstBar_0, qX8_firstBar_1, ni_add1, am_w1_i, am_w1_r, am_w1_x, am_w1_l, am_w1_w, va_rf_s, am_push_n, am_push_s, am_cs_0, am_cs_i, am_cs_l, am_cs_r, m_uI_K, m_uI_N, m_uI_R, m_uI_L, m_uI_I, m_uL_K, m_uL_N, m_uL_R, m_uL_I, m_uL_L, m_uR_K, m_uR_N, m_uR_I, m_uR_L, m_uR_R, true_and, and_true]
        by_cases c3 : linP wt v (cov (B ++ fY (Y.take (i + 1))))
        · rw [tI_t c3, br_p (by decide), hwe]
          refine ih (i + 1) (by omega) M3 (xF_trans hM x3) (TkX_z hs hg hz hT2 (zF_r g3 : zF (fun _ _ => False) _ M3) (fun _ _ _ q => q)) (LnP_I (by rw [← hwe]; exact hc2) (fun j => g3.2.2.2.1 _ _ (by omega) (fun s' hs' => by omega))) (fun y' hy' => ?_) (fun k hk => ?_)
          · rw [etk] at hy'
            rcases List.mem_append.mp hy' with q | q
            · exact hsn y' q
            · rw [List.mem_singleton] at q
              subst q
              exact c1
          · by_cases ek : k = i
            · subst ek
              have hsn2 : ∀ y', y' ∈ Y.take (k + 1) → sndP dep dr ld y'.2.1 y'.2.2 := fun y' hy' => by
                rw [etk] at hy'
                rcases List.mem_append.mp hy' with q | q
                · exact hsn y' q
                · rw [List.mem_singleton] at q
                  subst q
                  exact c1
              rw [dB_t.mpr (show fbP wt v (sndP dep dr ld) B Y k from ⟨hfl.mpr c3, hsn2⟩)]
              rfl
            · exact hno k (by omega)
        · rw [tI_f c3, br_n (by decide)]
          exact bad (fun q => c3 (hfl.mp q.1)) M3 x3
      · rw [br_n c2]
        refine bad (fun q => c2 (fun p hp => ?_)) M (xF_refl hL hM.2.1)
        exact lin_uniq ((fit_lin hord).mp q.1) y.1 p y.2.1 ((ecv _ _).mp (Or.inl hp)) ((ecv _ _).mp (Or.inr ⟨rfl, rfl⟩))
    · rw [tI_f c1, br_p rfl]
      exact bad (fun q => c1 (q.2 y (by rw [etk]; exact List.mem_append_right _ (List.mem_singleton.mpr rfl)))) M (xF_refl hL hM.2.1)
theorem c_x_firstBar (d s g z v : Nat) (wt : Nat → Prop) (dep : Nat → Nat) (dr ld : Nat) (B : List Fct) (Y : List Sy) (M : am_M) (Q : Option Value → am_M → Prop) (hL : Lay M) (hI : RInv M) (hs : s < 8) (hg : isSh g) (hz : z = 2 ∨ z = 83) (hT : TkX M s g z v wt dep dr ld B Y)
    (hQ : ∀ M', xF s M M' → Q (some (.int (oI (brY wt v (sndP dep dr ld) B Y) Y.length))) M') : am_E am_P0 (d + 4) 80 [.ref (173 + 13 * s)] M Q := by
  obtain ⟨w, hwe⟩ : ∃ w, w = 173 + 13 * s := ⟨_, rfl⟩
  have hw : isTr w := ⟨s, hs, hwe⟩
  have hgl := isSh_lt hg
  have hord := BkX_ord hT.2.2.1
  have hR := hT.2.1.1
  have h48 := hT.2.2.2.2.1
  rw [← hwe] at hR ⊢
  rw [eX8_firstBar]
  simp +decide only [qX8_firstBar_0, qX8_firstBar_1, lt_ hL hw, am_w1_i, am_w1_r, am_w1_x, am_w1_l, am_w1_w, va_rf_s, am_push_n, am_push_s, am_cs_0, am_cs_i, am_cs_l, am_cs_r, m_uI_K, m_uI_N, m_uI_R, m_uI_L, m_uI_I, m_uL_K, m_uL_N, m_uL_R, m_uL_I, m_uL_L, m_uR_K, m_uR_N, m_uR_I, m_uR_L, m_uR_R, true_and, and_true]
  refine c_x_layBooks (d + 1) w g B M _ hL hw hg hR hT.2.2.1 (fun M1 g1 hn => ?_) (fun M1 g1 hc => ?_)
  · have x1 : xF s M M1 := xF_L hs hL hI (by rw [← hwe]; exact g1)
    have hT1 := TkX_z hs hg hz hT (zF_x x1) (fun a j ha q => by omega)
    have hR1 := hT1.2.1.1
    have h0 := hQ M1 x1
    have hnf : ∀ i, ¬ fbP wt v (sndP dep dr ld) B Y i := fun i q => hn (lin_uniq ((fit_lin hord).mp (fun a ha b hb => q.1 a (List.mem_append_left _ ha) b (List.mem_append_left _ hb))))
    rw [← hwe] at hR1
    have hf : brY wt v (sndP dep dr ld) B Y = 0 := by
      unfold brY
      by_cases e : Y.length = 0
      · rw [e]; rfl
      · exact fs_is (fun k hk => by omega) (by omega) (by rw [dB_f.mpr (hnf 0)]; rfl)
    rw [hf] at h0
    unfold oI at h0
    simp +decide only [qX8_firstBar_0, qX8_firstBar_1, hX8_firstBar_7, lt_ x1.1 hw, lw_ x1.1 hg, hR1, hT1.2.2.2.1, am_w1_i, am_w1_r, am_w1_x, am_w1_l, am_w1_w, va_rf_s, am_push_n, am_push_s, am_cs_0, am_cs_i, am_cs_l, am_cs_r, m_uI_K, m_uI_N, m_uI_R, m_uI_L, m_uI_I, m_uL_K, m_uL_N, m_uL_R, m_uL_I, m_uL_L, m_uR_K, m_uR_N, m_uR_I, m_uR_L, m_uR_R, true_and, and_true, true_implies, false_implies]
    by_cases e : Y.length = 0
    · rw [if_neg (by omega)] at h0
      rw [br_p (by rw [e]; decide)]
      exact h0
    · rw [if_pos (by omega)] at h0
      rw [br_n (fun q => by rw [show (0 : Int32) = nI 0 from rfl, ni_le (by omega) (by omega)] at q; omega)]
      exact h0
  · have x1 : xF s M M1 := xF_L hs hL hI (by rw [← hwe]; exact g1)
    have hT1 := TkX_z hs hg hz hT (zF_x x1) (fun a j ha q => by omega)
    simp +decide only [qX8_firstBar_0, qX8_firstBar_1, am_w1_i, am_w1_r, am_w1_x, am_w1_l, am_w1_w, va_rf_s, am_push_n, am_push_s, am_cs_0, am_cs_i, am_cs_l, am_cs_r, m_uI_K, m_uI_N, m_uI_R, m_uI_L, m_uI_I, m_uL_K, m_uL_N, m_uL_R, m_uL_I, m_uL_L, m_uR_K, m_uR_N, m_uR_I, m_uR_L, m_uR_R, true_and, and_true]
    rw [hwe, show (0 : Int32) = nI 0 from rfl]
    refine l_x_bar d s g z v wt dep dr ld B Y M Q hs hg hz hord hQ Y.length 0 (by omega) M1 x1 hT1 ?_ (fun y hy => by rw [List.take_zero] at hy; cases hy) (fun k hk => by omega)
    have e : B ++ fY (Y.take 0) = B := List.append_nil B
    rw [e, ← hwe]
    exact hc
