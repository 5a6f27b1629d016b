/-! the class: whether sayings fit with the books -/
/-- nothing is changed but the line of the track s, rows, and what is known of them -/
def xF (s : Nat) (M M' : am_M) : Prop := Lay M' ∧ RInv M' ∧ mC M ≤ mC M' ∧ (∀ a j, a < 336 → (∀ s', s' < 8 → ¬ a = 177 + 13 * s') → ¬ a = 180 + 13 * s → mI M' a j = mI M a j) ∧ (∀ a j, a < 336 → mL M' a j = mL M a j) ∧ (∀ a j, a < 336 → (∀ s', s' < 8 → ¬ a = 176 + 13 * s') → mR M' a j = mR M a j) ∧ ∀ s' v wt, s' < 8 → TrW M s' v wt → TrW M' s' v wt
theorem xF_refl {s : Nat} {M : am_M} (h : Lay M) (hI : RInv M) : xF s M M := ⟨h, hI, Nat.le_refl _, fun _ _ _ _ _ => rfl, fun _ _ _ => rfl, fun _ _ _ _ => rfl, fun _ _ _ _ h => h⟩
theorem xF_trans {s : Nat} {M M' M'' : am_M} (h1 : xF s M M') (h2 : xF s M' M'') : xF s M M'' :=
  ⟨h2.1, h2.2.1, Nat.le_trans h1.2.2.1 h2.2.2.1, fun a j q1 q2 q3 => (h2.2.2.2.1 a j q1 q2 q3).trans (h1.2.2.2.1 a j q1 q2 q3), fun a j q1 => (h2.2.2.2.2.1 a j q1).trans (h1.2.2.2.2.1 a j q1), fun a j q1 q2 => (h2.2.2.2.2.2.1 a j q1 q2).trans (h1.2.2.2.2.2.1 a j q1 q2), fun s v wt q1 q2 => h2.2.2.2.2.2.2 s v wt q1 (h1.2.2.2.2.2.2 s v wt q1 q2)⟩
theorem xF_r {s : Nat} {M M' : am_M} (h : rgF M M') : xF s M M' := ⟨h.1, h.2.1, h.2.2.1, fun a j q1 q2 _ => h.2.2.2.1 a j q1 q2, h.2.2.2.2.1, h.2.2.2.2.2.1, h.2.2.2.2.2.2⟩
theorem RInv_S {M M' : am_M} (hI : RInv M) (hR : ∀ a j, mR M' a j = mR M a j) (hS : mS M' = mS M) : RInv M' := by
  have eC : mC M' = mC M := by unfold mC; rw [hS]
  have ec : cnt (rgC M') 2048 = cnt (rgC M) 2048 := cnt_ext (fun t _ => by unfold rgC; rw [hR])
  exact ⟨fun s p r q1 q2 q3 => by rw [eC]; exact hI.1 s p r q1 q2 (by rw [← hR]; exact q3), fun s p s' p' r q1 q2 q3 q4 q5 q6 => hI.2.1 s p s' p' r q1 q2 q3 q4 (by rw [← hR]; exact q5) (by rw [← hR]; exact q6), by rw [eC, ec]; exact hI.2.2⟩
theorem TrW_S {M M' : am_M} {s v : Nat} {wt : Nat → Prop} (h : TrW M s v wt) (h1 : ∀ j, mI M' (174 + 13 * s) j = mI M (174 + 13 * s) j) (h2 : ∀ j, mI M' (177 + 13 * s) j = mI M (177 + 13 * s) j) (hLl : ∀ a j, mL M' a j = mL M a j) (hR : ∀ a j, mR M' a j = mR M a j) : TrW M' s v wt := by
  obtain ⟨a1, a2, a3, a4⟩ := h
  refine ⟨by rw [h1]; exact a1, a2, fun q => (inS_ext (fun i _ => hLl _ i) q).trans (a3 q), fun p hp => ?_⟩
  obtain ⟨k1, k2⟩ := a4 p hp
  refine ⟨by rw [h2]; exact k1, fun hk => ?_⟩
  rw [h2] at hk
  obtain ⟨r, q1, q2⟩ := k2 hk
  exact ⟨r, by rw [hR]; exact q1, fun i hi q => (inS_ext (fun j _ => hLl r _) q).trans (q2 i hi q)⟩
theorem xF_L {s : Nat} {M M' : am_M} (hs : s < 8) (hL : Lay M) (hI : RInv M) (h : oS (sL (173 + 13 * s)) M M') : xF s M M' := by
  have hi : ∀ a j, ¬ a = 180 + 13 * s → mI M' a j = mI M a j := fun a j q3 => h.1 a j (fun z => q3 (by have z' : a = 173 + 13 * s + 7 := z; omega))
  exact ⟨oS_Lay h hL, RInv_S hI h.2.2.1 h.2.2.2, by unfold mC; rw [h.2.2.2]; exact Nat.le_refl _, fun a j _ _ q3 => hi a j q3, fun a j _ => h.2.1 a j, fun a j _ _ => h.2.2.1 a j, fun s' v wt hs' hT => TrW_S hT (fun j => hi _ j (by omega)) (fun j => hi _ j (by omega)) h.2.1 h.2.2.1⟩
theorem uniq_sub {c c' : Nat → Nat → Prop} (h : ∀ t p, c t p → c' t p) (hu : uniq c') : uniq c := fun t p q a b => hu t p q (h t p a) (h t q b)
theorem lin_uniq {wt : Nat → Prop} {v : Nat} {c : Nat → Nat → Prop} (h : linP wt v c) : uniq c := h.1
/-- ordered -/
def ordF (F : List Fct) : Prop := ∀ a, a ∈ F → a.2.1 ≤ a.2.2
theorem ordF_app {F G : List Fct} (h1 : ordF F) (h2 : ordF G) : ordF (F ++ G) := fun a ha => by
  rcases List.mem_append.mp ha with q | q
  · exact h1 a q
  · exact h2 a q
theorem ordF_sy (Y : List Sy) (x : Int) : ordF (syF Y x) := fun a ha => by
  obtain ⟨y, -, e⟩ := List.mem_filterMap.mp ha
  rw [Option.map_eq_some_iff] at e
  obtain ⟨t, -, e⟩ := e
  rw [← e]
  exact Nat.le_refl _
theorem BkX_ord {M : am_M} {g : Nat} {F : List Fct} (h : BkX M g F) : ordF F := fun a ha => by
  obtain ⟨i, hi⟩ := List.mem_iff_getElem?.mp ha
  exact (h.2.2 i a hi).1.2.1
/-- facts of own sayings, if they are wanted -/
def ownF (o : Bool) (Y0 : List Sy) : List Fct := if o = true then syF Y0 0 else []
def ownS (o : Bool) (Y0 : List Sy) (snd : Nat → Bool → Prop) : Prop := o = true → syS Y0 0 snd
theorem c_x_fits (d s g z gs v : Nat) (wt : Nat → Prop) (dep : Nat → Nat) (dr ld : Nat) (F : List Fct) (Y0 Y : List Sy) (sh : Int32) (o : Bool) (M : am_M) (Q : Option Value → am_M → Prop) (hL : Lay M) (hI : RInv M) (hs : s < 8) (hg : isSh g) (hgs : isSh gs) (hz : z = 2 ∨ z = 83) (h1 : -100 ≤ sh.toInt) (h2 : sh.toInt ≤ 100)
    (hD : DpX M (173 + 13 * s) g z dep dr ld) (hB : BkX M g F) (hS0 : SyX M g Y0) (hS : SyX M gs Y) (hT : TrW M s v wt)
    (hQ : ∀ M', xF s M M' → Q (some (.int (tI (ownS o Y0 (sndP dep dr ld) ∧ syS Y sh.toInt (sndP dep dr ld) ∧ fitP wt v (F ++ ownF o Y0 ++ syF Y sh.toInt))))) M') :
    am_E am_P0 (d + 4) 79 [.ref (173 + 13 * s), .ref gs, .int sh, .int (b01 o)] M Q := by
  obtain ⟨w, hwe⟩ : ∃ w, w = 173 + 13 * s := ⟨_, rfl⟩
  have hw : isTr w := ⟨s, hs, hwe⟩
  have hgl := isSh_lt hg
  have hgsl := isSh_lt hgs
  have hwl := isTr_ge hw
  have hord : ordF (F ++ ownF o Y0 ++ syF Y sh.toInt) := ordF_app (ordF_app (BkX_ord hB) (by unfold ownF; split; exact ordF_sy _ _; exact fun a ha => by cases ha)) (ordF_sy _ _)
  have hfl := fit_lin (w := wt) (v := v) hord
  have fin0 : ∀ M', oS (sL w) M M' → ¬ (ownS o Y0 (sndP dep dr ld) ∧ syS Y sh.toInt (sndP dep dr ld) ∧ fitP wt v (F ++ ownF o Y0 ++ syF Y sh.toInt)) → Q (some (.int 0)) M' := fun M' g1 hn => by
    have h0 := hQ M' (xF_L hs hL hI (by rw [← hwe]; exact g1))
    rw [tI_f hn] at h0
    exact h0
  rw [← hwe] at hD ⊢
  have nS : ∀ j, ¬ sL w g j := fun j z3 => by have z4 : g = w + 7 := z3; omega
  have nZ : ∀ j, ¬ sL w (z + 21) j := fun j z3 => by have z4 : z + 21 = w + 7 := z3; omega
  have nG : ∀ a j, g ≤ a → a ≤ g + 6 → ¬ sL w a j := fun a j z1 z2 z3 => by have z4 : a = w + 7 := z3; omega
  have nGs : ∀ a j, gs ≤ a → a ≤ gs + 6 → ¬ sL w a j := fun a j z1 z2 z3 => by have z4 : a = w + 7 := z3; omega
  -- the rest, from the sayer's sayings on
  have rest : ∀ (F' : List Fct) (M1 : am_M), F' = F ++ ownF o Y0 → oS (sL w) M M1 → LnP M1 w (cov F') → ownS o Y0 (sndP dep dr ld) → am_P am_P0 (d + 4) (am_look tX8_fits) 23 [.ref w, .ref gs, .int sh, .int (b01 o)] [] M1 Q := by
    intro F' M1 hF' g1 hc hown
    have L1 := oS_Lay g1 hL
    simp +decide only [qX8_fits, lt_ L1 hw, am_w1_i, am_w1_r, am_w1_x, am_w1_l, am_w1_w, va_rf_s, am_push_n, am_push_s, am_cs_0, am_cs_i, am_cs_l, am_cs_r, m_uI_K, m_uI_N, m_uI_R, m_uI_L, m_uI_I, m_uL_K, m_uL_N, m_uL_R, m_uL_I, m_uL_L, m_uR_K, m_uR_N, m_uR_I, m_uR_L, m_uR_R, true_and, and_true]
    refine c_x_laySayings (d + 2) w g z gs dep dr ld F' Y sh M1 _ L1 hw hg hgs hz h1 h2 (DpX_S hD g1 nS nZ) (SyX_S hS g1 nGs) hc (fun M2 g2 hn => ?_) (fun M2 g2 hss hc2 => ?_)
    · simp +decide only [qX8_fits, am_w1_i, am_w1_r, am_w1_x, am_w1_l, am_w1_w, va_rf_s, am_push_n, am_push_s, am_cs_0, am_cs_i, am_cs_l, am_cs_r, m_uI_K, m_uI_N, m_uI_R, m_uI_L, m_uI_I, m_uL_K, m_uL_N, m_uL_R, m_uL_I, m_uL_L, m_uR_K, m_uR_N, m_uR_I, m_uR_L, m_uR_R, true_and, and_true, true_implies, false_implies]
      refine fin0 M2 (oS_trans g1 g2) (fun z => hn ⟨z.2.1, ?_⟩)
      rw [hF']
      exact lin_uniq (hfl.mp z.2.2)
    · have g3 := oS_trans g1 g2
      have L2 := oS_Lay g3 hL
      simp +decide only [qX8_fits, lt_ L2 hw, am_w1_i, am_w1_r, am_w1_x, am_w1_l, am_w1_w, va_rf_s, am_push_n, am_push_s, am_cs_0, am_cs_i, am_cs_l, am_cs_r, m_uI_K, m_uI_N, m_uI_R, m_uI_L, m_uI_I, m_uL_K, m_uL_N, m_uL_R, m_uL_I, m_uL_L, m_uR_K, m_uR_N, m_uR_I, m_uR_L, m_uR_R, true_and, and_true, true_implies, false_implies]
      have x2 := xF_L hs hL hI (by rw [← hwe]; exact g3)
      have e6 : w + 6 = 179 + 13 * s := by omega
      have e1 : w + 1 = 174 + 13 * s := by omega
      rw [e6, e1]
      refine c_x_holds d s v wt (cov (F' ++ syF Y sh.toInt)) M2 _ hs L2 x2.2.1 (by rw [← hwe]; exact hc2) (x2.2.2.2.2.2.2 s v wt hs hT) (fun M3 g4 => ?_)
      have x3 := xF_trans x2 (xF_r (s := s) g4)
      have h0 := hQ M3 x3
      simp +decide only [qX8_fits, am_w1_i, am_w1_r, am_w1_x, am_w1_l, am_w1_w, va_rf_s, am_push_n, am_push_s, am_cs_0, am_cs_i, am_cs_l, am_cs_r, m_uI_K, m_uI_N, m_uI_R, m_uI_L, m_uI_I, m_uL_K, m_uL_N, m_uL_R, m_uL_I, m_uL_L, m_uR_K, m_uR_N, m_uR_I, m_uR_L, m_uR_R, true_and, and_true]
      rw [hF']
      by_cases hl : linP wt v (cov (F ++ ownF o Y0 ++ syF Y sh.toInt))
      · rw [tI_t hl, br_n (by decide)]
        rw [tI_t ⟨hown, hss, hfl.mpr hl⟩] at h0
        exact h0
      · rw [tI_f hl, br_p rfl]
        rw [tI_f (fun z => hl (hfl.mp z.2.2))] at h0
        exact h0
  rw [eX8_fits]
  simp +decide only [qX8_fits, lt_ hL hw, am_w1_i, am_w1_r, am_w1_x, am_w1_l, am_w1_w, va_rf_s, am_push_n, am_push_s, am_cs_0, am_cs_i, am_cs_l, am_cs_r, m_uI_K, m_uI_N, m_uI_R, m_uI_L, m_uI_I, m_uL_K, m_uL_N, m_uL_R, m_uL_I, m_uL_L, m_uR_K, m_uR_N, m_uR_I, m_uR_L, m_uR_R, true_and, and_true]
  refine c_x_layBooks (d + 1) w g F M _ hL hw hg hD.1 hB (fun M1 g1 hn => ?_) (fun M1 g1 hc => ?_)
  · simp +decide only [qX8_fits, am_w1_i, am_w1_r, am_w1_x, am_w1_l, am_w1_w, va_rf_s, am_push_n, am_push_s, am_cs_0, am_cs_i, am_cs_l, am_cs_r, m_uI_K, m_uI_N, m_uI_R, m_uI_L, m_uI_I, m_uL_K, m_uL_N, m_uL_R, m_uL_I, m_uL_L, m_uR_K, m_uR_N, m_uR_I, m_uR_L, m_uR_R, true_and, and_true, true_implies, false_implies]
    refine fin0 M1 g1 (fun z => hn (uniq_sub (fun t p q => ?_) (lin_uniq (hfl.mp z.2.2))))
    rw [cov_app, cov_app]
    exact Or.inl (Or.inl q)
  · have L1 := oS_Lay g1 hL
    have hR1 : mR M1 w 0 = some g := by rw [g1.2.2.1]; exact hD.1
    cases o with
    | false =>
      have hr := rest F M1 (by unfold ownF; simp) g1 hc (fun h => by cases h)
      simp +decide only [qX8_fits, lt_ L1 hw, hR1, show b01 false = 0 from rfl, am_w1_i, am_w1_r, am_w1_x, am_w1_l, am_w1_w, va_rf_s, am_push_n, am_push_s, am_cs_0, am_cs_i, am_cs_l, am_cs_r, m_uI_K, m_uI_N, m_uI_R, m_uI_L, m_uI_I, m_uL_K, m_uL_N, m_uL_R, m_uL_I, m_uL_L, m_uR_K, m_uR_N, m_uR_I, m_uR_L, m_uR_R, true_and, and_true, true_implies, false_implies] at hr ⊢
      exact hr
    | true =>
      simp +decide only [qX8_fits, lt_ L1 hw, hR1, show b01 true = 1 from rfl, am_w1_i, am_w1_r, am_w1_x, am_w1_l, am_w1_w, va_rf_s, am_push_n, am_push_s, am_cs_0, am_cs_i, am_cs_l, am_cs_r, m_uI_K, m_uI_N, m_uI_R, m_uI_L, m_uI_I, m_uL_K, m_uL_N, m_uL_R, m_uL_I, m_uL_L, m_uR_K, m_uR_N, m_uR_I, m_uR_L, m_uR_R, true_and, and_true, true_implies, false_implies]
      refine c_x_laySayings (d + 2) w g z g dep dr ld F Y0 0 M1 _ L1 hw hg hg hz (by decide) (by decide) (DpX_S hD g1 nS nZ) (SyX_S hS0 g1 nG) hc (fun M2 g2 hn => ?_) (fun M2 g2 hss hc2 => ?_)
      · simp +decide only [qX8_fits, am_w1_i, am_w1_r, am_w1_x, am_w1_l, am_w1_w, va_rf_s, am_push_n, am_push_s, am_cs_0, am_cs_i, am_cs_l, am_cs_r, m_uI_K, m_uI_N, m_uI_R, m_uI_L, m_uI_I, m_uL_K, m_uL_N, m_uL_R, m_uL_I, m_uL_L, m_uR_K, m_uR_N, m_uR_I, m_uR_L, m_uR_R, true_and, and_true, true_implies, false_implies]
        refine fin0 M2 (oS_trans g1 g2) (fun z => hn ⟨z.1 rfl, uniq_sub (fun t p q => ?_) (lin_uniq (hfl.mp z.2.2))⟩)
        rw [cov_app]
        exact Or.inl q
      · have hr := rest (F ++ syF Y0 0) M2 rfl (oS_trans g1 g2) hc2 (fun _ => hss)
        simp +decide only [qX8_fits, lt_ (oS_Lay (oS_trans g1 g2) hL) hw, show b01 true = 1 from rfl, am_w1_i, am_w1_r, am_w1_x, am_w1_l, am_w1_w, va_rf_s, am_push_n, am_push_s, am_cs_0, am_cs_i, am_cs_l, am_cs_r, m_uI_K, m_uI_N, m_uI_R, m_uI_L, m_uI_I, m_uL_K, m_uL_N, m_uL_R, m_uL_I, m_uL_L, m_uR_K, m_uR_N, m_uR_I, m_uR_L, m_uR_R, true_and, and_true, true_implies, false_implies] at hr ⊢
        exact hr
