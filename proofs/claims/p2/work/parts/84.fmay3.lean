/-! the class: findMay, back -/
def nstP (c : Nat → Nat → Prop) (h : Nat) (x : Int32) : Prop := (x = -1 ∧ ∀ t p, h ≤ t → ¬ c t p) ∨ ∃ l pl, h ≤ l ∧ x = nI l ∧ c l pl ∧ ∀ t p, h ≤ t → t < l → ¬ c t p
theorem l_x_fm4 (d s v h l pl : Nat) (wt : Nat → Prop) (c : Nat → Nat → Prop) (M0 : am_M) (Q : Option Value → am_M → Prop) (hs : s < 8) (hc0 : LnP M0 (173 + 13 * s) c) (hh : h < 48) (hl : h ≤ l) (hpl : c l pl) (v4 : Value)
    (hQ : ∀ M' k, zF (sMy s) M0 M' → TrW M' s v wt → (∀ j, ¬ (4 * h ≤ j ∧ j < 4 * h + 4) → mL M' (183 + 13 * s) j = mL M0 (183 + 13 * s) j) → (∀ q, inS (my4 M' s h) q ↔ inS (my4 M0 s h) q ∧ wit wt v pl q (l - h)) → am_P am_P0 (d + 2) (am_look tX8_findMay) 156 [.ref (173 + 13 * s), .int (nI l), .int (nI h + -1), .int k, v4] [] M' Q) :
    ∀ (m k : Nat), k + m = 4 → ∀ (M : am_M), zF (sMy s) M0 M → TrW M s v wt → (∀ j, ¬ (4 * h ≤ j ∧ j < 4 * h + k) → mL M (183 + 13 * s) j = mL M0 (183 + 13 * s) j) → (∀ i b, i < k → b < 64 → (sbit (mL M (183 + 13 * s) (4 * h + i)) b = true ↔ sbit (mL M0 (183 + 13 * s) (4 * h + i)) b = true ∧ wit wt v pl (64 * i + b) (l - h))) → am_P am_P0 (d + 2) (am_look tX8_findMay) 181 [.ref (173 + 13 * s), .int (nI l), .int (nI h), .int (nI k), v4] [] M Q := by
  obtain ⟨w, hwe⟩ : ∃ w, w = 173 + 13 * s := ⟨_, rfl⟩
  have hw : isTr w := ⟨s, hs, hwe⟩
  have e1 : 174 + 13 * s = w + 1 := by omega
  have e10 : 183 + 13 * s = w + 10 := by omega
  have hpl2 := hc0.2.1 l pl hpl
  have hl1 : ¬ nI l = -1 := nI_m1 (by omega)
  intro m
  induction m with
  | zero =>
    intro k hk M hM hT hn hy
    have e : k = 4 := by omega
    subst e
    have h0 := hQ M (nI 4) hM hT hn (fun q => ?_)
    · rw [hX8_findMay_181]
      have e0 : (4 : Int32) ≤ nI 4 := by decide
      simp +decide only [qX8_findMay_0, qX8_findMay_1, qX8_findMay_2, qX8_findMay_3, am_w1_i, am_w1_r, am_w1_x, am_w1_l, am_w1_w, va_rf_s, am_push_n, am_push_s, am_cs_0, am_cs_i, am_cs_l, am_cs_r, m_uI_K, m_uI_N, m_uI_R, m_uI_L, m_uI_I, m_uL_K, m_uL_N, m_uL_R, m_uL_I, m_uL_L, m_uR_K, m_uR_N, m_uR_I, m_uR_L, m_uR_R, true_and, and_true, true_implies, false_implies] at h0 ⊢
      rw [br_n hl1]
      exact h0
    · unfold inS my4
      constructor
      · rintro ⟨q1, q2⟩
        have h1 := (hy (q / 64) (q % 64) (by omega) (by omega)).mp q2
        rw [show 64 * (q / 64) + q % 64 = q by omega] at h1
        exact ⟨⟨q1, h1.1⟩, h1.2⟩
      · rintro ⟨⟨q1, q2⟩, q3⟩
        refine ⟨q1, (hy (q / 64) (q % 64) (by omega) (by omega)).mpr ⟨q2, ?_⟩⟩
        rw [show 64 * (q / 64) + q % 64 = q by omega]
        exact q3
  | succ m ih =>
    intro k hk M hM hT hn hy
    have hL := hM.1
    have hc : LnP M w c := LnP_I (by rw [hwe]; exact hc0) (fun j => hM.2.2.2.1 _ _ (by omega) (fun s' hs' => by omega) (fun q => by unfold sMy at q; omega))
    have hml : mI M (w + 7) l = nI pl := by
      rcases hc.2.2 l hpl2.1 with ⟨y, y1, y2⟩ | ⟨y1, y2⟩
      · rw [y2, hc.1 l y pl y1 hpl]
      · exact absurd hpl (y1 pl)
    have hlt : ¬ (4 : Int32) ≤ nI k := by rw [show (4 : Int32) = nI 4 from rfl, ni_le (by omega) (by omega)]; omega
    have ea : nI h * 4 + nI k = nI (4 * h + k) := by rw [show (4 : Int32) = nI 4 from rfl, ni_mul, ni_add, Nat.mul_comm]
    have eb : (nI l - nI h) * 4 + nI k = nI (4 * (l - h) + k) := by rw [ni_sub (by omega), show (4 : Int32) = nI 4 from rfl, ni_mul, ni_add, Nat.mul_comm]
    rw [← hwe]
    rw [hX8_findMay_181]
    simp +decide (disch := omega) only [qX8_findMay_0, qX8_findMay_1, qX8_findMay_2, qX8_findMay_3, lt_ hL hw, hml, ea, ni_in_t, ni_tn, am_w1_i, am_w1_r, am_w1_x, am_w1_l, am_w1_w, va_rf_s, am_push_n, am_push_s, am_cs_0, am_cs_i, am_cs_l, am_cs_r, m_uI_K, m_uI_N, m_uI_R, m_uI_L, m_uI_I, m_uL_K, m_uL_N, m_uL_R, m_uL_I, m_uL_L, m_uR_K, m_uR_N, m_uR_I, m_uR_L, m_uR_R, true_and, and_true]
    rw [br_n hl1, br_n hlt, ← e1]
    refine c_x_ringsOf d s pl v wt M _ hL hs hpl2.2 hT.1 hT.2.1 hT.2.2.1 hM.2.1 (hT.2.2.2 pl hpl2.2) (fun r M1 g1 => ?_)
    have F1 := rgP_F hL hM.2.1 hs hpl2.2 hT g1
    have hM1 : zF (sMy s) M0 M1 := zF_trans hM (zF_r F1)
    have L1 := hM1.1
    have hrk := lay_ring L1 g1.2.2.2.2.2.1.1 g1.2.2.2.2.2.1.2
    have hm1 : ∀ j, mL M1 (w + 10) j = mL M (w + 10) j := fun j => F1.2.2.2.2.1 _ _ (by omega)
    simp +decide (disch := omega) only [qX8_findMay_0, qX8_findMay_1, qX8_findMay_2, qX8_findMay_3, lt_ L1 hw, hrk, eb, ni_in_t, ni_tn, ni_add1, am_w1_i, am_w1_r, am_w1_x, am_w1_l, am_w1_w, va_rf_s, am_push_n, am_push_s, am_cs_0, am_cs_i, am_cs_l, am_cs_r, m_uI_K, m_uI_N, m_uI_R, m_uI_L, m_uI_I, m_uL_K, m_uL_N, m_uL_R, m_uL_I, m_uL_L, m_uR_K, m_uR_N, m_uR_I, m_uR_L, m_uR_R, true_and, and_true]
    have z1 : zF (sMy s) M1 (uL M1 (w + 10) (4 * h + k) (mL M (w + 10) (4 * h + k) &&& mL M1 r (4 * (l - h) + k))) := zF_l L1 hM1.2.1 ⟨fun _ _ => rfl, fun _ _ => rfl, rfl, fun a j q => by rw [m_uL_L, if_neg (fun z => q z.1)]⟩ (by omega) (fun j => e10.symm) (fun s' hs' => by omega)
    rw [hwe] at *
    refine ih (k + 1) (by omega) _ (zF_trans hM1 z1) (z1.2.2.2.2.2.2 s v wt hs (F1.2.2.2.2.2.2 s v wt hs hT)) (fun j hj => ?_) (fun i b hi hb => ?_)
    · rw [e10, m_uL_L, if_neg (by omega), hm1, ← e10]
      exact hn j (by omega)
    · rw [e10, m_uL_L]
      by_cases ei : i = k
      · subst ei
        rw [if_pos ⟨rfl, rfl⟩, sb_and, Bool.and_eq_true]
        have hb1 := g1.2.1 (l - h) (by omega) (64 * i + b)
        have q1 : (64 * i + b) / 64 = i := by omega
        have q2 : (64 * i + b) % 64 = b := by omega
        unfold inS rw4 at hb1
        rw [q1, q2] at hb1
        rw [← e10, hn _ (by omega)]
        unfold wit
        rw [← hb1]
        constructor
        · rintro ⟨x1, x2⟩; exact ⟨x1, by omega, x2⟩
        · rintro ⟨x1, -, x2⟩; exact ⟨x1, x2⟩
      · rw [if_neg (by omega), hm1, ← e10]
        exact hy i b (by omega) hb
theorem l_x_fm3 (d s v : Nat) (wt : Nat → Prop) (c : Nat → Nat → Prop) (M0 : am_M) (Q : Option Value → am_M → Prop) (hs : s < 8) (hc0 : LnP M0 (173 + 13 * s) c)
    (hQ : ∀ M', zF (sMy s) M0 M' → TrW M' s v wt → (∀ h, h < 48 → ∀ q, inS (my4 M' s h) q ↔ mfP wt v c h q ∧ mbP wt v c h q) → Q none M') :
    ∀ (h : Nat), h ≤ 48 → ∀ (M : am_M) (x : Int32) (v3 v4 : Value), zF (sMy s) M0 M → TrW M s v wt → nstP c h x → (∀ h', h' < 48 → ∀ q, inS (my4 M s h') q ↔ mfP wt v c h' q ∧ (h ≤ h' → mbP wt v c h' q)) → jk v4 → am_P am_P0 (d + 2) (am_look tX8_findMay) 156 [.ref (173 + 13 * s), .int x, .int (nI h - 1), v3, v4] [] M Q := by
  obtain ⟨w, hwe⟩ : ∃ w, w = 173 + 13 * s := ⟨_, rfl⟩
  have hw : isTr w := ⟨s, hs, hwe⟩
  have e10 : 183 + 13 * s = w + 10 := by omega
  intro h
  induction h with
  | zero =>
    intro _ M x v3 v4 hM hT hl hr j4
    have e0 : nI 0 - 1 = -1 := rfl
    rw [e0, hX8_findMay_156]
    simp +decide only [qX8_findMay_0, qX8_findMay_1, qX8_findMay_2, qX8_findMay_3, am_w1_i, am_w1_r, am_w1_x, am_w1_l, am_w1_w, va_rf_s, am_push_n, am_push_s, am_cs_0, am_cs_i, am_cs_l, am_cs_r, m_uI_K, m_uI_N, m_uI_R, m_uI_L, m_uI_I, m_uL_K, m_uL_N, m_uL_R, m_uL_I, m_uL_L, m_uR_K, m_uR_N, m_uR_I, m_uR_L, m_uR_R, true_and, and_true, true_implies, false_implies]
    exact hQ M hM hT (fun h hh q => (hr h hh q).trans ⟨fun z => ⟨z.1, z.2 (Nat.zero_le _)⟩, fun z => ⟨z.1, fun _ => z.2⟩⟩)
  | succ h ih =>
    intro hh M x v3 v4 hM hT hl hr j4
    have hL := hM.1
    have hc : LnP M (173 + 13 * s) c := LnP_I hc0 (fun j => hM.2.2.2.1 _ _ (by omega) (fun s' hs' => by omega) (fun q => by unfold sMy at q; omega))
    have ei : nI (h + 1) - 1 = nI h := by rw [show (1 : Int32) = nI 1 from rfl, ni_sub (by omega)]; rfl
    have em : nI h + -1 = nI h - 1 := (Int32.sub_eq_add_neg _ _).symm
    have hn0 : ¬ nI h < 0 := by rw [show (0 : Int32) = nI 0 from rfl, ni_lt (by omega) (by omega)]; omega
    have hfact : ∀ l pl, h ≤ l → c l pl → (∀ t p, h ≤ t → t < l → ¬ c t p) → am_P am_P0 (d + 2) (am_look tX8_findMay) 181 [.ref (173 + 13 * s), .int (nI l), .int (nI h), .int (nI 0), v4] [] M Q := by
      intro l pl hhl hpl hno
      refine l_x_fm4 d s v h l pl wt c M Q hs hc (by omega) hhl hpl v4 (fun M1 k g1 hT1 hn1 hy1 => ?_) 4 0 rfl M (zF_refl hL hM.2.1) hT (fun _ _ => rfl) (fun i b hi => by omega)
      rw [em]
      refine ih (by omega) M1 _ _ _ (zF_trans hM g1) hT1 (Or.inr ⟨l, pl, hhl, rfl, hpl, hno⟩) (fun h' hh' q => ?_) j4
      by_cases eh : h' = h
      · subst eh
        rw [hy1 q, hr h' hh' q]
        constructor
        · rintro ⟨⟨a1, -⟩, a2⟩
          refine ⟨a1, fun _ h2 p2 b1 b2 b3 => ?_⟩
          have e : h2 = l := by
            rcases Nat.lt_trichotomy h2 l with z | z | z
            · exact absurd b2 (hno h2 p2 b1 z)
            · exact z
            · exact absurd hpl (b3 l hhl z pl)
          subst e
          rw [hc.1 _ p2 pl b2 hpl]
          exact a2
        · rintro ⟨a1, a2⟩
          exact ⟨⟨a1, fun z => by omega⟩, a2 (Nat.le_refl _) l pl hhl hpl (fun t z1 z2 p => hno t p z1 z2)⟩
      · have e : inS (my4 M1 s h') q ↔ inS (my4 M s h') q := inS_ext (fun i hi => hn1 _ (by omega)) q
        rw [e, hr h' hh' q]
        exact ⟨fun z => ⟨z.1, fun y => z.2 (by omega)⟩, fun z => ⟨z.1, fun y => z.2 (by omega)⟩⟩
    rw [ei, hX8_findMay_156]
    have hw7 : ∀ j, mI M (180 + 13 * s) j = mI M (w + 7) j := fun j => by rw [show 180 + 13 * s = w + 7 by omega]
    rcases hc.2.2 h (by omega) with ⟨p, hp, hm⟩ | ⟨hp, hm⟩
    · have h9 := hfact h p (Nat.le_refl _) hp (fun t p q1 q2 => by omega)
      rw [← hwe] at hm h9 ⊢
      simp +decide (disch := omega) only [qX8_findMay_0, qX8_findMay_1, qX8_findMay_2, qX8_findMay_3, lt_ hL hw, hm, ni_in_t, ni_tn, am_w1_i, am_w1_r, am_w1_x, am_w1_l, am_w1_w, va_rf_s, am_push_n, am_push_s, am_cs_0, am_cs_i, am_cs_l, am_cs_r, m_uI_K, m_uI_N, m_uI_R, m_uI_L, m_uI_I, m_uL_K, m_uL_N, m_uL_R, m_uL_I, m_uL_L, m_uR_K, m_uR_N, m_uR_I, m_uR_L, m_uR_R, true_and, and_true]
      have hp2 := (hc.2.1 h p hp).2
      rw [br_n hn0, br_q (nI_m1 (by omega))]
      exact h9
    · rcases hl with ⟨rfl, hno⟩ | ⟨l, pl, hl1, rfl, hpl, hno⟩
      · have h9 := ih (by omega) M (-1) (.int 0) v4 hM hT (Or.inl ⟨rfl, fun t p ht => by
          by_cases et : t = h
          · subst et; exact hp p
          · exact hno t p (by omega)⟩) (fun h' hh' q => (hr h' hh' q).trans ⟨fun z => ⟨z.1, fun y => ?_⟩, fun z => ⟨z.1, fun y => z.2 (by omega)⟩⟩) j4
        · rw [← hwe] at hm h9 ⊢
          simp +decide (disch := omega) only [qX8_findMay_0, qX8_findMay_1, qX8_findMay_2, qX8_findMay_3, lt_ hL hw, hm, em, hX8_findMay_181, ni_in_t, ni_tn, am_w1_i, am_w1_r, am_w1_x, am_w1_l, am_w1_w, va_rf_s, am_push_n, am_push_s, am_cs_0, am_cs_i, am_cs_l, am_cs_r, m_uI_K, m_uI_N, m_uI_R, m_uI_L, m_uI_I, m_uL_K, m_uL_N, m_uL_R, m_uL_I, m_uL_L, m_uR_K, m_uR_N, m_uR_I, m_uR_L, m_uR_R, true_and, and_true, not_true_eq_false, not_false_eq_true, true_implies, false_implies]
          rw [br_n hn0]
          exact h9
        · intro h2 p2 b1 b2 b3
          by_cases et : h2 = h
          · subst et; exact absurd b2 (hp p2)
          · exact absurd b2 (hno h2 p2 (by omega))
      · have h9 := hfact l pl (by omega) hpl (fun t p q1 q2 => by
          by_cases et : t = h
          · subst et; exact hp p
          · exact hno t p (by omega) q2)
        rw [← hwe] at hm h9 ⊢
        simp +decide (disch := omega) only [qX8_findMay_0, qX8_findMay_1, qX8_findMay_2, qX8_findMay_3, lt_ hL hw, hm, ni_in_t, ni_tn, am_w1_i, am_w1_r, am_w1_x, am_w1_l, am_w1_w, va_rf_s, am_push_n, am_push_s, am_cs_0, am_cs_i, am_cs_l, am_cs_r, m_uI_K, m_uI_N, m_uI_R, m_uI_L, m_uI_I, m_uL_K, m_uL_N, m_uL_R, m_uL_I, m_uL_L, m_uR_K, m_uR_N, m_uR_I, m_uR_L, m_uR_R, true_and, and_true, not_true_eq_false, not_false_eq_true, true_implies, false_implies]
        rw [br_n hn0]
        exact h9
theorem c_x_findMay (d s g z v : Nat) (wt : Nat → Prop) (dep : Nat → Nat) (dr ld : Nat) (B : List Fct) (Y : List Sy) (M : am_M) (Q : Option Value → am_M → Prop) (hL : Lay M) (hI : RInv M) (hs : s < 8) (hg : isSh g) (hz : z = 2 ∨ z = 83) (hsr : srtY Y) (hsw : ∀ y, y ∈ Y → sndP dep dr ld y.2.1 y.2.2 → wt y.2.1) (hT : TkX M s g z v wt dep dr ld B Y) (hB : fitP wt v B) (hln : LnP M (173 + 13 * s) (cov B)) (hk : ∀ k, k < Y.length → mI M (182 + 13 * s) k = tI (keptY wt v (sndP dep dr ld) B Y k))
    (hQ : ∀ M', zF (fun a j => sMy s a j ∨ a = 180 + 13 * s) M M' → (∀ h, h < 48 → ∀ q, inS (my4 M' s h) q ↔ mayY wt v (sndP dep dr ld) B Y q h) → Q none M') : am_E am_P0 (d + 2) 87 [.ref (173 + 13 * s)] M Q := by
  have hfit := fcY_fit hsr (BkX_ord hT.2.2.1) hsw hB
  have hlin := (fit_lin hfit.2).mp hfit.1
  rw [eX8_findMay]
  simp +decide only [qX8_findMay_0, qX8_findMay_1, qX8_findMay_2, qX8_findMay_3, am_w1_i, am_w1_r, am_w1_x, am_w1_l, am_w1_w, va_rf_s, am_push_n, am_push_s, am_cs_0, am_cs_i, am_cs_l, am_cs_r, m_uI_K, m_uI_N, m_uI_R, m_uI_L, m_uI_I, m_uL_K, m_uL_N, m_uL_R, m_uL_I, m_uL_L, m_uR_K, m_uR_N, m_uR_I, m_uR_L, m_uR_R, true_and, and_true]
  rw [show (0 : Int32) = nI 0 from rfl]
  refine l_x_fm1 (d + 1) s g z v wt dep dr ld B Y M Q hs hg hz hL hI hT hB hlin.1 hk am_x am_x am_x (fun M1 g1 hc1 => ?_) Y.length 0 (by omega) M (oS_refl _ _) (by
    have e : kpF (fun k => fitP wt v B ∧ keptY wt v (sndP dep dr ld) B Y k) Y 0 = [] := rfl
    rw [e, List.append_nil]; exact hln)
  have x1 := xF_L hs hL hI g1
  have T1 := x1.2.2.2.2.2.2 s v wt hs hT.1
  simp +decide only [qX8_findMay_0, qX8_findMay_1, qX8_findMay_2, qX8_findMay_3, am_w1_i, am_w1_r, am_w1_x, am_w1_l, am_w1_w, va_rf_s, am_push_n, am_push_s, am_cs_0, am_cs_i, am_cs_l, am_cs_r, m_uI_K, m_uI_N, m_uI_R, m_uI_L, m_uI_I, m_uL_K, m_uL_N, m_uL_R, m_uL_I, m_uL_L, m_uR_K, m_uR_N, m_uR_I, m_uR_L, m_uR_R, true_and, and_true]
  rw [show (0 : Int32) = nI 0 from rfl]
  refine l_x_fm2 d s v wt _ M1 Q hs hc1 (fun M2 x v3 v4 g2 T2 hr2 j3 j4 => ?_) 48 0 rfl M1 (-1) am_x am_x (zF_refl x1.1 x1.2.1) T1 (Or.inl ⟨rfl, fun t p ht => by omega⟩) (fun h' hh' => by omega) (Or.inl rfl) (Or.inl rfl)
  have hc2 := LnP_I (M' := M2) hc1 (fun j => g2.2.2.2.1 _ _ (by omega) (fun s' hs' => by omega) (fun q => by unfold sMy at q; omega))
  have h3 := l_x_fm3 d s v wt _ M2 Q hs hc2 (fun M3 g3 T3 hr3 => ?_) 48 (Nat.le_refl _) M2 (-1) v3 v4 (zF_refl g2.1 g2.2.1) T2 (Or.inl ⟨rfl, fun t p ht hq => by have := (hc2.2.1 t p hq).1; omega⟩) (fun h' hh' q => (hr2 h' hh' q).trans ⟨fun z => ⟨z, fun y => by omega⟩, fun z => z.1⟩) j4
  · have e47 : nI 48 - 1 = 47 := rfl
    rw [e47] at h3
    simp +decide only [qX8_findMay_0, qX8_findMay_1, qX8_findMay_2, qX8_findMay_3, am_w1_i, am_w1_r, am_w1_x, am_w1_l, am_w1_w, va_rf_s, am_push_n, am_push_s, am_cs_0, am_cs_i, am_cs_l, am_cs_r, m_uI_K, m_uI_N, m_uI_R, m_uI_L, m_uI_I, m_uL_K, m_uL_N, m_uL_R, m_uL_I, m_uL_L, m_uR_K, m_uR_N, m_uR_I, m_uR_L, m_uR_R, true_and, and_true]
    exact h3
  · refine hQ M3 (zF_trans (zF_up (zF_x x1) (fun a j q => Or.inr q)) (zF_up (zF_trans g2 g3) (fun a j q => Or.inl q))) (fun h hh q => (hr3 h hh q).trans ?_)
    unfold mayY
    constructor
    · rintro ⟨a1, a2⟩
      exact ⟨hB, a1.1, (may_lin hfit.1 hfit.2 h q a1.1).mpr ⟨a1.2, a2⟩⟩
    · rintro ⟨-, a2, a3⟩
      have := (may_lin hfit.1 hfit.2 h q a2).mp a3
      exact ⟨⟨a2, this.1⟩, this.2⟩
