/-! the class: findMay, forward and back -/
theorem TrW_L {M M' : am_M} {s v : Nat} {wt : Nat → Prop} (hI : RInv M) (hs : s < 8) (h : TrW M s v wt) (hi : ∀ a j, mI M' a j = mI M a j) (hR : ∀ a j, mR M' a j = mR M a j) (h1 : ∀ j, mL M' (175 + 13 * s) j = mL M (175 + 13 * s) j) (h2 : ∀ a j, 336 ≤ a → mL M' a j = mL M a j) : TrW M' s v wt := by
  obtain ⟨a1, a2, a3, a4⟩ := h
  refine ⟨by rw [hi]; exact a1, a2, fun q => (inS_ext (fun i _ => h1 i) q).trans (a3 q), fun p hp => ?_⟩
  obtain ⟨k1, k2⟩ := a4 p hp
  refine ⟨by rw [hi]; exact k1, fun hk => ?_⟩
  rw [hi] at hk
  obtain ⟨r, q1, q2⟩ := k2 hk
  have hr := (hI.1 s p r hs hp q1).1
  exact ⟨r, by rw [hR]; exact q1, fun i hi q => (inS_ext (fun j _ => h2 r _ hr) q).trans (q2 i hi q)⟩
theorem zF_l {S : Nat → Nat → Prop} {M M' : am_M} {a : Nat} (hL : Lay M) (hI : RInv M) (h : onlyL M M' a) (ha : a < 336) (hS : ∀ j, S a j) (h1 : ∀ s', s' < 8 → ¬ a = 175 + 13 * s') : zF S M M' :=
  ⟨onlyL_Lay h hL, RInv_S hI h.2.1 h.2.2.1, by unfold mC; rw [h.2.2.1]; exact Nat.le_refl _, fun b j _ _ _ => h.1 b j, fun b j _ q => h.2.2.2 b j (fun e => q (by rw [e]; exact hS j)), fun b j _ _ => h.2.1 b j, fun s' v wt hs' hT => TrW_L hI hs' hT h.1 h.2.1 (fun j => h.2.2.2 _ _ (fun e => h1 s' hs' e.symm)) (fun b j hb => h.2.2.2 _ _ (by omega))⟩
/-- what the facts up to an hour leave; what those from it on leave -/
def mfP (wt : Nat → Prop) (v : Nat) (c : Nat → Nat → Prop) (h q : Nat) : Prop := wt q ∧ ∀ h1 p1, h1 ≤ h → c h1 p1 → (∀ t, h1 < t → t ≤ h → ∀ p, ¬ c t p) → wit wt v p1 q (h - h1)
def mbP (wt : Nat → Prop) (v : Nat) (c : Nat → Nat → Prop) (h q : Nat) : Prop := ∀ h2 p2, h ≤ h2 → c h2 p2 → (∀ t, h ≤ t → t < h2 → ∀ p, ¬ c t p) → wit wt v p2 q (h2 - h)
/-- the row of the hour h in a track's may -/
abbrev my4 (M : am_M) (s h : Nat) : Nat → Int64 := fun i => mL M (183 + 13 * s) (4 * h + i)
/-- the last hour ahead of h that has a fact -/
def lstP (c : Nat → Nat → Prop) (h : Nat) (x : Int32) : Prop := (x = -1 ∧ ∀ t p, t < h → ¬ c t p) ∨ ∃ l pl, l < h ∧ x = nI l ∧ c l pl ∧ ∀ t p, l < t → t < h → ¬ c t p
def sMy (s a _j : Nat) : Prop := a = 183 + 13 * s
theorem uCL_only (M : am_M) (a i b j n : Nat) : onlyL M (uCL M a i b j n) b := ⟨fun _ _ => rfl, fun _ _ => rfl, rfl, fun a j h => if_neg (fun q => h q.1)⟩
theorem l_x_fm2 (d s v : Nat) (wt : Nat → Prop) (c : Nat → Nat → Prop) (M0 : am_M) (Q : Option Value → am_M → Prop) (hs : s < 8) (hc0 : LnP M0 (173 + 13 * s) c)
    (hQ : ∀ M' x v3 v4, zF (sMy s) M0 M' → TrW M' s v wt → (∀ h, h < 48 → ∀ q, inS (my4 M' s h) q ↔ mfP wt v c h q) → (v3 = am_x ∨ ∃ r, v3 = .ref r) → jk v4 → am_P am_P0 (d + 2) (am_look tX8_findMay) 151 [.ref (173 + 13 * s), .int x, .int (nI 48), v3, v4] [] M' Q) :
    ∀ (m h : Nat), h + m = 48 → ∀ (M : am_M) (x : Int32) (v3 v4 : Value), zF (sMy s) M0 M → TrW M s v wt → lstP c h x → (∀ h', h' < h → ∀ q, inS (my4 M s h') q ↔ mfP wt v c h' q) → (v3 = am_x ∨ ∃ r, v3 = .ref r) → jk v4 → am_P am_P0 (d + 2) (am_look tX8_findMay) 58 [.ref (173 + 13 * s), .int x, .int (nI h), v3, v4] [] M Q := by
  obtain ⟨w, hwe⟩ : ∃ w, w = 173 + 13 * s := ⟨_, rfl⟩
  have hw : isTr w := ⟨s, hs, hwe⟩
  have e1 : 174 + 13 * s = w + 1 := by omega
  have e2 : 175 + 13 * s = w + 2 := by omega
  have e10 : 183 + 13 * s = w + 10 := by omega
  intro m
  induction m with
  | zero =>
    intro h hh M x v3 v4 hM hT hl hr j3 j4
    have e : h = 48 := by omega
    subst e
    have h0 := hQ M x v3 v4 hM hT hr j3 j4
    rw [hX8_findMay_58]
    simp +decide only [qX8_findMay_0, qX8_findMay_1, qX8_findMay_2, qX8_findMay_3, am_w1_i, am_w1_r, am_w1_x, am_w1_l, am_w1_w, va_rf_s, am_push_n, am_push_s, am_cs_0, am_cs_i, am_cs_l, am_cs_r, m_uI_K, m_uI_N, m_uI_R, m_uI_L, m_uI_I, m_uL_K, m_uL_N, m_uL_R, m_uL_I, m_uL_L, m_uR_K, m_uR_N, m_uR_I, m_uR_L, m_uR_R, true_and, and_true, true_implies, false_implies] at h0 ⊢
    exact h0
  | succ m ih =>
    intro h hh M x v3 v4 hM hT hl hr j3 j4
    have hL := hM.1
    have hc : LnP M w c := LnP_I (by rw [hwe]; exact hc0) (fun j => hM.2.2.2.1 _ _ (by omega) (fun s' hs' => by omega) (fun q => by unfold sMy at q; omega))
    have hlt : ¬ (48 : Int32) ≤ nI h := by rw [show (48 : Int32) = nI 48 from rfl, ni_le (by omega) (by omega)]; omega
    have hk := lt_ hL hw
    have k10 : mK M (w + 10) = 1 := by simp only [hk]
    have n10 : mN M (w + 10) = 192 := by simp only [hk]
    have k2 : mK M (w + 2) = 1 := by simp only [hk]
    have n2 : mN M (w + 2) = 4 := by simp only [hk]
    have eh4 : nI h * 4 = nI (4 * h) := by rw [show (4 : Int32) = nI 4 from rfl, ni_mul, Nat.mul_comm]
    have t4 : (4 : Int32).toInt.toNat = 4 := rfl
    have i2 : (0 : Int) ≤ (nI (4 * h)).toInt := by rw [ni_ti (by omega)]; omega
    have w3 : am_w1 v3 = v3 := by rcases j3 with rfl | ⟨r, rfl⟩ <;> rfl
    -- one more row
    have hstep : ∀ (M1 : am_M) (a j0 : Nat) (x' : Int32) (v4' : Value), zF (sMy s) M0 M1 → TrW M1 s v wt → (∀ j, mL M1 (w + 10) j = mL M (w + 10) j) → lstP c (h + 1) x' → (∀ q, inS (fun i => mL M1 a (j0 + i)) q ↔ mfP wt v c h q) → jk v4' → am_P am_P0 (d + 2) (am_look tX8_findMay) 58 [.ref w, .int x', .int (nI (h + 1)), .ref a, v4'] [] (uCL M1 a j0 (w + 10) (4 * h) 4) Q := by
      intro M1 a j0 x' v4' g1 hT1 hm1 hl' hrow j4'
      have z1 : zF (sMy s) M1 (uCL M1 a j0 (w + 10) (4 * h) 4) := zF_l g1.1 g1.2.1 (uCL_only _ _ _ _ _ _) (by omega) (fun j => e10.symm) (fun s' hs' => by omega)
      have eL : ∀ j, mL (uCL M1 a j0 (w + 10) (4 * h) 4) (w + 10) j = if 4 * h ≤ j ∧ j < 4 * h + 4 then mL M1 a (j0 + (j - 4 * h)) else mL M (w + 10) j := by
        intro j
        rw [← hm1 j]
        show (if w + 10 = w + 10 ∧ 4 * h ≤ j ∧ j < 4 * h + 4 then mL M1 a (j0 + (j - 4 * h)) else mL M1 (w + 10) j) = _
        by_cases q : 4 * h ≤ j ∧ j < 4 * h + 4
        · rw [if_pos ⟨rfl, q⟩, if_pos q]
        · rw [if_neg (fun z => q z.2), if_neg q]
      have h0 := ih (h + 1) (by omega) (uCL M1 a j0 (w + 10) (4 * h) 4) x' (.ref a) v4' (zF_trans g1 z1) (z1.2.2.2.2.2.2 s v wt hs hT1) hl' (fun h' hh' q => ?_) (Or.inr ⟨_, rfl⟩) j4'
      · rw [← hwe] at h0
        exact h0
      · by_cases eh : h' = h
        · subst eh
          rw [← hrow q]
          refine inS_ext (fun i hi => ?_) q
          show mL _ (183 + 13 * s) (4 * h' + i) = mL M1 a (j0 + i)
          rw [e10, eL, if_pos (by omega)]
          congr 1
          omega
        · rw [← hr h' (by omega) q]
          refine inS_ext (fun i hi => ?_) q
          show mL _ (183 + 13 * s) (4 * h' + i) = mL M (183 + 13 * s) (4 * h' + i)
          rw [e10, eL, if_neg (by omega)]
    -- with a fact at l
    have hfact : ∀ (l pl : Nat) (v3' v4' : Value), l ≤ h → c l pl → (∀ t p, l < t → t < h + 1 → ¬ c t p) → am_w1 v3' = v3' → jk v4' → am_P am_P0 (d + 2) (am_look tX8_findMay) 98 [.ref w, .int (nI l), .int (nI h), v3', v4'] [] M Q := by
      intro l pl v3' v4' hlh hpl hno w3' j4'
      have hpl2 := hc.2.1 l pl hpl
      have hml : mI M (w + 7) l = nI pl := by
        rcases hc.2.2 l hpl2.1 with ⟨y, y1, y2⟩ | ⟨y1, y2⟩
        · rw [y2, hc.1 l y pl y1 hpl]
        · exact absurd hpl (y1 pl)
      simp +decide (disch := omega) only [qX8_findMay_0, qX8_findMay_1, qX8_findMay_2, qX8_findMay_3, lt_ hL hw, hml, ni_in_t, ni_tn, am_w1_i, am_w1_r, am_w1_x, am_w1_l, am_w1_w, va_rf_s, am_push_n, am_push_s, am_cs_0, am_cs_i, am_cs_l, am_cs_r, m_uI_K, m_uI_N, m_uI_R, m_uI_L, m_uI_I, m_uL_K, m_uL_N, m_uL_R, m_uL_I, m_uL_L, m_uR_K, m_uR_N, m_uR_I, m_uR_L, m_uR_R, true_and, and_true]
      rw [← e1]
      refine c_x_ringsOf d s pl v wt M _ hL hs hpl2.2 hT.1 hT.2.1 hT.2.2.1 hM.2.1 (hT.2.2.2 pl hpl2.2) (fun r M1 g1 => ?_)
      have F1 := rgP_F hL hM.2.1 hs hpl2.2 hT g1
      have hM1 : zF (sMy s) M0 M1 := zF_trans hM (zF_r F1)
      have L1 := hM1.1
      have hrk := lay_ring L1 g1.2.2.2.2.2.1.1 g1.2.2.2.2.2.1.2
      have hk1 := lt_ L1 hw
      have k10' : mK M1 (w + 10) = 1 := by simp only [hk1]
      have n10' : mN M1 (w + 10) = 192 := by simp only [hk1]
      have el : (nI h - nI l) * 4 = nI (4 * (h - l)) := by rw [ni_sub (by omega), show (4 : Int32) = nI 4 from rfl, ni_mul, Nat.mul_comm]
      have i1 : (0 : Int) ≤ (nI (4 * (h - l))).toInt := by rw [ni_ti (by omega)]; omega
      have hl1 : ¬ nI l = -1 := nI_m1 (by omega)
      simp +decide (disch := omega) only [qX8_findMay_0, qX8_findMay_1, qX8_findMay_2, qX8_findMay_3, lt_ L1 hw, hrk, eh4, el, t4, i1, i2, jk_w j4', w3', ni_tn, ni_add1, am_w1_i, am_w1_r, am_w1_x, am_w1_l, am_w1_w, va_rf_s, am_push_n, am_push_s, am_cs_0, am_cs_i, am_cs_l, am_cs_r, m_uI_K, m_uI_N, m_uI_R, m_uI_L, m_uI_I, m_uL_K, m_uL_N, m_uL_R, m_uL_I, m_uL_L, m_uR_K, m_uR_N, m_uR_I, m_uR_L, m_uR_R, true_and, and_true]
      rw [br_q hl1]
      refine ⟨⟨by omega, by omega⟩, ?_⟩
      refine hstep M1 r (4 * (h - l)) (nI l) _ hM1 (F1.2.2.2.2.2.2 s v wt hs hT) (fun j => F1.2.2.2.2.1 _ _ (by omega)) (Or.inr ⟨l, pl, by omega, rfl, hpl, fun t p q1 q2 => hno t p q1 q2⟩) (fun q => ?_) (Or.inr ⟨_, rfl⟩)
      rw [g1.2.1 (h - l) (by omega) q]
      constructor
      · intro hb
        refine ⟨(ball_w hb).2, fun h1 p1 a1 a2 a3 => ?_⟩
        have e : h1 = l := by
          rcases Nat.lt_trichotomy h1 l with z | z | z
          · exact absurd hpl (a3 l z hlh pl)
          · exact z
          · exact absurd a2 (hno h1 p1 z (by omega))
        subst e
        rw [hc.1 _ p1 pl a2 hpl]
        exact hb
      · intro hb
        exact hb.2 l pl hlh hpl (fun t z1 z2 p => hno t p z1 (by omega))
    rw [← hwe]
    rw [hX8_findMay_58]
    rcases hc.2.2 h (by omega) with ⟨p, hp, hm⟩ | ⟨hp, hm⟩
    · have hp2 := (hc.2.1 h p hp).2
      have h9 := hfact h p v3 v4 (Nat.le_refl _) hp (fun t p q1 q2 => by omega) w3 j4
      simp +decide (disch := omega) only [qX8_findMay_0, qX8_findMay_1, qX8_findMay_2, qX8_findMay_3, lt_ hL hw, hm, ni_in_t, ni_tn, am_w1_i, am_w1_r, am_w1_x, am_w1_l, am_w1_w, va_rf_s, am_push_n, am_push_s, am_cs_0, am_cs_i, am_cs_l, am_cs_r, m_uI_K, m_uI_N, m_uI_R, m_uI_L, m_uI_I, m_uL_K, m_uL_N, m_uL_R, m_uL_I, m_uL_L, m_uR_K, m_uR_N, m_uR_I, m_uR_L, m_uR_R, true_and, and_true] at h9 ⊢
      rw [br_n hlt, br_q (nI_m1 (by omega)), br_q (nI_m1 (by omega))]
      exact h9
    · rcases hl with ⟨rfl, hno⟩ | ⟨l, pl, hl1, rfl, hpl, hno⟩
      · simp +decide (disch := omega) only [qX8_findMay_0, qX8_findMay_1, qX8_findMay_2, qX8_findMay_3, lt_ hL hw, hm, eh4, t4, i2, jk_w j4, w3, ni_in_t, ni_tn, ni_add1, am_w1_i, am_w1_r, am_w1_x, am_w1_l, am_w1_w, va_rf_s, am_push_n, am_push_s, am_cs_0, am_cs_i, am_cs_l, am_cs_r, m_uI_K, m_uI_N, m_uI_R, m_uI_L, m_uI_I, m_uL_K, m_uL_N, m_uL_R, m_uL_I, m_uL_L, m_uR_K, m_uR_N, m_uR_I, m_uR_L, m_uR_R, true_and, and_true, not_true_eq_false, not_false_eq_true, true_implies, false_implies]
        rw [br_n hlt]
        refine ⟨by omega, ?_⟩
        refine hstep M (w + 2) 0 (-1) _ hM hT (fun _ => rfl) (Or.inl ⟨rfl, fun t p ht => ?_⟩) (fun q => ?_) (Or.inr ⟨_, rfl⟩)
        · by_cases et : t = h
          · subst et; exact hp p
          · exact hno t p (by omega)
        · have h0 := hT.2.2.1 q
          rw [e2] at h0
          refine Iff.trans (inS_ext (fun i _ => by rw [Nat.zero_add]) q) (h0.trans ?_)
          refine ⟨fun z => ⟨z, fun h1 p1 a1 a2 => ?_⟩, fun z => z.1⟩
          by_cases et : h1 = h
          · subst et; exact absurd a2 (hp p1)
          · exact absurd a2 (hno h1 p1 (by omega))
      · have h9 := hfact l pl v3 v4 (by omega) hpl (fun t p q1 q2 => by
          by_cases et : t = h
          · subst et; exact hp p
          · exact hno t p q1 (by omega)) w3 j4
        simp +decide (disch := omega) only [qX8_findMay_0, qX8_findMay_1, qX8_findMay_2, qX8_findMay_3, lt_ hL hw, hm, ni_in_t, ni_tn, am_w1_i, am_w1_r, am_w1_x, am_w1_l, am_w1_w, va_rf_s, am_push_n, am_push_s, am_cs_0, am_cs_i, am_cs_l, am_cs_r, m_uI_K, m_uI_N, m_uI_R, m_uI_L, m_uI_I, m_uL_K, m_uL_N, m_uL_R, m_uL_I, m_uL_L, m_uR_K, m_uR_N, m_uR_I, m_uR_L, m_uR_R, true_and, and_true, not_true_eq_false, not_false_eq_true, true_implies, false_implies] at h9 ⊢
        rw [br_n hlt, br_q (nI_m1 (by omega))]
        exact h9
