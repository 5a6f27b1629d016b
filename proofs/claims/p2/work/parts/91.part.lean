/-! the class: two sets -/
def mkO : Option Bool → Int32
  | none => 0
  | some true => 1
  | some false => 2
def sCo (s a _j : Nat) : Prop := a = 184 + 13 * s ∨ a = 185 + 13 * s
/-- which sayings can't be in one set -/
def KY (wt : Nat → Prop) (v : Nat) (Y : List Sy) (i j : Nat) : Prop := ¬ i = j ∧ ∃ y y', Y[i]? = some y ∧ Y[j]? = some y' ∧ ¬ gowY wt v y y'
def gY (wt : Nat → Prop) (v : Nat) (snd : Nat → Bool → Prop) (B : List Fct) (Y : List Sy) (i : Nat) : Prop := ∃ y, Y[i]? = some y ∧ goodY wt v snd B y
theorem hd_symm (a b : Nat) : hd_ a b = hd_ b a := by unfold hd_; split <;> split <;> omega
theorem gow_symm {wt : Nat → Prop} {v : Nat} {y y' : Sy} (h : gowY wt v y y') : gowY wt v y' y := by
  unfold gowY at *
  rw [hd_symm]
  exact wit_symm h
theorem KY_symm {wt : Nat → Prop} {v : Nat} {Y : List Sy} (i j : Nat) (h : KY wt v Y i j) : KY wt v Y j i := by
  obtain ⟨h1, y, y', h2, h3, h4⟩ := h
  exact ⟨fun e => h1 e.symm, y', y, h3, h2, fun q => h4 (gow_symm q)⟩
theorem KY_y {wt : Nat → Prop} {v : Nat} {Y : List Sy} {i j : Nat} {y y' : Sy} (h : Y[i]? = some y) (h' : Y[j]? = some y') : KY wt v Y i j ↔ ¬ i = j ∧ ¬ gowY wt v y y' := by
  constructor
  · rintro ⟨h1, z, z', h2, h3, h4⟩
    cases h.symm.trans h2
    cases h'.symm.trans h3
    exact ⟨h1, h4⟩
  · rintro ⟨h1, h4⟩
    exact ⟨h1, y, y', h, h', h4⟩
theorem gY_y {wt : Nat → Prop} {v : Nat} {snd : Nat → Bool → Prop} {B : List Fct} {Y : List Sy} {i : Nat} {y : Sy} (h : Y[i]? = some y) : gY wt v snd B Y i ↔ goodY wt v snd B y := by
  constructor
  · rintro ⟨z, h1, h2⟩; cases h.symm.trans h1; exact h2
  · intro h2; exact ⟨y, h, h2⟩
/-- marks and queue -/
def CoX (M : am_M) (s n : Nat) (S : Nat → Option Bool) (qu : Nat → Nat) (m : Nat) : Prop := (∀ i, i < n → mI M (184 + 13 * s) i = mkO (S i)) ∧ ∀ a, a < m → mI M (185 + 13 * s) a = nI (qu a)
theorem CoX_z {M M' : am_M} {s n m : Nat} {S : Nat → Option Bool} {qu : Nat → Nat} (h : CoX M s n S qu m) (h1 : ∀ a j, a = 184 + 13 * s ∨ a = 185 + 13 * s → mI M' a j = mI M a j) : CoX M' s n S qu m := ⟨fun i hi => by rw [h1 _ _ (Or.inl rfl)]; exact h.1 i hi, fun a ha => by rw [h1 _ _ (Or.inr rfl)]; exact h.2 a ha⟩
theorem colQ_m {n : Nat} {K : Nat → Nat → Prop} {gd : Nat → Prop} {S0 : Nat → Option Bool} {k : Nat} {S : Nat → Option Bool} {qu : Nat → Nat} {m : Nat} (h : colQ n K gd S0 k S qu m) : m ≤ n := by
  rw [← h.2.2.2.2.2.1]
  exact cnt_le _ _
theorem l_x_push2 (d s g z v k : Nat) (wt : Nat → Prop) (dep : Nat → Nat) (dr ld : Nat) (B : List Fct) (Y : List Sy) (gd : Nat → Prop) (S0 : Nat → Option Bool) (M0 : am_M) (Q : Option Value → am_M → Prop) (x1 x2 : Int32) (i : Nat) (y : Sy) (b : Bool) (hy : Y[i]? = some y) (hs : s < 8) (hg : isSh g) (hz : z = 2 ∨ z = 83)
    (hB : ∀ M', zF (sCo s) M0 M' → (∀ c, colV Y.length (KY wt v Y) gd c → ¬ colX Y.length S0 c) → Q (some (.int (-1))) M')
    (hN : ∀ M' S qu m v6 v7, zF (sCo s) M0 M' → TkX M' s g z v wt dep dr ld B Y → CoX M' s Y.length S qu m → colQ Y.length (KY wt v Y) gd S0 (k + 1) S qu m → jk v6 → jk v7 → am_P am_P0 (d + 3) (am_look tX8_pushApart) 5 [.ref (173 + 13 * s), .int x1, .int x2, .int (nI m), .int (nI (k + 1)), .int (nI i), v6, v7] [] M' Q) :
    ∀ (r j : Nat), j + r = Y.length → ∀ (M : am_M) (S : Nat → Option Bool) (qu : Nat → Nat) (m : Nat) (v7 : Value), zF (sCo s) M0 M → TkX M s g z v wt dep dr ld B Y → CoX M s Y.length S qu m → colQ Y.length (KY wt v Y) gd S0 k S qu m → k < m → qu k = i → S i = some b → (∀ j', j' < j → KY wt v Y i j' → S j' = some (!b)) → jk v7 → am_P am_P0 (d + 3) (am_look tX8_pushApart) 30 [.ref (173 + 13 * s), .int x1, .int x2, .int (nI m), .int (nI k), .int (nI i), .int (nI j), v7] [] M Q := by
  obtain ⟨w, hwe⟩ : ∃ w, w = 173 + 13 * s := ⟨_, rfl⟩
  have hw : isTr w := ⟨s, hs, hwe⟩
  have hgl := isSh_lt hg
  have e1 : 174 + 13 * s = w + 1 := by omega
  have e11 : 184 + 13 * s = w + 11 := by omega
  have e12 : 185 + 13 * s = w + 12 := by omega
  have hil := (List.getElem?_eq_some_iff.mp hy).1
  have nS : ∀ a j, a < 164 → ¬ sCo s a j := fun a j ha q => by unfold sCo at q; omega
  intro r
  induction r with
  | zero =>
    intro j hj M S qu m v7 hM hT hC hq hkm hqk hSi hd j7
    have h48 := hT.2.2.2.2.1
    have hR := hT.2.1.1
    have hmn := colQ_m hq
    have e : j = Y.length := by omega
    subst e
    have hle : nI Y.length ≤ nI Y.length := (ni_le (by omega) (by omega)).mpr (Nat.le_refl _)
    have h0 := hN M S qu m (.int (nI Y.length)) v7 hM hT hC (colQ_next hq hkm (fun j b' hj hK hb => by
      rw [hqk] at hK hb
      rw [hSi] at hb
      cases hb
      exact hd j hj hK)) (Or.inr ⟨_, rfl⟩) j7
    rw [← hwe] at hR h0 ⊢
    rw [hX8_pushApart_30]
    simp +decide only [qX8_pushApart_0, qX8_pushApart_1, qX8_pushApart_2, lt_ hM.1 hw, lw_ hM.1 hg, hR, hT.2.2.2.1, ni_add1, am_w1_i, am_w1_r, am_w1_x, am_w1_l, am_w1_w, va_rf_s, am_push_n, am_push_s, am_cs_0, am_cs_i, am_cs_l, am_cs_r, m_uI_K, m_uI_N, m_uI_R, m_uI_L, m_uI_I, m_uL_K, m_uL_N, m_uL_R, m_uL_I, m_uL_L, m_uR_K, m_uR_N, m_uR_I, m_uR_L, m_uR_R, true_and, and_true]
    rw [br_p hle]
    exact h0
  | succ r ih =>
    intro j hj M S qu m v7 hM hT hC hq hkm hqk hSi hd j7
    have hL := hM.1
    have h48 := hT.2.2.2.2.1
    have hR := hT.2.1.1
    have hmn := colQ_m hq
    have hlt : ¬ nI Y.length ≤ nI j := by rw [ni_le (by omega) (by omega)]; omega
    obtain ⟨y', hy'⟩ : ∃ y, Y[j]? = some y := ⟨Y[j]'(by omega), List.getElem?_eq_getElem (by omega)⟩
    obtain ⟨⟨y1, y2⟩, y3, y4, y5⟩ := hT.2.2.2.2.2 i y hy
    obtain ⟨⟨z1, z2⟩, z3, z4, z5⟩ := hT.2.2.2.2.2 j y' hy'
    have hab := fun Q => c_absd (d + 2) y.1 y'.1 M Q (by omega) (by omega)
    have hK := KY_y (wt := wt) (v := v) hy hy'
    rw [← hwe] at hR ⊢
    rw [hX8_pushApart_30]
    simp +decide (disch := omega) only [qX8_pushApart_0, qX8_pushApart_1, qX8_pushApart_2, lt_ hL hw, lw_ hL hg, hR, hT.2.2.2.1, y3, y4, z3, z4, hab, ni_in_t, ni_tn, ni_add1, am_w1_i, am_w1_r, am_w1_x, am_w1_l, am_w1_w, va_rf_s, am_push_n, am_push_s, am_cs_0, am_cs_i, am_cs_l, am_cs_r, m_uI_K, m_uI_N, m_uI_R, m_uI_L, m_uI_I, m_uL_K, m_uL_N, m_uL_R, m_uL_I, m_uL_L, m_uR_K, m_uR_N, m_uR_I, m_uR_L, m_uR_R, true_and, and_true]
    rw [br_n hlt]
    -- go on with the next
    have skip : ∀ M1 v7', zF (sCo s) M0 M1 → TkX M1 s g z v wt dep dr ld B Y → CoX M1 s Y.length S qu m → (KY wt v Y i j → S j = some (!b)) → jk v7' → am_P am_P0 (d + 3) (am_look tX8_pushApart) 30 [.ref w, .int x1, .int x2, .int (nI m), .int (nI k), .int (nI i), .int (nI (j + 1)), v7'] [] M1 Q := by
      intro M1 v7' g1 hT1 hC1 hj1 j7'
      have h0 := ih (j + 1) (by omega) M1 S qu m v7' g1 hT1 hC1 hq hkm hqk hSi (fun j' hj' hKj => by
        by_cases e : j' = j
        · subst e; exact hj1 hKj
        · exact hd j' (by omega) hKj) j7'
      rw [← hwe] at h0
      exact h0
    by_cases c0 : j = i
    · rw [br_p (by rw [c0])]
      exact skip M _ hM hT hC (fun q => absurd c0.symm q.1) (Or.inr ⟨_, rfl⟩)
    · rw [br_n (fun q => c0 ((ni_eq (by omega) (by omega)).mp q)), ← e1]
      refine c_x_isWithin d s y.2.1 y'.2.1 (hd_ y.1 y'.1) v wt M _ hL hM.2.1 hs y2 z2 (hd_lt y1 z1) hT.1 (fun M1 g1 => ?_)
      have hM1 : zF (sCo s) M0 M1 := zF_trans hM (zF_r g1)
      have L1 := hM1.1
      have hT1 := TkX_z hs hg hz hT (zF_r g1 : zF (sCo s) M M1) nS
      have hC1 : CoX M1 s Y.length S qu m := CoX_z hC (fun a j q => g1.2.2.2.1 a j (by omega) (fun s' hs' => by omega))
      by_cases c1 : gowY wt v y y'
      · have h0 := skip M1 (.int (nI (hd_ y.1 y'.1))) hM1 hT1 hC1 (fun q => absurd c1 (hK.mp q).2) (Or.inr ⟨_, rfl⟩)
        have hwi : tI (wit wt v y.2.1 y'.2.1 (hd_ y.1 y'.1)) = 1 := tI_t c1
        rw [hwi]
        simp +decide only [qX8_pushApart_0, qX8_pushApart_1, qX8_pushApart_2, ni_add1, am_w1_i, am_w1_r, am_w1_x, am_w1_l, am_w1_w, va_rf_s, am_push_n, am_push_s, am_cs_0, am_cs_i, am_cs_l, am_cs_r, m_uI_K, m_uI_N, m_uI_R, m_uI_L, m_uI_I, m_uL_K, m_uL_N, m_uL_R, m_uL_I, m_uL_L, m_uR_K, m_uR_N, m_uR_I, m_uR_L, m_uR_R, true_and, and_true, true_implies, false_implies]
        exact h0
      · have hwi : tI (wit wt v y.2.1 y'.2.1 (hd_ y.1 y'.1)) = 0 := tI_f c1
        have hKij : KY wt v Y i j := hK.mpr ⟨fun e => c0 e.symm, c1⟩
        have mi : mI M1 (w + 11) i = mkO (some b) := by rw [← e11, hC1.1 i hil, hSi]
        have mj : mI M1 (w + 11) j = mkO (S j) := by rw [← e11]; exact hC1.1 j (by omega)
        rw [hwi]
        simp +decide (disch := omega) only [qX8_pushApart_0, qX8_pushApart_1, qX8_pushApart_2, lt_ L1 hw, mi, mj, ni_in_t, ni_tn, ni_add1, am_w1_i, am_w1_r, am_w1_x, am_w1_l, am_w1_w, va_rf_s, am_push_n, am_push_s, am_cs_0, am_cs_i, am_cs_l, am_cs_r, m_uI_K, m_uI_N, m_uI_R, m_uI_L, m_uI_I, m_uL_K, m_uL_N, m_uL_R, m_uL_I, m_uL_L, m_uR_K, m_uR_N, m_uR_I, m_uR_L, m_uR_R, true_and, and_true, true_implies, false_implies]
        cases hSj : S j with
        | some b' =>
          by_cases eb : b' = b
          · have h0 := hB M1 hM1 (colQ_bad hq hkm (j := j) (b := b) (by omega) (by rw [hqk]; exact hKij) (by rw [hqk]; exact hSi) (by rw [hSj, eb]))
            rw [br_r (by rw [eb])]
            exact h0
          · have h0 := skip M1 (.int (nI (hd_ y.1 y'.1))) hM1 hT1 hC1 (fun q => by rw [hSj]; cases b <;> cases b' <;> simp_all) (Or.inr ⟨_, rfl⟩)
            have hne : ¬ mkO (some b') = mkO (some b) := by cases b <;> cases b' <;> first | exact absurd rfl eb | decide
            have hn0 : ¬ mkO (some b') = 0 := by cases b' <;> decide
            rw [br_q hne, br_q hn0]
            exact h0
        | none =>
          have hne : ¬ mkO none = mkO (some b) := by cases b <;> decide
          have e3 : 3 - mkO (some b) = mkO (some !b) := by cases b <;> decide
          have hp := colQ_push hq hkm (j := j) (b := b) (by omega) (by rw [hqk]; exact hKij) (by rw [hqk]; exact hSi) hSj
          have hmn' := colQ_m hp
          have z1' : zF (sCo s) M1 (uI M1 (w + 11) j (mkO (some !b))) := zF_i L1 hM1.2.1 _ (Or.inl e11.symm) (fun s' hs' => by omega)
          have z2' : zF (sCo s) (uI M1 (w + 11) j (mkO (some !b))) (uI (uI M1 (w + 11) j (mkO (some !b))) (w + 12) m (nI j)) := zF_i z1'.1 z1'.2.1 _ (Or.inr e12.symm) (fun s' hs' => by omega)
          have h0 := ih (j + 1) (by omega) (uI (uI M1 (w + 11) j (mkO (some !b))) (w + 12) m (nI j)) _ _ (m + 1) (.int (nI (hd_ y.1 y'.1))) (zF_trans hM1 (zF_trans z1' z2')) (TkX_z hs hg hz (TkX_z hs hg hz hT1 z1' nS) z2' nS) ⟨fun i' hi' => ?_, fun a ha => ?_⟩ hp (by omega) (by rw [if_neg (by omega)]; exact hqk) (by rw [if_neg (fun e => c0 e.symm)]; exact hSi) (fun j' hj' hKj => by
            by_cases e : j' = j
            · rw [if_pos e]
            · rw [if_neg e]; exact hd j' (by omega) hKj) (Or.inr ⟨_, rfl⟩)
          · have n1 : ¬ (w + 11 = w + 12) := by omega
            rw [br_q hne, br_r (show mkO none = 0 from rfl)]
            simp +decide (disch := omega) only [qX8_pushApart_0, qX8_pushApart_1, qX8_pushApart_2, lt_ L1 hw, mi, e3, ni_in_t, ni_tn, ni_add1, am_w1_i, am_w1_r, am_w1_x, am_w1_l, am_w1_w, va_rf_s, am_push_n, am_push_s, am_cs_0, am_cs_i, am_cs_l, am_cs_r, m_uI_K, m_uI_N, m_uI_R, m_uI_L, m_uI_I, m_uL_K, m_uL_N, m_uL_R, m_uL_I, m_uL_L, m_uR_K, m_uR_N, m_uR_I, m_uR_L, m_uR_R, true_and, and_true]
            rw [br_n (show ¬ (48 : Int32) ≤ nI m by rw [show (48 : Int32) = nI 48 from rfl, ni_le (by omega) (by omega)]; omega)]
            rw [← hwe] at h0
            exact h0
          · rw [m_uI_I, if_neg (by omega), m_uI_I, ← e11]
            by_cases e : i' = j
            · rw [if_pos ⟨rfl, e⟩, if_pos e]
            · rw [if_neg (fun q => e q.2), if_neg e]; exact hC1.1 i' hi'
          · rw [m_uI_I]
            by_cases e : a = m
            · rw [if_pos ⟨e12, e⟩, if_pos e]
            · rw [if_neg (fun q => e q.2), m_uI_I, if_neg (by omega), if_neg e]; exact hC1.2 a (by omega)
theorem l_x_push1 (d s g z v : Nat) (wt : Nat → Prop) (dep : Nat → Nat) (dr ld : Nat) (B : List Fct) (Y : List Sy) (gd : Nat → Prop) (S0 : Nat → Option Bool) (M0 : am_M) (Q : Option Value → am_M → Prop) (x1 x2 : Int32) (hs : s < 8) (hg : isSh g) (hz : z = 2 ∨ z = 83)
    (hB : ∀ M', zF (sCo s) M0 M' → (∀ c, colV Y.length (KY wt v Y) gd c → ¬ colX Y.length S0 c) → Q (some (.int (-1))) M')
    (hQ : ∀ M' S qu m, zF (sCo s) M0 M' → TkX M' s g z v wt dep dr ld B Y → CoX M' s Y.length S qu m → colQ Y.length (KY wt v Y) gd S0 m S qu m → Q (some (.int (nI m))) M') :
    ∀ (r k : Nat), k + r = Y.length → ∀ (M : am_M) (S : Nat → Option Bool) (qu : Nat → Nat) (m : Nat) (v5 v6 v7 : Value), zF (sCo s) M0 M → TkX M s g z v wt dep dr ld B Y → CoX M s Y.length S qu m → colQ Y.length (KY wt v Y) gd S0 k S qu m → jk v5 → jk v6 → jk v7 → am_P am_P0 (d + 3) (am_look tX8_pushApart) 5 [.ref (173 + 13 * s), .int x1, .int x2, .int (nI m), .int (nI k), v5, v6, v7] [] M Q := by
  obtain ⟨w, hwe⟩ : ∃ w, w = 173 + 13 * s := ⟨_, rfl⟩
  have hw : isTr w := ⟨s, hs, hwe⟩
  have e12 : 185 + 13 * s = w + 12 := by omega
  have hend : ∀ (k : Nat) (M : am_M) (S : Nat → Option Bool) (qu : Nat → Nat) (m : Nat) (v5 v6 v7 : Value), zF (sCo s) M0 M → TkX M s g z v wt dep dr ld B Y → CoX M s Y.length S qu m → colQ Y.length (KY wt v Y) gd S0 k S qu m → k = m → am_P am_P0 (d + 3) (am_look tX8_pushApart) 5 [.ref (173 + 13 * s), .int x1, .int x2, .int (nI m), .int (nI k), v5, v6, v7] [] M Q := by
    intro k M S qu m v5 v6 v7 hM hT hC hq e
    subst e
    have h48 := hT.2.2.2.2.1
    have hmn := colQ_m hq
    have hle : nI k ≤ nI k := (ni_le (by omega) (by omega)).mpr (Nat.le_refl _)
    rw [hX8_pushApart_5]
    simp +decide only [qX8_pushApart_0, qX8_pushApart_1, qX8_pushApart_2, am_w1_i, am_w1_r, am_w1_x, am_w1_l, am_w1_w, va_rf_s, am_push_n, am_push_s, am_cs_0, am_cs_i, am_cs_l, am_cs_r, m_uI_K, m_uI_N, m_uI_R, m_uI_L, m_uI_I, m_uL_K, m_uL_N, m_uL_R, m_uL_I, m_uL_L, m_uR_K, m_uR_N, m_uR_I, m_uR_L, m_uR_R, true_and, and_true]
    rw [br_p hle]
    exact hQ M S qu k hM hT hC hq
  intro r
  induction r with
  | zero =>
    intro k hk M S qu m v5 v6 v7 hM hT hC hq _ _ _
    have hmn := colQ_m hq
    have hkm := hq.2.2.2.2.2.2.1
    exact hend k M S qu m v5 v6 v7 hM hT hC hq (by omega)
  | succ r ih =>
    intro k hk M S qu m v5 v6 v7 hM hT hC hq j5 j6 j7
    have hmn := colQ_m hq
    have hkm := hq.2.2.2.2.2.2.1
    by_cases e : k = m
    · exact hend k M S qu m v5 v6 v7 hM hT hC hq e
    · have hlt2 : k < m := by omega
      have h48 := hT.2.2.2.2.1
      have hlt : ¬ nI m ≤ nI k := by rw [ni_le (by omega) (by omega)]; omega
      obtain ⟨q1, q2⟩ := hq.1 k hlt2
      obtain ⟨y, hy⟩ : ∃ y, Y[qu k]? = some y := ⟨Y[qu k]'q1, List.getElem?_eq_getElem q1⟩
      obtain ⟨b, hb⟩ : ∃ b, S (qu k) = some b := by
        cases h : S (qu k) with
        | none => exact absurd h q2
        | some b => exact ⟨b, rfl⟩
      have mk : mI M (w + 12) k = nI (qu k) := by rw [← e12]; exact hC.2 k hlt2
      have h0 := l_x_push2 d s g z v k wt dep dr ld B Y gd S0 M0 Q x1 x2 (qu k) y b hy hs hg hz hB (fun M' S' qu' m' v6' v7' a1 a2 a3 a4 a5 a6 => ih (k + 1) (by omega) M' S' qu' m' _ v6' v7' a1 a2 a3 a4 (Or.inr ⟨_, rfl⟩) a5 a6) Y.length 0 (by omega) M S qu m v7 hM hT hC hq hlt2 rfl hb (fun j' hj' => by omega) j7
      rw [← hwe] at h0 ⊢
      rw [hX8_pushApart_5]
      simp +decide (disch := omega) only [qX8_pushApart_0, qX8_pushApart_1, qX8_pushApart_2, lt_ hM.1 hw, mk, jk_w j5, ni_in_t, ni_tn, am_w1_i, am_w1_r, am_w1_x, am_w1_l, am_w1_w, va_rf_s, am_push_n, am_push_s, am_cs_0, am_cs_i, am_cs_l, am_cs_r, m_uI_K, m_uI_N, m_uI_R, m_uI_L, m_uI_I, m_uL_K, m_uL_N, m_uL_R, m_uL_I, m_uL_L, m_uR_K, m_uR_N, m_uR_I, m_uR_L, m_uR_R, true_and, and_true]
      rw [br_n hlt, br_n (show ¬ (48 : Int32) ≤ nI k by rw [show (48 : Int32) = nI 48 from rfl, ni_le (by omega) (by omega)]; omega)]
      exact h0
theorem c_x_pushApart (d s g z v k m : Nat) (wt : Nat → Prop) (dep : Nat → Nat) (dr ld : Nat) (B : List Fct) (Y : List Sy) (gd : Nat → Prop) (S0 S : Nat → Option Bool) (qu : Nat → Nat) (M : am_M) (Q : Option Value → am_M → Prop) (hL : Lay M) (hI : RInv M) (hs : s < 8) (hg : isSh g) (hz : z = 2 ∨ z = 83) (hT : TkX M s g z v wt dep dr ld B Y) (hC : CoX M s Y.length S qu m) (hq : colQ Y.length (KY wt v Y) gd S0 k S qu m)
    (hB : ∀ M', zF (sCo s) M M' → (∀ c, colV Y.length (KY wt v Y) gd c → ¬ colX Y.length S0 c) → Q (some (.int (-1))) M')
    (hQ : ∀ M' S qu m, zF (sCo s) M M' → TkX M' s g z v wt dep dr ld B Y → CoX M' s Y.length S qu m → colQ Y.length (KY wt v Y) gd S0 m S qu m → Q (some (.int (nI m))) M') : am_E am_P0 (d + 3) 95 [.ref (173 + 13 * s), .int (nI k), .int (nI m)] M Q := by
  have hmn := colQ_m hq
  have hkm := hq.2.2.2.2.2.2.1
  rw [eX8_pushApart]
  simp +decide only [qX8_pushApart_0, qX8_pushApart_1, qX8_pushApart_2, am_w1_i, am_w1_r, am_w1_x, am_w1_l, am_w1_w, va_rf_s, am_push_n, am_push_s, am_cs_0, am_cs_i, am_cs_l, am_cs_r, m_uI_K, m_uI_N, m_uI_R, m_uI_L, m_uI_I, m_uL_K, m_uL_N, m_uL_R, m_uL_I, m_uL_L, m_uR_K, m_uR_N, m_uR_I, m_uR_L, m_uR_R, true_and, and_true]
  exact l_x_push1 d s g z v wt dep dr ld B Y gd S0 M Q (nI k) (nI m) hs hg hz hB hQ (Y.length - k) k (by omega) M S qu m am_x am_x am_x (zF_refl hL hI) hT hC hq (Or.inl rfl) (Or.inl rfl) (Or.inl rfl)
