/-! the class: can the sayings be parted -/
noncomputable def sB (gd : Nat → Prop) (j : Nat) : Option Bool := if dB (gd j) = true then none else some false
theorem sB_t {gd : Nat → Prop} {j : Nat} (h : gd j) : sB gd j = none := if_pos ((dB_t).mpr h)
theorem sB_f {gd : Nat → Prop} {j : Nat} (h : ¬ gd j) : sB gd j = some false := if_neg (fun q => h ((dB_t).mp q))
theorem colQ_noK {n : Nat} {K : Nat → Nat → Prop} {gd : Nat → Prop} {S0 : Nat → Option Bool} {S : Nat → Option Bool} {qu : Nat → Nat} {m : Nat} (h : colQ n K gd S0 m S qu m) (hK : ∀ i j, i < n → j < n → ¬ K i j) (h0 : ∀ i, i < n → S0 i = some false → ¬ gd i) : ∀ i, i < n → S i = some false → ¬ gd i := by
  intro i hi hS hg
  have hC := colQ_end h
  have e := h.2.2.2.2.1 (fun j => dB (gd j) && !dB (S0 j = some false)) ⟨fun a b ha hb hk => absurd hk (hK a b ha hb), fun a ha q => by
    rw [Bool.and_eq_true] at q
    exact (dB_t).mp q.1⟩ (fun a b ha hb => by
    have hb2 := h.2.2.2.2.2.2.2 a b hb
    cases b with
    | true =>
      have hga := hC.2 a ha hb2
      rw [Bool.and_eq_true]
      refine ⟨(dB_t).mpr hga, ?_⟩
      rw [Bool.not_eq_true', ← Bool.not_eq_true]
      intro q
      rw [(dB_t).mp q] at hb
      cases hb
    | false =>
      dsimp only
      rw [(dB_t).mpr hb]
      simp) i false hi hS
  dsimp only at e
  rw [(dB_t).mpr hg, Bool.true_and, Bool.not_eq_false'] at e
  exact h0 i hi ((dB_t).mp e) hg
/-- the queue at the beginning -/
def QB (gd : Nat → Prop) (i : Nat) (qu : Nat → Nat) (m : Nat) : Prop := (∀ a, a < m → qu a < i ∧ ¬ gd (qu a)) ∧ (∀ j, j < i → ¬ gd j → ∃ a, a < m ∧ qu a = j) ∧ m = cnt (fun j => !dB (gd j)) i
theorem QB_0 (gd : Nat → Prop) (qu : Nat → Nat) : QB gd 0 qu 0 := ⟨fun a h => by omega, fun a h => by omega, rfl⟩
theorem QB_t {gd : Nat → Prop} {i : Nat} {qu : Nat → Nat} {m : Nat} (h : QB gd i qu m) (hg : gd i) : QB gd (i + 1) qu m := by
  refine ⟨fun a ha => ⟨by have := (h.1 a ha).1; omega, (h.1 a ha).2⟩, fun j hj hn => ?_, ?_⟩
  · by_cases e : j = i
    · subst e; exact absurd hg hn
    · exact h.2.1 j (by omega) hn
  · rw [cnt_f (by rw [(dB_t).mpr hg]; decide)]
    exact h.2.2
theorem QB_f {gd : Nat → Prop} {i : Nat} {qu : Nat → Nat} {m : Nat} (h : QB gd i qu m) (hg : ¬ gd i) : QB gd (i + 1) (fun a => if a = m then i else qu a) (m + 1) := by
  have hq : ∀ a, a < m → (if a = m then i else qu a) = qu a := fun a ha => if_neg (by omega)
  refine ⟨fun a ha => ?_, fun j hj hn => ?_, ?_⟩
  · dsimp only
    by_cases e : a = m
    · rw [if_pos e]; exact ⟨by omega, hg⟩
    · rw [if_neg e]
      have := h.1 a (by omega)
      exact ⟨by omega, this.2⟩
  · by_cases e : j = i
    · exact ⟨m, by omega, by dsimp only; rw [if_pos rfl, e]⟩
    · obtain ⟨a, q1, q2⟩ := h.2.1 j (by omega) hn
      exact ⟨a, by omega, by dsimp only; rw [hq a q1]; exact q2⟩
  · rw [cnt_t (by
      have : dB (gd i) = false := by rw [← Bool.not_eq_true]; exact fun q => hg ((dB_t).mp q)
      rw [this]; rfl), ← h.2.2]
theorem QB_Q {n : Nat} {K : Nat → Nat → Prop} {gd : Nat → Prop} {qu : Nat → Nat} {m : Nat} (h : QB gd n qu m) : colQ n K gd (sB gd) 0 (sB gd) qu m := by
  refine ⟨fun a ha => ⟨(h.1 a ha).1, by rw [sB_f (h.1 a ha).2]; simp⟩, fun i hi hs => ?_, fun a j b ha => by omega, fun i hi hg => sB_f hg, fun c _ hX => hX, ?_, by omega, fun i b q => q⟩
  · by_cases hg : gd i
    · exact absurd (sB_t hg) hs
    · exact h.2.1 i hi hg
  · rw [h.2.2]
    refine cnt_ext (fun t ht => ?_)
    by_cases hg : gd t
    · rw [sB_t hg, (dB_t).mpr hg]; rfl
    · rw [sB_f hg]
      have : dB (gd t) = false := by rw [← Bool.not_eq_true]; exact fun q => hg ((dB_t).mp q)
      rw [this]; rfl
theorem QB_m {gd : Nat → Prop} {i : Nat} {qu : Nat → Nat} {m : Nat} (h : QB gd i qu m) : m ≤ i := by rw [h.2.2]; exact cnt_le _ _
theorem sB_X {n : Nat} {K : Nat → Nat → Prop} {gd : Nat → Prop} {c : Nat → Bool} (h : colV n K gd c) : colX n (sB gd) c := by
  intro i b hi hb
  by_cases hg : gd i
  · rw [sB_t hg] at hb; cases hb
  · rw [sB_f hg] at hb
    cases hb
    rw [← Bool.not_eq_true]
    exact fun q => hg (h.2 i hi q)
theorem l_x_isMarked (d s g z v m x : Nat) (wt : Nat → Prop) (dep : Nat → Nat) (dr ld : Nat) (B : List Fct) (Y : List Sy) (S : Nat → Option Bool) (qu : Nat → Nat) (M : am_M) (Q : Option Value → am_M → Prop) (hL : Lay M) (hs : s < 8) (hg : isSh g) (hT : TkX M s g z v wt dep dr ld B Y) (hC : CoX M s Y.length S qu m) :
    ∀ (r i : Nat), i + r = Y.length → (∀ k, k < i → ¬ mkO (S k) = nI x) → (am_P am_P0 d (am_look tX8_isMarked) 2 [.ref (173 + 13 * s), .int (nI x), .int (nI i)] [] M Q ↔ Q (some (.int (tI (∃ k, k < Y.length ∧ mkO (S k) = nI x)))) M) := by
  obtain ⟨w, hwe⟩ : ∃ w, w = 173 + 13 * s := ⟨_, rfl⟩
  have hw : isTr w := ⟨s, hs, hwe⟩
  have e11 : 184 + 13 * s = w + 11 := by omega
  have h48 := hT.2.2.2.2.1
  have hR := hT.2.1.1
  rw [← hwe] at hR ⊢
  intro r
  induction r with
  | zero =>
    intro i hi hn
    have e : i = Y.length := by omega
    subst e
    have hle : nI Y.length ≤ nI Y.length := (ni_le (by omega) (by omega)).mpr (Nat.le_refl _)
    rw [hX8_isMarked_2]
    simp +decide only [qX8_isMarked, lt_ hL hw, lw_ hL hg, hR, hT.2.2.2.1, am_w1_i, am_w1_r, am_w1_x, am_w1_l, am_w1_w, va_rf_s, am_push_n, am_push_s, am_cs_0, am_cs_i, am_cs_l, am_cs_r, m_uI_K, m_uI_N, m_uI_R, m_uI_L, m_uI_I, m_uL_K, m_uL_N, m_uL_R, m_uL_I, m_uL_L, m_uR_K, m_uR_N, m_uR_I, m_uR_L, m_uR_R, true_and, and_true]
    rw [br_p hle, tI_f (fun ⟨k, q1, q2⟩ => hn k q1 q2)]
  | succ r ih =>
    intro i hi hn
    have hlt : ¬ nI Y.length ≤ nI i := by rw [ni_le (by omega) (by omega)]; omega
    have hm := hC.1 i (by omega)
    rw [e11] at hm
    rw [hX8_isMarked_2]
    simp +decide (disch := omega) only [qX8_isMarked, lt_ hL hw, lw_ hL hg, hR, hT.2.2.2.1, hm, ni_in_t, ni_tn, ni_add1, am_w1_i, am_w1_r, am_w1_x, am_w1_l, am_w1_w, va_rf_s, am_push_n, am_push_s, am_cs_0, am_cs_i, am_cs_l, am_cs_r, m_uI_K, m_uI_N, m_uI_R, m_uI_L, m_uI_I, m_uL_K, m_uL_N, m_uL_R, m_uL_I, m_uL_L, m_uR_K, m_uR_N, m_uR_I, m_uR_L, m_uR_R, true_and, and_true]
    rw [br_n hlt]
    by_cases c : mkO (S i) = nI x
    · rw [br_r c, tI_t ⟨i, by omega, c⟩]
    · rw [br_q c]
      refine ih (i + 1) (by omega) (fun k hk => ?_)
      by_cases e : k = i
      · subst e; exact c
      · exact hn k (by omega)
theorem c_x_isMarked (d s g z v m x : Nat) (wt : Nat → Prop) (dep : Nat → Nat) (dr ld : Nat) (B : List Fct) (Y : List Sy) (S : Nat → Option Bool) (qu : Nat → Nat) (M : am_M) (Q : Option Value → am_M → Prop) (hL : Lay M) (hs : s < 8) (hg : isSh g) (hT : TkX M s g z v wt dep dr ld B Y) (hC : CoX M s Y.length S qu m) :
    am_E am_P0 d 96 [.ref (173 + 13 * s), .int (nI x)] M Q ↔ Q (some (.int (tI (∃ k, k < Y.length ∧ mkO (S k) = nI x)))) M := by
  rw [eX8_isMarked]
  simp +decide only [qX8_isMarked, am_w1_i, am_w1_r, am_w1_x, am_w1_l, am_w1_w, va_rf_s, am_push_n, am_push_s, am_cs_0, am_cs_i, am_cs_l, am_cs_r, m_uI_K, m_uI_N, m_uI_R, m_uI_L, m_uI_I, m_uL_K, m_uL_N, m_uL_R, m_uL_I, m_uL_L, m_uR_K, m_uR_N, m_uR_I, m_uR_L, m_uR_R, true_and, and_true]
  exact l_x_isMarked d s g z v m x wt dep dr ld B Y S qu M Q hL hs hg hT hC Y.length 0 (by omega) (fun k hk => by omega)
/-- parted by two -/
def ptP (wt : Nat → Prop) (v : Nat) (snd : Nat → Bool → Prop) (B : List Fct) (Y : List Sy) : Prop := fitP wt v B ∧ (∀ y, y ∈ Y → snd y.2.1 y.2.2) ∧ pairX Y.length (KY wt v Y) (gY wt v snd B Y)
theorem l_x_can1 (d s g z v : Nat) (wt : Nat → Prop) (dep : Nat → Nat) (dr ld : Nat) (B : List Fct) (Y : List Sy) (M0 : am_M) (Q : Option Value → am_M → Prop) (hs : s < 8) (hg : isSh g) (hz : z = 2 ∨ z = 83)
    (hB : ∀ M', zF (sCo s) M0 M' → ¬ (fitP wt v B ∧ ∀ y, y ∈ Y → sndP dep dr ld y.2.1 y.2.2) → Q (some (.int 0)) M')
    (hN : ∀ M' qu m, zF (sCo s) M0 M' → TkX M' s g z v wt dep dr ld B Y → CoX M' s Y.length (sB (gY wt v (sndP dep dr ld) B Y)) qu m → QB (gY wt v (sndP dep dr ld) B Y) Y.length qu m → (∀ y, y ∈ Y → sndP dep dr ld y.2.1 y.2.2) → (Y.length = 0 ∨ fitP wt v B) → am_P am_P0 (d + 4) (am_look tX8_canPart) 94 [.ref (173 + 13 * s), .int (nI m), .int (nI Y.length)] [] M' Q) :
    ∀ (r i : Nat), i + r = Y.length → ∀ (M : am_M) (qu : Nat → Nat) (m : Nat), zF (sCo s) M0 M → TkX M s g z v wt dep dr ld B Y → mI M (173 + 13 * s) 8 = tI (fitP wt v B) → (∀ k y, Y[k]? = some y → mI M (181 + 13 * s) k = tI (goodY wt v (sndP dep dr ld) B y)) → CoX M s i (sB (gY wt v (sndP dep dr ld) B Y)) qu m → QB (gY wt v (sndP dep dr ld) B Y) i qu m → (∀ k y, k < i → Y[k]? = some y → sndP dep dr ld y.2.1 y.2.2) → (i = 0 ∨ fitP wt v B) → am_P am_P0 (d + 4) (am_look tX8_canPart) 4 [.ref (173 + 13 * s), .int (nI m), .int (nI i)] [] M Q := by
  obtain ⟨w, hwe⟩ : ∃ w, w = 173 + 13 * s := ⟨_, rfl⟩
  have hw : isTr w := ⟨s, hs, hwe⟩
  have hgl := isSh_lt hg
  have e8 : 181 + 13 * s = w + 8 := by omega
  have e11 : 184 + 13 * s = w + 11 := by omega
  have e12 : 185 + 13 * s = w + 12 := by omega
  have nS : ∀ a j, a < 164 → ¬ sCo s a j := fun a j ha q => by unfold sCo at q; omega
  intro r
  induction r with
  | zero =>
    intro i hi M qu m hM hT h8 ha hC hq hsd hf
    have h48 := hT.2.2.2.2.1
    have hR := hT.2.1.1
    have e : i = Y.length := by omega
    subst e
    have hle : nI Y.length ≤ nI Y.length := (ni_le (by omega) (by omega)).mpr (Nat.le_refl _)
    have h0 := hN M qu m hM hT hC hq (fun y hy => by
      obtain ⟨k, hk⟩ := List.mem_iff_getElem?.mp hy
      exact hsd k y (List.getElem?_eq_some_iff.mp hk).1 hk) hf
    rw [← hwe] at hR h0 ⊢
    rw [hX8_canPart_4]
    simp +decide only [qX8_canPart_0, qX8_canPart_1, qX8_canPart_2, lt_ hM.1 hw, lw_ hM.1 hg, hR, hT.2.2.2.1, am_w1_i, am_w1_r, am_w1_x, am_w1_l, am_w1_w, va_rf_s, am_push_n, am_push_s, am_cs_0, am_cs_i, am_cs_l, am_cs_r, m_uI_K, m_uI_N, m_uI_R, m_uI_L, m_uI_I, m_uL_K, m_uL_N, m_uL_R, m_uL_I, m_uL_L, m_uR_K, m_uR_N, m_uR_I, m_uR_L, m_uR_R, true_and, and_true] at h0 ⊢
    rw [br_p hle]
    exact h0
  | succ r ih =>
    intro i hi M qu m hM hT h8 ha hC hq hsd hf
    have hL := hM.1
    have h48 := hT.2.2.2.2.1
    have hR := hT.2.1.1
    have hm := QB_m hq
    have hlt : ¬ nI Y.length ≤ nI i := by rw [ni_le (by omega) (by omega)]; omega
    obtain ⟨y, hy⟩ : ∃ y, Y[i]? = some y := ⟨Y[i]'(by omega), List.getElem?_eq_getElem (by omega)⟩
    obtain ⟨⟨y1, y2⟩, y3, y4, y5⟩ := hT.2.2.2.2.2 i y hy
    have hai := ha i y hy
    have hgd := gY_y (wt := wt) (v := v) (snd := sndP dep dr ld) (B := B) hy
    have hD := hT.2.1
    rw [← hwe] at hR h8 hD ⊢
    rw [e8] at hai
    have hso := fun Q => c_x_isSound (d + 3) w g z y.2.1 y.2.2 dep dr ld M Q hL hw hg hz hD y2
    rw [hX8_canPart_4]
    simp +decide (disch := omega) only [qX8_canPart_0, qX8_canPart_1, qX8_canPart_2, lt_ hL hw, lw_ hL hg, hR, hT.2.2.2.1, h8, y4, y5, hso, hai, ni_in_t, ni_tn, ni_add1, am_w1_i, am_w1_r, am_w1_x, am_w1_l, am_w1_w, va_rf_s, am_push_n, am_push_s, am_cs_0, am_cs_i, am_cs_l, am_cs_r, m_uI_K, m_uI_N, m_uI_R, m_uI_L, m_uI_I, m_uL_K, m_uL_N, m_uL_R, m_uL_I, m_uL_L, m_uR_K, m_uR_N, m_uR_I, m_uR_L, m_uR_R, true_and, and_true]
    rw [br_n hlt]
    by_cases cf : fitP wt v B
    · rw [tI_t cf, br_n (by decide)]
      by_cases cs : sndP dep dr ld y.2.1 y.2.2
      · have hsd' : ∀ k y', k < i + 1 → Y[k]? = some y' → sndP dep dr ld y'.2.1 y'.2.2 := fun k y' hk hy' => by
          by_cases e : k = i
          · subst e; cases hy.symm.trans hy'; exact cs
          · exact hsd k y' (by omega) hy'
        rw [tI_t cs, br_p (by decide)]
        by_cases cg : goodY wt v (sndP dep dr ld) B y
        · have z1 : zF (sCo s) M (uI M (w + 11) i 0) := zF_i hL hM.2.1 _ (Or.inl e11.symm) (fun s' hs' => by omega)
          have h0 := ih (i + 1) (by omega) (uI M (w + 11) i 0) qu m (zF_trans hM z1) (TkX_z hs hg hz hT z1 nS) (by rw [m_uI_I, if_neg (by omega), ← hwe, h8]) (fun k y' hy' => by rw [m_uI_I, if_neg (by omega)]; exact ha k y' hy') ⟨fun k hk => ?_, fun a ha' => by rw [m_uI_I, if_neg (by omega)]; exact hC.2 a ha'⟩ (QB_t hq (hgd.mpr cg)) hsd' (Or.inr cf)
          · rw [← hwe] at h0
            rw [tI_t cg]
            simp +decide (disch := omega) only [qX8_canPart_0, qX8_canPart_1, qX8_canPart_2, lt_ hL hw, hai, ni_in_t, ni_tn, ni_add1, am_w1_i, am_w1_r, am_w1_x, am_w1_l, am_w1_w, va_rf_s, am_push_n, am_push_s, am_cs_0, am_cs_i, am_cs_l, am_cs_r, m_uI_K, m_uI_N, m_uI_R, m_uI_L, m_uI_I, m_uL_K, m_uL_N, m_uL_R, m_uL_I, m_uL_L, m_uR_K, m_uR_N, m_uR_I, m_uR_L, m_uR_R, true_and, and_true, true_implies, false_implies, if_false, false_and, tI_t cg, Nat.add_left_cancel_iff, not_true_eq_false, not_false_eq_true]
            exact h0
          · rw [m_uI_I]
            by_cases e : k = i
            · rw [if_pos ⟨e11, e⟩, e, sB_t (hgd.mpr cg)]; rfl
            · rw [if_neg (fun q => e q.2)]; exact hC.1 k (by omega)
        · have hng : ¬ gY wt v (sndP dep dr ld) B Y i := fun q => cg (hgd.mp q)
          have z1 : zF (sCo s) M (uI M (w + 11) i 2) := zF_i hL hM.2.1 _ (Or.inl e11.symm) (fun s' hs' => by omega)
          have z2 : zF (sCo s) (uI M (w + 11) i 2) (uI (uI M (w + 11) i 2) (w + 12) m (nI i)) := zF_i z1.1 z1.2.1 _ (Or.inr e12.symm) (fun s' hs' => by omega)
          have h0 := ih (i + 1) (by omega) (uI (uI M (w + 11) i 2) (w + 12) m (nI i)) _ (m + 1) (zF_trans hM (zF_trans z1 z2)) (TkX_z hs hg hz (TkX_z hs hg hz hT z1 nS) z2 nS) (by rw [m_uI_I, if_neg (by omega), m_uI_I, if_neg (by omega), ← hwe, h8]) (fun k y' hy' => by rw [m_uI_I, if_neg (by omega), m_uI_I, if_neg (by omega)]; exact ha k y' hy') ⟨fun k hk => ?_, fun a ha' => ?_⟩ (QB_f hq hng) hsd' (Or.inr cf)
          · rw [← hwe] at h0
            rw [tI_f cg]
            simp +decide (disch := omega) only [qX8_canPart_0, qX8_canPart_1, qX8_canPart_2, lt_ hL hw, hai, ni_in_t, ni_tn, ni_add1, am_w1_i, am_w1_r, am_w1_x, am_w1_l, am_w1_w, va_rf_s, am_push_n, am_push_s, am_cs_0, am_cs_i, am_cs_l, am_cs_r, m_uI_K, m_uI_N, m_uI_R, m_uI_L, m_uI_I, m_uL_K, m_uL_N, m_uL_R, m_uL_I, m_uL_L, m_uR_K, m_uR_N, m_uR_I, m_uR_L, m_uR_R, true_and, and_true, true_implies, false_implies, if_false, false_and, tI_f cg, Nat.add_left_cancel_iff, not_true_eq_false, not_false_eq_true]
            exact h0
          · rw [m_uI_I, if_neg (by omega), m_uI_I]
            by_cases e : k = i
            · rw [if_pos ⟨e11, e⟩, e, sB_f hng]; rfl
            · rw [if_neg (fun q => e q.2)]; exact hC.1 k (by omega)
          · rw [m_uI_I]
            by_cases e : a = m
            · rw [if_pos ⟨e12, e⟩, if_pos e]
            · rw [if_neg (fun q => e q.2), m_uI_I, if_neg (by omega), if_neg e]; exact hC.2 a (by omega)
      · have h0 := hB M hM (fun q => cs (q.2 y (List.mem_of_getElem? hy)))
        rw [tI_f cs, br_n (by decide)]
        exact h0
    · have h0 := hB M hM (fun q => cf q.1)
      rw [tI_f cf, br_p rfl]
      exact h0
theorem l_x_can2 (d s g z v : Nat) (wt : Nat → Prop) (dep : Nat → Nat) (dr ld : Nat) (B : List Fct) (Y : List Sy) (gd : Nat → Prop) (M0 : am_M) (Q : Option Value → am_M → Prop) (hs : s < 8) (hg : isSh g) (hz : z = 2 ∨ z = 83)
    (hB : ∀ M', zF (sCo s) M0 M' → (∀ c, ¬ colV Y.length (KY wt v Y) gd c) → Q (some (.int 0)) M')
    (hN : ∀ M' S qu m, zF (sCo s) M0 M' → TkX M' s g z v wt dep dr ld B Y → CoX M' s Y.length S qu m → colC Y.length (KY wt v Y) gd S → (∀ i, i < Y.length → ¬ S i = none) → ((∀ i j, i < Y.length → j < Y.length → ¬ KY wt v Y i j) → ∀ i, i < Y.length → S i = some false → ¬ gd i) → m ≤ Y.length → am_P am_P0 (d + 4) (am_look tX8_canPart) 157 [.ref (173 + 13 * s), .int (nI m), .int (nI Y.length)] [] M' Q) :
    ∀ (r i : Nat), i + r = Y.length → (∀ (M : am_M), zF (sCo s) M0 M → TkX M s g z v wt dep dr ld B Y → (∀ c, ¬ colV Y.length (KY wt v Y) gd c) → am_P am_P0 (d + 4) (am_look tX8_canPart) 103 [.ref (173 + 13 * s), .int (-1), .int (nI i)] [] M Q) ∧ ∀ (M : am_M) (S0 S : Nat → Option Bool) (qu : Nat → Nat) (m : Nat), zF (sCo s) M0 M → TkX M s g z v wt dep dr ld B Y → CoX M s Y.length S qu m → colQ Y.length (KY wt v Y) gd S0 m S qu m → (∀ k, k < i → ¬ S k = none) → ((∀ i j, i < Y.length → j < Y.length → ¬ KY wt v Y i j) → ∀ i, i < Y.length → S i = some false → ¬ gd i) → am_P am_P0 (d + 4) (am_look tX8_canPart) 103 [.ref (173 + 13 * s), .int (nI m), .int (nI i)] [] M Q := by
  obtain ⟨w, hwe⟩ : ∃ w, w = 173 + 13 * s := ⟨_, rfl⟩
  have hw : isTr w := ⟨s, hs, hwe⟩
  have hgl := isSh_lt hg
  have e11 : 184 + 13 * s = w + 11 := by omega
  have e12 : 185 + 13 * s = w + 12 := by omega
  have nS : ∀ a j, a < 164 → ¬ sCo s a j := fun a j ha q => by unfold sCo at q; omega
  intro r
  induction r with
  | zero =>
    intro i hi
    have e : i = Y.length := by omega
    subst e
    refine ⟨fun M hM hT hc => ?_, fun M S0 S qu m hM hT hC hq hno hnk => ?_⟩
    · have h48 := hT.2.2.2.2.1
      have hR := hT.2.1.1
      have hle : nI Y.length ≤ nI Y.length := (ni_le (by omega) (by omega)).mpr (Nat.le_refl _)
      have h0 := hB M hM hc
      rw [← hwe] at hR ⊢
      rw [hX8_canPart_103]
      simp +decide only [qX8_canPart_0, qX8_canPart_1, qX8_canPart_2, lt_ hM.1 hw, lw_ hM.1 hg, hR, hT.2.2.2.1, am_w1_i, am_w1_r, am_w1_x, am_w1_l, am_w1_w, va_rf_s, am_push_n, am_push_s, am_cs_0, am_cs_i, am_cs_l, am_cs_r, m_uI_K, m_uI_N, m_uI_R, m_uI_L, m_uI_I, m_uL_K, m_uL_N, m_uL_R, m_uL_I, m_uL_L, m_uR_K, m_uR_N, m_uR_I, m_uR_L, m_uR_R, true_and, and_true, true_implies, false_implies]
      rw [br_p hle]
      exact h0
    · have h48 := hT.2.2.2.2.1
      have hR := hT.2.1.1
      have hle : nI Y.length ≤ nI Y.length := (ni_le (by omega) (by omega)).mpr (Nat.le_refl _)
      have h0 := hN M S qu m hM hT hC (colQ_end hq) hno hnk (colQ_m hq)
      rw [← hwe] at hR h0 ⊢
      rw [hX8_canPart_103]
      simp +decide only [qX8_canPart_0, qX8_canPart_1, qX8_canPart_2, lt_ hM.1 hw, lw_ hM.1 hg, hR, hT.2.2.2.1, am_w1_i, am_w1_r, am_w1_x, am_w1_l, am_w1_w, va_rf_s, am_push_n, am_push_s, am_cs_0, am_cs_i, am_cs_l, am_cs_r, m_uI_K, m_uI_N, m_uI_R, m_uI_L, m_uI_I, m_uL_K, m_uL_N, m_uL_R, m_uL_I, m_uL_L, m_uR_K, m_uR_N, m_uR_I, m_uR_L, m_uR_R, true_and, and_true] at h0 ⊢
      rw [br_p hle]
      exact h0
  | succ r ih =>
    intro i hi
    obtain ⟨ih1, ih2⟩ := ih (i + 1) (by omega)
    refine ⟨fun M hM hT hc => ?_, fun M S0 S qu m hM hT hC hq hno hnk => ?_⟩
    · have h48 := hT.2.2.2.2.1
      have hR := hT.2.1.1
      have hlt : ¬ nI Y.length ≤ nI i := by rw [ni_le (by omega) (by omega)]; omega
      have h0 := ih1 M hM hT hc
      rw [← hwe] at hR h0 ⊢
      rw [hX8_canPart_103]
      simp +decide only [qX8_canPart_0, qX8_canPart_1, qX8_canPart_2, lt_ hM.1 hw, lw_ hM.1 hg, hR, hT.2.2.2.1, ni_add1, am_w1_i, am_w1_r, am_w1_x, am_w1_l, am_w1_w, va_rf_s, am_push_n, am_push_s, am_cs_0, am_cs_i, am_cs_l, am_cs_r, m_uI_K, m_uI_N, m_uI_R, m_uI_L, m_uI_I, m_uL_K, m_uL_N, m_uL_R, m_uL_I, m_uL_L, m_uR_K, m_uR_N, m_uR_I, m_uR_L, m_uR_R, true_and, and_true, true_implies, false_implies]
      rw [br_n hlt]
      exact h0
    · have hL := hM.1
      have h48 := hT.2.2.2.2.1
      have hR := hT.2.1.1
      have hlt : ¬ nI Y.length ≤ nI i := by rw [ni_le (by omega) (by omega)]; omega
      have hmn := colQ_m hq
      have hm1 : ¬ nI m = -1 := nI_m1 (by omega)
      have mi := hC.1 i (by omega)
      rw [e11] at mi
      cases hSi : S i with
      | some b =>
        have h0 := ih2 M S0 S qu m hM hT hC hq (fun k hk => by
          by_cases e : k = i
          · rw [e, hSi]; simp
          · exact hno k (by omega)) hnk
        have hn0 : ¬ mkO (some b) = 0 := by cases b <;> decide
        rw [hSi] at mi
        rw [← hwe] at hR h0 ⊢
        rw [hX8_canPart_103]
        simp +decide (disch := omega) only [qX8_canPart_0, qX8_canPart_1, qX8_canPart_2, lt_ hL hw, lw_ hL hg, hR, hT.2.2.2.1, mi, ni_in_t, ni_tn, ni_add1, am_w1_i, am_w1_r, am_w1_x, am_w1_l, am_w1_w, va_rf_s, am_push_n, am_push_s, am_cs_0, am_cs_i, am_cs_l, am_cs_r, m_uI_K, m_uI_N, m_uI_R, m_uI_L, m_uI_I, m_uL_K, m_uL_N, m_uL_R, m_uL_I, m_uL_L, m_uR_K, m_uR_N, m_uR_I, m_uR_L, m_uR_R, true_and, and_true]
        rw [br_n hlt, br_n hm1, br_p hn0]
        exact h0
      | none =>
        have hp := colQ_more hq (i := i) (by omega) hSi true
        have hpm := colQ_m hp
        have z1 : zF (sCo s) M (uI M (w + 11) i 1) := zF_i hL hM.2.1 _ (Or.inl e11.symm) (fun s' hs' => by omega)
        have z2 : zF (sCo s) (uI M (w + 11) i 1) (uI (uI M (w + 11) i 1) (w + 12) m (nI i)) := zF_i z1.1 z1.2.1 _ (Or.inr e12.symm) (fun s' hs' => by omega)
        have hT2 := TkX_z hs hg hz (TkX_z hs hg hz hT z1 nS) z2 nS
        have hM2 := zF_trans hM (zF_trans z1 z2)
        have hC2 : CoX (uI (uI M (w + 11) i 1) (w + 12) m (nI i)) s Y.length (fun j => if j = i then some true else S j) (fun a => if a = m then i else qu a) (m + 1) := by
          refine ⟨fun k hk => ?_, fun a ha => ?_⟩ <;> dsimp only
          · rw [m_uI_I, if_neg (by omega), m_uI_I]
            by_cases e : k = i
            · rw [if_pos ⟨e11, e⟩, if_pos e]; rfl
            · rw [if_neg (fun q => e q.2), if_neg e]; exact hC.1 k hk
          · rw [m_uI_I]
            by_cases e : a = m
            · rw [if_pos ⟨e12, e⟩, if_pos e]
            · rw [if_neg (fun q => e q.2), m_uI_I, if_neg (by omega), if_neg e]; exact hC.2 a (by omega)
        rw [hSi] at mi
        rw [← hwe] at hR ⊢
        rw [hX8_canPart_103]
        simp +decide (disch := omega) only [qX8_canPart_0, qX8_canPart_1, qX8_canPart_2, lt_ hL hw, lw_ hL hg, hR, hT.2.2.2.1, mi, ni_in_t, ni_tn, ni_add1, am_w1_i, am_w1_r, am_w1_x, am_w1_l, am_w1_w, va_rf_s, am_push_n, am_push_s, am_cs_0, am_cs_i, am_cs_l, am_cs_r, m_uI_K, m_uI_N, m_uI_R, m_uI_L, m_uI_I, m_uL_K, m_uL_N, m_uL_R, m_uL_I, m_uL_L, m_uR_K, m_uR_N, m_uR_I, m_uR_L, m_uR_R, true_and, and_true, true_implies, false_implies, not_true_eq_false, not_false_eq_true, if_true, if_false, false_and, and_false]
        rw [br_n hlt, br_n hm1]
        rw [hwe] at hT2 hM2 hC2 ⊢
        refine c_x_pushApart d s g z v m (m + 1) wt dep dr ld B Y gd _ _ _ _ _ hM2.1 hM2.2.1 hs hg hz hT2 hC2 hp (fun M3 g3 hbad => ?_) (fun M3 S3 qu3 m3 g3 T3 C3 q3 => ?_)
        · have h0 := ih1 M3 (zF_trans hM2 g3) (TkX_z hs hg hz hT2 g3 nS) (fun c hc => by
            obtain ⟨c', a1, a2⟩ := col_flip KY_symm (colQ_end hq) hq.2.2.2.1 (i := i) (by omega) hSi hc
            exact hbad c' a1 a2)
          simp +decide only [qX8_canPart_0, qX8_canPart_1, qX8_canPart_2, ni_add1, am_w1_i, am_w1_r, am_w1_x, am_w1_l, am_w1_w, va_rf_s, am_push_n, am_push_s, am_cs_0, am_cs_i, am_cs_l, am_cs_r, m_uI_K, m_uI_N, m_uI_R, m_uI_L, m_uI_I, m_uL_K, m_uL_N, m_uL_R, m_uL_I, m_uL_L, m_uR_K, m_uR_N, m_uR_I, m_uR_L, m_uR_R, true_and, and_true]
          exact h0
        · have h0 := ih2 M3 _ S3 qu3 m3 (zF_trans hM2 g3) T3 C3 q3 (fun k hk => by
            have hk2 : ¬ (if k = i then some true else S k) = none := by
              by_cases e : k = i
              · rw [if_pos e]; simp
              · rw [if_neg e]; exact hno k (by omega)
            cases hx : (if k = i then some true else S k) with
            | none => exact absurd hx hk2
            | some b => rw [q3.2.2.2.2.2.2.2 k b hx]; simp) (fun hK => colQ_noK q3 hK (fun k hk hf => by
              by_cases e : k = i
              · rw [if_pos e] at hf; cases hf
              · rw [if_neg e] at hf; exact hnk hK k hk hf))
          simp +decide only [qX8_canPart_0, qX8_canPart_1, qX8_canPart_2, ni_add1, am_w1_i, am_w1_r, am_w1_x, am_w1_l, am_w1_w, va_rf_s, am_push_n, am_push_s, am_cs_0, am_cs_i, am_cs_l, am_cs_r, m_uI_K, m_uI_N, m_uI_R, m_uI_L, m_uI_I, m_uL_K, m_uL_N, m_uL_R, m_uL_I, m_uL_L, m_uR_K, m_uR_N, m_uR_I, m_uR_L, m_uR_R, true_and, and_true]
          exact h0
theorem c_x_canPart (d s g z v : Nat) (wt : Nat → Prop) (dep : Nat → Nat) (dr ld : Nat) (B : List Fct) (Y : List Sy) (M : am_M) (Q : Option Value → am_M → Prop) (hL : Lay M) (hI : RInv M) (hs : s < 8) (hg : isSh g) (hz : z = 2 ∨ z = 83) (hT : TkX M s g z v wt dep dr ld B Y) (h8 : mI M (173 + 13 * s) 8 = tI (fitP wt v B)) (ha : ∀ k y, Y[k]? = some y → mI M (181 + 13 * s) k = tI (goodY wt v (sndP dep dr ld) B y))
    (hna : fitP wt v B → 0 < Y.length → (∃ i, i < Y.length ∧ ¬ gY wt v (sndP dep dr ld) B Y i) ∨ ∃ i j, i < Y.length ∧ j < Y.length ∧ KY wt v Y i j)
    (hQ : ∀ M', zF (sCo s) M M' → Q (some (.int (tI (ptP wt v (sndP dep dr ld) B Y)))) M') : am_E am_P0 (d + 4) 94 [.ref (173 + 13 * s)] M Q := by
  have nS : ∀ a j, a < 164 → ¬ sCo s a j := fun a j ha q => by unfold sCo at q; omega
  rw [eX8_canPart]
  simp +decide only [qX8_canPart_0, qX8_canPart_1, qX8_canPart_2, am_w1_i, am_w1_r, am_w1_x, am_w1_l, am_w1_w, va_rf_s, am_push_n, am_push_s, am_cs_0, am_cs_i, am_cs_l, am_cs_r, m_uI_K, m_uI_N, m_uI_R, m_uI_L, m_uI_I, m_uL_K, m_uL_N, m_uL_R, m_uL_I, m_uL_L, m_uR_K, m_uR_N, m_uR_I, m_uR_L, m_uR_R, true_and, and_true]
  rw [show (0 : Int32) = nI 0 from rfl]
  have hneg : ∀ M', zF (sCo s) M M' → (∀ c, ¬ colV Y.length (KY wt v Y) (gY wt v (sndP dep dr ld) B Y) c) → Q (some (.int 0)) M' := fun M' g1 hc => by
    have h0 := hQ M' g1
    rw [tI_f (fun q => pairX_no hc q.2.2)] at h0
    exact h0
  refine l_x_can1 d s g z v wt dep dr ld B Y M Q hs hg hz (fun M1 g1 hn => ?_) (fun M1 qu m g1 T1 C1 q1 hsd hf => ?_) Y.length 0 (by omega) M (fun _ => 0) 0 (zF_refl hL hI) hT h8 ha ⟨fun k hk => by omega, fun a ha => by omega⟩ (QB_0 _ _) (fun k y hk => by omega) (Or.inl rfl)
  · have h0 := hQ M1 g1
    rw [tI_f (fun q => hn ⟨q.1, q.2.1⟩)] at h0
    exact h0
  · have hend : ∀ M' S qu m, zF (sCo s) M M' → TkX M' s g z v wt dep dr ld B Y → CoX M' s Y.length S qu m → colC Y.length (KY wt v Y) (gY wt v (sndP dep dr ld) B Y) S → (∀ i, i < Y.length → ¬ S i = none) → ((∀ i j, i < Y.length → j < Y.length → ¬ KY wt v Y i j) → ∀ i, i < Y.length → S i = some false → ¬ gY wt v (sndP dep dr ld) B Y i) → m ≤ Y.length → am_P am_P0 (d + 4) (am_look tX8_canPart) 157 [.ref (173 + 13 * s), .int (nI m), .int (nI Y.length)] [] M' Q := by
      intro M' S qu m hM' hT' hC' hcc hno hnk hmn
      have h48 := hT'.2.2.2.2.1
      have hm1 : ¬ nI m = -1 := nI_m1 (by omega)
      have i1 := fun Q => c_x_isMarked (d + 3) s g z v m 1 wt dep dr ld B Y S qu M' Q hM'.1 hs hg hT' hC'
      have i2 := fun Q => c_x_isMarked (d + 3) s g z v m 2 wt dep dr ld B Y S qu M' Q hM'.1 hs hg hT' hC'
      rw [show nI 1 = (1 : Int32) from rfl] at i1
      rw [show nI 2 = (2 : Int32) from rfl] at i2
      have e1 : (∃ k, k < Y.length ∧ mkO (S k) = 1) ↔ ∃ k, k < Y.length ∧ S k = some true := by
        constructor
        · rintro ⟨k, a1, a2⟩
          refine ⟨k, a1, ?_⟩
          cases hx : S k with
          | none => exact absurd hx (hno k a1)
          | some b => cases b with
            | true => rfl
            | false => rw [hx] at a2; exact absurd a2 (by decide)
        · rintro ⟨k, a1, a2⟩; exact ⟨k, a1, by rw [a2]; rfl⟩
      have e2 : (∃ k, k < Y.length ∧ mkO (S k) = 2) ↔ ∃ k, k < Y.length ∧ S k = some false := by
        constructor
        · rintro ⟨k, a1, a2⟩
          refine ⟨k, a1, ?_⟩
          cases hx : S k with
          | none => exact absurd hx (hno k a1)
          | some b => cases b with
            | false => rfl
            | true => rw [hx] at a2; exact absurd a2 (by decide)
        · rintro ⟨k, a1, a2⟩; exact ⟨k, a1, by rw [a2]; rfl⟩
      have hpx : ((∃ k, k < Y.length ∧ mkO (S k) = 1) ∧ ∃ k, k < Y.length ∧ mkO (S k) = 2) ↔ ptP wt v (sndP dep dr ld) B Y := by
        rw [e1, e2]
        by_cases h0 : Y.length = 0
        · constructor
          · rintro ⟨⟨k, a1, _⟩, _⟩; omega
          · rintro ⟨_, _, c, _, ⟨k, a1, _⟩, _⟩; omega
        · have cf : fitP wt v B := hf.resolve_left h0
          have := col_pair hcc hno (fun hK i hi hgi => by
            cases hx : S i with
            | none => exact absurd hx (hno i hi)
            | some b => cases b with
              | true => rfl
              | false => exact absurd hgi (hnk hK i hi hx)) (hna cf (by omega))
          rw [this]
          exact ⟨fun q => ⟨cf, hsd, q⟩, fun q => q.2.2⟩
      have h0 := hQ M' hM'
      simp +decide only [qX8_canPart_0, qX8_canPart_1, qX8_canPart_2, lt_ hM'.1 (isTr_of hs), i1, i2, am_w1_i, am_w1_r, am_w1_x, am_w1_l, am_w1_w, va_rf_s, am_push_n, am_push_s, am_cs_0, am_cs_i, am_cs_l, am_cs_r, m_uI_K, m_uI_N, m_uI_R, m_uI_L, m_uI_I, m_uL_K, m_uL_N, m_uL_R, m_uL_I, m_uL_L, m_uR_K, m_uR_N, m_uR_I, m_uR_L, m_uR_R, true_and, and_true]
      rw [br_n hm1]
      by_cases c1 : ∃ k, k < Y.length ∧ mkO (S k) = 1
      · rw [tI_t c1, br_n (by decide)]
        by_cases c2 : ∃ k, k < Y.length ∧ mkO (S k) = 2
        · rw [tI_t c2, br_n (by decide)]
          rw [tI_t (hpx.mp ⟨c1, c2⟩)] at h0
          exact h0
        · rw [tI_f c2, br_p rfl]
          rw [tI_f (fun q => c2 (hpx.mpr q).2)] at h0
          exact h0
      · rw [tI_f c1, br_p rfl]
        rw [tI_f (fun q => c1 (hpx.mpr q).1)] at h0
        exact h0
    have hl2 := l_x_can2 d s g z v wt dep dr ld B Y (gY wt v (sndP dep dr ld) B Y) M Q hs hg hz hneg (fun M' S qu m a1 a2 a3 a4 a5 a6 a7 => ?_) Y.length 0 (by omega)
    · have hq0 := QB_Q (K := KY wt v Y) q1
      simp +decide only [qX8_canPart_0, qX8_canPart_1, qX8_canPart_2, lt_ g1.1 (isTr_of hs), am_w1_i, am_w1_r, am_w1_x, am_w1_l, am_w1_w, va_rf_s, am_push_n, am_push_s, am_cs_0, am_cs_i, am_cs_l, am_cs_r, m_uI_K, m_uI_N, m_uI_R, m_uI_L, m_uI_I, m_uL_K, m_uL_N, m_uL_R, m_uL_I, m_uL_L, m_uR_K, m_uR_N, m_uR_I, m_uR_L, m_uR_R, true_and, and_true]
      rw [show (0 : Int32) = nI 0 from rfl]
      refine c_x_pushApart d s g z v 0 m wt dep dr ld B Y _ _ _ _ _ _ g1.1 g1.2.1 hs hg hz T1 C1 hq0 (fun M3 g3 hbad => ?_) (fun M3 S3 qu3 m3 g3 T3 C3 q3 => ?_)
      · have h0 := hl2.1 M3 (zF_trans g1 g3) (TkX_z hs hg hz T1 g3 nS) (fun c hc => hbad c hc (sB_X hc))
        simp +decide only [qX8_canPart_0, qX8_canPart_1, qX8_canPart_2, am_w1_i, am_w1_r, am_w1_x, am_w1_l, am_w1_w, va_rf_s, am_push_n, am_push_s, am_cs_0, am_cs_i, am_cs_l, am_cs_r, m_uI_K, m_uI_N, m_uI_R, m_uI_L, m_uI_I, m_uL_K, m_uL_N, m_uL_R, m_uL_I, m_uL_L, m_uR_K, m_uR_N, m_uR_I, m_uR_L, m_uR_R, true_and, and_true]
        exact h0
      · have h0 := hl2.2 M3 _ S3 qu3 m3 (zF_trans g1 g3) T3 C3 q3 (fun k hk => by omega) (fun hK => colQ_noK q3 hK (fun k hk hf => fun hgk => by rw [sB_t hgk] at hf; cases hf))
        simp +decide only [qX8_canPart_0, qX8_canPart_1, qX8_canPart_2, am_w1_i, am_w1_r, am_w1_x, am_w1_l, am_w1_w, va_rf_s, am_push_n, am_push_s, am_cs_0, am_cs_i, am_cs_l, am_cs_r, m_uI_K, m_uI_N, m_uI_R, m_uI_L, m_uI_I, m_uL_K, m_uL_N, m_uL_R, m_uL_I, m_uL_L, m_uR_K, m_uR_N, m_uR_I, m_uR_L, m_uR_R, true_and, and_true]
        exact h0
    · exact hend M' S qu m a1 a2 a3 a4 a5 a6 a7
