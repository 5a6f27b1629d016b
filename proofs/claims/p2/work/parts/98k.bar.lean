/-! bars -/
theorem btw_hd (t t' : Nat) : btw t t t' t' = hd_ t t' := by
  unfold btw hd_
  split
  · rfl
  · split
    · rfl
    · omega
theorem fit_fY {w : Nat → Prop} {v : Nat} {Z : List Sy} : fitP w v (fY Z) ↔ ∀ y, y ∈ Z → ∀ y', y' ∈ Z → gowY w v y y' := by
  constructor
  · intro h y hy y' hy'
    have := h _ (fY_mem.mpr ⟨y, hy, rfl⟩) _ (fY_mem.mpr ⟨y', hy', rfl⟩)
    unfold gowY
    rw [← btw_hd]
    exact this
  · intro h a ha b hb
    obtain ⟨y, hy, rfl⟩ := fY_mem.mp ha
    obtain ⟨y', hy', rfl⟩ := fY_mem.mp hb
    have := h y hy y' hy'
    unfold gowY at this
    rw [← btw_hd] at this
    exact this
/-- all up to the i-th fit -/
def FbP (w : Nat → Prop) (v : Nat) (snd : Nat → Bool → Prop) (B : List Fct) (Y : List Sy) (i : Nat) : Prop := fitP w v B ∧ ∀ k, k < i → gdF w v snd B Y k = true ∧ ∀ j, j < k → goF w v Y k j = true
theorem fb_iff {w : Nat → Prop} {v : Nat} {snd : Nat → Bool → Prop} {B : List Fct} {Y : List Sy} {i : Nat} (hi : i < Y.length) (ho : ordF B) (hw : ∀ y, y ∈ Y → snd y.2.1 y.2.2 → w y.2.1) : fbP w v snd B Y i ↔ FbP w v snd B Y (i + 1) := by
  have hmem : ∀ y, y ∈ Y.take (i + 1) ↔ ∃ k, k < i + 1 ∧ Y[k]? = some y := by
    intro y
    rw [List.mem_iff_getElem?]
    constructor
    · rintro ⟨k, hk⟩
      rw [List.getElem?_take] at hk
      split at hk
      · exact ⟨k, by assumption, hk⟩
      · cases hk
    · rintro ⟨k, hk, hy⟩
      exact ⟨k, by rw [List.getElem?_take, if_pos hk]; exact hy⟩
  have hex : ∀ k, k < i + 1 → ∃ y, Y[k]? = some y := fun k hk => ⟨Y[k]'(by omega), List.getElem?_eq_getElem (by omega)⟩
  unfold fbP
  rw [fit_app (ordF_app ho (ordF_fY _)), fit_fY]
  constructor
  · rintro ⟨⟨h1, h2, h3⟩, h4⟩
    refine ⟨h1, fun k hk => ⟨?_, fun j hj => ?_⟩⟩
    · obtain ⟨y, hy⟩ := hex k hk
      have hm := (hmem y).mpr ⟨k, hk, hy⟩
      rw [gdF_y hy]
      refine ⟨h4 y hm, fun f hf => ?_⟩
      have := wit_symm (h3 f hf _ (fY_mem.mpr ⟨y, hm, rfl⟩))
      rw [btw_symm _ _ _ _ (Nat.le_refl _) (ho f hf)]
      exact this
    · obtain ⟨y, hy⟩ := hex k hk
      obtain ⟨y', hy'⟩ := hex j (by omega)
      rw [goF_y hy hy']
      exact h2 y ((hmem y).mpr ⟨k, hk, hy⟩) y' ((hmem y').mpr ⟨j, by omega, hy'⟩)
  · rintro ⟨h1, h2⟩
    have hs : ∀ y, y ∈ Y.take (i + 1) → goodY w v snd B y := fun y hm => by
      obtain ⟨k, hk, hy⟩ := (hmem y).mp hm
      exact (gdF_y hy).mp (h2 k hk).1
    refine ⟨⟨h1, fun y hm y' hm' => ?_, fun f hf b hb => ?_⟩, fun y hm => (hs y hm).1⟩
    · obtain ⟨k, hk, hy⟩ := (hmem y).mp hm
      obtain ⟨j, hj, hy'⟩ := (hmem y').mp hm'
      rcases Nat.lt_trichotomy k j with c | c | c
      · exact gow_symm ((goF_y hy' hy).mp ((h2 j hj).2 k c))
      · subst c
        rw [hy] at hy'
        cases hy'
        unfold gowY hd_
        rw [if_neg (by omega), Nat.sub_self]
        exact wit_0.mpr ⟨rfl, hw y (List.mem_of_getElem? hy) (hs y hm).1⟩
      · exact (goF_y hy hy').mp ((h2 k hk).2 j c)
    · obtain ⟨y, hm, rfl⟩ := fY_mem.mp hb
      have := wit_symm ((hs y hm).2 f hf)
      rw [btw_symm _ _ _ _ (Nat.le_refl _) (ho f hf)] at this
      exact this
noncomputable def aBar (v : Int32) (D : Dat) : Value := .int (if 0 ≤ v.toInt ∧ v.toInt < dN D then oI (brY (dWt D v.toInt.toNat) (dV D v.toInt.toNat) (dSn D v.toInt.toNat) (dBs D v.toInt.toNat) (dY D v.toInt.toNat)) (dY D v.toInt.toNat).length else -1)
theorem x_bars (v : Int32) : XqO 124 [.int v] (aBar v) := by
  intro d M z D Q hD h hQ
  have hz := h.1.2.2.1
  have hL := h.1.1
  have n8 := dN_8 hD
  have eS := fun v Q => x_isShip hD h (d + 19) v Q
  unfold aBar at hQ
  rw [eX10_bars]
  simp +decide only [qX10_bars, lx hL, eS, bI_0, Classical.not_not, am_w1_i, am_w1_r, am_w1_x, am_w1_l, am_w1_w, va_rf_s, am_push_n, am_push_s, am_cs_0, am_cs_i, am_cs_l, am_cs_r, m_uI_K, m_uI_N, m_uI_R, m_uI_L, m_uI_I, m_uL_K, m_uL_N, m_uL_R, m_uL_I, m_uL_L, m_uR_K, m_uR_N, m_uR_I, m_uR_L, m_uR_R, true_and, and_true, true_implies, false_implies, not_true_eq_false, not_false_eq_true, if_true, if_false, false_and, and_false]
  by_cases hv : 0 ≤ v.toInt ∧ v.toInt < dN D
  · first | rw [br_p (hv)] | rw [br_r (hv)] | rw [br_s (hv)]
    rw [if_pos hv] at hQ
    obtain ⟨s, s1, s2, s3⟩ := sh_of (by omega) hv
    rw [s3] at hQ
    have htr := ltr hL (show s < 8 by omega)
    have hst := lt_ hL (isTr_of (show s < 8 by omega))
    rw [s2]
    simp +decide (disch := omega) only [qX10_bars, lx hL, htr, hst, ni_in_t, ni_tn, am_w1_i, am_w1_r, am_w1_x, am_w1_l, am_w1_w, va_rf_s, am_push_n, am_push_s, am_cs_0, am_cs_i, am_cs_l, am_cs_r, m_uI_K, m_uI_N, m_uI_R, m_uI_L, m_uI_I, m_uL_K, m_uL_N, m_uL_R, m_uL_I, m_uL_L, m_uR_K, m_uR_N, m_uR_I, m_uR_L, m_uR_R, true_and, and_true, true_implies, false_implies, not_true_eq_false, not_false_eq_true, if_true, if_false, false_and, and_false]
    refine c_x_firstBar (d + 15) s (z + 25 + 7 * s) z (dV D s) (dWt D s) (dDp D) (dDr D s) (dLd D s) (dBs D s) (dY D s) M _ hL h.1.2.1 (by omega) (isSh_z hz (by omega)) hz (h.2.2.2.1 s s1).1 (fun M1 f1 => ?_)
    have h0 := hQ M1 (zF_up (zF_x f1) (fun a j q => sLn_q ⟨s, by omega, q⟩)) (XR_x hD (by omega) h f1)
    simp +decide only [qX10_bars, am_w1_i, am_w1_r, am_w1_x, am_w1_l, am_w1_w, va_rf_s, am_push_n, am_push_s, am_cs_0, am_cs_i, am_cs_l, am_cs_r, m_uI_K, m_uI_N, m_uI_R, m_uI_L, m_uI_I, m_uL_K, m_uL_N, m_uL_R, m_uL_I, m_uL_L, m_uR_K, m_uR_N, m_uR_I, m_uR_L, m_uR_R, true_and, and_true, true_implies, false_implies, not_true_eq_false, not_false_eq_true, if_true, if_false, false_and, and_false]
    exact h0
  · have h0 := hQ M (XR_2 h) h
    rw [if_neg hv] at h0
    first | rw [br_n (hv)] | rw [br_q (hv)] | rw [br_u (hv)]
    exact h0
section
variable (d : Nat) (w : Nat → Prop) (v : Nat) (snd : Nat → Bool → Prop) (B : List Fct) (Y : List Sy) (M : am_M) (Q : Option Value → am_M → Prop) (x1 : Int32)
theorem l_m_bar2 (hL : Lay M) (hP : PrM w v snd B Y M Y.length) (h48 : Y.length ≤ 48) (i : Nat) (hi : i < Y.length)
    (hN : ∀ p : Prop, (p ↔ FbP w v snd B Y (i + 1)) → am_P am_P0 d (am_look tX11_bars) 90 [.ref 277, .int x1, .int (tI p), .int (nI i), .int (nI i)] [] M Q) :
    ∀ (m j : Nat), j + m = i → ∀ p : Prop, (p ↔ (FbP w v snd B Y i ∧ gdF w v snd B Y i = true ∧ ∀ k, k < j → goF w v Y i k = true)) → am_P am_P0 d (am_look tX11_bars) 53 [.ref 277, .int x1, .int (tI p), .int (nI i), .int (nI j)] [] M Q := by
  intro m
  induction m with
  | zero =>
    intro j hj p hp
    have hle : nI i ≤ nI j := (ni_le (by omega) (by omega)).mpr (by omega)
    have ej : j = i := by omega
    subst ej
    have h0 := hN p (by
      rw [hp]
      constructor
      · rintro ⟨⟨a1, a2⟩, b1, b2⟩
        refine ⟨a1, fun k hk => ?_⟩
        by_cases c : k = j
        · subst c; exact ⟨b1, b2⟩
        · exact a2 k (by omega)
      · rintro ⟨a1, a2⟩
        exact ⟨⟨a1, fun k hk => a2 k (by omega)⟩, (a2 j (by omega)).1, (a2 j (by omega)).2⟩)
    rw [hX11_bars_53]
    simp +decide only [qX11_bars_0, qX11_bars_1, am_w1_i, am_w1_r, am_w1_x, am_w1_l, am_w1_w, va_rf_s, am_push_n, am_push_s, am_cs_0, am_cs_i, am_cs_l, am_cs_r, m_uI_K, m_uI_N, m_uI_R, m_uI_L, m_uI_I, m_uL_K, m_uL_N, m_uL_R, m_uL_I, m_uL_L, m_uR_K, m_uR_N, m_uR_I, m_uR_L, m_uR_R, true_and, and_true, true_implies, false_implies, not_true_eq_false, not_false_eq_true, if_true, if_false, false_and, and_false] at h0 ⊢
    first | rw [br_p (hle)] | rw [br_r (hle)] | rw [br_s (hle)]
    exact h0
  | succ m ih =>
    intro j hj p hp
    have hlt : ¬ nI i ≤ nI j := by rw [ni_le (by omega) (by omega)]; omega
    have e48 : (48 : Int32) * nI i + nI j = nI (48 * i + j) := by rw [show (48 : Int32) = nI 48 from rfl, ni_mul, ni_add]
    obtain ⟨y, hy⟩ : ∃ y, Y[i]? = some y := ⟨Y[i]'hi, List.getElem?_eq_getElem hi⟩
    obtain ⟨y', hy'⟩ : ∃ y, Y[j]? = some y := ⟨Y[j]'(by omega), List.getElem?_eq_getElem (by omega)⟩
    have hg := hP.2.2 i j y y' hi hy hy'
    rw [hX11_bars_53]
    simp +decide (disch := omega) only [qX11_bars_0, qX11_bars_1, lm hL, e48, hg, tI_01, tI_0, ni_in_t, ni_tn, ni_add1, am_w1_i, am_w1_r, am_w1_x, am_w1_l, am_w1_w, va_rf_s, am_push_n, am_push_s, am_cs_0, am_cs_i, am_cs_l, am_cs_r, m_uI_K, m_uI_N, m_uI_R, m_uI_L, m_uI_I, m_uL_K, m_uL_N, m_uL_R, m_uL_I, m_uL_L, m_uR_K, m_uR_N, m_uR_I, m_uR_L, m_uR_R, true_and, and_true, true_implies, false_implies, not_true_eq_false, not_false_eq_true, if_true, if_false, false_and, and_false]
    first | rw [br_n (hlt)] | rw [br_q (hlt)] | rw [br_u (hlt)]
    by_cases c : p
    · first | rw [br_p (c)] | rw [br_r (c)] | rw [br_s (c)]
      by_cases c2 : gowY w v y y'
      · first | rw [br_p (c2)] | rw [br_r (c2)] | rw [br_s (c2)]
        have h0 := ih (j + 1) (by omega) True (by
          rw [hp] at c
          refine ⟨fun _ => ⟨c.1, c.2.1, fun k hk => ?_⟩, fun _ => trivial⟩
          by_cases e : k = j
          · subst e; exact (goF_y hy hy').mpr c2
          · exact c.2.2 k (by omega))
        rw [tI_t trivial] at h0
        exact h0
      · first | rw [br_n (c2)] | rw [br_q (c2)] | rw [br_u (c2)]
        have h0 := ih (j + 1) (by omega) False ⟨fun q => q.elim, fun q => c2 ((goF_y hy hy').mp (q.2.2 j (by omega)))⟩
        rw [tI_f (fun q => q)] at h0
        exact h0
    · first | rw [br_n (c)] | rw [br_q (c)] | rw [br_u (c)]
      have h0 := ih (j + 1) (by omega) False ⟨fun q => q.elim, fun q => c (hp.mpr ⟨q.1, q.2.1, fun k hk => q.2.2 k (by omega)⟩)⟩
      rw [tI_f (fun q => q)] at h0
      exact h0
theorem l_m_bar1 (hL : Lay M) (hP : PrM w v snd B Y M Y.length) (h48 : Y.length ≤ 48) (ho : ordF B) (hw : ∀ y, y ∈ Y → snd y.2.1 y.2.2 → w y.2.1)
    (hQ : Q (some (.int (oI (brY w v snd B Y) Y.length))) M) :
    ∀ (m i : Nat), i + m = Y.length → ∀ (v4 : Value), jk v4 → (∀ k, k < i → (!dB (fbP w v snd B Y k)) = false) → am_P am_P0 d (am_look tX11_bars) 23 [.ref 277, .int x1, .int (tI (FbP w v snd B Y i)), .int (nI i), v4] [] M Q := by
  intro m
  induction m with
  | zero =>
    intro i hi v4 hv4 hb
    have hle : nI Y.length ≤ nI i := (ni_le (by omega) (by omega)).mpr (by omega)
    have ei : i = Y.length := by omega
    have h0 := hQ
    unfold oI brY at h0
    rw [fs_all (by rw [← ei]; exact hb), if_neg (by omega)] at h0
    rw [hX11_bars_23]
    simp +decide only [qX11_bars_0, qX11_bars_1, lm hL, hP.1.1, am_w1_i, am_w1_r, am_w1_x, am_w1_l, am_w1_w, va_rf_s, am_push_n, am_push_s, am_cs_0, am_cs_i, am_cs_l, am_cs_r, m_uI_K, m_uI_N, m_uI_R, m_uI_L, m_uI_I, m_uL_K, m_uL_N, m_uL_R, m_uL_I, m_uL_L, m_uR_K, m_uR_N, m_uR_I, m_uR_L, m_uR_R, true_and, and_true, true_implies, false_implies, not_true_eq_false, not_false_eq_true, if_true, if_false, false_and, and_false]
    first | rw [br_p (hle)] | rw [br_r (hle)] | rw [br_s (hle)]
    exact h0
  | succ m ih =>
    intro i hi v4 hv4 hb
    have hlt : ¬ nI Y.length ≤ nI i := by rw [ni_le (by omega) (by omega)]; omega
    obtain ⟨y, hy⟩ : ∃ y, Y[i]? = some y := ⟨Y[i]'(by omega), List.getElem?_eq_getElem (by omega)⟩
    have hg := hP.2.1 i y (by omega) hy
    have key : ∀ p : Prop, (p ↔ FbP w v snd B Y i ∧ gdF w v snd B Y i = true ∧ ∀ k, k < 0 → goF w v Y i k = true) → am_P am_P0 d (am_look tX11_bars) 53 [.ref 277, .int x1, .int (tI p), .int (nI i), .int (nI 0)] [] M Q := fun p hp => by
      refine l_m_bar2 d w v snd B Y M Q x1 hL hP h48 i (by omega) (fun p2 hp2 => ?_) i 0 (by omega) p hp
      rw [← fb_iff (by omega) ho hw] at hp2
      by_cases c : p2
      · have h0 := ih (i + 1) (by omega) (.int (nI i)) (Or.inr ⟨_, rfl⟩) (fun k hk => by
          by_cases e : k = i
          · subst e; rw [dB_t.mpr (hp2.mp c)]; rfl
          · exact hb k (by omega))
        rw [tI_t ((fb_iff (by omega) ho hw).mp (hp2.mp c))] at h0
        rw [tI_t c]
        simp +decide only [qX11_bars_0, qX11_bars_1, ni_add1, am_w1_i, am_w1_r, am_w1_x, am_w1_l, am_w1_w, va_rf_s, am_push_n, am_push_s, am_cs_0, am_cs_i, am_cs_l, am_cs_r, m_uI_K, m_uI_N, m_uI_R, m_uI_L, m_uI_I, m_uL_K, m_uL_N, m_uL_R, m_uL_I, m_uL_L, m_uR_K, m_uR_N, m_uR_I, m_uR_L, m_uR_R, true_and, and_true, true_implies, false_implies, not_true_eq_false, not_false_eq_true, if_true, if_false, false_and, and_false]
        exact h0
      · have h0 := hQ
        unfold oI brY at h0
        rw [fs_is (i := i) hb (by omega) (by rw [dB_f.mpr (fun q => c (hp2.mpr q))]; rfl), if_pos (by omega)] at h0
        rw [tI_f c]
        simp +decide only [qX11_bars_0, qX11_bars_1, am_w1_i, am_w1_r, am_w1_x, am_w1_l, am_w1_w, va_rf_s, am_push_n, am_push_s, am_cs_0, am_cs_i, am_cs_l, am_cs_r, m_uI_K, m_uI_N, m_uI_R, m_uI_L, m_uI_I, m_uL_K, m_uL_N, m_uL_R, m_uL_I, m_uL_L, m_uR_K, m_uR_N, m_uR_I, m_uR_L, m_uR_R, true_and, and_true, true_implies, false_implies, not_true_eq_false, not_false_eq_true, if_true, if_false, false_and, and_false]
        exact h0
    rw [hX11_bars_23]
    simp +decide (disch := omega) only [qX11_bars_0, qX11_bars_1, lm hL, hP.1.1, hg, tI_01, tI_0, ni_in_t, ni_tn, jk_w hv4, am_w1_i, am_w1_r, am_w1_x, am_w1_l, am_w1_w, va_rf_s, am_push_n, am_push_s, am_cs_0, am_cs_i, am_cs_l, am_cs_r, m_uI_K, m_uI_N, m_uI_R, m_uI_L, m_uI_I, m_uL_K, m_uL_N, m_uL_R, m_uL_I, m_uL_L, m_uR_K, m_uR_N, m_uR_I, m_uR_L, m_uR_R, true_and, and_true, true_implies, false_implies, not_true_eq_false, not_false_eq_true, if_true, if_false, false_and, and_false]
    first | rw [br_n (hlt)] | rw [br_q (hlt)] | rw [br_u (hlt)]
    by_cases c : FbP w v snd B Y i
    · first | rw [br_p (c)] | rw [br_r (c)] | rw [br_s (c)]
      by_cases c2 : goodY w v snd B y
      · first | rw [br_p (c2)] | rw [br_r (c2)] | rw [br_s (c2)]
        have h0 := key True ⟨fun _ => ⟨c, (gdF_y hy).mpr c2, fun k hk => by omega⟩, fun _ => trivial⟩
        rw [tI_t trivial] at h0
        exact h0
      · first | rw [br_n (c2)] | rw [br_q (c2)] | rw [br_u (c2)]
        have h0 := key False ⟨fun q => q.elim, fun q => c2 ((gdF_y hy).mp q.2.1)⟩
        rw [tI_f (fun q => q)] at h0
        exact h0
    · first | rw [br_n (c)] | rw [br_q (c)] | rw [br_u (c)]
      have h0 := key False ⟨fun q => q.elim, fun q => c q.1⟩
      rw [tI_f (fun q => q)] at h0
      exact h0
end
theorem dBs_ord {D : Dat} (h : dOK D) (s : Nat) : ordF (dBs D s) := fun a ha => by
  obtain ⟨k, k1, k2, rfl⟩ := bkOf_mem.mp ha
  exact (h.1.2.2.2.2.2.2.1.1.2 k k1).2.2.1
theorem m_bars (v : Int32) : MqO 269 [.int v] (aBar v) := by
  intro d M b D Q hD hL h hQ
  have n8 := dN_8 hD
  have eS := fun v Q => m_isShip hD hL h (d + 18) v Q
  unfold aBar at hQ
  rw [eX11_bars]
  simp +decide only [qX11_bars_0, qX11_bars_1, lm hL, eS, bI_0, Classical.not_not, am_w1_i, am_w1_r, am_w1_x, am_w1_l, am_w1_w, va_rf_s, am_push_n, am_push_s, am_cs_0, am_cs_i, am_cs_l, am_cs_r, m_uI_K, m_uI_N, m_uI_R, m_uI_L, m_uI_I, m_uL_K, m_uL_N, m_uL_R, m_uL_I, m_uL_L, m_uR_K, m_uR_N, m_uR_I, m_uR_L, m_uR_R, true_and, and_true, true_implies, false_implies, not_true_eq_false, not_false_eq_true, if_true, if_false, false_and, and_false]
  by_cases hv : 0 ≤ v.toInt ∧ v.toInt < dN D
  · first | rw [br_p (hv)] | rw [br_r (hv)] | rw [br_s (hv)]
    rw [if_pos hv] at hQ
    obtain ⟨s, s1, s2, s3⟩ := sh_of (by omega) hv
    rw [s3] at hQ
    rw [s2]
    refine m_booksFit hD hL h s1 (d + 14) _ (fun M1 g1 => ?_)
    have L1 := gF_LayN g1 hL
    have h1 := MdM_q h g1
    simp +decide only [qX11_bars_0, qX11_bars_1, lm L1, am_w1_i, am_w1_r, am_w1_x, am_w1_l, am_w1_w, va_rf_s, am_push_n, am_push_s, am_cs_0, am_cs_i, am_cs_l, am_cs_r, m_uI_K, m_uI_N, m_uI_R, m_uI_L, m_uI_I, m_uL_K, m_uL_N, m_uL_R, m_uL_I, m_uL_L, m_uR_K, m_uR_N, m_uR_I, m_uR_L, m_uR_R, true_and, and_true, true_implies, false_implies, not_true_eq_false, not_false_eq_true, if_true, if_false, false_and, and_false]
    refine m_pairs hD L1 h1 s1 (d + 14) _ (fun M2 g2 p2 => ?_)
    have h0 := hQ M2 (gF_trans g1 g2)
    have L2 := gF_LayN g2 L1
    have h9 := l_m_bar1 (d + 20) _ _ _ _ _ M2 Q (nI s) L2 p2 (dY_len hD s) (dBs_ord hD s) (dSn_w hD s) h0 (dY D s).length 0 (by omega) am_x (Or.inl rfl) (fun k hk => by omega)
    rw [tI_i (q := fitP (dWt D s) (dV D s) (dBs D s)) ⟨fun q => q.1, fun q => ⟨q, fun k hk => by omega⟩⟩] at h9
    simp +decide only [qX11_bars_0, qX11_bars_1, am_w1_i, am_w1_r, am_w1_x, am_w1_l, am_w1_w, va_rf_s, am_push_n, am_push_s, am_cs_0, am_cs_i, am_cs_l, am_cs_r, m_uI_K, m_uI_N, m_uI_R, m_uI_L, m_uI_I, m_uL_K, m_uL_N, m_uL_R, m_uL_I, m_uL_L, m_uR_K, m_uR_N, m_uR_I, m_uR_L, m_uR_R, true_and, and_true, true_implies, false_implies, not_true_eq_false, not_false_eq_true, if_true, if_false, false_and, and_false]
    exact h9
  · have h0 := hQ M (gF_refl _ _ _)
    rw [if_neg hv] at h0
    first | rw [br_n (hv)] | rw [br_q (hv)] | rw [br_u (hv)]
    exact h0
theorem op_bars (v : Int32) : OpI 124 269 [.int v] isI := op_q (fun D => ⟨_, rfl⟩) (x_bars v) (m_bars v)
