/-! the model's keeps: the taking -/
theorem kpS_lt {L : Nat} {f : Nat → Nat} {go : Nat → Nat → Bool} : ∀ i l, (kpS L f go i).2 = some l → l < i := by
  intro i
  induction i with
  | zero => intro l h; cases h
  | succ i ih =>
    intro l h
    by_cases c : kpT L f go i
    · rw [kpS_t c] at h; cases h; omega
    · rw [kpS_f c] at h; have := ih l h; omega
theorem kpS_stop {L : Nat} {f : Nat → Nat} {go : Nat → Nat → Bool} {i : Nat} (h : ¬ (kpS L f go i).1 < L) : ∀ k, i ≤ k → kpS L f go k = kpS L f go i ∧ ¬ kpT L f go k := by
  intro k
  induction k with
  | zero => intro hk; have e : i = 0 := by omega
            subst e; exact ⟨rfl, fun z => h z.1⟩
  | succ k ih =>
    intro hk
    by_cases e : i = k + 1
    · subst e; exact ⟨rfl, fun z => h z.1⟩
    · obtain ⟨a, b⟩ := ih (by omega)
      have e2 : kpS L f go (k + 1) = kpS L f go i := by rw [kpS_f b, a]
      exact ⟨e2, fun z => h (by have := z.1; rw [e2] at this; exact this)⟩
theorem l_m_keeps4 (d s : Nat) (w : Nat → Prop) (v : Nat) (snd : Nat → Bool → Prop) (B : List Fct) (Y : List Sy) (M0 : am_M) (Q : Option Value → am_M → Prop) (hl : Y.length ≤ 48) (hL : Lay M0) (hP : PrM w v snd B Y M0 Y.length) (hlg : ∀ k, k < Y.length → mI M0 326 k = nI (lgY w v snd B Y k))
    (hQ : ∀ M', oS sK M0 M' → (∀ a j, ¬ a = 324 → mI M' a j = mI M0 a j) → (∀ k, k < Y.length → mI M' 324 k = tI (keptY w v snd B Y k)) → Q none M') :
    ∀ (m i : Nat), i + m = Y.length → ∀ (M : am_M), oS sK M0 M → (∀ a j, ¬ a = 324 → mI M a j = mI M0 a j) → (∀ k, k < Y.length → mI M 324 k = tI (k < i ∧ keptY w v snd B Y k)) →
    am_P am_P0 d (am_look tX11_keeps) 207 [.ref 277, .int (nI s), .int (nI (mostY w v snd B Y - (kpS (mostY w v snd B Y) (lgY w v snd B Y) (goF w v Y) i).1)), .int (match (kpS (mostY w v snd B Y) (lgY w v snd B Y) (goF w v Y) i).2 with | none => -1 | some l => nI l), .int (nI i)] [] M Q := by
  have hfb := lgY_b w v snd B Y hl
  obtain ⟨L, hLe⟩ : ∃ L, L = mostY w v snd B Y := ⟨_, rfl⟩
  obtain ⟨f, hfe⟩ : ∃ f, f = lgY w v snd B Y := ⟨_, rfl⟩
  obtain ⟨go, hge⟩ : ∃ go, go = goF w v Y := ⟨_, rfl⟩
  have hkY : ∀ k, keptY w v snd B Y k ↔ k < Y.length ∧ kpT L f go k := fun k => by rw [hLe, hfe, hge]; exact Iff.rfl
  rw [← hLe, ← hfe, ← hge]
  rw [← hfe] at hlg hfb
  have hLb : L ≤ 48 := by
    rw [hLe]
    unfold mostY
    rcases lgM_at (f := lgY w v snd B Y) (k := Y.length) with e | ⟨j, -, e⟩
    · omega
    · rw [← e, ← hfe]; exact hfb j
  intro m
  induction m with
  | zero =>
    intro i hi M hM hk hm
    have e : i = Y.length := by omega
    have hPM := PrM_S (M' := M) hP (hk _ _ (by omega)) (fun j => hk _ _ (by omega)) (fun j => hk _ _ (by omega)) (fun j => hk _ _ (by omega))
    have hle : nI Y.length ≤ nI i := (ni_le (by omega) (by omega)).mpr (by omega)
    rw [hX11_keeps_207]
    simp +decide only [qX11_keeps_0, qX11_keeps_1, qX11_keeps_2, qX11_keeps_3, lm (oS_Lay hM hL), hPM.1.1, am_w1_i, am_w1_r, am_w1_x, am_w1_l, am_w1_w, va_rf_s, am_push_n, am_push_s, am_cs_0, am_cs_i, am_cs_l, am_cs_r, m_uI_K, m_uI_N, m_uI_R, m_uI_L, m_uI_I, m_uL_K, m_uL_N, m_uL_R, m_uL_I, m_uL_L, m_uR_K, m_uR_N, m_uR_I, m_uR_L, m_uR_R, true_and, and_true]
    rw [br_p hle]
    refine hQ M hM hk (fun k hk2 => ?_)
    rw [hm k hk2]
    exact tI_i (and_iff_right (by omega))
  | succ m ih =>
    intro i hi M hM hk hm
    have hLM := oS_Lay hM hL
    have hPM := PrM_S (M' := M) hP (hk _ _ (by omega)) (fun j => hk _ _ (by omega)) (fun j => hk _ _ (by omega)) (fun j => hk _ _ (by omega))
    have hlt : ¬ nI Y.length ≤ nI i := by rw [ni_le (by omega) (by omega)]; omega
    obtain ⟨y, hy⟩ : ∃ y, Y[i]? = some y := ⟨Y[i]'(by omega), List.getElem?_eq_getElem (by omega)⟩
    have r4 : mI M 326 i = nI (f i) := by rw [hk _ _ (by omega)]; exact hlg i (by omega)
    have b1 := hfb i
    have hcl := (kp_inv (n := Y.length) (gd := gdF w v snd B Y) (go := goF w v Y) (L := mostY w v snd B Y) rfl i (by omega)).1
    have hcl' : (kpS L f go i).1 ≤ L := by rw [hLe, hfe, hge]; exact hcl
    -- not taken
    have hno : ¬ kpT L f go i → am_P am_P0 d (am_look tX11_keeps) 207 [.ref 277, .int (nI s), .int (nI (L - (kpS L f go i).1)), .int (match (kpS L f go i).2 with | none => -1 | some l => nI l), .int (nI (i + 1))] [] M Q := by
      intro hn
      have h0 := ih (i + 1) (by omega) M hM hk (fun k hk2 => ?_)
      · rw [kpS_f hn] at h0
        exact h0
      · rw [hm k hk2]
        refine tI_i ⟨fun z => ⟨by omega, z.2⟩, fun z => ⟨?_, z.2⟩⟩
        by_cases ek : k = i
        · subst ek; exact absurd ((hkY k).mp z.2).2 hn
        · omega
    -- taken
    have hyes : kpT L f go i → am_P am_P0 d (am_look tX11_keeps) 207 [.ref 277, .int (nI s), .int (nI (L - (kpS L f go i).1) + -1), .int (nI i), .int (nI (i + 1))] [] (uI M 324 i 1) Q := by
      intro ht
      have g1 : oS sK M (uI M 324 i 1) := ⟨fun a k h => by rw [m_uI_I, if_neg (fun q => h (Or.inr (Or.inl q.1)))], fun _ _ => rfl, fun _ _ => rfl, rfl⟩
      have h0 := ih (i + 1) (by omega) (uI M 324 i 1) (oS_trans hM g1) (fun a j h => by rw [m_uI_I, if_neg (fun q => h q.1)]; exact hk a j h) (fun k hk2 => ?_)
      · rw [kpS_t ht] at h0
        dsimp only at h0
        have e : nI (L - (kpS L f go i).1) + -1 = nI (L - ((kpS L f go i).1 + 1)) := by
          have := ht.1
          rw [show nI (L - (kpS L f go i).1) + -1 = nI (L - (kpS L f go i).1) - 1 from (Int32.sub_eq_add_neg _ _).symm, show (1 : Int32) = nI 1 from rfl, ni_sub (by omega)]
          rfl
        rw [e]
        exact h0
      · rw [m_uI_I]
        by_cases ek : k = i
        · subst ek
          rw [if_pos ⟨rfl, rfl⟩]
          exact (tI_t ⟨by omega, (hkY k).mpr ⟨by omega, ht⟩⟩).symm
        · rw [if_neg (fun q => ek q.2), hm k hk2]
          exact tI_i ⟨fun z => ⟨by omega, z.2⟩, fun z => ⟨by omega, z.2⟩⟩
    rw [hX11_keeps_207]
    by_cases c1 : (kpS L f go i).1 < L
    · have hpos : ¬ nI (L - (kpS L f go i).1) ≤ 0 := by rw [show (0 : Int32) = nI 0 from rfl, ni_le (by omega) (by omega)]; omega
      cases hls : (kpS L f go i).2 with
      | none =>
        rw [hls] at hno
        dsimp only at hno ⊢
        simp +decide (disch := omega) only [qX11_keeps_0, qX11_keeps_1, qX11_keeps_2, qX11_keeps_3, lm hLM, hPM.1.1, r4, ni_in_t, ni_tn, ni_add1, am_w1_i, am_w1_r, am_w1_x, am_w1_l, am_w1_w, va_rf_s, am_push_n, am_push_s, am_cs_0, am_cs_i, am_cs_l, am_cs_r, m_uI_K, m_uI_N, m_uI_R, m_uI_L, m_uI_I, m_uL_K, m_uL_N, m_uL_R, m_uL_I, m_uL_L, m_uR_K, m_uR_N, m_uR_I, m_uR_L, m_uR_R, true_and, and_true, true_implies, false_implies]
        rw [br_n hlt, br_n hpos]
        by_cases c2 : f i = L - (kpS L f go i).1
        · rw [br_r (by rw [c2])]
          exact hyes ⟨c1, c2, fun l h => by rw [hls] at h; cases h⟩
        · rw [br_q (fun q => c2 ((ni_eq (by omega) (by omega)).mp q))]
          exact hno (fun z => c2 z.2.1)
      | some l =>
        have hli := kpS_lt i l hls
        obtain ⟨z, hz⟩ : ∃ z, Y[l]? = some z := ⟨Y[l]'(by omega), List.getElem?_eq_getElem (by omega)⟩
        have r3 := hPM.2.2 l i z y (by omega) hz hy
        have hgo := goF_y (w := w) (v := v) hz hy
        rw [← hge] at hgo
        have e48 : 48 * nI l + nI i = nI (48 * l + i) := by rw [show (48 : Int32) = nI 48 from rfl, ni_mul, ni_add]
        have hl1 : ¬ nI l = -1 := nI_m1 (by omega)
        rw [hls] at hno
        dsimp only at hno ⊢
        simp +decide (disch := omega) only [qX11_keeps_0, qX11_keeps_1, qX11_keeps_2, qX11_keeps_3, lm hLM, hPM.1.1, r4, r3, e48, ni_in_t, ni_tn, ni_add1, am_w1_i, am_w1_r, am_w1_x, am_w1_l, am_w1_w, va_rf_s, am_push_n, am_push_s, am_cs_0, am_cs_i, am_cs_l, am_cs_r, m_uI_K, m_uI_N, m_uI_R, m_uI_L, m_uI_I, m_uL_K, m_uL_N, m_uL_R, m_uL_I, m_uL_L, m_uR_K, m_uR_N, m_uR_I, m_uR_L, m_uR_R, true_and, and_true]
        rw [br_n hlt, br_n hpos]
        by_cases c2 : f i = L - (kpS L f go i).1
        · rw [br_r (by rw [c2]), br_n hl1]
          by_cases c3 : gowY w v z y
          · rw [tI_t c3, br_q (by decide)]
            exact hyes ⟨c1, c2, fun l' h => by rw [hls] at h; cases h; exact hgo.mpr c3⟩
          · rw [tI_f c3, br_r rfl]
            exact hno (fun q => c3 (hgo.mp (q.2.2 l hls)))
        · rw [br_q (fun q => c2 ((ni_eq (by omega) (by omega)).mp q))]
          exact hno (fun q => c2 q.2.1)
    · have hz0 : nI (L - (kpS L f go i).1) ≤ 0 := by rw [show (0 : Int32) = nI 0 from rfl, ni_le (by omega) (by omega)]; omega
      have hst := kpS_stop c1
      simp +decide (disch := omega) only [qX11_keeps_0, qX11_keeps_1, qX11_keeps_2, qX11_keeps_3, lm hLM, hPM.1.1, am_w1_i, am_w1_r, am_w1_x, am_w1_l, am_w1_w, va_rf_s, am_push_n, am_push_s, am_cs_0, am_cs_i, am_cs_l, am_cs_r, m_uI_K, m_uI_N, m_uI_R, m_uI_L, m_uI_I, m_uL_K, m_uL_N, m_uL_R, m_uL_I, m_uL_L, m_uR_K, m_uR_N, m_uR_I, m_uR_L, m_uR_R, true_and, and_true]
      rw [br_n hlt, br_p hz0]
      refine hQ M hM hk (fun k hk2 => ?_)
      rw [hm k hk2]
      refine tI_i ⟨fun z => z.2, fun z => ⟨?_, z⟩⟩
      rcases Nat.lt_or_ge k i with q | q
      · exact q
      · exact absurd ((hkY k).mp z).2 (hst k q).2
