/-! the class's waters: a step wider -/
noncomputable def widR (r b : Nat) (wt : Nat → Int64) : Nat → Nat → Int64 → Int32 → am_M → Int32 × am_M
  | 0, _, _, g, M => (g, M)
  | m + 1, k, ab, g, M => widR r b wt m (k + 1) (mL M r (b + k)) (g ||| tI (¬ widL (mL M r (b + k)) ab (if k + 1 < 4 then mL M r (b + k + 1) else 0) (wt k) = mL M r (b + k))) (uL M r (b + k) (widL (mL M r (b + k)) ab (if k + 1 < 4 then mL M r (b + k + 1) else 0) (wt k)))
theorem tI_or (p q : Prop) : (tI p ||| tI q) = tI (p ∨ q) := by
  by_cases a : p <;> by_cases b : q
  · rw [tI_t a, tI_t b, tI_t (Or.inl a)]; decide
  · rw [tI_t a, tI_f b, tI_t (Or.inl a)]; decide
  · rw [tI_f a, tI_t b, tI_t (Or.inr b)]; decide
  · rw [tI_f a, tI_f b, tI_f (fun h => h.elim a b)]; decide
theorem or_01 {a b : Int32} (h1 : a = 0 ∨ a = 1) (h2 : b = 0 ∨ b = 1) : (a ||| b) = 0 ∨ (a ||| b) = 1 := by
  rcases h1 with rfl | rfl <;> rcases h2 with rfl | rfl <;> decide
theorem l_x_widen (d : Nat) (w r b : Nat) (Q : Option Value → am_M → Prop) (hw : isTr w) (hne : ¬ r = w + 2) (wt : Nat → Int64) : ∀ (m k : Nat), k + m = 4 → ∀ (M : am_M), Lay M → mK M r = 1 → b + 4 ≤ mN M r → mN M r ≤ 192 → (∀ i, mL M (w + 2) i = wt i) → ∀ (g : Int32) (ab : Int64) (v7 v8 v9 v10 v11 v12 v13 v14 v15 v16 : Value), (g = 0 ∨ g = 1) →
    (am_P am_P0 d (am_look tX9_widen) 8 [.ref (w + 1), .ref r, .int (nI b), .int g, .long ab, am_x, .int (nI k), v7, v8, v9, v10, v11, v12, v13, v14, v15, v16] [] M Q ↔ Q (some (.int (widR r b wt m k ab g M).1)) (widR r b wt m k ab g M).2) := by
  intro m
  induction m with
  | zero =>
    intro k hk M h hr hb hN hwt g ab v7 v8 v9 v10 v11 v12 v13 v14 v15 v16 hg
    have e : k = 4 := by omega
    subst e
    rw [hX9_widen_8]
    simp +decide only [qX9_widen_0, qX9_widen_1, qX9_widen_2, am_w1_i, am_w1_r, am_w1_x, am_w1_l, am_w1_w, va_rf_s, am_push_n, am_push_s, am_cs_0, am_cs_i, am_cs_l, am_cs_r, m_uI_K, m_uI_N, m_uI_R, m_uI_L, m_uI_I, m_uL_K, m_uL_N, m_uL_R, m_uL_I, m_uL_L, m_uR_K, m_uR_N, m_uR_I, m_uR_L, m_uR_R, true_and, and_true, true_implies, false_implies]
    rw [eq_true hg, true_and]
    exact Iff.rfl
  | succ m ih =>
    intro k hk M h hr hb hN hwt g ab v7 v8 v9 v10 v11 v12 v13 v14 v15 v16 hg
    have h4 : ¬ (4 : Int32) ≤ nI k := by rw [show (4 : Int32) = nI 4 from rfl, ni_le (by omega) (by omega)]; omega
    have hw2 : ¬ w + 2 = r := fun e => hne e.symm
    have e1 : nI b + nI k = nI (b + k) := ni_add b k
    have fin : ∀ v, (am_P am_P0 d (am_look tX9_widen) 8 [.ref (w + 1), .ref r, .int (nI b), .int (g ||| tI (¬ v = mL M r (b + k))), .long (mL M r (b + k)), am_x, .int (nI (k + 1)), .long (mL M r (b + k)), am_x, .long v, am_x, .long v, am_x, .long v, am_x, .long v, am_x] [] M Q ↔ True) → True := fun _ _ => trivial
    by_cases hk1 : k + 1 < 4
    · have h5 : ¬ (4 : Int32) ≤ nI (k + 1) := by rw [show (4 : Int32) = nI 4 from rfl, ni_le (by omega) (by omega)]; omega
      rw [hX9_widen_8]
      simp +decide (disch := omega) only [qX9_widen_0, qX9_widen_1, qX9_widen_2, lt_ h hw, hr, e1, ni_in_t, ni_tn, ni_add1, hw2, hwt, am_w1_i, am_w1_r, am_w1_x, am_w1_l, am_w1_w, va_rf_s, am_push_n, am_push_s, am_cs_0, am_cs_i, am_cs_l, am_cs_r, m_uI_K, m_uI_N, m_uI_R, m_uI_L, m_uI_I, m_uL_K, m_uL_N, m_uL_R, m_uL_I, m_uL_L, m_uR_K, m_uR_N, m_uR_I, m_uR_L, m_uR_R, true_and, and_true, false_and, if_false]
      rw [br_n h4, br_n h5]
      show _ ↔ Q (some (.int (widR r b wt m (k + 1) (mL M r (b + k)) (g ||| tI (¬ widL (mL M r (b + k)) ab (if k + 1 < 4 then mL M r (b + k + 1) else 0) (wt k) = mL M r (b + k))) (uL M r (b + k) (widL (mL M r (b + k)) ab (if k + 1 < 4 then mL M r (b + k + 1) else 0) (wt k)))).1)) (widR r b wt m (k + 1) (mL M r (b + k)) (g ||| tI (¬ widL (mL M r (b + k)) ab (if k + 1 < 4 then mL M r (b + k + 1) else 0) (wt k) = mL M r (b + k))) (uL M r (b + k) (widL (mL M r (b + k)) ab (if k + 1 < 4 then mL M r (b + k + 1) else 0) (wt k)))).2
      rw [if_pos hk1]
      generalize hv : widL (mL M r (b + k)) ab (mL M r (b + k + 1)) (wt k) = v
      unfold widL at hv
      simp only [hv, and_self, if_true, lgc_0]
      by_cases e : v = mL M r (b + k)
      · rw [br_p e, tI_f (fun q => q e)]
        exact ih (k + 1) (by omega) (uL M r (b + k) v) h hr hb hN (fun i => by rw [m_uL_L, if_neg (fun q => hw2 q.1)]; exact hwt i) _ _ _ _ _ _ _ _ _ _ _ _ (or_01 hg (Or.inl rfl))
      · rw [br_n e, tI_t e]
        exact ih (k + 1) (by omega) (uL M r (b + k) v) h hr hb hN (fun i => by rw [m_uL_L, if_neg (fun q => hw2 q.1)]; exact hwt i) _ _ _ _ _ _ _ _ _ _ _ _ (or_01 hg (Or.inr rfl))
    · have h5 : (4 : Int32) ≤ nI (k + 1) := by rw [show (4 : Int32) = nI 4 from rfl, ni_le (by omega) (by omega)]; omega
      rw [hX9_widen_8]
      simp +decide (disch := omega) only [qX9_widen_0, qX9_widen_1, qX9_widen_2, lt_ h hw, hr, e1, ni_in_t, ni_tn, ni_add1, hw2, hwt, am_w1_i, am_w1_r, am_w1_x, am_w1_l, am_w1_w, va_rf_s, am_push_n, am_push_s, am_cs_0, am_cs_i, am_cs_l, am_cs_r, m_uI_K, m_uI_N, m_uI_R, m_uI_L, m_uI_I, m_uL_K, m_uL_N, m_uL_R, m_uL_I, m_uL_L, m_uR_K, m_uR_N, m_uR_I, m_uR_L, m_uR_R, true_and, and_true, false_and, if_false]
      rw [br_n h4, br_p h5]
      show _ ↔ Q (some (.int (widR r b wt m (k + 1) (mL M r (b + k)) (g ||| tI (¬ widL (mL M r (b + k)) ab (if k + 1 < 4 then mL M r (b + k + 1) else 0) (wt k) = mL M r (b + k))) (uL M r (b + k) (widL (mL M r (b + k)) ab (if k + 1 < 4 then mL M r (b + k + 1) else 0) (wt k)))).1)) (widR r b wt m (k + 1) (mL M r (b + k)) (g ||| tI (¬ widL (mL M r (b + k)) ab (if k + 1 < 4 then mL M r (b + k + 1) else 0) (wt k) = mL M r (b + k))) (uL M r (b + k) (widL (mL M r (b + k)) ab (if k + 1 < 4 then mL M r (b + k + 1) else 0) (wt k)))).2
      rw [if_neg hk1]
      generalize hv : widL (mL M r (b + k)) ab 0 (wt k) = v
      unfold widL at hv
      simp only [hv, and_self, if_true, lgc_0]
      by_cases e : v = mL M r (b + k)
      · rw [br_p e, tI_f (fun q => q e)]
        exact ih (k + 1) (by omega) (uL M r (b + k) v) h hr hb hN (fun i => by rw [m_uL_L, if_neg (fun q => hw2 q.1)]; exact hwt i) _ _ _ _ _ _ _ _ _ _ _ _ (or_01 hg (Or.inl rfl))
      · rw [br_n e, tI_t e]
        exact ih (k + 1) (by omega) (uL M r (b + k) v) h hr hb hN (fun i => by rw [m_uL_L, if_neg (fun q => hw2 q.1)]; exact hwt i) _ _ _ _ _ _ _ _ _ _ _ _ (or_01 hg (Or.inr rfl))
/-- four words of a row written -/
def w4 (M : am_M) (r b : Nat) (f : Nat → Int64) : am_M := uL (uL (uL (uL M r b (f 0)) r (b + 1) (f 1)) r (b + 2) (f 2)) r (b + 3) (f 3)
theorem w4_L (M : am_M) (r b : Nat) (f : Nat → Int64) (a j : Nat) : mL (w4 M r b f) a j = if a = r ∧ b ≤ j ∧ j < b + 4 then f (j - b) else mL M a j := by
  unfold w4
  simp only [m_uL_L]
  by_cases e : a = r
  · subst e
    by_cases e3 : j = b + 3
    · subst e3; rw [if_pos ⟨rfl, rfl⟩, if_pos (by omega)]; congr 1; omega
    · rw [if_neg (fun q => e3 q.2)]
      by_cases e2 : j = b + 2
      · subst e2; rw [if_pos ⟨rfl, rfl⟩, if_pos (by omega)]; congr 1; omega
      · rw [if_neg (fun q => e2 q.2)]
        by_cases e1 : j = b + 1
        · subst e1; rw [if_pos ⟨rfl, rfl⟩, if_pos (by omega)]; congr 1; omega
        · rw [if_neg (fun q => e1 q.2)]
          by_cases e0 : j = b
          · subst e0; rw [if_pos ⟨rfl, rfl⟩, if_pos (by omega)]; congr 1; omega
          · rw [if_neg (fun q => e0 q.2), if_neg (by omega)]
  · rw [if_neg (fun q => e q.1), if_neg (fun q => e q.1), if_neg (fun q => e q.1), if_neg (fun q => e q.1), if_neg (fun q => e q.1)]
theorem c_x_widen (d : Nat) (w r b : Nat) (M : am_M) (Q : Option Value → am_M → Prop) (h : Lay M) (hw : isTr w) (hne : ¬ r = w + 2) (hr : mK M r = 1) (hb : b + 4 ≤ mN M r) (hN : mN M r ≤ 192) :
    am_E am_P0 d 106 [.ref (w + 1), .ref r, .int (nI b)] M Q ↔ Q (some (.int (tI (¬ ∀ i, i < 4 → widS (fun i => mL M r (b + i)) (fun i => mL M (w + 2) i) i = mL M r (b + i))))) (w4 M r b (widS (fun i => mL M r (b + i)) (fun i => mL M (w + 2) i))) := by
  rw [eX9_widen]
  simp +decide only [qX9_widen_0, qX9_widen_1, qX9_widen_2, am_w1_i, am_w1_r, am_w1_x, am_w1_l, am_w1_w, va_rf_s, am_push_n, am_push_s, am_cs_0, am_cs_i, am_cs_l, am_cs_r, m_uI_K, m_uI_N, m_uI_R, m_uI_L, m_uI_I, m_uL_K, m_uL_N, m_uL_R, m_uL_I, m_uL_L, m_uR_K, m_uR_N, m_uR_I, m_uR_L, m_uR_R, true_and, and_true]
  rw [show (0 : Int32) = nI 0 from rfl]
  rw [l_x_widen d w r b Q hw hne (fun i => mL M (w + 2) i) 4 0 rfl M h hr hb hN (fun _ => rfl) (nI 0) 0 _ _ _ _ _ _ _ _ _ _ (Or.inl rfl)]
  have e1 : (widR r b (fun i => mL M (w + 2) i) 4 0 0 (nI 0) M) = (tI (¬ ∀ i, i < 4 → widS (fun i => mL M r (b + i)) (fun i => mL M (w + 2) i) i = mL M r (b + i)), w4 M r b (widS (fun i => mL M r (b + i)) (fun i => mL M (w + 2) i))) := by
    have hs : widR r b (fun i => mL M (w + 2) i) 4 0 0 (nI 0) M = (nI 0 ||| tI (¬ widS (fun i => mL M r (b + i)) (fun i => mL M (w + 2) i) 0 = mL M r b) ||| tI (¬ widS (fun i => mL M r (b + i)) (fun i => mL M (w + 2) i) 1 = mL M r (b + 1)) ||| tI (¬ widS (fun i => mL M r (b + i)) (fun i => mL M (w + 2) i) 2 = mL M r (b + 2)) ||| tI (¬ widS (fun i => mL M r (b + i)) (fun i => mL M (w + 2) i) 3 = mL M r (b + 3)), w4 M r b (widS (fun i => mL M r (b + i)) (fun i => mL M (w + 2) i))) := by
      simp +decide [widR, w4, widS, m_uL_L, Nat.add_assoc]
    rw [hs]
    congr 1
    generalize widS (fun i => mL M r (b + i)) (fun i => mL M (w + 2) i) = f
    rw [show nI 0 = tI False from (tI_f id).symm, tI_or, tI_or, tI_or, tI_or]
    refine tI_i ⟨fun q p => ?_, fun q => ?_⟩
    · have p0 := p 0 (by omega)
      have p1 := p 1 (by omega)
      have p2 := p 2 (by omega)
      have p3 := p 3 (by omega)
      rcases q with (((q | q) | q) | q) | q
      · exact q
      · exact q p0
      · exact q p1
      · exact q p2
      · exact q p3
    · by_cases c0 : f 0 = mL M r b
      · by_cases c1 : f 1 = mL M r (b + 1)
        · by_cases c2 : f 2 = mL M r (b + 2)
          · refine Or.inr (fun c3 => q (fun i hi => ?_))
            have hc : i = 0 ∨ i = 1 ∨ i = 2 ∨ i = 3 := by omega
            rcases hc with rfl | rfl | rfl | rfl
            · exact c0
            · exact c1
            · exact c2
            · exact c3
          · exact Or.inl (Or.inr c2)
        · exact Or.inl (Or.inl (Or.inr c1))
      · exact Or.inl (Or.inl (Or.inl (Or.inr c0)))
  rw [e1]
