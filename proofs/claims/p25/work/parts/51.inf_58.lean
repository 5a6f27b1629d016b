/-! 51.inf 52.wat 53.bit 54.ring 55.ring2 56.ring3 57.with 58.far -/
section
/-! loops; rows of memory; first places -/
section
variable {P : Nat → am_Y} {d : Nat} {c : am_Code} {pc : Nat} {Q : Option Value → am_M → Prop}
theorem am_for (lv : Nat → List Value) (mm : Nat → am_M) (n : Nat) (h : ∀ k, k < n → (am_P P d c pc (lv k) [] (mm k) Q ↔ am_P P d c pc (lv (k + 1)) [] (mm (k + 1)) Q)) : am_P P d c pc (lv 0) [] (mm 0) Q ↔ am_P P d c pc (lv n) [] (mm n) Q := by
  induction n with
  | zero => exact Iff.rfl
  | succ n ih => exact (ih (fun k hk => h k (by omega))).trans (h n (by omega))
/-- a loop with locals of no account -/
theorem am_forJ {J : Type} (lv : Nat → J → List Value) (mm : Nat → am_M) (n : Nat) (h : ∀ k, k < n → ∀ j, ∃ j', (am_P P d c pc (lv k j) [] (mm k) Q ↔ am_P P d c pc (lv (k + 1) j') [] (mm (k + 1)) Q)) (j0 : J) : ∃ j, (am_P P d c pc (lv 0 j0) [] (mm 0) Q ↔ am_P P d c pc (lv n j) [] (mm n) Q) := by
  induction n with
  | zero => exact ⟨j0, Iff.rfl⟩
  | succ n ih =>
    obtain ⟨j, hj⟩ := ih (fun k hk => h k (by omega))
    obtain ⟨j', hj'⟩ := h n (by omega) j
    exact ⟨j', hj.trans hj'⟩
/-- a loop by what holds at its head -/
theorem am_forI (I : Nat → List Value → am_M → Prop) (n : Nat) (h : ∀ k lv M, k < n → I k lv M → ∃ lv' M', I (k + 1) lv' M' ∧ (am_P P d c pc lv' [] M' Q → am_P P d c pc lv [] M Q)) (hn : ∀ lv M, I n lv M → am_P P d c pc lv [] M Q) : ∀ k lv M, k ≤ n → I k lv M → am_P P d c pc lv [] M Q := by
  intro k
  induction hm : n - k generalizing k with
  | zero => intro lv M hk hi; have e : k = n := by omega
            subst e; exact hn lv M hi
  | succ m ih =>
    intro lv M hk hi
    obtain ⟨lv', M', h1, h2⟩ := h k lv M (by omega) hi
    exact h2 (ih (k + 1) (by omega) lv' M' (by omega) h1)
end
/-- a row of ints, of longs -/
def uA (M : am_M) (a : Nat) (f : Nat → Int32) : am_M := ((fun b => if b = a then f else M.1 b), M.2)
def uB (M : am_M) (a : Nat) (f : Nat → Int64) : am_M := (M.1, (fun b => if b = a then f else M.2.1 b), M.2.2)
section
variable (M : am_M) (a b j : Nat)
theorem uA_I (f : Nat → Int32) : mI (uA M a f) b j = if b = a then f j else mI M b j := by
  show (if b = a then f else M.1 b) j = _
  split <;> rfl
theorem uA_L (f : Nat → Int32) : mL (uA M a f) b j = mL M b j := rfl
theorem uA_R (f : Nat → Int32) : mR (uA M a f) b j = mR M b j := rfl
theorem uA_K (f : Nat → Int32) : mK (uA M a f) b = mK M b := rfl
theorem uA_N (f : Nat → Int32) : mN (uA M a f) b = mN M b := rfl
theorem uA_S (f : Nat → Int32) : mS (uA M a f) = mS M := rfl
theorem uB_L (f : Nat → Int64) : mL (uB M a f) b j = if b = a then f j else mL M b j := by
  show (if b = a then f else M.2.1 b) j = _
  split <;> rfl
theorem uB_I (f : Nat → Int64) : mI (uB M a f) b j = mI M b j := rfl
theorem uB_R (f : Nat → Int64) : mR (uB M a f) b j = mR M b j := rfl
theorem uB_K (f : Nat → Int64) : mK (uB M a f) b = mK M b := rfl
theorem uB_N (f : Nat → Int64) : mN (uB M a f) b = mN M b := rfl
theorem uB_S (f : Nat → Int64) : mS (uB M a f) = mS M := rfl
theorem uI_S (v : Int32) : mS (uI M a j v) = mS M := rfl
theorem uL_S (v : Int64) : mS (uL M a j v) = mS M := rfl
theorem uI_A (v : Int32) (f : Nat → Int32) : uI (uA M a f) a j v = uA M a (fun k => if k = j then v else f k) := by
  refine am_ext (fun b k => ?_) (fun _ _ => rfl) (fun _ _ => rfl) rfl
  rw [m_uI_I, uA_I, uA_I]
  by_cases e : b = a
  · subst e; simp
  · simp [e]
theorem uL_B (v : Int64) (f : Nat → Int64) : uL (uB M a f) a j v = uB M a (fun k => if k = j then v else f k) := by
  refine am_ext (fun _ _ => rfl) (fun b k => ?_) (fun _ _ => rfl) rfl
  rw [m_uL_L, uB_L, uB_L]
  by_cases e : b = a
  · subst e; simp
  · simp [e]
theorem uA_id : uA M a (fun k => mI M a k) = M := by
  refine am_ext (fun b k => ?_) (fun _ _ => rfl) (fun _ _ => rfl) rfl
  rw [uA_I]
  split
  · rename_i e; rw [e]
  · rfl
theorem uB_id : uB M a (fun k => mL M a k) = M := by
  refine am_ext (fun _ _ => rfl) (fun b k => ?_) (fun _ _ => rfl) rfl
  rw [uB_L]
  split
  · rename_i e; rw [e]
  · rfl
end
theorem Lay_S {M M' : am_M} (h : Lay M) (hS : mS M' = mS M) (hR : ∀ a j, mR M' a j = mR M a j) : Lay M' := by
  obtain ⟨⟨n, h1, h2⟩, h3⟩ := h
  exact ⟨⟨n, h1, by rw [hS]; exact h2⟩, fun q hq => by rw [hR]; exact h3 q hq⟩
/-- the first of n places from 0 where c holds, or n -/
def fs (c : Nat → Bool) : Nat → Nat
  | 0 => 0
  | n + 1 => if fs c n < n then fs c n else if c n = true then n else n + 1
theorem fs_le (c : Nat → Bool) (n : Nat) : fs c n ≤ n := by
  induction n with
  | zero => exact Nat.le_refl _
  | succ n ih =>
    have e : fs c (n + 1) = if fs c n < n then fs c n else if c n = true then n else n + 1 := rfl
    rw [e]
    split
    · omega
    · split <;> omega
theorem fs_no (c : Nat → Bool) (n : Nat) : ∀ k, k < fs c n → c k = false := by
  induction n with
  | zero => intro k hk; cases hk
  | succ n ih =>
    intro k hk
    have e : fs c (n + 1) = if fs c n < n then fs c n else if c n = true then n else n + 1 := rfl
    rw [e] at hk
    have hle := fs_le c n
    split at hk
    · exact ih k hk
    · have e2 : fs c n = n := by omega
      split at hk
      · exact ih k (by omega)
      · rename_i hc
        by_cases ek : k = n
        · subst ek; simpa using hc
        · exact ih k (by omega)
theorem fs_at (c : Nat → Bool) (n : Nat) (h : fs c n < n) : c (fs c n) = true := by
  induction n with
  | zero => cases h
  | succ n ih =>
    have e : fs c (n + 1) = if fs c n < n then fs c n else if c n = true then n else n + 1 := rfl
    rw [e] at h ⊢
    split
    · rename_i q; exact ih q
    · rename_i q
      rw [if_neg q] at h
      split
      · assumption
      · rename_i q2; rw [if_neg q2] at h; omega
theorem fs_ex (c : Nat → Bool) (n : Nat) : fs c n < n ↔ ∃ k, k < n ∧ c k = true := by
  constructor
  · intro h; exact ⟨_, h, fs_at c n h⟩
  · rintro ⟨k, h1, h2⟩
    rcases Nat.lt_or_ge (fs c n) n with q | q
    · exact q
    · have := fs_no c n k (by omega); rw [h2] at this; cases this
/-- a truth as an int, without deciding it -/
noncomputable def tI (p : Prop) : Int32 := @ite _ p (Classical.propDecidable p) 1 0
theorem tI_t {p : Prop} (h : p) : tI p = 1 := if_pos h
theorem tI_f {p : Prop} (h : ¬ p) : tI p = 0 := if_neg h
theorem tI_01 (p : Prop) : tI p = 0 ∨ tI p = 1 := by
  by_cases h : p
  · exact Or.inr (tI_t h)
  · exact Or.inl (tI_f h)
theorem tI_i {p q : Prop} (h : p ↔ q) : tI p = tI q := by rw [propext h]
theorem tI_b {p : Prop} [Decidable p] : bI p = tI p := by
  by_cases h : p
  · rw [bI_t h, tI_t h]
  · rw [bI_f h, tI_f h]
theorem tI_0 {p : Prop} : tI p = 0 ↔ ¬ p := by
  by_cases h : p
  · rw [tI_t h]; exact ⟨fun q => absurd q (by decide), fun q => absurd h q⟩
  · rw [tI_f h]; exact ⟨fun _ => h, fun _ => rfl⟩
theorem lgc_0 {x y : Int64} : lg_cmp x y = 0 ↔ x = y := by
  unfold lg_cmp
  constructor
  · intro h
    split at h
    · cases h
    · split at h
      · assumption
      · cases h
  · intro h
    subst h
    simp
end
section
/-! the class's waters: a step wider -/
noncomputable def widR (r b : Nat) (wt : Nat → Int64) : Nat → Nat → Int64 → Int32 → am_M → Int32 × am_M
  | 0, _, _, g, M => (g, M)
  | m + 1, k, ab, g, M => widR r b wt m (k + 1) (mL M r (b + k)) (g ||| tI (¬ widL (mL M r (b + k)) ab (if k + 1 < 4 then mL M r (b + k + 1) else 0) (wt k) = mL M r (b + k))) (uL M r (b + k) (widL (mL M r (b + k)) ab (if k + 1 < 4 then mL M r (b + k + 1) else 0) (wt k)))
theorem tI_or (p q : Prop) : (tI p ||| tI q) = tI (p ∨ q) := by
  by_cases a : p <;> by_cases b : q
  · rw [tI_t a, tI_t b, tI_t (Or.inl a)]; decide
  · rw [tI_t a, tI_f b, tI_t (Or.inl a)]; decide
  · rw [tI_f a, tI_t b, tI_t (Or.inr b)]; decide
  · rw [tI_f a, tI_f b, tI_f (fun h => h.elim a b)]; decide
theorem or_01 {a b : Int32} (h1 : a = 0 ∨ a = 1) (h2 : b = 0 ∨ b = 1) : (a ||| b) = 0 ∨ (a ||| b) = 1 := by
  rcases h1 with rfl | rfl <;> rcases h2 with rfl | rfl <;> decide
theorem l_x_widen (d : Nat) (w r b : Nat) (Q : Option Value → am_M → Prop) (hw : isTr w) (hne : ¬ r = w + 2) (wt : Nat → Int64) : ∀ (m k : Nat), k + m = 4 → ∀ (M : am_M), Lay M → mK M r = 1 → b + 4 ≤ mN M r → mN M r ≤ 192 → (∀ i, mL M (w + 2) i = wt i) → ∀ (g : Int32) (ab : Int64) (v7 v8 v9 v10 v11 v12 v13 v14 v15 v16 : Value), (g = 0 ∨ g = 1) →
    (am_P am_P0 d (am_look tX9_widen) 8 [.ref (w + 1), .ref r, .int (nI b), .int g, .long ab, am_x, .int (nI k), v7, v8, v9, v10, v11, v12, v13, v14, v15, v16] [] M Q ↔ Q (some (.int (widR r b wt m k ab g M).1)) (widR r b wt m k ab g M).2) := by
  intro m
  induction m with
  | zero =>
    intro k hk M h hr hb hN hwt g ab v7 v8 v9 v10 v11 v12 v13 v14 v15 v16 hg
    have e : k = 4 := by omega
    subst e
    rw [hX9_widen_8]
    simp +decide only [qX9_widen_0, qX9_widen_1, qX9_widen_2, am_w1_i, am_w1_r, am_w1_x, am_w1_l, am_w1_w, va_rf_s, am_push_n, am_push_s, am_cs_0, am_cs_i, am_cs_l, am_cs_r, m_uI_K, m_uI_N, m_uI_R, m_uI_L, m_uI_I, m_uL_K, m_uL_N, m_uL_R, m_uL_I, m_uL_L, m_uR_K, m_uR_N, m_uR_I, m_uR_L, m_uR_R, true_and, and_true, true_implies, false_implies]
    rw [eq_true hg, true_and]
    exact Iff.rfl
  | succ m ih =>
    intro k hk M h hr hb hN hwt g ab v7 v8 v9 v10 v11 v12 v13 v14 v15 v16 hg
    have h4 : ¬ (4 : Int32) ≤ nI k := by rw [show (4 : Int32) = nI 4 from rfl, ni_le (by omega) (by omega)]; omega
    have hw2 : ¬ w + 2 = r := fun e => hne e.symm
    have e1 : nI b + nI k = nI (b + k) := ni_add b k
    have fin : ∀ v, (am_P am_P0 d (am_look tX9_widen) 8 [.ref (w + 1), .ref r, .int (nI b), .int (g ||| tI (¬ v = mL M r (b + k))), .long (mL M r (b + k)), am_x, .int (nI (k + 1)), .long (mL M r (b + k)), am_x, .long v, am_x, .long v, am_x, .long v, am_x, .long v, am_x] [] M Q ↔ True) → True := fun _ _ => trivial
    by_cases hk1 : k + 1 < 4
    · have h5 : ¬ (4 : Int32) ≤ nI (k + 1) := by rw [show (4 : Int32) = nI 4 from rfl, ni_le (by omega) (by omega)]; omega
      rw [hX9_widen_8]
      simp +decide (disch := omega) only [qX9_widen_0, qX9_widen_1, qX9_widen_2, lt_ h hw, hr, e1, ni_in_t, ni_tn, ni_add1, hw2, hwt, am_w1_i, am_w1_r, am_w1_x, am_w1_l, am_w1_w, va_rf_s, am_push_n, am_push_s, am_cs_0, am_cs_i, am_cs_l, am_cs_r, m_uI_K, m_uI_N, m_uI_R, m_uI_L, m_uI_I, m_uL_K, m_uL_N, m_uL_R, m_uL_I, m_uL_L, m_uR_K, m_uR_N, m_uR_I, m_uR_L, m_uR_R, true_and, and_true, false_and, if_false]
      rw [br_n h4, br_n h5]
      show _ ↔ Q (some (.int (widR r b wt m (k + 1) (mL M r (b + k)) (g ||| tI (¬ widL (mL M r (b + k)) ab (if k + 1 < 4 then mL M r (b + k + 1) else 0) (wt k) = mL M r (b + k))) (uL M r (b + k) (widL (mL M r (b + k)) ab (if k + 1 < 4 then mL M r (b + k + 1) else 0) (wt k)))).1)) (widR r b wt m (k + 1) (mL M r (b + k)) (g ||| tI (¬ widL (mL M r (b + k)) ab (if k + 1 < 4 then mL M r (b + k + 1) else 0) (wt k) = mL M r (b + k))) (uL M r (b + k) (widL (mL M r (b + k)) ab (if k + 1 < 4 then mL M r (b + k + 1) else 0) (wt k)))).2
      rw [if_pos hk1]
      generalize hv : widL (mL M r (b + k)) ab (mL M r (b + k + 1)) (wt k) = v
      unfold widL at hv
      simp only [hv, and_self, if_true, lgc_0]
      by_cases e : v = mL M r (b + k)
      · rw [br_p e, tI_f (fun q => q e)]
        exact ih (k + 1) (by omega) (uL M r (b + k) v) h hr hb hN (fun i => by rw [m_uL_L, if_neg (fun q => hw2 q.1)]; exact hwt i) _ _ _ _ _ _ _ _ _ _ _ _ (or_01 hg (Or.inl rfl))
      · rw [br_n e, tI_t e]
        exact ih (k + 1) (by omega) (uL M r (b + k) v) h hr hb hN (fun i => by rw [m_uL_L, if_neg (fun q => hw2 q.1)]; exact hwt i) _ _ _ _ _ _ _ _ _ _ _ _ (or_01 hg (Or.inr rfl))
    · have h5 : (4 : Int32) ≤ nI (k + 1) := by rw [show (4 : Int32) = nI 4 from rfl, ni_le (by omega) (by omega)]; omega
      rw [hX9_widen_8]
      simp +decide (disch := omega) only [qX9_widen_0, qX9_widen_1, qX9_widen_2, lt_ h hw, hr, e1, ni_in_t, ni_tn, ni_add1, hw2, hwt, am_w1_i, am_w1_r, am_w1_x, am_w1_l, am_w1_w, va_rf_s, am_push_n, am_push_s, am_cs_0, am_cs_i, am_cs_l, am_cs_r, m_uI_K, m_uI_N, m_uI_R, m_uI_L, m_uI_I, m_uL_K, m_uL_N, m_uL_R, m_uL_I, m_uL_L, m_uR_K, m_uR_N, m_uR_I, m_uR_L, m_uR_R, true_and, and_true, false_and, if_false]
      rw [br_n h4, br_p h5]
      show _ ↔ Q (some (.int (widR r b wt m (k + 1) (mL M r (b + k)) (g ||| tI (¬ widL (mL M r (b + k)) ab (if k + 1 < 4 then mL M r (b + k + 1) else 0) (wt k) = mL M r (b + k))) (uL M r (b + k) (widL (mL M r (b + k)) ab (if k + 1 < 4 then mL M r (b + k + 1) else 0) (wt k)))).1)) (widR r b wt m (k + 1) (mL M r (b + k)) (g ||| tI (¬ widL (mL M r (b + k)) ab (if k + 1 < 4 then mL M r (b + k + 1) else 0) (wt k) = mL M r (b + k))) (uL M r (b + k) (widL (mL M r (b + k)) ab (if k + 1 < 4 then mL M r (b + k + 1) else 0) (wt k)))).2
      rw [if_neg hk1]
      generalize hv : widL (mL M r (b + k)) ab 0 (wt k) = v
      unfold widL at hv
      simp only [hv, and_self, if_true, lgc_0]
      by_cases e : v = mL M r (b + k)
      · rw [br_p e, tI_f (fun q => q e)]
        exact ih (k + 1) (by omega) (uL M r (b + k) v) h hr hb hN (fun i => by rw [m_uL_L, if_neg (fun q => hw2 q.1)]; exact hwt i) _ _ _ _ _ _ _ _ _ _ _ _ (or_01 hg (Or.inl rfl))
      · rw [br_n e, tI_t e]
        exact ih (k + 1) (by omega) (uL M r (b + k) v) h hr hb hN (fun i => by rw [m_uL_L, if_neg (fun q => hw2 q.1)]; exact hwt i) _ _ _ _ _ _ _ _ _ _ _ _ (or_01 hg (Or.inr rfl))
/-- four words of a row written -/
def w4 (M : am_M) (r b : Nat) (f : Nat → Int64) : am_M := uL (uL (uL (uL M r b (f 0)) r (b + 1) (f 1)) r (b + 2) (f 2)) r (b + 3) (f 3)
theorem w4_L (M : am_M) (r b : Nat) (f : Nat → Int64) (a j : Nat) : mL (w4 M r b f) a j = if a = r ∧ b ≤ j ∧ j < b + 4 then f (j - b) else mL M a j := by
  unfold w4
  simp only [m_uL_L]
  by_cases e : a = r
  · subst e
    by_cases e3 : j = b + 3
    · subst e3; rw [if_pos ⟨rfl, rfl⟩, if_pos (by omega)]; congr 1; omega
    · rw [if_neg (fun q => e3 q.2)]
      by_cases e2 : j = b + 2
      · subst e2; rw [if_pos ⟨rfl, rfl⟩, if_pos (by omega)]; congr 1; omega
      · rw [if_neg (fun q => e2 q.2)]
        by_cases e1 : j = b + 1
        · subst e1; rw [if_pos ⟨rfl, rfl⟩, if_pos (by omega)]; congr 1; omega
        · rw [if_neg (fun q => e1 q.2)]
          by_cases e0 : j = b
          · subst e0; rw [if_pos ⟨rfl, rfl⟩, if_pos (by omega)]; congr 1; omega
          · rw [if_neg (fun q => e0 q.2), if_neg (by omega)]
  · rw [if_neg (fun q => e q.1), if_neg (fun q => e q.1), if_neg (fun q => e q.1), if_neg (fun q => e q.1), if_neg (fun q => e q.1)]
theorem c_x_widen (d : Nat) (w r b : Nat) (M : am_M) (Q : Option Value → am_M → Prop) (h : Lay M) (hw : isTr w) (hne : ¬ r = w + 2) (hr : mK M r = 1) (hb : b + 4 ≤ mN M r) (hN : mN M r ≤ 192) :
    am_E am_P0 d 106 [.ref (w + 1), .ref r, .int (nI b)] M Q ↔ Q (some (.int (tI (¬ ∀ i, i < 4 → widS (fun i => mL M r (b + i)) (fun i => mL M (w + 2) i) i = mL M r (b + i))))) (w4 M r b (widS (fun i => mL M r (b + i)) (fun i => mL M (w + 2) i))) := by
  rw [eX9_widen]
  simp +decide only [qX9_widen_0, qX9_widen_1, qX9_widen_2, am_w1_i, am_w1_r, am_w1_x, am_w1_l, am_w1_w, va_rf_s, am_push_n, am_push_s, am_cs_0, am_cs_i, am_cs_l, am_cs_r, m_uI_K, m_uI_N, m_uI_R, m_uI_L, m_uI_I, m_uL_K, m_uL_N, m_uL_R, m_uL_I, m_uL_L, m_uR_K, m_uR_N, m_uR_I, m_uR_L, m_uR_R, true_and, and_true]
  rw [show (0 : Int32) = nI 0 from rfl]
  rw [l_x_widen d w r b Q hw hne (fun i => mL M (w + 2) i) 4 0 rfl M h hr hb hN (fun _ => rfl) (nI 0) 0 _ _ _ _ _ _ _ _ _ _ (Or.inl rfl)]
  have e1 : (widR r b (fun i => mL M (w + 2) i) 4 0 0 (nI 0) M) = (tI (¬ ∀ i, i < 4 → widS (fun i => mL M r (b + i)) (fun i => mL M (w + 2) i) i = mL M r (b + i)), w4 M r b (widS (fun i => mL M r (b + i)) (fun i => mL M (w + 2) i))) := by
    have hs : widR r b (fun i => mL M (w + 2) i) 4 0 0 (nI 0) M = (nI 0 ||| tI (¬ widS (fun i => mL M r (b + i)) (fun i => mL M (w + 2) i) 0 = mL M r b) ||| tI (¬ widS (fun i => mL M r (b + i)) (fun i => mL M (w + 2) i) 1 = mL M r (b + 1)) ||| tI (¬ widS (fun i => mL M r (b + i)) (fun i => mL M (w + 2) i) 2 = mL M r (b + 2)) ||| tI (¬ widS (fun i => mL M r (b + i)) (fun i => mL M (w + 2) i) 3 = mL M r (b + 3)), w4 M r b (widS (fun i => mL M r (b + i)) (fun i => mL M (w + 2) i))) := by
      simp +decide [widR, w4, widS, m_uL_L, Nat.add_assoc]
    rw [hs]
    congr 1
    generalize widS (fun i => mL M r (b + i)) (fun i => mL M (w + 2) i) = f
    rw [show nI 0 = tI False from (tI_f id).symm, tI_or, tI_or, tI_or, tI_or]
    refine tI_i ⟨fun q p => ?_, fun q => ?_⟩
    · have p0 := p 0 (by omega)
      have p1 := p 1 (by omega)
      have p2 := p 2 (by omega)
      have p3 := p 3 (by omega)
      rcases q with (((q | q) | q) | q) | q
      · exact q
      · exact q p0
      · exact q p1
      · exact q p2
      · exact q p3
    · by_cases c0 : f 0 = mL M r b
      · by_cases c1 : f 1 = mL M r (b + 1)
        · by_cases c2 : f 2 = mL M r (b + 2)
          · refine Or.inr (fun c3 => q (fun i hi => ?_))
            have hc : i = 0 ∨ i = 1 ∨ i = 2 ∨ i = 3 := by omega
            rcases hc with rfl | rfl | rfl | rfl
            · exact c0
            · exact c1
            · exact c2
            · exact c3
          · exact Or.inl (Or.inr c2)
        · exact Or.inl (Or.inl (Or.inr c1))
      · exact Or.inl (Or.inl (Or.inl (Or.inr c0)))
  rw [e1]
end
section
/-! places as words and bits; rows filled -/
theorem sr6 : ∀ p, p < 256 → nI p >>> ((6 : Int32) &&& 31) = nI (p / 64) := by decide +kernel
theorem an63 : ∀ p, p < 256 → nI p &&& 63 = nI (p % 64) := by decide +kernel
theorem sh_u : ∀ i, i < 64 → ((nI i).toInt64 &&& 63).toUInt64.toNat % 64 = i := by decide +kernel
theorem sh_s : ∀ i, i < 64 → ((nI i).toInt64 &&& 63).toBitVec.smod 64 = BitVec.ofNat 64 i := by decide +kernel
theorem bt_test (x : Int64) {i : Nat} (hi : i < 64) : ((x.toUInt64 >>> ((nI i).toInt64 &&& 63).toUInt64).toInt64 &&& 1 = 0) ↔ ¬ sbit x i = true := by
  rw [sb_bit0, sb_shr x (sh_u i hi), Nat.add_zero]
  simp
theorem bt_one {i : Nat} (hi : i < 64) (j : Nat) : sbit ((1 : Int64) <<< ((nI i).toInt64 &&& 63)) j = decide (j = i) := by
  rw [sb_shl 1 (sh_s i hi) hi, sb_one]
  by_cases h1 : j < 64
  · by_cases h2 : j < i
    · have : ¬ j = i := by omega
      simp [h1, h2, this]
    · by_cases h3 : j = i
      · subst h3; simp [hi]
      · have : ¬ j - i = 0 := by omega
        simp [h1, h2, h3, this]
  · have : ¬ j = i := by omega
    simp [h1, this]
theorem l_fillJ (d a : Nat) (v : Int64) (M : am_M) (Q : Option Value → am_M → Prop) (hK : mK M a = 1) (hN : mN M a ≤ 60000) : ∀ (m k : Nat), k + m = mN M a → (am_P am_P0 d (am_look tJ7_fill_d0a16) 6 [.ref a, .long v, am_x, .int (nI k), .int (nI (mN M a))] [] (uB M a (fun j => if j < k then v else mL M a j)) Q ↔ Q none (uB M a (fun j => if j < mN M a then v else mL M a j))) := by
  intro m
  induction m with
  | zero =>
    intro k hk
    have e : k = mN M a := by omega
    subst e
    have hle : nI (mN M a) ≤ nI (mN M a) := (ni_le (by omega) (by omega)).mpr (Nat.le_refl _)
    rw [hJ7_fill_d0a16_6]
    simp +decide only [qJ7_fill_d0a16, am_w1_i, am_w1_r, am_w1_x, am_w1_l, am_w1_w, va_rf_s, am_push_n, am_push_s, am_cs_0, am_cs_i, am_cs_l, am_cs_r, m_uI_K, m_uI_N, m_uI_R, m_uI_L, m_uI_I, m_uL_K, m_uL_N, m_uL_R, m_uL_I, m_uL_L, m_uR_K, m_uR_N, m_uR_I, m_uR_L, m_uR_R, true_and, and_true]
    rw [br_p hle]
  | succ m ih =>
    intro k hk
    have hlt : ¬ nI (mN M a) ≤ nI k := by rw [ni_le (by omega) (by omega)]; omega
    rw [hJ7_fill_d0a16_6]
    simp +decide (disch := omega) only [qJ7_fill_d0a16, uB_K, uB_N, hK, ni_in_t, ni_tn, ni_add1, am_w1_i, am_w1_r, am_w1_x, am_w1_l, am_w1_w, va_rf_s, am_push_n, am_push_s, am_cs_0, am_cs_i, am_cs_l, am_cs_r, m_uI_K, m_uI_N, m_uI_R, m_uI_L, m_uI_I, m_uL_K, m_uL_N, m_uL_R, m_uL_I, m_uL_L, m_uR_K, m_uR_N, m_uR_I, m_uR_L, m_uR_R, true_and, and_true]
    rw [br_n hlt, uL_B]
    have e : (fun j => if j = k then v else if j < k then v else mL M a j) = (fun j => if j < k + 1 then v else mL M a j) := by
      funext j
      by_cases h1 : j = k
      · rw [if_pos h1, if_pos (by omega)]
      · rw [if_neg h1]
        by_cases h2 : j < k
        · rw [if_pos h2, if_pos (by omega)]
        · rw [if_neg h2, if_neg (by omega)]
    rw [e]
    exact ih (k + 1) (by omega)
theorem c_fillJ (d a : Nat) (v : Int64) (M : am_M) (Q : Option Value → am_M → Prop) (hK : mK M a = 1) (hN : mN M a ≤ 60000) : am_E am_P0 d 322 [.ref a, .long v] M Q ↔ Q none (uB M a (fun j => if j < mN M a then v else mL M a j)) := by
  rw [eJ7_fill_d0a16]
  simp +decide only [qJ7_fill_d0a16, hK, am_w1_i, am_w1_r, am_w1_x, am_w1_l, am_w1_w, va_rf_s, am_push_n, am_push_s, am_cs_0, am_cs_i, am_cs_l, am_cs_r, m_uI_K, m_uI_N, m_uI_R, m_uI_L, m_uI_I, m_uL_K, m_uL_N, m_uL_R, m_uL_I, m_uL_L, m_uR_K, m_uR_N, m_uR_I, m_uR_L, m_uR_R, true_and, and_true]
  have h0 := l_fillJ d a v M Q hK hN (mN M a) 0 (by omega)
  have e : uB M a (fun j => if j < 0 then v else mL M a j) = M := by
    have : (fun j => if j < 0 then v else mL M a j) = (fun j => mL M a j) := by funext j; rw [if_neg (by omega)]
    rw [this, uB_id]
  rw [e] at h0
  exact h0
theorem l_fillI (d a : Nat) (v : Int32) (M : am_M) (Q : Option Value → am_M → Prop) (hK : mK M a = 0) (hN : mN M a ≤ 60000) : ∀ (m k : Nat), k + m = mN M a → (am_P am_P0 d (am_look tJ7_fill_53178) 5 [.ref a, .int v, .int (nI k), .int (nI (mN M a))] [] (uA M a (fun j => if j < k then v else mI M a j)) Q ↔ Q none (uA M a (fun j => if j < mN M a then v else mI M a j))) := by
  intro m
  induction m with
  | zero =>
    intro k hk
    have e : k = mN M a := by omega
    subst e
    have hle : nI (mN M a) ≤ nI (mN M a) := (ni_le (by omega) (by omega)).mpr (Nat.le_refl _)
    rw [hJ7_fill_53178_5]
    simp +decide only [qJ7_fill_53178, am_w1_i, am_w1_r, am_w1_x, am_w1_l, am_w1_w, va_rf_s, am_push_n, am_push_s, am_cs_0, am_cs_i, am_cs_l, am_cs_r, m_uI_K, m_uI_N, m_uI_R, m_uI_L, m_uI_I, m_uL_K, m_uL_N, m_uL_R, m_uL_I, m_uL_L, m_uR_K, m_uR_N, m_uR_I, m_uR_L, m_uR_R, true_and, and_true]
    rw [br_p hle]
  | succ m ih =>
    intro k hk
    have hlt : ¬ nI (mN M a) ≤ nI k := by rw [ni_le (by omega) (by omega)]; omega
    rw [hJ7_fill_53178_5]
    simp +decide (disch := omega) only [qJ7_fill_53178, uA_K, uA_N, hK, ni_in_t, ni_tn, ni_add1, am_w1_i, am_w1_r, am_w1_x, am_w1_l, am_w1_w, va_rf_s, am_push_n, am_push_s, am_cs_0, am_cs_i, am_cs_l, am_cs_r, m_uI_K, m_uI_N, m_uI_R, m_uI_L, m_uI_I, m_uL_K, m_uL_N, m_uL_R, m_uL_I, m_uL_L, m_uR_K, m_uR_N, m_uR_I, m_uR_L, m_uR_R, true_and, and_true]
    rw [br_n hlt, uI_A]
    have e : (fun j => if j = k then v else if j < k then v else mI M a j) = (fun j => if j < k + 1 then v else mI M a j) := by
      funext j
      by_cases h1 : j = k
      · rw [if_pos h1, if_pos (by omega)]
      · rw [if_neg h1]
        by_cases h2 : j < k
        · rw [if_pos h2, if_pos (by omega)]
        · rw [if_neg h2, if_neg (by omega)]
    rw [e]
    exact ih (k + 1) (by omega)
theorem c_fillI (d a : Nat) (v : Int32) (M : am_M) (Q : Option Value → am_M → Prop) (hK : mK M a = 0) (hN : mN M a ≤ 60000) : am_E am_P0 d 324 [.ref a, .int v] M Q ↔ Q none (uA M a (fun j => if j < mN M a then v else mI M a j)) := by
  rw [eJ7_fill_53178]
  simp +decide only [qJ7_fill_53178, hK, am_w1_i, am_w1_r, am_w1_x, am_w1_l, am_w1_w, va_rf_s, am_push_n, am_push_s, am_cs_0, am_cs_i, am_cs_l, am_cs_r, m_uI_K, m_uI_N, m_uI_R, m_uI_L, m_uI_I, m_uL_K, m_uL_N, m_uL_R, m_uL_I, m_uL_L, m_uR_K, m_uR_N, m_uR_I, m_uR_L, m_uR_R, true_and, and_true]
  have h0 := l_fillI d a v M Q hK hN (mN M a) 0 (by omega)
  have e : uA M a (fun j => if j < 0 then v else mI M a j) = M := by
    have : (fun j => if j < 0 then v else mI M a j) = (fun j => mI M a j) := by funext j; rw [if_neg (by omega)]
    rw [this, uA_id]
  rw [e] at h0
  exact h0
/-- is a place in the water's set -/
theorem c_x_isWater (d w p : Nat) (M : am_M) (Q : Option Value → am_M → Prop) (h : Lay M) (hw : isTr w) (hp : p < 256) : am_E am_P0 d 103 [.ref (w + 1), .int (nI p)] M Q ↔ Q (some (.int (tI (inS (fun i => mL M (w + 2) i) p)))) M := by
  rw [eX9_isWater]
  simp +decide (disch := omega) only [qX9_isWater, lt_ h hw, sr6 p hp, an63 p hp, ni_in_t, ni_tn, lgc_0, bt_test _ (Nat.mod_lt p (show 0 < 64 by decide)), am_w1_i, am_w1_r, am_w1_x, am_w1_l, am_w1_w, va_rf_s, am_push_n, am_push_s, am_cs_0, am_cs_i, am_cs_l, am_cs_r, m_uI_K, m_uI_N, m_uI_R, m_uI_L, m_uI_I, m_uL_K, m_uL_N, m_uL_R, m_uL_I, m_uL_L, m_uR_K, m_uR_N, m_uR_I, m_uR_L, m_uR_R, true_and, and_true]
  by_cases e : sbit (mL M (w + 2) (p / 64)) (p % 64) = true
  · rw [br_r e, tI_t ⟨hp, e⟩]
  · rw [br_q e, tI_f (fun q => e q.2)]
end
section
/-! the class's rings: where a ship gets to within each hour -/
/-- the row of the hour t in the cell r -/
abbrev rw4 (M : am_M) (r t : Nat) : Nat → Int64 := fun i => mL M r (4 * t + i)
/-- nothing but the longs of r is changed -/
def onlyL (M M' : am_M) (r : Nat) : Prop := (∀ a j, mI M' a j = mI M a j) ∧ (∀ a j, mR M' a j = mR M a j) ∧ mS M' = mS M ∧ ∀ a j, ¬ a = r → mL M' a j = mL M a j
theorem onlyL_refl (M : am_M) (r : Nat) : onlyL M M r := ⟨fun _ _ => rfl, fun _ _ => rfl, rfl, fun _ _ _ => rfl⟩
theorem onlyL_trans {M M' M'' : am_M} {r : Nat} (h1 : onlyL M M' r) (h2 : onlyL M' M'' r) : onlyL M M'' r :=
  ⟨fun a j => (h2.1 a j).trans (h1.1 a j), fun a j => (h2.2.1 a j).trans (h1.2.1 a j), h2.2.2.1.trans h1.2.2.1, fun a j h => (h2.2.2.2 a j h).trans (h1.2.2.2 a j h)⟩
theorem onlyL_w4 (M : am_M) (r b : Nat) (f : Nat → Int64) : onlyL M (w4 M r b f) r := ⟨fun _ _ => rfl, fun _ _ => rfl, rfl, fun a j h => by rw [w4_L, if_neg (fun q => h q.1)]⟩
theorem onlyL_K {M M' : am_M} {r : Nat} (h : onlyL M M' r) (a : Nat) : mK M' a = mK M a := by unfold mK; rw [h.2.2.1]
theorem onlyL_N {M M' : am_M} {r : Nat} (h : onlyL M M' r) (a : Nat) : mN M' a = mN M a := by unfold mN; rw [h.2.2.1]
theorem onlyL_Lay {M M' : am_M} {r : Nat} (h : onlyL M M' r) (hL : Lay M) : Lay M' := Lay_S hL h.2.2.1 h.2.1
theorem isTr_of {s : Nat} (hs : s < 8) : isTr (173 + 13 * s) := ⟨s, hs, rfl⟩
section
variable (d w p r v : Nat) (wt : Nat → Prop) (Q : Option Value → am_M → Prop)
/-- so many steps of one hour -/
theorem l_x_rings2 (M0 : am_M) (hL : Lay M0) (hw : isTr w) (hne : ¬ r = w + 2) (hr : mK M0 r = 1 ∧ mN M0 r = 192) (hv : mI M0 (w + 1) 1 = nI v) (hv2 : v ≤ 4) (hwt : ∀ q, inS (fun i => mL M0 (w + 2) i) q ↔ wt q) (t : Nat) (ht : 1 ≤ t) (ht2 : t < 48) (x1 : Value) :
    ∀ (m k : Nat), k + m = v → ∀ (M : am_M) (g : Int32), onlyL M0 M r → ((g = 1 ∧ isB wt p ((t - 1) * v + k) (rw4 M r t)) ∨ (g = 0 ∧ ∀ n, (t - 1) * v + k ≤ n → isB wt p n (rw4 M r t))) →
    (∀ (M' : am_M) (g' : Int32) (k' : Int32), onlyL M0 M' r → (∀ j, ¬ (4 * t ≤ j ∧ j < 4 * t + 4) → mL M' r j = mL M r j) → (g' = 0 ∨ g' = 1) → isB wt p (t * v) (rw4 M' r t) → (g' = 0 → ∀ n, t * v ≤ n → isB wt p n (rw4 M' r t)) → am_P am_P0 (d + 1) (am_look tX9_ringsOf) 74 [.ref (w + 1), x1, .ref r, .int g', .int (nI (4 * t) + 4), .int k'] [] M' Q) →
    am_P am_P0 (d + 1) (am_look tX9_ringsOf) 97 [.ref (w + 1), x1, .ref r, .int g, .int (nI (4 * t)), .int (nI k)] [] M Q := by
  have htv : (t - 1) * v + v = t * v := by
    have e : t = (t - 1) + 1 := by omega
    rw [e, Nat.add_mul, Nat.one_mul, Nat.add_sub_cancel]
  intro m
  induction m with
  | zero =>
    intro k hk M g hM hg hQ
    have e : k = v := by omega
    subst e
    have hle : nI k ≤ nI k := (ni_le (by omega) (by omega)).mpr (Nat.le_refl _)
    rw [hX9_ringsOf_97]
    have hv' : mI M (w + 1) 1 = nI k := by rw [hM.1]; exact hv
    simp +decide only [qX9_ringsOf_0, qX9_ringsOf_1, lt_ (onlyL_Lay hM hL) hw, hv', am_w1_i, am_w1_r, am_w1_x, am_w1_l, am_w1_w, va_rf_s, am_push_n, am_push_s, am_cs_0, am_cs_i, am_cs_l, am_cs_r, m_uI_K, m_uI_N, m_uI_R, m_uI_L, m_uI_I, m_uL_K, m_uL_N, m_uL_R, m_uL_I, m_uL_L, m_uR_K, m_uR_N, m_uR_I, m_uR_L, m_uR_R, true_and, and_true]
    rcases hg with ⟨rfl, hg⟩ | ⟨rfl, hg⟩
    · rw [br_n (by decide), br_p hle]
      exact hQ M 1 _ hM (fun _ _ => rfl) (Or.inr rfl) (by rw [← htv]; exact hg) (fun h => absurd h (by decide))
    · rw [br_p rfl]
      exact hQ M 0 _ hM (fun _ _ => rfl) (Or.inl rfl) (hg _ (by omega)) (fun _ n hn => hg n (by omega))
  | succ m ih =>
    intro k hk M g hM hg hQ
    have hlt : ¬ nI v ≤ nI k := by rw [ni_le (by omega) (by omega)]; omega
    have hLM := onlyL_Lay hM hL
    have hv' : mI M (w + 1) 1 = nI v := by rw [hM.1]; exact hv
    have hw' : ∀ q, inS (fun i => mL M (w + 2) i) q ↔ wt q := fun q => by
      rw [← hwt q]
      exact inS_ext (fun i _ => hM.2.2.2 _ _ (fun e => hne e.symm)) q
    rw [hX9_ringsOf_97]
    simp +decide only [qX9_ringsOf_0, qX9_ringsOf_1, lt_ hLM hw, hv', am_w1_i, am_w1_r, am_w1_x, am_w1_l, am_w1_w, va_rf_s, am_push_n, am_push_s, am_cs_0, am_cs_i, am_cs_l, am_cs_r, m_uI_K, m_uI_N, m_uI_R, m_uI_L, m_uI_I, m_uL_K, m_uL_N, m_uL_R, m_uL_I, m_uL_L, m_uR_K, m_uR_N, m_uR_I, m_uR_L, m_uR_R, true_and, and_true]
    rcases hg with ⟨rfl, hg⟩ | ⟨rfl, hg⟩
    · rw [br_n (by decide), br_n hlt]
      rw [c_x_widen d w r (4 * t) M _ hLM hw hne (by rw [onlyL_K hM]; exact hr.1) (by rw [onlyL_N hM, hr.2]; omega) (by rw [onlyL_N hM, hr.2]; exact Nat.le_refl _)]
      simp +decide only [qX9_ringsOf_0, qX9_ringsOf_1, am_w1_i, am_w1_r, am_w1_x, am_w1_l, am_w1_w, va_rf_s, am_push_n, am_push_s, am_cs_0, am_cs_i, am_cs_l, am_cs_r, m_uI_K, m_uI_N, m_uI_R, m_uI_L, m_uI_I, m_uL_K, m_uL_N, m_uL_R, m_uL_I, m_uL_L, m_uR_K, m_uR_N, m_uR_I, m_uR_L, m_uR_R, true_and, and_true, ni_add1]
      have hM' := onlyL_trans hM (onlyL_w4 M r (4 * t) (widS (fun i => mL M r (4 * t + i)) (fun i => mL M (w + 2) i)))
      have erow : ∀ i, i < 4 → rw4 (w4 M r (4 * t) (widS (fun i => mL M r (4 * t + i)) (fun i => mL M (w + 2) i))) r t i = widS (fun i => mL M r (4 * t + i)) (fun i => mL M (w + 2) i) i := fun i hi => by
        show mL _ r (4 * t + i) = _
        rw [w4_L, if_pos (by omega)]
        congr 1
        omega
      have hB := isB_wid hw' hg
      have hB' : isB wt p ((t - 1) * v + (k + 1)) (rw4 (w4 M r (4 * t) (widS (fun i => mL M r (4 * t + i)) (fun i => mL M (w + 2) i))) r t) := fun q => (inS_ext erow q).trans (hB q)
      refine ih (k + 1) (by omega) _ _ hM' ?_ (fun M' g' k' a1 a2 a3 a4 a5 => hQ M' g' k' a1 (fun j hj => ?_) a3 a4 a5)
      · by_cases hc : ∀ i, i < 4 → widS (fun i => mL M r (4 * t + i)) (fun i => mL M (w + 2) i) i = mL M r (4 * t + i)
        · rw [tI_f (fun q => q hc)]
          refine Or.inr ⟨rfl, fun n hn q => ?_⟩
          exact (inS_ext (fun i hi => (erow i hi).trans (hc i hi)) q).trans (isB_same hw' hg hc n (by omega) q)
        · rw [tI_t hc]
          exact Or.inl ⟨rfl, hB'⟩
      · rw [a2 j hj, w4_L, if_neg (fun q => hj q.2)]
    · rw [br_p rfl]
      exact hQ M 0 _ hM (fun _ _ => rfl) (Or.inl rfl) (hg _ (by omega)) (fun _ n hn => hg n (by omega))
/-- the hours, one behind another -/
theorem l_x_rings1 (M0 : am_M) (hL : Lay M0) (hw : isTr w) (hne : ¬ r = w + 2) (hr : mK M0 r = 1 ∧ mN M0 r = 192) (hv : mI M0 (w + 1) 1 = nI v) (hv2 : v ≤ 4) (hwt : ∀ q, inS (fun i => mL M0 (w + 2) i) q ↔ wt q) (x1 : Value) :
    ∀ (m t : Nat), t + m = 48 → 1 ≤ t → ∀ (M : am_M) (g : Int32) (x5 : Value), onlyL M0 M r → (∀ i, i < t → isB wt p (i * v) (rw4 M r i)) → (g = 1 ∨ (g = 0 ∧ ∀ n, (t - 1) * v ≤ n → isB wt p n (rw4 M r (t - 1)))) →
    (∀ (M' : am_M), onlyL M0 M' r → (∀ i, i < 48 → isB wt p (i * v) (rw4 M' r i)) → Q (some (.ref r)) M') →
    am_P am_P0 (d + 1) (am_look tX9_ringsOf) 74 [.ref (w + 1), x1, .ref r, .int g, .int (nI (4 * t)), x5] [] M Q := by
  intro m
  induction m with
  | zero =>
    intro t ht h1 M g x5 hM hB hg hQ
    have e : t = 48 := by omega
    subst e
    rw [hX9_ringsOf_74]
    simp +decide only [qX9_ringsOf_0, qX9_ringsOf_1, am_w1_i, am_w1_r, am_w1_x, am_w1_l, am_w1_w, va_rf_s, am_push_n, am_push_s, am_cs_0, am_cs_i, am_cs_l, am_cs_r, m_uI_K, m_uI_N, m_uI_R, m_uI_L, m_uI_I, m_uL_K, m_uL_N, m_uL_R, m_uL_I, m_uL_L, m_uR_K, m_uR_N, m_uR_I, m_uR_L, m_uR_R, true_and, and_true, true_implies, false_implies]
    exact hQ M hM hB
  | succ m ih =>
    intro t ht h1 M g x5 hM hB hg hQ
    have hlt : ¬ (192 : Int32) ≤ nI (4 * t) := by rw [show (192 : Int32) = nI 192 from rfl, ni_le (by omega) (by omega)]; omega
    have e4 : nI (4 * t) - 4 = nI (4 * t - 4) := by rw [show (4 : Int32) = nI 4 from rfl, ni_sub (by omega)]
    have e5 : nI (4 * t) + 4 = nI (4 * (t + 1)) := by rw [show (4 : Int32) = nI 4 from rfl, ni_add]; congr 1
    have t4 : (4 : Int32).toInt.toNat = 4 := rfl
    have i1 : (0 : Int) ≤ (nI (4 * t - 4)).toInt := by rw [ni_ti (by omega)]; omega
    have i2 : (0 : Int) ≤ (nI (4 * t)).toInt := by rw [ni_ti (by omega)]; omega
    rw [hX9_ringsOf_74]
    simp +decide (disch := omega) only [qX9_ringsOf_0, qX9_ringsOf_1, onlyL_K hM, onlyL_N hM, hr, e4, t4, i1, i2, ni_tn, am_w1_i, am_w1_r, am_w1_x, am_w1_l, am_w1_w, va_rf_s, am_push_n, am_push_s, am_cs_0, am_cs_i, am_cs_l, am_cs_r, m_uI_K, m_uI_N, m_uI_R, m_uI_L, m_uI_I, m_uL_K, m_uL_N, m_uL_R, m_uL_I, m_uL_L, m_uR_K, m_uR_N, m_uR_I, m_uR_L, m_uR_R, true_and, and_true]
    rw [br_n hlt]
    refine ⟨⟨by omega, by omega⟩, ?_⟩
    have hM' : onlyL M0 (uCL M r (4 * t - 4) r (4 * t) 4) r := onlyL_trans hM ⟨fun _ _ => rfl, fun _ _ => rfl, rfl, fun a j h => if_neg (fun q => h q.1)⟩
    have eL : ∀ j, mL (uCL M r (4 * t - 4) r (4 * t) 4) r j = if 4 * t ≤ j ∧ j < 4 * t + 4 then mL M r (4 * t - 4 + (j - 4 * t)) else mL M r j := by
      intro j
      show (if r = r ∧ 4 * t ≤ j ∧ j < 4 * t + 4 then mL M r (4 * t - 4 + (j - 4 * t)) else mL M r j) = _
      by_cases q : 4 * t ≤ j ∧ j < 4 * t + 4
      · rw [if_pos ⟨rfl, q⟩, if_pos q]
      · rw [if_neg (fun z => q z.2), if_neg q]
    have erow : ∀ i, i < 4 → rw4 (uCL M r (4 * t - 4) r (4 * t) 4) r t i = rw4 M r (t - 1) i := fun i hi => by
      show mL _ r (4 * t + i) = mL M r (4 * (t - 1) + i)
      rw [eL, if_pos (by omega)]
      congr 1
      omega
    have eold : ∀ i j, i < t → j < 4 → rw4 (uCL M r (4 * t - 4) r (4 * t) 4) r i j = rw4 M r i j := fun i j hi hj => by
      show mL _ r (4 * i + j) = _
      rw [eL, if_neg (by omega)]
    refine l_x_rings2 d w p r v wt Q M0 hL hw hne hr hv hv2 hwt t h1 (by omega) x1 v 0 (by omega) _ g hM' ?_ (fun M2 g2 k2 a1 a2 a3 a4 a5 => ?_)
    · rcases hg with rfl | ⟨rfl, hg⟩
      · exact Or.inl ⟨rfl, fun q => (inS_ext erow q).trans (hB (t - 1) (by omega) q)⟩
      · exact Or.inr ⟨rfl, fun n hn q => (inS_ext erow q).trans (hg n (by omega) q)⟩
    · rw [e5]
      refine ih (t + 1) (by omega) (by omega) M2 g2 _ a1 (fun i hi => ?_) ?_ hQ
      · by_cases e : i = t
        · subst e; exact a4
        · have e2 : ∀ j, j < 4 → rw4 M2 r i j = rw4 M r i j := fun j hj => by
            show mL M2 r (4 * i + j) = _
            rw [a2 _ (by omega)]
            exact eold i j (by omega) hj
          exact fun q => (inS_ext e2 q).trans (hB i (by omega) q)
      · rcases a3 with rfl | rfl
        · refine Or.inr ⟨rfl, fun n hn => ?_⟩
          rw [Nat.add_sub_cancel] at hn ⊢
          exact a5 rfl n hn
        · exact Or.inl rfl
end
end
section
theorem va_rf_n : va_rf none = .null := rfl
theorem zr_6 (d : Nat) (v0 v1 v2 v3 v4 v5 : Value) (st : List Value) (M : am_M) (Q : Option Value → am_M → Prop) : am_P am_P0 d (am_look tX9_ringsOf) 6 [v0, v1, v2, v3, v4, v5] (.null :: st) M Q ↔ am_P am_P0 d (am_look tX9_ringsOf) 7 [v0, am_w1 v1, .null, v3, v4, v5] st M Q := r_nx (am_at_ 4 ksX9_ringsOf rfl : am_look tX9_ringsOf 6 = k_nx (a_ast 2 7)) (by simp [a_ast, am_st, am_w1])
theorem zr_7 (d : Nat) (v0 v1 v3 v4 v5 : Value) (st : List Value) (M : am_M) (Q : Option Value → am_M → Prop) : am_P am_P0 d (am_look tX9_ringsOf) 7 [v0, v1, .null, v3, v4, v5] st M Q ↔ am_P am_P0 d (am_look tX9_ringsOf) 8 [v0, v1, .null, v3, v4, v5] (.null :: st) M Q := r_nx (am_at_ 5 ksX9_ringsOf rfl : am_look tX9_ringsOf 7 = k_nx (a_ald 2 8)) rfl
/-- from 24 on: the row is there -/
theorem l_x_rings0 (d w p r v : Nat) (wt : Nat → Prop) (Q : Option Value → am_M → Prop) (M : am_M) (hL : Lay M) (hw : isTr w) (hp : p < 256) (hne : ¬ r = w + 2) (hr : mK M r = 1 ∧ mN M r = 192) (hv : mI M (w + 1) 1 = nI v) (hv2 : v ≤ 4) (hwt : ∀ q, inS (fun i => mL M (w + 2) i) q ↔ wt q) (hk : mI M (w + 4) p = 0) (v3 v4 v5 : Value)
    (hQ : ∀ (M' : am_M), onlyL (uI M (w + 4) p 1) M' r → (∀ i, i < 48 → isB wt p (i * v) (rw4 M' r i)) → Q (some (.ref r)) M') :
    am_P am_P0 (d + 1) (am_look tX9_ringsOf) 24 [.ref (w + 1), .int (nI p), .ref r, v3, v4, v5] [] M Q := by
  have hp6 : p % 64 < 64 := Nat.mod_lt _ (by decide)
  have hne2 : ¬ w + 2 = r := fun e => hne e.symm
  simp +decide (disch := omega) only [qX9_ringsOf_0, qX9_ringsOf_1, lt_ hL hw, hk, ni_in_t, ni_tn, am_w1_i, am_w1_r, am_w1_x, am_w1_l, am_w1_w, va_rf_s, am_push_n, am_push_s, am_cs_0, am_cs_i, am_cs_l, am_cs_r, m_uI_K, m_uI_N, m_uI_R, m_uI_L, m_uI_I, m_uL_K, m_uL_N, m_uL_R, m_uL_I, m_uL_L, m_uR_K, m_uR_N, m_uR_I, m_uR_L, m_uR_R, true_and, and_true, true_implies, false_implies]
  rw [c_fillJ d r 0 (uI M (w + 4) p 1) _ (by exact hr.1) (by show mN M r ≤ _; rw [hr.2]; decide)]
  simp +decide (disch := omega) only [qX9_ringsOf_0, qX9_ringsOf_1, lt_ hL hw, uB_K, uB_N, uB_R, uB_L, hr, hne2, sr6 p hp, an63 p hp, ni_in_t, ni_tn, am_w1_i, am_w1_r, am_w1_x, am_w1_l, am_w1_w, va_rf_s, am_push_n, am_push_s, am_cs_0, am_cs_i, am_cs_l, am_cs_r, m_uI_K, m_uI_N, m_uI_R, m_uI_L, m_uI_I, m_uL_K, m_uL_N, m_uL_R, m_uL_I, m_uL_L, m_uR_K, m_uR_N, m_uR_I, m_uR_L, m_uR_R, true_and, and_true, if_false]
  have hM' : onlyL (uI M (w + 4) p 1) (uL (uB (uI M (w + 4) p 1) r (fun j => if j < 192 then 0 else mL M r j)) r (p / 64) ((1 : Int64) <<< ((nI (p % 64)).toInt64 &&& 63) &&& mL M (w + 2) (p / 64))) r := by
    refine ⟨fun _ _ => rfl, fun _ _ => rfl, rfl, fun a j h => ?_⟩
    rw [m_uL_L, if_neg (fun q => h q.1), uB_L, if_neg h]
  refine l_x_rings1 d w p r v wt Q (uI M (w + 4) p 1) hL hw hne hr (by rw [m_uI_I, if_neg (by omega)]; exact hv) hv2 hwt _ 47 1 rfl (Nat.le_refl _) _ 1 _ hM' (fun i hi => ?_) (Or.inl rfl) hQ
  have e : i = 0 := by omega
  subst e
  rw [Nat.zero_mul]
  intro q
  show inS _ q ↔ q = p ∧ wt p
  rw [← hwt p]
  unfold inS
  constructor
  · rintro ⟨hq, hb⟩
    dsimp only [rw4] at hb
    rw [m_uL_L, uB_L, if_pos rfl] at hb
    by_cases e1 : 4 * 0 + q / 64 = p / 64
    · rw [if_pos ⟨rfl, e1⟩, sb_and, bt_one hp6, Bool.and_eq_true, decide_eq_true_eq] at hb
      have e2 : q = p := by omega
      subst e2
      exact ⟨rfl, hp, hb.2⟩
    · rw [if_neg (fun z => e1 z.2), if_pos (by omega), sb_0] at hb
      cases hb
  · rintro ⟨rfl, -, hb⟩
    refine ⟨hp, ?_⟩
    dsimp only [rw4]
    rw [m_uL_L, if_pos ⟨rfl, by omega⟩, sb_and, bt_one hp6, hb]
    simp
/-- every row is one place's of one ship; so many are there -/
def rgC (M : am_M) : Nat → Bool := fun q => decide (q < 2048) && (mR M (176 + 13 * (q / 256)) (q % 256)).isSome
def RInv (M : am_M) : Prop := (∀ s p r, s < 8 → p < 256 → mR M (176 + 13 * s) p = some r → 336 ≤ r ∧ r < mC M) ∧ (∀ s p s' p' r, s < 8 → p < 256 → s' < 8 → p' < 256 → mR M (176 + 13 * s) p = some r → mR M (176 + 13 * s') p' = some r → s = s' ∧ p = p') ∧ mC M = 336 + cnt (rgC M) 2048
/-- what is known of one place's row -/
def RKn (M : am_M) (s v : Nat) (wt : Nat → Prop) (p : Nat) : Prop := (mI M (177 + 13 * s) p = 0 ∨ mI M (177 + 13 * s) p = 1) ∧ (mI M (177 + 13 * s) p = 1 → ∃ r, mR M (176 + 13 * s) p = some r ∧ ∀ i, i < 48 → isB wt p (i * v) (rw4 M r i))
set_option maxRecDepth 100000 in
theorem ly_len : ly_S.length = 336 := rfl
theorem lay_C {M : am_M} (h : Lay M) : ∃ n, n ≤ 2048 ∧ mC M = 336 + n ∧ mS M = ly_S ++ List.replicate n (1, 192) := by
  obtain ⟨⟨n, h1, h2⟩, -⟩ := h
  refine ⟨n, h1, ?_, h2⟩
  unfold mC
  rw [h2, List.length_append, List.length_replicate, ly_len]
theorem lay_ring {M : am_M} (h : Lay M) {r : Nat} (h1 : 336 ≤ r) (h2 : r < mC M) : mK M r = 1 ∧ mN M r = 192 := by
  obtain ⟨n, a, b, c⟩ := lay_C h
  have hl := ly_len
  have e : (mS M)[r]? = some (1, 192) := by
    rw [c, List.getElem?_append_right (by omega), List.getElem?_replicate, if_pos (by omega)]
  unfold mK mN
  rw [List.getD_eq_getElem?_getD, e]
  exact ⟨rfl, rfl⟩
set_option maxRecDepth 100000 in
theorem ly_Flt : ∀ q ∈ ly_F, q.1 < 336 := by decide +kernel
/-- what asking for a row does -/
def rgP (M M' : am_M) (s p r v : Nat) (wt : Nat → Prop) : Prop :=
  mR M' (176 + 13 * s) p = some r ∧ (∀ i, i < 48 → isB wt p (i * v) (rw4 M' r i)) ∧ Lay M' ∧ RInv M' ∧ mC M ≤ mC M' ∧ (336 ≤ r ∧ r < mC M') ∧ mI M' (177 + 13 * s) p = 1 ∧ (∀ a j, ¬ (a = 177 + 13 * s ∧ j = p) → a < mC M → mI M' a j = mI M a j) ∧ (∀ a j, a < mC M → ¬ a = r → mL M' a j = mL M a j) ∧ (∀ a j, ¬ (a = 176 + 13 * s ∧ j = p) → a < mC M → mR M' a j = mR M a j) ∧ (mR M (176 + 13 * s) p = some r ∨ (mR M (176 + 13 * s) p = none ∧ r = mC M))
theorem lay_uN {M : am_M} (h : Lay M) (hc : mC M < 336 + 2048) : Lay (uN M (1, 192)) := by
  obtain ⟨n, a, b, c⟩ := lay_C h
  refine ⟨⟨n + 1, by omega, ?_⟩, fun q hq => ?_⟩
  · show mS M ++ [(1, 192)] = _
    rw [c, List.append_assoc, List.replicate_succ']
  · have h2 := h.2 q hq
    have hlt : q.1 < 336 := ly_Flt q hq
    show (if q.1 = mC M then none else mR M q.1 q.2.1) = _
    rw [if_neg (by omega)]
    exact h2
theorem uN_R {M : am_M} {sh : am_S} {a : Nat} (h : a < mC M) (j : Nat) : mR (uN M sh) a j = mR M a j := by
  show (if a = mC M then none else mR M a j) = _
  rw [if_neg (by omega)]
theorem uN_I {M : am_M} {sh : am_S} {a : Nat} (h : a < mC M) (j : Nat) : mI (uN M sh) a j = mI M a j := by
  show (if a = mC M then 0 else mI M a j) = _
  rw [if_neg (by omega)]
theorem uN_L {M : am_M} {sh : am_S} {a : Nat} (h : a < mC M) (j : Nat) : mL (uN M sh) a j = mL M a j := by
  show (if a = mC M then 0 else mL M a j) = _
  rw [if_neg (by omega)]
theorem RInv_new {M : am_M} {s p : Nat} (h : Lay M) (hI : RInv M) (hs : s < 8) (hp : p < 256) (hn : mR M (176 + 13 * s) p = none) : mC M < 336 + 2048 ∧ RInv (uR (uN M (1, 192)) (176 + 13 * s) p (some (mC M))) := by
  obtain ⟨i1, i2, i3⟩ := hI
  obtain ⟨n, a, b, c⟩ := lay_C h
  have hC1 : mC (uR (uN M (1, 192)) (176 + 13 * s) p (some (mC M))) = mC M + 1 := by
    show (mS M ++ [(1, 192)]).length = _
    rw [List.length_append]; rfl
  have hR : ∀ s' p', s' < 8 → mR (uR (uN M (1, 192)) (176 + 13 * s) p (some (mC M))) (176 + 13 * s') p' = if s' = s ∧ p' = p then some (mC M) else mR M (176 + 13 * s') p' := by
    intro s' p' hs'
    rw [m_uR_R]
    by_cases e : s' = s ∧ p' = p
    · rw [if_pos e, if_pos ⟨by omega, e.2⟩]
    · rw [if_neg e, if_neg (fun q => e ⟨by omega, q.2⟩), uN_R (by omega)]
  have hset := cnt_set (g := rgC M) (g' := rgC (uR (uN M (1, 192)) (176 + 13 * s) p (some (mC M)))) (a := 256 * s + p) (fun t ht => ?_) ?_ ?_ 2048
  · rw [if_pos (by omega)] at hset
    have hle := cnt_le (rgC (uR (uN M (1, 192)) (176 + 13 * s) p (some (mC M)))) 2048
    refine ⟨by omega, fun s' p' r hs' hp' hr => ?_, fun s1 p1 s2 p2 r a1 a2 a3 a4 r1 r2 => ?_, by rw [hC1, hset]; omega⟩
    · rw [hR s' p' hs'] at hr
      rw [hC1]
      split at hr
      · cases hr; omega
      · have := i1 s' p' r hs' hp' hr; omega
    · rw [hR s1 p1 a1] at r1
      rw [hR s2 p2 a3] at r2
      split at r1
      · rename_i e1
        split at r2
        · rename_i e2; omega
        · cases r1; have := i1 s2 p2 _ a3 a4 r2; omega
      · split at r2
        · cases r2; have := i1 s1 p1 _ a1 a2 r1; omega
        · exact i2 s1 p1 s2 p2 r a1 a2 a3 a4 r1 r2
  · unfold rgC
    by_cases hl : t < 2048
    · rw [hR _ _ (by omega), if_neg (by omega)]
    · simp [hl]
  · unfold rgC
    rw [show (256 * s + p) / 256 = s by omega, show (256 * s + p) % 256 = p by omega, hn]
    simp
  · unfold rgC
    rw [show (256 * s + p) / 256 = s by omega, show (256 * s + p) % 256 = p by omega, hR s p hs, if_pos ⟨rfl, rfl⟩]
    have : 256 * s + p < 2048 := by omega
    simp [this]
end
section
/-! the row of a place, made when first asked for -/
set_option maxRecDepth 100000 in
theorem ly_F3 : ∀ q ∈ ly_F, ∀ s, s < 8 → ¬ (q.1 = 176 + 13 * s) := by decide +kernel
theorem c_x_ringsOf (d s p v : Nat) (wt : Nat → Prop) (M : am_M) (Q : Option Value → am_M → Prop) (hL : Lay M) (hs : s < 8) (hp : p < 256) (hv : mI M (174 + 13 * s) 1 = nI v) (hv2 : v ≤ 4) (hwt : ∀ q, inS (fun i => mL M (175 + 13 * s) i) q ↔ wt q) (hI : RInv M) (hK : RKn M s v wt p)
    (hQ : ∀ r M', rgP M M' s p r v wt → Q (some (.ref r)) M') : am_E am_P0 (d + 1) 105 [.ref (174 + 13 * s), .int (nI p)] M Q := by
  obtain ⟨w, hwe⟩ : ∃ w, w = 173 + 13 * s := ⟨_, rfl⟩
  have hw : isTr w := ⟨s, hs, hwe⟩
  have e1 : 174 + 13 * s = w + 1 := by omega
  have e2 : 175 + 13 * s = w + 2 := by omega
  have e3 : 176 + 13 * s = w + 3 := by omega
  have e4 : 177 + 13 * s = w + 4 := by omega
  obtain ⟨n0, ln0, ln1, ln2⟩ := lay_C hL
  obtain ⟨k1, k2⟩ := hK
  have hb := hI.1 s p
  rw [e1] at hv ⊢
  rw [e2] at hwt
  rw [e4] at k1 k2
  unfold rgP at hQ
  rw [e3] at k2 hb
  rw [e3, e4] at hQ
  rw [eX9_ringsOf]
  cases hr : mR M (w + 3) p with
  | some r =>
    have hb2 := hb r hs hp hr
    have hrk := lay_ring hL hb2.1 hb2.2
    rcases k1 with hk | hk
    · have h24 := l_x_rings0 d w p r v wt Q M hL hw hp (by omega) hrk hv hv2 hwt hk am_x am_x am_x (fun M' a1 a2 => by
        refine hQ r M' ⟨?_, a2, onlyL_Lay a1 hL, ?_, ?_, ⟨hb2.1, ?_⟩, ?_, fun a j ha _ => ?_, fun a j _ ha => a1.2.2.2 a j ha, fun a j _ _ => a1.2.1 a j, Or.inl hr⟩
        · rw [a1.2.1]; exact hr
        · obtain ⟨i1, i2, i3⟩ := hI
          have eS : mS M' = mS M := a1.2.2.1
          have eC : mC M' = mC M := by unfold mC; rw [eS]
          refine ⟨fun s p r q1 q2 q3 => by rw [eC]; exact i1 s p r q1 q2 (by rw [← q3]; exact (a1.2.1 _ _).symm), fun s p s' p' r q1 q2 q3 q4 q5 q6 => i2 s p s' p' r q1 q2 q3 q4 (by rw [← q5]; exact (a1.2.1 _ _).symm) (by rw [← q6]; exact (a1.2.1 _ _).symm), ?_⟩
          have ec : cnt (rgC M') 2048 = cnt (rgC M) 2048 := cnt_ext (fun t _ => by
            unfold rgC
            rw [a1.2.1]
            rfl)
          rw [eC, i3, ec]
        · show (mS M).length ≤ (mS M').length
          rw [a1.2.2.1]
          exact Nat.le_refl _
        · show r < (mS M').length
          rw [a1.2.2.1]
          exact hb2.2
        · rw [a1.1, m_uI_I, if_pos ⟨rfl, rfl⟩]
        · rw [a1.1, m_uI_I, if_neg ha])
      simp +decide (disch := omega) only [qX9_ringsOf_0, qX9_ringsOf_1, lt_ hL hw, hr, hk, ni_in_t, ni_tn, am_w1_i, am_w1_r, am_w1_x, am_w1_l, am_w1_w, va_rf_s, am_push_n, am_push_s, am_cs_0, am_cs_i, am_cs_l, am_cs_r, m_uI_K, m_uI_N, m_uI_R, m_uI_L, m_uI_I, m_uL_K, m_uL_N, m_uL_R, m_uL_I, m_uL_L, m_uR_K, m_uR_N, m_uR_I, m_uR_L, m_uR_R, true_and, and_true, true_implies, false_implies, or_true] at h24 ⊢
      exact h24
    · obtain ⟨r', q1, q2⟩ := k2 hk
      cases hr.symm.trans q1
      simp +decide (disch := omega) only [qX9_ringsOf_0, qX9_ringsOf_1, lt_ hL hw, hr, hk, ni_in_t, ni_tn, am_w1_i, am_w1_r, am_w1_x, am_w1_l, am_w1_w, va_rf_s, am_push_n, am_push_s, am_cs_0, am_cs_i, am_cs_l, am_cs_r, m_uI_K, m_uI_N, m_uI_R, m_uI_L, m_uI_I, m_uL_K, m_uL_N, m_uL_R, m_uL_I, m_uL_L, m_uR_K, m_uR_N, m_uR_I, m_uR_L, m_uR_R, true_and, and_true, true_implies, false_implies, or_true]
      exact hQ r M ⟨hr, q2, hL, hI, Nat.le_refl _, hb2, hk, fun _ _ _ _ => rfl, fun _ _ _ _ => rfl, fun _ _ _ _ => rfl, Or.inl hr⟩
  | none =>
    have hk : mI M (w + 4) p = 0 := by
      rcases k1 with hk | hk
      · exact hk
      · obtain ⟨r', q1, q2⟩ := k2 hk
        rw [hr] at q1; cases q1
    have hn := RInv_new hL hI hs hp (by rw [e3]; exact hr)
    rw [e3] at hn
    have hL1 := lay_uN hL hn.1
    have hL2 : Lay (uR (uN M (1, 192)) (w + 3) p (some (mC M))) := Lay_uR hL1 (fun q hq => by
      rintro ⟨a1, a2⟩
      exact ly_F3 q hq s hs (by omega))
    have hC1 : mC (uN M (1, 192)) = mC M + 1 := by
      show (mS M ++ [(1, 192)]).length = _
      rw [List.length_append]; rfl
    have hrk : mK (uN M (1, 192)) (mC M) = 1 ∧ mN (uN M (1, 192)) (mC M) = 192 := lay_ring hL1 (by omega) (by omega)
    have t192 : (192 : Int32).toInt.toNat = 192 := rfl
    have hk' : mI (uN M (1, 192)) (w + 4) p = 0 := by rw [uN_I (by omega)]; exact hk
    have h24 := l_x_rings0 d w p (mC M) v wt Q (uR (uN M (1, 192)) (w + 3) p (some (mC M))) hL2 hw hp (by omega) hrk (by show mI (uN M (1, 192)) (w + 1) 1 = _; rw [uN_I (by omega)]; exact hv) hv2 (fun q => (inS_ext (fun i _ => uN_L (sh := (1, 192)) (by omega) i) q).trans (hwt q)) hk' am_x am_x am_x (fun M' a1 a2 => by
        have eS : mS M' = mS M ++ [(1, 192)] := a1.2.2.1
        have eC : mC M' = mC M + 1 := by unfold mC; rw [eS, List.length_append]; rfl
        refine hQ (mC M) M' ⟨?_, a2, onlyL_Lay a1 hL2, ?_, by omega, ⟨by omega, by omega⟩, ?_, fun a j ha _ => ?_, fun a j h1 ha => ?_, fun a j ha h1 => ?_, Or.inr ⟨hr, rfl⟩⟩
        · rw [a1.2.1, m_uI_R, m_uR_R, if_pos ⟨rfl, rfl⟩]
        · obtain ⟨i1, i2, i3⟩ := hn.2
          refine ⟨fun s0 p0 r q1 q2 q3 => by rw [eC]; have := i1 s0 p0 r q1 q2 (by rw [← q3]; exact (a1.2.1 _ _).symm); have e9 : mC (uR (uN M (1, 192)) (w + 3) p (some (mC M))) = mC M + 1 := hC1; omega, fun s p s' p' r q1 q2 q3 q4 q5 q6 => i2 s p s' p' r q1 q2 q3 q4 (by rw [← q5]; exact (a1.2.1 _ _).symm) (by rw [← q6]; exact (a1.2.1 _ _).symm), ?_⟩
          have e9 : mC (uR (uN M (1, 192)) (w + 3) p (some (mC M))) = mC M + 1 := hC1
          have ec : cnt (rgC M') 2048 = cnt (rgC (uR (uN M (1, 192)) (w + 3) p (some (mC M)))) 2048 := cnt_ext (fun t _ => by
            unfold rgC
            rw [a1.2.1]
            rfl)
          rw [eC, ← e9, i3, ec]
        · rw [a1.1, m_uI_I, if_pos ⟨rfl, rfl⟩]
        · rw [a1.1, m_uI_I, if_neg ha]
          exact uN_I (sh := (1, 192)) (by assumption) j
        · rw [a1.2.2.2 a j ha]
          exact uN_L (sh := (1, 192)) h1 j
        · rw [a1.2.1, m_uI_R, m_uR_R, if_neg ha]
          exact uN_R (sh := (1, 192)) h1 j)
    simp +decide (disch := omega) only [qX9_ringsOf_0, qX9_ringsOf_1, zr_6, zr_7, va_rf_n, lt_ hL hw, lt_ hL1 hw, lt_ hL2 hw, hr, hk', hrk, t192, ni_in_t, ni_tn, am_w1_i, am_w1_r, am_w1_x, am_w1_l, am_w1_w, va_rf_s, am_push_n, am_push_s, am_cs_0, am_cs_i, am_cs_l, am_cs_r, m_uI_K, m_uI_N, m_uI_R, m_uI_L, m_uI_I, m_uL_K, m_uL_N, m_uL_R, m_uL_I, m_uL_L, m_uR_K, m_uR_N, m_uR_I, m_uR_L, m_uR_R, true_and, and_true, true_implies, false_implies, or_true, and_self, or_false, false_or, false_and] at h24 ⊢
    exact h24
end
section
/-! a ship's waters: what stays while rows are asked for -/
def TrW (M : am_M) (s v : Nat) (wt : Nat → Prop) : Prop := mI M (174 + 13 * s) 1 = nI v ∧ v ≤ 4 ∧ (∀ q, inS (fun i => mL M (175 + 13 * s) i) q ↔ wt q) ∧ ∀ p, p < 256 → RKn M s v wt p
/-- nothing is changed but rows and what is known of them -/
def rgF (M M' : am_M) : Prop := Lay M' ∧ RInv M' ∧ mC M ≤ mC M' ∧ (∀ a j, a < 336 → (∀ s, s < 8 → ¬ a = 177 + 13 * s) → mI M' a j = mI M a j) ∧ (∀ a j, a < 336 → mL M' a j = mL M a j) ∧ (∀ a j, a < 336 → (∀ s, s < 8 → ¬ a = 176 + 13 * s) → mR M' a j = mR M a j) ∧ ∀ s v wt, s < 8 → TrW M s v wt → TrW M' s v wt
theorem rgF_refl {M : am_M} (h : Lay M) (hI : RInv M) : rgF M M := ⟨h, hI, Nat.le_refl _, fun _ _ _ _ => rfl, fun _ _ _ => rfl, fun _ _ _ _ => rfl, fun _ _ _ _ h => h⟩
theorem rgF_trans {M M' M'' : am_M} (h1 : rgF M M') (h2 : rgF M' M'') : rgF M M'' :=
  ⟨h2.1, h2.2.1, Nat.le_trans h1.2.2.1 h2.2.2.1, fun a j q1 q2 => (h2.2.2.2.1 a j q1 q2).trans (h1.2.2.2.1 a j q1 q2), fun a j q1 => (h2.2.2.2.2.1 a j q1).trans (h1.2.2.2.2.1 a j q1), fun a j q1 q2 => (h2.2.2.2.2.2.1 a j q1 q2).trans (h1.2.2.2.2.2.1 a j q1 q2), fun s v wt q1 q2 => h2.2.2.2.2.2.2 s v wt q1 (h1.2.2.2.2.2.2 s v wt q1 q2)⟩
theorem rgP_F {M M' : am_M} {s p r v : Nat} {wt : Nat → Prop} (hL : Lay M) (hI : RInv M) (hs : s < 8) (hp : p < 256) (hT : TrW M s v wt) (h : rgP M M' s p r v wt) : rgF M M' := by
  obtain ⟨h1, h2, h3, h4, h5, h6, h7, h8, h9, h10, h11⟩ := h
  obtain ⟨n, n1, n2, n3⟩ := lay_C hL
  refine ⟨h3, h4, h5, fun a j q1 q2 => h8 a j (fun z => q2 s hs z.1) (by omega), fun a j q1 => h9 a j (by omega) (by omega), fun a j q1 q2 => h10 a j (fun z => q2 s hs z.1) (by omega), fun s' v' wt' hs' hT' => ?_⟩
  obtain ⟨a1, a2, a3, a4⟩ := hT'
  have eI : mI M' (174 + 13 * s') 1 = mI M (174 + 13 * s') 1 := h8 _ _ (by omega) (by omega)
  have eL : ∀ i, mL M' (175 + 13 * s') i = mL M (175 + 13 * s') i := fun i => h9 _ _ (by omega) (by omega)
  refine ⟨by rw [eI]; exact a1, a2, fun q => (inS_ext (fun i _ => eL i) q).trans (a3 q), fun p' hp' => ?_⟩
  by_cases e : s' = s ∧ p' = p
  · obtain ⟨rfl, rfl⟩ := e
    have ev : v' = v := by
      have h0 := a1.symm.trans hT.1
      rw [ni_eq (by omega) (by have := hT.2.1; omega)] at h0
      exact h0
    subst ev
    refine ⟨Or.inr h7, fun _ => ⟨r, h1, fun i hi q => ?_⟩⟩
    rw [h2 i hi q]
    exact ball_ext (fun x => (hT.2.2.1 x).symm.trans (a3 x)) _ _ _
  · obtain ⟨k1, k2⟩ := a4 p' hp'
    have eK : mI M' (177 + 13 * s') p' = mI M (177 + 13 * s') p' := h8 _ _ (fun z => e ⟨by omega, z.2⟩) (by omega)
    refine ⟨by rw [eK]; exact k1, fun hk => ?_⟩
    rw [eK] at hk
    obtain ⟨r', q1, q2⟩ := k2 hk
    have b1 := hI.1 s' p' r' hs' hp' q1
    have hne : ¬ r' = r := by
      intro er
      subst er
      rcases h11 with q | q
      · exact e (hI.2.1 s' p' s p r' hs' hp' hs hp q1 q)
      · omega
    refine ⟨r', ?_, fun i hi q => ?_⟩
    · rw [h10 _ _ (fun z => e ⟨by omega, z.2⟩) (by omega)]; exact q1
    · rw [← q2 i hi q]
      exact inS_ext (fun j _ => h9 _ _ (by omega) hne) q
/-- no farther than so many hours -/
theorem c_x_isWithin (d s p q t v : Nat) (wt : Nat → Prop) (M : am_M) (Q : Option Value → am_M → Prop) (hL : Lay M) (hI : RInv M) (hs : s < 8) (hp : p < 256) (hq : q < 256) (ht : t < 48) (hT : TrW M s v wt)
    (hQ : ∀ M', rgF M M' → Q (some (.int (tI (wit wt v p q t)))) M') : am_E am_P0 (d + 2) 104 [.ref (174 + 13 * s), .int (nI p), .int (nI q), .int (nI t)] M Q := by
  have hw : isTr (173 + 13 * s) := ⟨s, hs, rfl⟩
  have e1 : 174 + 13 * s = (173 + 13 * s) + 1 := by omega
  have hK : mK M (174 + 13 * s) = 19 := by rw [e1]; exact (lt_ hL hw).2.1
  rw [eX9_isWithin]
  simp +decide only [qX9_isWithin, hK, am_w1_i, am_w1_r, am_w1_x, am_w1_l, am_w1_w, va_rf_s, am_push_n, am_push_s, am_cs_0, am_cs_i, am_cs_l, am_cs_r, m_uI_K, m_uI_N, m_uI_R, m_uI_L, m_uI_I, m_uL_K, m_uL_N, m_uL_R, m_uL_I, m_uL_L, m_uR_K, m_uR_N, m_uR_I, m_uR_L, m_uR_R, true_and, and_true]
  refine c_x_ringsOf d s p v wt M _ hL hs hp hT.1 hT.2.1 hT.2.2.1 hI (hT.2.2.2 p hp) (fun r M' h => ?_)
  have hF := rgP_F hL hI hs hp hT h
  have hrk := lay_ring hF.1 h.2.2.2.2.2.1.1 h.2.2.2.2.2.1.2
  have e2 : nI t * 4 + nI (q / 64) = nI (4 * t + q / 64) := by
    rw [show (4 : Int32) = nI 4 from rfl, ni_mul, ni_add, Nat.mul_comm]
  simp +decide (disch := omega) only [qX9_isWithin, hrk, sr6 q hq, an63 q hq, e2, ni_in_t, ni_tn, lgc_0, bt_test _ (Nat.mod_lt q (show 0 < 64 by decide)), am_w1_i, am_w1_r, am_w1_x, am_w1_l, am_w1_w, va_rf_s, am_push_n, am_push_s, am_cs_0, am_cs_i, am_cs_l, am_cs_r, m_uI_K, m_uI_N, m_uI_R, m_uI_L, m_uI_I, m_uL_K, m_uL_N, m_uL_R, m_uL_I, m_uL_L, m_uR_K, m_uR_N, m_uR_I, m_uR_L, m_uR_R, true_and, and_true]
  have hb : inS (rw4 M' r t) q ↔ wit wt v p q t := h.2.1 t ht q
  by_cases e : sbit (mL M' r (4 * t + q / 64)) (q % 64) = true
  · rw [br_r e]
    have h0 := hQ M' hF
    rw [tI_t (hb.mp ⟨hq, e⟩)] at h0
    exact h0
  · rw [br_q e]
    have h0 := hQ M' hF
    rw [tI_f (fun z => e (hb.mpr z).2)] at h0
    exact h0
end
section
/-! how far it is -/
def dst (wt : Nat → Prop) (p q k : Nat) : Prop := ball wt p k q ∧ ∀ j, j < k → ¬ ball wt p j q
/-- hours from place to place, as they are told -/
def farP (wt : Nat → Prop) (v p q : Nat) (x : Int32) : Prop := (∃ k, k < 256 ∧ dst wt p q k ∧ x = nI ((k + v - 1) / v)) ∨ ((∀ k, ¬ ball wt p k q) ∧ x = -1)
theorem dst_1 {wt : Nat → Prop} {p q j k : Nat} (h1 : dst wt p q j) (h2 : dst wt p q k) : j = k := by
  rcases Nat.lt_trichotomy j k with h | h | h
  · exact absurd h1.1 (h2.2 j h)
  · exact h
  · exact absurd h2.1 (h1.2 k h)
theorem farP_1 {wt : Nat → Prop} {v p q : Nat} {x y : Int32} (h1 : farP wt v p q x) (h2 : farP wt v p q y) : x = y := by
  rcases h1 with ⟨j, -, a, rfl⟩ | ⟨a, rfl⟩ <;> rcases h2 with ⟨k, -, b, rfl⟩ | ⟨b, rfl⟩
  · rw [dst_1 a b]
  · exact absurd a.1 (b j)
  · exact absurd b.1 (a k)
  · rfl
theorem cnt_sub {g g' : Nat → Bool} {n : Nat} (h : ∀ i, i < n → g i = true → g' i = true) : cnt g n ≤ cnt g' n := by
  induction n with
  | zero => exact Nat.le_refl _
  | succ n ih =>
    have h1 := ih (fun i hi => h i (by omega))
    rw [cnt_s, cnt_s]
    by_cases e : g n = true
    · rw [if_pos e, if_pos (h n (by omega) e)]; omega
    · rw [if_neg e]; omega
theorem cnt_sub_lt {g g' : Nat → Bool} {n i : Nat} (h : ∀ i, i < n → g i = true → g' i = true) (hi : i < n) (h1 : ¬ g i = true) (h2 : g' i = true) : cnt g n < cnt g' n := by
  induction n with
  | zero => omega
  | succ n ih =>
    rw [cnt_s, cnt_s]
    by_cases e : i = n
    · subst e
      have := cnt_sub (g := g) (g' := g') (n := i) (fun j hj => h j (by omega))
      rw [if_neg h1, if_pos h2]; omega
    · have := ih (fun j hj => h j (by omega)) (by omega)
      by_cases e : g n = true
      · rw [if_pos e, if_pos (h n (by omega) e)]; omega
      · rw [if_neg e]; omega
noncomputable def inB (f : Nat → Int64) : Nat → Bool := fun p => @decide (inS f p) (Classical.propDecidable _)
theorem inB_t {f : Nat → Int64} {p : Nat} : inB f p = true ↔ inS f p := by
  unfold inB
  exact @decide_eq_true_iff _ (Classical.propDecidable _)
theorem l_x_far (d s p q v : Nat) (wt : Nat → Prop) (Q : Option Value → am_M → Prop) (M0 : am_M) (hL : Lay M0) (hs : s < 8) (hq : q < 256) (hv : mI M0 (174 + 13 * s) 1 = nI v) (hv1 : 1 ≤ v) (hv2 : v ≤ 4) (hwt : ∀ q, inS (fun i => mL M0 (175 + 13 * s) i) q ↔ wt q) (x1 : Value)
    (hQ : ∀ x M', onlyL M0 M' (178 + 13 * s) → farP wt v p q x → Q (some (.int x)) M') :
    ∀ (m k : Nat), k + m = 256 → ∀ (M : am_M), onlyL M0 M (178 + 13 * s) → isB wt p k (fun i => mL M (178 + 13 * s) i) → (∀ j, j < k → ¬ ball wt p j q) → k < cnt (inB (fun i => mL M (178 + 13 * s) i)) 256 →
    am_P am_P0 (d + 1) (am_look tX9_hoursBetween) 43 [.ref (174 + 13 * s), x1, .int (nI q), .int (nI k)] [] M Q := by
  obtain ⟨w, hwe⟩ : ∃ w, w = 173 + 13 * s := ⟨_, rfl⟩
  have hw : isTr w := ⟨s, hs, hwe⟩
  have e1 : 174 + 13 * s = w + 1 := by omega
  have e2 : 175 + 13 * s = w + 2 := by omega
  have e5 : 178 + 13 * s = w + 5 := by omega
  rw [e1] at hv ⊢
  rw [e2] at hwt
  rw [e5] at hQ ⊢
  have hq6 : q % 64 < 64 := Nat.mod_lt _ (by decide)
  intro m
  induction m with
  | zero =>
    intro k hk M hM hB hn hc
    have := cnt_le (inB (fun i => mL M (w + 5) i)) 256
    omega
  | succ m ih =>
    intro k hk M hM hB hn hc
    have hlt : ¬ (256 : Int32) ≤ nI k := by rw [show (256 : Int32) = nI 256 from rfl, ni_le (by omega) (by omega)]; omega
    have hLM := onlyL_Lay hM hL
    have hv' : mI M (w + 1) 1 = nI v := by rw [hM.1]; exact hv
    have hv0 : ¬ nI v = 0 := by rw [show (0 : Int32) = nI 0 from rfl, ni_eq (by omega) (by omega)]; omega
    have ed : (nI k + nI v - 1) / nI v = nI ((k + v - 1) / v) := by
      rw [ni_add, show (1 : Int32) = nI 1 from rfl, ni_sub (by omega), ni_div (by omega) (by omega)]
    have hw' : ∀ q, inS (fun i => mL M (w + 2) i) q ↔ wt q := fun q => by
      rw [← hwt q]
      exact inS_ext (fun i _ => hM.2.2.2 _ _ (by omega)) q
    rw [hX9_hoursBetween_43]
    simp +decide (disch := omega) only [qX9_hoursBetween_0, qX9_hoursBetween_1, lt_ hLM hw, hv', hv0, sr6 q hq, an63 q hq, ed, ni_in_t, ni_tn, lgc_0, bt_test _ hq6, am_w1_i, am_w1_r, am_w1_x, am_w1_l, am_w1_w, va_rf_s, am_push_n, am_push_s, am_cs_0, am_cs_i, am_cs_l, am_cs_r, m_uI_K, m_uI_N, m_uI_R, m_uI_L, m_uI_I, m_uL_K, m_uL_N, m_uL_R, m_uL_I, m_uL_L, m_uR_K, m_uR_N, m_uR_I, m_uR_L, m_uR_R, true_and, and_true]
    rw [br_n hlt]
    by_cases e : sbit (mL M (w + 5) (q / 64)) (q % 64) = true
    · rw [br_r e]
      exact hQ _ M hM (Or.inl ⟨k, by omega, ⟨(hB q).mp ⟨hq, e⟩, hn⟩, rfl⟩)
    · rw [br_q e]
      have hnk : ¬ ball wt p k q := fun z => e ((hB q).mpr z).2
      rw [show (0 : Int32) = nI 0 from rfl, c_x_widen d w (w + 5) 0 M _ hLM hw (by omega) (lt_ hLM hw).2.2.2.2.2.2.2.2.1 (by rw [(lt_ hLM hw).2.2.2.2.2.2.2.2.2.1]; decide) (by rw [(lt_ hLM hw).2.2.2.2.2.2.2.2.2.1]; decide)]
      simp +decide only [qX9_hoursBetween_0, qX9_hoursBetween_1, am_w1_i, am_w1_r, am_w1_x, am_w1_l, am_w1_w, va_rf_s, am_push_n, am_push_s, am_cs_0, am_cs_i, am_cs_l, am_cs_r, m_uI_K, m_uI_N, m_uI_R, m_uI_L, m_uI_I, m_uL_K, m_uL_N, m_uL_R, m_uL_I, m_uL_L, m_uR_K, m_uR_N, m_uR_I, m_uR_L, m_uR_R, true_and, and_true, ni_add1]
      have er : (fun i => mL M (w + 5) (0 + i)) = (fun i => mL M (w + 5) i) := by funext i; rw [Nat.zero_add]
      rw [er]
      by_cases hc2 : ∀ i, i < 4 → widS (fun i => mL M (w + 5) i) (fun i => mL M (w + 2) i) i = mL M (w + 5) (0 + i)
      · rw [tI_f (fun z => z hc2)]
        rw [br_r rfl]
        refine hQ _ _ (onlyL_trans hM (onlyL_w4 M (w + 5) 0 _)) (Or.inr ⟨fun j hj => ?_, rfl⟩)
        have hsm := isB_same hw' hB (fun i hi => by rw [hc2 i hi, Nat.zero_add])
        rcases Nat.lt_or_ge j k with l | l
        · exact hn j l hj
        · exact hnk ((hB q).mp ((hsm j l q).mpr hj))
      · rw [tI_t hc2]
        rw [br_q (by decide)]
        have erow : ∀ i, i < 4 → mL (w4 M (w + 5) 0 (widS (fun i => mL M (w + 5) i) (fun i => mL M (w + 2) i))) (w + 5) i = widS (fun i => mL M (w + 5) i) (fun i => mL M (w + 2) i) i := fun i hi => by
          rw [w4_L, if_pos (by omega)]
          rfl
        have hB1 := isB_wid hw' hB
        have hB2 : isB wt p (k + 1) (fun i => mL (w4 M (w + 5) 0 (widS (fun i => mL M (w + 5) i) (fun i => mL M (w + 2) i))) (w + 5) i) := fun z => (inS_ext erow z).trans (hB1 z)
        refine ih (k + 1) (by omega) _ (onlyL_trans hM (onlyL_w4 M (w + 5) 0 _)) hB2 (fun j hj => ?_) ?_
        · by_cases ej : j = k
          · subst ej; exact hnk
          · exact hn j (by omega)
        · have hex : ∃ z, inS (fun i => mL (w4 M (w + 5) 0 (widS (fun i => mL M (w + 5) i) (fun i => mL M (w + 2) i))) (w + 5) i) z ∧ ¬ inS (fun i => mL M (w + 5) i) z := by
            by_cases hz : ∃ z, inS (fun i => mL (w4 M (w + 5) 0 (widS (fun i => mL M (w + 5) i) (fun i => mL M (w + 2) i))) (w + 5) i) z ∧ ¬ inS (fun i => mL M (w + 5) i) z
            · exact hz
            · exfalso
              apply hc2
              intro i hi
              rw [Nat.zero_add]
              refine inS_eq (fun z => ?_) i hi
              rw [← inS_ext erow z]
              constructor
              · intro z1
                by_cases z2 : inS (fun i => mL M (w + 5) i) z
                · exact z2
                · exact absurd ⟨z, z1, z2⟩ hz
              · intro z1
                exact (hB2 z).mpr (ball_up ((hB z).mp z1))
          obtain ⟨z, z1, z2⟩ := hex
          have := cnt_sub_lt (g := inB (fun i => mL M (w + 5) i)) (g' := inB (fun i => mL (w4 M (w + 5) 0 (widS (fun i => mL M (w + 5) i) (fun i => mL M (w + 2) i))) (w + 5) i)) (n := 256) (i := z) (fun i _ hi => inB_t.mpr ((hB2 i).mpr (ball_up ((hB i).mp (inB_t.mp hi))))) z1.1 (fun h => z2 (inB_t.mp h)) (inB_t.mpr z1)
          omega
theorem c_x_hoursBetween (d s p q v : Nat) (wt : Nat → Prop) (Q : Option Value → am_M → Prop) (M : am_M) (hL : Lay M) (hs : s < 8) (hp : p < 256) (hq : q < 256) (hv : mI M (174 + 13 * s) 1 = nI v) (hv1 : 1 ≤ v) (hv2 : v ≤ 4) (hwt : ∀ q, inS (fun i => mL M (175 + 13 * s) i) q ↔ wt q)
    (hQ : ∀ x M', onlyL M M' (178 + 13 * s) → farP wt v p q x → Q (some (.int x)) M') : am_E am_P0 (d + 1) 107 [.ref (174 + 13 * s), .int (nI p), .int (nI q)] M Q := by
  obtain ⟨w, hwe⟩ : ∃ w, w = 173 + 13 * s := ⟨_, rfl⟩
  have hw : isTr w := ⟨s, hs, hwe⟩
  have hl := l_x_far d s p q v wt Q M hL hs hq hv hv1 hv2 hwt (.int (nI p)) hQ 256 0 rfl
  have e1 : 174 + 13 * s = w + 1 := by omega
  have e2 : 175 + 13 * s = w + 2 := by omega
  have e5 : 178 + 13 * s = w + 5 := by omega
  rw [e1] at hv hl ⊢
  rw [e2] at hwt
  rw [e5] at hQ hl
  have hp6 : p % 64 < 64 := Nat.mod_lt _ (by decide)
  rw [eX9_hoursBetween]
  have w1 := fun Q => c_x_isWater d w p M Q hL hw hp
  have w2 := fun Q => c_x_isWater d w q M Q hL hw hq
  simp +decide only [qX9_hoursBetween_0, qX9_hoursBetween_1, lt_ hL hw, w1, w2, am_w1_i, am_w1_r, am_w1_x, am_w1_l, am_w1_w, va_rf_s, am_push_n, am_push_s, am_cs_0, am_cs_i, am_cs_l, am_cs_r, m_uI_K, m_uI_N, m_uI_R, m_uI_L, m_uI_I, m_uL_K, m_uL_N, m_uL_R, m_uL_I, m_uL_L, m_uR_K, m_uR_N, m_uR_I, m_uR_L, m_uR_R, true_and, and_true]
  by_cases h1 : inS (fun i => mL M (w + 2) i) p
  · rw [tI_t h1, br_n (by decide)]
    by_cases h2 : inS (fun i => mL M (w + 2) i) q
    · rw [tI_t h2, br_q (by decide)]
      rw [c_fillJ d (w + 5) 0 M _ (lt_ hL hw).2.2.2.2.2.2.2.2.1 (by rw [(lt_ hL hw).2.2.2.2.2.2.2.2.2.1]; decide)]
      simp +decide (disch := omega) only [qX9_hoursBetween_0, qX9_hoursBetween_1, lt_ hL hw, uB_K, uB_N, uB_R, uB_L, sr6 p hp, an63 p hp, ni_in_t, ni_tn, am_w1_i, am_w1_r, am_w1_x, am_w1_l, am_w1_w, va_rf_s, am_push_n, am_push_s, am_cs_0, am_cs_i, am_cs_l, am_cs_r, m_uI_K, m_uI_N, m_uI_R, m_uI_L, m_uI_I, m_uL_K, m_uL_N, m_uL_R, m_uL_I, m_uL_L, m_uR_K, m_uR_N, m_uR_I, m_uR_L, m_uR_R, true_and, and_true]
      have hM' : onlyL M (uL (uB M (w + 5) (fun j => if j < 4 then 0 else mL M (w + 5) j)) (w + 5) (p / 64) ((1 : Int64) <<< ((nI (p % 64)).toInt64 &&& 63))) (w + 5) := by
        refine ⟨fun _ _ => rfl, fun _ _ => rfl, rfl, fun a j h => ?_⟩
        rw [m_uL_L, if_neg (fun q => h q.1), uB_L, if_neg h]
      have hB : isB wt p 0 (fun i => mL (uL (uB M (w + 5) (fun j => if j < 4 then 0 else mL M (w + 5) j)) (w + 5) (p / 64) ((1 : Int64) <<< ((nI (p % 64)).toInt64 &&& 63))) (w + 5) i) := by
        intro z
        show inS _ z ↔ z = p ∧ wt p
        unfold inS
        constructor
        · rintro ⟨hz, hb⟩
          dsimp only at hb
          rw [m_uL_L, uB_L, if_pos rfl] at hb
          by_cases e1 : z / 64 = p / 64
          · rw [if_pos ⟨rfl, e1⟩, bt_one hp6, decide_eq_true_eq] at hb
            exact ⟨by omega, (hwt p).mp h1⟩
          · rw [if_neg (fun z => e1 z.2), if_pos (by omega), sb_0] at hb
            cases hb
        · rintro ⟨rfl, -⟩
          refine ⟨hp, ?_⟩
          dsimp only
          rw [m_uL_L, if_pos ⟨rfl, rfl⟩, bt_one hp6]
          simp
      refine hl _ hM' hB (fun j hj => by omega) (cnt_pos.mpr ⟨p, hp, inB_t.mpr ((hB p).mpr ⟨rfl, (hwt p).mp h1⟩)⟩)
    · rw [tI_f h2, br_r rfl]
      exact hQ _ M (onlyL_refl _ _) (Or.inr ⟨fun k hk => h2 ((hwt q).mpr (ball_w hk).2), rfl⟩)
  · rw [tI_f h1, br_p rfl]
    exact hQ _ M (onlyL_refl _ _) (Or.inr ⟨fun k hk => h1 ((hwt p).mpr (ball_w hk).1), rfl⟩)
end
