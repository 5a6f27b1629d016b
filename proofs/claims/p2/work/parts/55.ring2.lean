theorem va_rf_n : va_rf none = .null := rfl
theorem zr_6 (d : Nat) (v0 v1 v2 v3 v4 v5 : Value) (st : List Value) (M : am_M) (Q : Option Value → am_M → Prop) : am_P am_P0 d (am_look tX9_ringsOf) 6 [v0, v1, v2, v3, v4, v5] (.null :: st) M Q ↔ am_P am_P0 d (am_look tX9_ringsOf) 7 [v0, am_w1 v1, .null, v3, v4, v5] st M Q := r_nx (am_at_ 4 ksX9_ringsOf rfl : am_look tX9_ringsOf 6 = k_nx (a_ast 2 7)) (by simp [a_ast, am_st, am_w1])
theorem zr_7 (d : Nat) (v0 v1 v3 v4 v5 : Value) (st : List Value) (M : am_M) (Q : Option Value → am_M → Prop) : am_P am_P0 d (am_look tX9_ringsOf) 7 [v0, v1, .null, v3, v4, v5] st M Q ↔ am_P am_P0 d (am_look tX9_ringsOf) 8 [v0, v1, .null, v3, v4, v5] (.null :: st) M Q := r_nx (am_at_ 5 ksX9_ringsOf rfl : am_look tX9_ringsOf 7 = k_nx (a_ald 2 8)) rfl
/-- from 24 on: the row is there -/
theorem l_x_rings0 (d w p r v : Nat) (wt : Nat → Prop) (Q : Option Value → am_M → Prop) (M : am_M) (hL : Lay M) (hw : isTr w) (hp : p < 256) (hne : ¬ r = w + 2) (hr : mK M r = 1 ∧ mN M r = 192) (hv : mI M (w + 1) 1 = nI v) (hv2 : v ≤ 4) (hwt : ∀ q, inS (fun i => mL M (w + 2) i) q ↔ wt q) (hk : mI M (w + 4) p = 0) (v3 v4 v5 : Value)
    (hQ : ∀ (M' : am_M), onlyL (uI M (w + 4) p 1) M' r → (∀ i, i < 48 → isB wt p (i * v) (rw4 M' r i)) → Q (some (.ref r)) M') :
    am_P am_P0 (d + 1) (am_look tX9_ringsOf) 24 [.ref (w + 1), .int (nI p), .ref r, v3, v4, v5] [] M Q := by
  have hp6 : p % 64 < 64 := Nat.mod_lt _ (by decide)
  have hne2 : ¬ w + 2 = r := fun e => hne e.symm
  simp +decide (disch := omega) only [qX9_ringsOf_0, qX9_ringsOf_1, lt_ hL hw, hk, ni_in_t, ni_tn, am_w1_i, am_w1_r, am_w1_x, am_w1_l, am_w1_w, va_rf_s, am_push_n, am_push_s, am_cs_0, am_cs_i, am_cs_l, am_cs_r, m_uI_K, m_uI_N, m_uI_R, m_uI_L, m_uI_I, m_uL_K, m_uL_N, m_uL_R, m_uL_I, m_uL_L, m_uR_K, m_uR_N, m_uR_I, m_uR_L, m_uR_R, true_and, and_true, true_implies, false_implies]
  rw [c_fillJ d r 0 (uI M (w + 4) p 1) _ (by exact hr.1) (by show mN M r ≤ _; rw [hr.2]; decide)]
  simp +decide (disch := omega) only [qX9_ringsOf_0, qX9_ringsOf_1, lt_ hL hw, uB_K, uB_N, uB_R, uB_L, hr, hne2, sr6 p hp, an63 p hp, ni_in_t, ni_tn, am_w1_i, am_w1_r, am_w1_x, am_w1_l, am_w1_w, va_rf_s, am_push_n, am_push_s, am_cs_0, am_cs_i, am_cs_l, am_cs_r, m_uI_K, m_uI_N, m_uI_R, m_uI_L, m_uI_I, m_uL_K, m_uL_N, m_uL_R, m_uL_I, m_uL_L, m_uR_K, m_uR_N, m_uR_I, m_uR_L, m_uR_R, true_and, and_true, if_false]
  have hM' : onlyL (uI M (w + 4) p 1) (uL (uB (uI M (w + 4) p 1) r (fun j => if j < 192 then 0 else mL M r j)) r (p / 64) ((1 : Int64) <<< ((nI (p % 64)).toInt64 &&& 63) &&& mL M (w + 2) (p / 64))) r := by
    refine ⟨fun _ _ => rfl, fun _ _ => rfl, rfl, fun a j h => ?_⟩
    rw [m_uL_L, if_neg (fun q => h q.1), uB_L, if_neg h]
  refine l_x_rings1 d w p r v wt Q (uI M (w + 4) p 1) hL hw hne hr (by rw [m_uI_I, if_neg (by omega)]; exact hv) hv2 hwt _ 47 1 rfl (Nat.le_refl _) _ 1 _ hM' (fun i hi => ?_) (Or.inl rfl) hQ
  have e : i = 0 := by omega
  subst e
  rw [Nat.zero_mul]
  intro q
  show inS _ q ↔ q = p ∧ wt p
  rw [← hwt p]
  unfold inS
  constructor
  · rintro ⟨hq, hb⟩
    dsimp only [rw4] at hb
    rw [m_uL_L, uB_L, if_pos rfl] at hb
    by_cases e1 : 4 * 0 + q / 64 = p / 64
    · rw [if_pos ⟨rfl, e1⟩, sb_and, bt_one hp6, Bool.and_eq_true, decide_eq_true_eq] at hb
      have e2 : q = p := by omega
      subst e2
      exact ⟨rfl, hp, hb.2⟩
    · rw [if_neg (fun z => e1 z.2), if_pos (by omega), sb_0] at hb
      cases hb
  · rintro ⟨rfl, -, hb⟩
    refine ⟨hp, ?_⟩
    dsimp only [rw4]
    rw [m_uL_L, if_pos ⟨rfl, by omega⟩, sb_and, bt_one hp6, hb]
    simp
/-- every row is one place's of one ship; so many are there -/
def rgC (M : am_M) : Nat → Bool := fun q => decide (q < 2048) && (mR M (176 + 13 * (q / 256)) (q % 256)).isSome
def RInv (M : am_M) : Prop := (∀ s p r, s < 8 → p < 256 → mR M (176 + 13 * s) p = some r → 336 ≤ r ∧ r < mC M) ∧ (∀ s p s' p' r, s < 8 → p < 256 → s' < 8 → p' < 256 → mR M (176 + 13 * s) p = some r → mR M (176 + 13 * s') p' = some r → s = s' ∧ p = p') ∧ mC M = 336 + cnt (rgC M) 2048
/-- what is known of one place's row -/
def RKn (M : am_M) (s v : Nat) (wt : Nat → Prop) (p : Nat) : Prop := (mI M (177 + 13 * s) p = 0 ∨ mI M (177 + 13 * s) p = 1) ∧ (mI M (177 + 13 * s) p = 1 → ∃ r, mR M (176 + 13 * s) p = some r ∧ ∀ i, i < 48 → isB wt p (i * v) (rw4 M r i))
set_option maxRecDepth 100000 in
theorem ly_len : ly_S.length = 336 := rfl
theorem lay_C {M : am_M} (h : Lay M) : ∃ n, n ≤ 2048 ∧ mC M = 336 + n ∧ mS M = ly_S ++ List.replicate n (1, 192) := by
  obtain ⟨⟨n, h1, h2⟩, -⟩ := h
  refine ⟨n, h1, ?_, h2⟩
  unfold mC
  rw [h2, List.length_append, List.length_replicate, ly_len]
theorem lay_ring {M : am_M} (h : Lay M) {r : Nat} (h1 : 336 ≤ r) (h2 : r < mC M) : mK M r = 1 ∧ mN M r = 192 := by
  obtain ⟨n, a, b, c⟩ := lay_C h
  have hl := ly_len
  have e : (mS M)[r]? = some (1, 192) := by
    rw [c, List.getElem?_append_right (by omega), List.getElem?_replicate, if_pos (by omega)]
  unfold mK mN
  rw [List.getD_eq_getElem?_getD, e]
  exact ⟨rfl, rfl⟩
set_option maxRecDepth 100000 in
theorem ly_Flt : ∀ q ∈ ly_F, q.1 < 336 := by decide +kernel
/-- what asking for a row does -/
def rgP (M M' : am_M) (s p r v : Nat) (wt : Nat → Prop) : Prop :=
  mR M' (176 + 13 * s) p = some r ∧ (∀ i, i < 48 → isB wt p (i * v) (rw4 M' r i)) ∧ Lay M' ∧ RInv M' ∧ mC M ≤ mC M' ∧ (336 ≤ r ∧ r < mC M') ∧ mI M' (177 + 13 * s) p = 1 ∧ (∀ a j, ¬ (a = 177 + 13 * s ∧ j = p) → a < mC M → mI M' a j = mI M a j) ∧ (∀ a j, a < mC M → ¬ a = r → mL M' a j = mL M a j) ∧ (∀ a j, ¬ (a = 176 + 13 * s ∧ j = p) → a < mC M → mR M' a j = mR M a j) ∧ (mR M (176 + 13 * s) p = some r ∨ (mR M (176 + 13 * s) p = none ∧ r = mC M))
theorem lay_uN {M : am_M} (h : Lay M) (hc : mC M < 336 + 2048) : Lay (uN M (1, 192)) := by
  obtain ⟨n, a, b, c⟩ := lay_C h
  refine ⟨⟨n + 1, by omega, ?_⟩, fun q hq => ?_⟩
  · show mS M ++ [(1, 192)] = _
    rw [c, List.append_assoc, List.replicate_succ']
  · have h2 := h.2 q hq
    have hlt : q.1 < 336 := ly_Flt q hq
    show (if q.1 = mC M then none else mR M q.1 q.2.1) = _
    rw [if_neg (by omega)]
    exact h2
theorem uN_R {M : am_M} {sh : am_S} {a : Nat} (h : a < mC M) (j : Nat) : mR (uN M sh) a j = mR M a j := by
  show (if a = mC M then none else mR M a j) = _
  rw [if_neg (by omega)]
theorem uN_I {M : am_M} {sh : am_S} {a : Nat} (h : a < mC M) (j : Nat) : mI (uN M sh) a j = mI M a j := by
  show (if a = mC M then 0 else mI M a j) = _
  rw [if_neg (by omega)]
theorem uN_L {M : am_M} {sh : am_S} {a : Nat} (h : a < mC M) (j : Nat) : mL (uN M sh) a j = mL M a j := by
  show (if a = mC M then 0 else mL M a j) = _
  rw [if_neg (by omega)]
theorem RInv_new {M : am_M} {s p : Nat} (h : Lay M) (hI : RInv M) (hs : s < 8) (hp : p < 256) (hn : mR M (176 + 13 * s) p = none) : mC M < 336 + 2048 ∧ RInv (uR (uN M (1, 192)) (176 + 13 * s) p (some (mC M))) := by
  obtain ⟨i1, i2, i3⟩ := hI
  obtain ⟨n, a, b, c⟩ := lay_C h
  have hC1 : mC (uR (uN M (1, 192)) (176 + 13 * s) p (some (mC M))) = mC M + 1 := by
    show (mS M ++ [(1, 192)]).length = _
    rw [List.length_append]; rfl
  have hR : ∀ s' p', s' < 8 → mR (uR (uN M (1, 192)) (176 + 13 * s) p (some (mC M))) (176 + 13 * s') p' = if s' = s ∧ p' = p then some (mC M) else mR M (176 + 13 * s') p' := by
    intro s' p' hs'
    rw [m_uR_R]
    by_cases e : s' = s ∧ p' = p
    · rw [if_pos e, if_pos ⟨by omega, e.2⟩]
    · rw [if_neg e, if_neg (fun q => e ⟨by omega, q.2⟩), uN_R (by omega)]
  have hset := cnt_set (g := rgC M) (g' := rgC (uR (uN M (1, 192)) (176 + 13 * s) p (some (mC M)))) (a := 256 * s + p) (fun t ht => ?_) ?_ ?_ 2048
  · rw [if_pos (by omega)] at hset
    have hle := cnt_le (rgC (uR (uN M (1, 192)) (176 + 13 * s) p (some (mC M)))) 2048
    refine ⟨by omega, fun s' p' r hs' hp' hr => ?_, fun s1 p1 s2 p2 r a1 a2 a3 a4 r1 r2 => ?_, by rw [hC1, hset]; omega⟩
    · rw [hR s' p' hs'] at hr
      rw [hC1]
      split at hr
      · cases hr; omega
      · have := i1 s' p' r hs' hp' hr; omega
    · rw [hR s1 p1 a1] at r1
      rw [hR s2 p2 a3] at r2
      split at r1
      · rename_i e1
        split at r2
        · rename_i e2; omega
        · cases r1; have := i1 s2 p2 _ a3 a4 r2; omega
      · split at r2
        · cases r2; have := i1 s1 p1 _ a1 a2 r1; omega
        · exact i2 s1 p1 s2 p2 r a1 a2 a3 a4 r1 r2
  · unfold rgC
    by_cases hl : t < 2048
    · rw [hR _ _ (by omega), if_neg (by omega)]
    · simp [hl]
  · unfold rgC
    rw [show (256 * s + p) / 256 = s by omega, show (256 * s + p) % 256 = p by omega, hn]
    simp
  · unfold rgC
    rw [show (256 * s + p) / 256 = s by omega, show (256 * s + p) % 256 = p by omega, hR s p hs, if_pos ⟨rfl, rfl⟩]
    have : 256 * s + p < 2048 := by omega
    simp [this]
