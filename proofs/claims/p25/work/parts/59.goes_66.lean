/-! 59.goes 60.goes2 61.fit 62.books 63.line 64.says 65.fits 66.sayM -/
section
/-! the model's search in breadth -/
/-- the model's number of a place -/
def cel (C p : Nat) : Nat := C * (p / 16) + p % 16
def vld (C R p : Nat) : Prop := p % 16 < C ∧ p / 16 < R
theorem cel_inj {C R p q : Nat} (hp : vld C R p) (hq : vld C R q) (h : cel C p = cel C q) : p = q := by
  unfold vld at hp hq
  unfold cel at h
  have h1 : (C * (p / 16) + p % 16) / C = p / 16 := by rw [Nat.mul_add_div (by omega), Nat.div_eq_of_lt hp.1, Nat.add_zero]
  have h2 : (C * (q / 16) + q % 16) / C = q / 16 := by rw [Nat.mul_add_div (by omega), Nat.div_eq_of_lt hq.1, Nat.add_zero]
  have h3 : p / 16 = q / 16 := by rw [← h1, ← h2, h]
  rw [h3] at h
  omega
theorem cel_lt {C R p : Nat} (hC : C ≤ 16) (hR : R ≤ 16) (h : vld C R p) : cel C p < C * R ∧ cel C p < 256 ∧ p < 256 := by
  unfold vld at h
  unfold cel
  have h1 : C * (p / 16) + C ≤ C * R := by
    have : C * (p / 16 + 1) ≤ C * R := Nat.mul_le_mul_left C h.2
    rw [Nat.mul_add, Nat.mul_one] at this
    exact this
  have h2 : C * R ≤ 16 * 16 := Nat.mul_le_mul hC hR
  omega
theorem cel_of {C R c : Nat} (hC : C ≤ 16) (h : c < C * R) : ∃ p, vld C R p ∧ cel C p = c ∧ c % C = p % 16 ∧ c / C = p / 16 := by
  have hC0 : 0 < C := by
    rcases Nat.eq_zero_or_pos C with e | e
    · subst e; rw [Nat.zero_mul] at h; omega
    · exact e
  have h1 := Nat.mod_lt c hC0
  have h2 : c / C < R := Nat.div_lt_of_lt_mul h
  have e1 : (16 * (c / C) + c % C) / 16 = c / C := by omega
  have e2 : (16 * (c / C) + c % C) % 16 = c % C := by omega
  refine ⟨16 * (c / C) + c % C, ⟨by omega, by omega⟩, ?_, by omega, by omega⟩
  unfold cel
  rw [e1, e2]
  exact Nat.div_add_mod c C
/-- nothing but the search's own rows is changed -/
def onlyG (M M' : am_M) : Prop := (∀ a j, ¬ a = 317 → ¬ a = 318 → ¬ (a = 277 ∧ j = 59) → mI M' a j = mI M a j) ∧ (∀ a j, mL M' a j = mL M a j) ∧ (∀ a j, mR M' a j = mR M a j) ∧ mS M' = mS M
theorem onlyG_refl (M : am_M) : onlyG M M := ⟨fun _ _ _ _ _ => rfl, fun _ _ => rfl, fun _ _ => rfl, rfl⟩
theorem onlyG_trans {M M' M'' : am_M} (h1 : onlyG M M') (h2 : onlyG M' M'') : onlyG M M'' := ⟨fun a j q1 q2 q3 => (h2.1 a j q1 q2 q3).trans (h1.1 a j q1 q2 q3), fun a j => (h2.2.1 a j).trans (h1.2.1 a j), fun a j => (h2.2.2.1 a j).trans (h1.2.2.1 a j), h2.2.2.2.trans h1.2.2.2⟩
theorem onlyG_Lay {M M' : am_M} (h : onlyG M M') (hL : Lay M) : Lay M' := Lay_S hL h.2.2.2 h.2.2.1
/-- the model's sea: its bank, its size -/
def MB (M : am_M) (b C R : Nat) : Prop := mI M 277 12 = nI b ∧ b < 2 ∧ mI M 279 b = nI C ∧ mI M 280 b = nI R ∧ 1 ≤ C ∧ C ≤ 16 ∧ 1 ≤ R ∧ R ≤ 16
theorem MB_G {M M' : am_M} {b C R : Nat} (h : MB M b C R) (g : onlyG M M') : MB M' b C R := by
  obtain ⟨h1, h2, h3, h4, h5⟩ := h
  exact ⟨by rw [g.1 _ _ (by decide) (by decide) (by decide)]; exact h1, h2, by rw [g.1 _ _ (by decide) (by decide) (by omega)]; exact h3, by rw [g.1 _ _ (by decide) (by decide) (by omega)]; exact h4, h5⟩
/-- water for the ship s -/
def mW_ (M : am_M) (b C R s : Nat) (p : Nat) : Prop := vld C R p ∧ mI M 289 (8 * b + s) ≤ mI M 315 (cel C p)
theorem mW_G {M M' : am_M} {b C R s : Nat} (g : onlyG M M') : mW_ M' b C R s = mW_ M b C R s := by
  funext p
  unfold mW_
  rw [g.1 _ _ (by decide) (by decide) (by omega), g.1 _ _ (by decide) (by decide) (by omega)]
/-- the rows hold what the search knows -/
def BfM (M : am_M) (C R : Nat) (σ : Bf) : Prop :=
  (∀ p, vld C R p → mI M 317 (cel C p) = match σ.1 p with | none => -1 | some t => nI t) ∧ (∀ j, j < σ.2.2 → vld C R (σ.2.1 j) ∧ mI M 318 j = nI (cel C (σ.2.1 j))) ∧ mI M 277 59 = nI σ.2.2 ∧ (∀ p t, σ.1 p = some t → vld C R p ∧ t < σ.2.2) ∧ cnt (fun p => (σ.1 p).isSome) 256 = σ.2.2
theorem nI_m1 {t : Nat} (h : t < 2147483648) : ¬ nI t = -1 := by
  intro e
  have := congrArg Int32.toInt e
  rw [ni_ti h] at this
  have h1 : (-1 : Int32).toInt = -1 := rfl
  omega
theorem c_m_reach1 (d s b C R x y t : Nat) (M : am_M) (Q : Option Value → am_M → Prop) (σ : Bf) (hL : Lay M) (hB : MB M b C R) (hs : s < 8) (hx : x < C) (hy : y < R) (ht : t ≤ σ.2.2) (hσ : BfM M C R σ)
    (hQ : ∀ M', onlyG M M' → BfM M' C R (rch (mW_ M b C R s) t σ (16 * y + x)) → Q none M') : am_E am_P0 (d + 2) 236 [.ref 277, .int (nI s), .int (nI x), .int (nI y), .int (nI t)] M Q := by
  obtain ⟨b1, b2, b3, b4, b5, b6, b7, b8⟩ := hB
  obtain ⟨s1, s2, s3, s4, s5⟩ := hσ
  have hvl : vld C R (16 * y + x) := ⟨by omega, by omega⟩
  have hce : cel C (16 * y + x) = C * y + x := by
    unfold cel
    rw [show (16 * y + x) / 16 = y by omega, show (16 * y + x) % 16 = x by omega]
  have hcl := cel_lt b6 b8 hvl
  rw [hce] at hcl
  have hq := fun Q => c_m_isCell d (nI x) (nI y) M Q hL b C R b1 b2 b3 b4 b6 b8
  have hq2 := fun Q => c_m_at (d + 1) x y M Q hL b C b1 b2 b3
  have hq3 := fun Q => c_m_isWater (d + 1) s (C * y + x) M Q hL b b1 b2 hs hcl.2.1
  have hbt : bI ((0 ≤ (nI x).toInt ∧ (nI x).toInt < C) ∧ (0 ≤ (nI y).toInt ∧ (nI y).toInt < R)) = 1 := bI_t (by rw [ni_ti (by omega), ni_ti (by omega)]; omega)
  have h0 := s1 _ hvl
  rw [hce] at h0
  rw [eX11_reaches]
  simp +decide (disch := omega) only [qX11_reaches_0, qX11_reaches_1, lm hL, hq, hq2, hq3, hbt, s3, ni_in_t, ni_tn, ni_add1, am_w1_i, am_w1_r, am_w1_x, am_w1_l, am_w1_w, va_rf_s, am_push_n, am_push_s, am_cs_0, am_cs_i, am_cs_l, am_cs_r, m_uI_K, m_uI_N, m_uI_R, m_uI_L, m_uI_I, m_uL_K, m_uL_N, m_uL_R, m_uL_I, m_uL_L, m_uR_K, m_uR_N, m_uR_I, m_uR_L, m_uR_R, true_and, and_true, false_and, if_false, not_true_eq_false, not_false_eq_true, true_implies, false_implies]
  cases hm : σ.1 (16 * y + x) with
  | some u =>
    rw [hm] at h0
    dsimp only at h0
    have hu := s4 _ _ hm
    have hle := cnt_le (fun p => (σ.1 p).isSome) 256
    rw [br_q (by rw [h0]; exact nI_m1 (by omega))]
    have e : rch (mW_ M b C R s) t σ (16 * y + x) = σ := rch_n (fun q => by rw [hm] at q; cases q.2)
    rw [e] at hQ
    exact hQ M (onlyG_refl M) ⟨s1, s2, s3, s4, s5⟩
  | none =>
    rw [hm] at h0
    dsimp only at h0
    rw [br_r h0]
    by_cases hw : mI M 289 (8 * b + s) ≤ mI M 315 (C * y + x)
    · rw [bI_t hw, br_q (by decide)]
      have hww : mW_ M b C R s (16 * y + x) := ⟨hvl, by rw [hce]; exact hw⟩
      have e : rch (mW_ M b C R s) t σ (16 * y + x) = ((fun c => if c = 16 * y + x then some t else σ.1 c), (fun j => if j = σ.2.2 then 16 * y + x else σ.2.1 j), σ.2.2 + 1) := rch_p ⟨hww, hm⟩
      rw [e] at hQ
      have hlt : σ.2.2 < 256 := by
        have h1 := cnt_set (g := fun p => (σ.1 p).isSome) (g' := fun p => (if p = 16 * y + x then some t else σ.1 p).isSome) (a := 16 * y + x) (fun z hz => by rw [if_neg hz]) (by simp [hm]) (by simp) 256
        have h2 := cnt_le (fun p => (if p = 16 * y + x then some t else σ.1 p).isSome) 256
        rw [if_pos hcl.2.2, s5] at h1
        omega
      simp +decide (disch := omega) only [qX11_reaches_0, qX11_reaches_1, lm hL, s3, ni_in_t, ni_tn, ni_add1, am_w1_i, am_w1_r, am_w1_x, am_w1_l, am_w1_w, va_rf_s, am_push_n, am_push_s, am_cs_0, am_cs_i, am_cs_l, am_cs_r, m_uI_K, m_uI_N, m_uI_R, m_uI_L, m_uI_I, m_uL_K, m_uL_N, m_uL_R, m_uL_I, m_uL_L, m_uR_K, m_uR_N, m_uR_I, m_uR_L, m_uR_R, true_and, and_true, false_and, if_false]
      refine hQ _ ⟨fun a j q1 q2 q3 => ?_, fun _ _ => rfl, fun _ _ => rfl, rfl⟩ ⟨fun p hp => ?_, fun j hj => ?_, ?_, fun p u hu => ?_, ?_⟩
      · rw [m_uI_I, if_neg q3, m_uI_I, if_neg (fun z => q2 z.1), m_uI_I, if_neg (fun z => q1 z.1)]
      · dsimp only
        rw [m_uI_I, if_neg (by omega), m_uI_I, if_neg (by omega), m_uI_I]
        by_cases ep : p = 16 * y + x
        · subst ep
          rw [if_pos ⟨rfl, hce⟩, if_pos rfl]
        · rw [if_neg (fun z => ep (cel_inj hp hvl (z.2.trans hce.symm))), if_neg ep]
          exact s1 p hp
      · dsimp only at hj ⊢
        have em : mI (uI (uI (uI M 317 (C * y + x) (nI t)) 318 σ.2.2 (nI (C * y + x))) 277 59 (nI (σ.2.2 + 1))) 318 j = if j = σ.2.2 then nI (C * y + x) else mI M 318 j := by
          rw [m_uI_I, if_neg (fun z => absurd z.1 (by decide)), m_uI_I]
          by_cases ej : j = σ.2.2
          · rw [if_pos ⟨rfl, ej⟩, if_pos ej]
          · rw [if_neg (fun z => ej z.2), if_neg ej, m_uI_I, if_neg (fun z => absurd z.1 (by decide))]
        rw [em]
        by_cases ej : j = σ.2.2
        · rw [if_pos ej, if_pos ej, hce]
          exact ⟨hvl, rfl⟩
        · rw [if_neg ej, if_neg ej]
          exact s2 j (by omega)
      · dsimp only
        rw [m_uI_I, if_pos ⟨rfl, rfl⟩]
      · dsimp only at hu ⊢
        by_cases ep : p = 16 * y + x
        · rw [if_pos ep] at hu
          cases hu
          exact ⟨by rw [ep]; exact hvl, by omega⟩
        · rw [if_neg ep] at hu
          have := s4 p u hu
          exact ⟨this.1, by omega⟩
      · dsimp only
        have h1 := cnt_set (g := fun p => (σ.1 p).isSome) (g' := fun p => (if p = 16 * y + x then some t else σ.1 p).isSome) (a := 16 * y + x) (fun z hz => by rw [if_neg hz]) (by simp [hm]) (by simp) 256
        rw [if_pos hcl.2.2, s5] at h1
        exact h1
    · rw [bI_f hw, br_r rfl]
      have e : rch (mW_ M b C R s) t σ (16 * y + x) = σ := rch_n (fun q => hw (by have := q.1.2; rw [hce] at this; exact this))
      rw [e] at hQ
      exact hQ M (onlyG_refl M) ⟨s1, s2, s3, s4, s5⟩
theorem c_m_reach0 (d b C R : Nat) (s x y t : Int32) (M : am_M) (Q : Option Value → am_M → Prop) (hL : Lay M) (hB : MB M b C R) (hv : ¬ ((0 ≤ x.toInt ∧ x.toInt < C) ∧ (0 ≤ y.toInt ∧ y.toInt < R))) (hQ : Q none M) : am_E am_P0 (d + 2) 236 [.ref 277, .int s, .int x, .int y, .int t] M Q := by
  obtain ⟨b1, b2, b3, b4, b5, b6, b7, b8⟩ := hB
  have hq := fun Q => c_m_isCell d x y M Q hL b C R b1 b2 b3 b4 b6 b8
  rw [eX11_reaches]
  simp +decide (disch := omega) only [qX11_reaches_0, qX11_reaches_1, lm hL, hq, bI_f hv, am_w1_i, am_w1_r, am_w1_x, am_w1_l, am_w1_w, va_rf_s, am_push_n, am_push_s, am_cs_0, am_cs_i, am_cs_l, am_cs_r, m_uI_K, m_uI_N, m_uI_R, m_uI_L, m_uI_I, m_uL_K, m_uL_N, m_uL_R, m_uL_I, m_uL_L, m_uR_K, m_uR_N, m_uR_I, m_uR_L, m_uR_R, true_and, and_true, not_true_eq_false, not_false_eq_true, true_implies, false_implies]
  exact hQ
end
section
/-! the model's search: the loops -/
section
variable (d s b C R p k t u : Nat) (w : Nat → Prop) (M0 : am_M)
def gPr (M : am_M) (σ : Bf) : Prop := onlyG M0 M ∧ BfM M C R σ ∧ bfJ w p k t σ ∧ σ.2.1 k = u
theorem m_nb (hL : Lay M0) (hB : MB M0 b C R) (hw : w = mW_ M0 b C R s) (hs : s < 8) (M : am_M) (σ : Bf) (Q : Option Value → am_M → Prop) (h : gPr C R p k t u w M0 M σ) (x y : Int32)
    (hc : (∃ x0 y0, x = nI x0 ∧ y = nI y0 ∧ x0 < C ∧ y0 < R ∧ nbr u (16 * y0 + x0)) ∨ ¬ ((0 ≤ x.toInt ∧ x.toInt < C) ∧ (0 ≤ y.toInt ∧ y.toInt < R)))
    (hQ : ∀ M' σ', gPr C R p k t u w M0 M' σ' → (∀ c v, σ.1 c = some v → σ'.1 c = some v) → (∀ x0 y0, x = nI x0 → y = nI y0 → x0 < C → y0 < R → w (16 * y0 + x0) → ∃ v, σ'.1 (16 * y0 + x0) = some v ∧ v ≤ t + 1) → Q none M') :
    am_E am_P0 (d + 2) 236 [.ref 277, .int (nI s), .int x, .int y, .int (nI (t + 1))] M Q := by
  obtain ⟨h1, h2, h3, h4⟩ := h
  have hLM := onlyG_Lay h1 hL
  have hBM := MB_G hB h1
  have hC16 := hB.2.2.2.2.2.1
  have hR16 := hB.2.2.2.2.2.2.2
  rcases hc with ⟨x0, y0, rfl, rfl, hx, hy, hn⟩ | hv
  · have ht : t < σ.2.2 := (h2.2.2.2.1 _ _ h3.2.2.2.2.2.2).2
    refine c_m_reach1 d s b C R x0 y0 (t + 1) M Q σ hLM hBM hs hx hy (by omega) h2 (fun M' g1 g2 => ?_)
    have ew : mW_ M b C R s = w := by rw [hw, mW_G h1]
    rw [ew] at g2
    rw [← h4] at hn
    obtain ⟨j1, j2, j3, j4⟩ := bfJ_rch h3 hn
    refine hQ M' _ ⟨onlyG_trans h1 g1, g2, j1, by rw [j2]; exact h4⟩ j3 (fun x1 y1 e1 e2 q1 q2 hwd => ?_)
    have f1 : x0 = x1 := by rw [ni_eq (by omega) (by omega)] at e1; exact e1
    have f2 : y0 = y1 := by rw [ni_eq (by omega) (by omega)] at e2; exact e2
    subst f1; subst f2
    exact j4 hwd
  · refine c_m_reach0 d b C R (nI s) x y (nI (t + 1)) M Q hLM hBM hv ?_
    refine hQ M σ ⟨h1, h2, h3, h4⟩ (fun _ _ h => h) (fun x1 y1 e1 e2 q1 q2 => ?_)
    subst e1; subst e2
    exact absurd ⟨⟨by rw [ni_ti (by omega)]; omega, by rw [ni_ti (by omega)]; omega⟩, by rw [ni_ti (by omega)]; omega, by rw [ni_ti (by omega)]; omega⟩ hv
end
/-- how far each place is, as the model has it -/
def GoesP (M : am_M) (C R : Nat) (w : Nat → Prop) (p : Nat) : Prop := ∀ q, vld C R q → (∃ k, k ≤ 256 ∧ dst w p q k ∧ mI M 317 (cel C q) = nI k) ∨ ((∀ k, ¬ ball w p k q) ∧ mI M 317 (cel C q) = -1)
theorem GoesP_of {M : am_M} {C R p : Nat} {w : Nat → Prop} {σ : Bf} (h : BfM M C R σ) (hI : bfI w p σ.2.2 σ) (hp : w p → σ.1 p = some 0) : GoesP M C R w p := by
  intro q hq
  have he := bf_end hI hp q
  have h1 := h.1 q hq
  have hle := cnt_le (fun p => (σ.1 p).isSome) 256
  have h5 := h.2.2.2.2
  cases hm : σ.1 q with
  | none =>
    rw [hm] at h1
    refine Or.inr ⟨fun k hk => ?_, h1⟩
    obtain ⟨u, hu, -⟩ := (he k).mp hk
    rw [hm] at hu; cases hu
  | some k =>
    rw [hm] at h1
    have hk := (h.2.2.2.1 q k hm).2
    refine Or.inl ⟨k, by omega, ⟨(he k).mpr ⟨k, hm, Nat.le_refl _⟩, fun j hj hb => ?_⟩, h1⟩
    obtain ⟨u, hu, hle⟩ := (he j).mp hb
    rw [hm] at hu
    cases hu
    omega
theorem l_m_goes (d s b C R p : Nat) (M0 : am_M) (Q : Option Value → am_M → Prop) (hL : Lay M0) (hB : MB M0 b C R) (hs : s < 8) (x2 : Int32) (hQ : ∀ M', onlyG M0 M' → GoesP M' C R (mW_ M0 b C R s) p → Q none M') :
    ∀ (m k : Nat), k + m = 257 → ∀ (M : am_M) (σ : Bf) (v4 v5 v6 : Value), onlyG M0 M → BfM M C R σ → k ≤ σ.2.2 → bfI (mW_ M0 b C R s) p k σ → (mW_ M0 b C R s p → σ.1 p = some 0) →
    am_P am_P0 (d + 3) (am_look tX11_goes) 46 [.ref 277, .int (nI s), .int x2, .int (nI k), v4, v5, v6] [] M Q := by
  obtain ⟨w, hwd⟩ : ∃ w, w = mW_ M0 b C R s := ⟨_, rfl⟩
  rw [← hwd] at hQ ⊢
  have hC1 := hB.2.2.2.2.1
  have hC16 := hB.2.2.2.2.2.1
  have hR16 := hB.2.2.2.2.2.2.2
  intro m
  induction m with
  | zero =>
    intro k hk M σ v4 v5 v6 hM hσ hks hI hp0
    have hle := cnt_le (fun p => (σ.1 p).isSome) 256
    have h5 := hσ.2.2.2.2
    omega
  | succ m ih =>
    intro k hk M σ v4 v5 v6 hM hσ hks hI hp0
    have hLM := onlyG_Lay hM hL
    have hle := cnt_le (fun p => (σ.1 p).isSome) 256
    have h5 := hσ.2.2.2.2
    have hn := hσ.2.2.1
    rw [hX11_goes_46]
    by_cases hke : k = σ.2.2
    · have hle2 : nI σ.2.2 ≤ nI k := (ni_le (by omega) (by omega)).mpr (by omega)
      simp +decide only [qX11_goes_0, qX11_goes_1, qX11_goes_2, lm hLM, hn, am_w1_i, am_w1_r, am_w1_x, am_w1_l, am_w1_w, va_rf_s, am_push_n, am_push_s, am_cs_0, am_cs_i, am_cs_l, am_cs_r, m_uI_K, m_uI_N, m_uI_R, m_uI_L, m_uI_I, m_uL_K, m_uL_N, m_uL_R, m_uL_I, m_uL_L, m_uR_K, m_uR_N, m_uR_I, m_uR_L, m_uR_R, true_and, and_true]
      rw [br_p hle2]
      rw [hke] at hI
      exact hQ M hM (GoesP_of hσ hI hp0)
    · have hlt : ¬ nI σ.2.2 ≤ nI k := by rw [ni_le (by omega) (by omega)]; omega
      rcases hI with ⟨hk2, t, hJ⟩ | ⟨hk2, -⟩
      · obtain ⟨hu, hq⟩ := hσ.2.1 k hk2
        obtain ⟨u, hue⟩ : ∃ u, u = σ.2.1 k := ⟨_, rfl⟩
        rw [← hue] at hu hq
        have hul := cel_lt hC16 hR16 hu
        have htk : σ.1 u = some t := by rw [hue]; exact hJ.2.2.2.2.2.2
        have ht : t < σ.2.2 := (hσ.2.2.2.1 _ _ htk).2
        have hBM := MB_G hB hM
        have em : cel C u % C = u % 16 := by
          unfold cel
          rw [Nat.mul_add_mod, Nat.mod_eq_of_lt hu.1]
        have ed : cel C u / C = u / 16 := by
          unfold cel
          rw [Nat.mul_add_div (by omega), Nat.div_eq_of_lt hu.1, Nat.add_zero]
        have hcol := fun Q => c_m_columnOf (d + 2) (cel C u) M Q hLM b C hBM.1 hBM.2.1 hBM.2.2.1 (by omega) hC16 hul.2.1
        have hrow := fun Q => c_m_rowOf (d + 2) (cel C u) M Q hLM b C hBM.1 hBM.2.1 hBM.2.2.1 (by omega) hC16 hul.2.1
        have hst : ∀ (M' : am_M) (σ' : Bf), gPr C R p k t u w M0 M' σ' → mI M' 317 (cel C u) = nI t := fun M' σ' g => by
          have h1 := g.2.1.1 u hu
          have h2 := g.2.2.1.2.2.2.2.2.2
          rw [g.2.2.2] at h2
          rw [h2] at h1
          exact h1
        have g0 : gPr C R p k t u w M0 M σ := ⟨hM, hσ, hJ, hue.symm⟩
        have s0 := hst M σ g0
        have hx1 : nI (u % 16) - 1 = if u % 16 = 0 then -1 else nI (u % 16 - 1) := by
          split
          · rename_i e; rw [e]; rfl
          · rw [show (1 : Int32) = nI 1 from rfl, ni_sub (by omega)]
        have hy1 : nI (u / 16) - 1 = if u / 16 = 0 then -1 else nI (u / 16 - 1) := by
          split
          · rename_i e; rw [e]; rfl
          · rw [show (1 : Int32) = nI 1 from rfl, ni_sub (by omega)]
        have m1 : (-1 : Int32).toInt = -1 := rfl
        have hu1 := hu.1
        have hu2 := hu.2
        simp +decide (disch := omega) only [qX11_goes_0, qX11_goes_1, qX11_goes_2, lm hLM, hn, hq, hcol, hrow, em, ed, s0, ni_in_t, ni_tn, ni_add1, am_w1_i, am_w1_r, am_w1_x, am_w1_l, am_w1_w, va_rf_s, am_push_n, am_push_s, am_cs_0, am_cs_i, am_cs_l, am_cs_r, m_uI_K, m_uI_N, m_uI_R, m_uI_L, m_uI_I, m_uL_K, m_uL_N, m_uL_R, m_uL_I, m_uL_L, m_uR_K, m_uR_N, m_uR_I, m_uR_L, m_uR_R, true_and, and_true]
        rw [br_n hlt]
        refine m_nb d s b C R p k t u w M0 hL hB hwd hs M σ _ g0 _ _ ?_ (fun M1 σ1 g1 f1 n1 => ?_)
        · rw [hx1]
          by_cases e : u % 16 = 0
          · rw [if_pos e]; exact Or.inr (by rw [m1]; omega)
          · rw [if_neg e]; exact Or.inl ⟨_, _, rfl, rfl, by omega, hu2, by unfold nbr; omega⟩
        have L1 := onlyG_Lay g1.1 hL
        have s1 := hst M1 σ1 g1
        simp +decide (disch := omega) only [qX11_goes_0, qX11_goes_1, qX11_goes_2, lm L1, s1, ni_in_t, ni_tn, ni_add1, am_w1_i, am_w1_r, am_w1_x, am_w1_l, am_w1_w, va_rf_s, am_push_n, am_push_s, am_cs_0, am_cs_i, am_cs_l, am_cs_r, m_uI_K, m_uI_N, m_uI_R, m_uI_L, m_uI_I, m_uL_K, m_uL_N, m_uL_R, m_uL_I, m_uL_L, m_uR_K, m_uR_N, m_uR_I, m_uR_L, m_uR_R, true_and, and_true]
        refine m_nb d s b C R p k t u w M0 hL hB hwd hs M1 σ1 _ g1 _ _ ?_ (fun M2 σ2 g2 f2 n2 => ?_)
        · by_cases e : u % 16 + 1 < C
          · exact Or.inl ⟨_, _, rfl, rfl, e, hu2, by unfold nbr; omega⟩
          · exact Or.inr (by rw [ni_ti (by omega)]; omega)
        have L2 := onlyG_Lay g2.1 hL
        have s2 := hst M2 σ2 g2
        simp +decide (disch := omega) only [qX11_goes_0, qX11_goes_1, qX11_goes_2, lm L2, s2, ni_in_t, ni_tn, ni_add1, am_w1_i, am_w1_r, am_w1_x, am_w1_l, am_w1_w, va_rf_s, am_push_n, am_push_s, am_cs_0, am_cs_i, am_cs_l, am_cs_r, m_uI_K, m_uI_N, m_uI_R, m_uI_L, m_uI_I, m_uL_K, m_uL_N, m_uL_R, m_uL_I, m_uL_L, m_uR_K, m_uR_N, m_uR_I, m_uR_L, m_uR_R, true_and, and_true]
        refine m_nb d s b C R p k t u w M0 hL hB hwd hs M2 σ2 _ g2 _ _ ?_ (fun M3 σ3 g3 f3 n3 => ?_)
        · rw [hy1]
          by_cases e : u / 16 = 0
          · rw [if_pos e]; exact Or.inr (by rw [m1]; omega)
          · rw [if_neg e]; exact Or.inl ⟨_, _, rfl, rfl, hu1, by omega, by unfold nbr; omega⟩
        have L3 := onlyG_Lay g3.1 hL
        have s3 := hst M3 σ3 g3
        simp +decide (disch := omega) only [qX11_goes_0, qX11_goes_1, qX11_goes_2, lm L3, s3, ni_in_t, ni_tn, ni_add1, am_w1_i, am_w1_r, am_w1_x, am_w1_l, am_w1_w, va_rf_s, am_push_n, am_push_s, am_cs_0, am_cs_i, am_cs_l, am_cs_r, m_uI_K, m_uI_N, m_uI_R, m_uI_L, m_uI_I, m_uL_K, m_uL_N, m_uL_R, m_uL_I, m_uL_L, m_uR_K, m_uR_N, m_uR_I, m_uR_L, m_uR_R, true_and, and_true]
        refine m_nb d s b C R p k t u w M0 hL hB hwd hs M3 σ3 _ g3 _ _ ?_ (fun M4 σ4 g4 f4 n4 => ?_)
        · by_cases e : u / 16 + 1 < R
          · exact Or.inl ⟨_, _, rfl, rfl, hu1, e, by unfold nbr; omega⟩
          · exact Or.inr (by rw [ni_ti (n := u / 16 + 1) (by omega)]; omega)
        simp +decide (disch := omega) only [qX11_goes_0, qX11_goes_1, qX11_goes_2, ni_add1, am_w1_i, am_w1_r, am_w1_x, am_w1_l, am_w1_w, va_rf_s, am_push_n, am_push_s, am_cs_0, am_cs_i, am_cs_l, am_cs_r, m_uI_K, m_uI_N, m_uI_R, m_uI_L, m_uI_I, m_uL_K, m_uL_N, m_uL_R, m_uL_I, m_uL_L, m_uR_K, m_uR_N, m_uR_I, m_uR_L, m_uR_R, true_and, and_true]
        refine ih (k + 1) (by omega) M4 σ4 _ _ _ g4.1 g4.2.1 g4.2.2.1.2.2.2.2.2.1 (bfI_next g4.2.2.1 (fun e hn he => ?_)) (fun hw => f4 _ _ (f3 _ _ (f2 _ _ (f1 _ _ (hp0 hw)))))
        rw [g4.2.2.2] at hn
        have hev : vld C R e := by rw [hwd] at he; exact he.1
        have hee : 16 * (e / 16) + e % 16 = e := by omega
        unfold nbr at hn
        unfold vld at hev
        rcases hn with ⟨q1, q2⟩ | ⟨q1, q2⟩ | q1 | q1
        · obtain ⟨v, hv, hv2⟩ := n2 (e % 16) (e / 16) (by congr 1; omega) (by congr 1; omega) hev.1 hev.2 (by rw [hee]; exact he)
          rw [hee] at hv
          exact ⟨v, f4 _ _ (f3 _ _ hv), hv2⟩
        · obtain ⟨v, hv, hv2⟩ := n1 (e % 16) (e / 16) (by rw [hx1, if_neg (by omega)]; congr 1; omega) (by congr 1; omega) hev.1 hev.2 (by rw [hee]; exact he)
          rw [hee] at hv
          exact ⟨v, f4 _ _ (f3 _ _ (f2 _ _ hv)), hv2⟩
        · obtain ⟨v, hv, hv2⟩ := n4 (e % 16) (e / 16) (by congr 1; omega) (by congr 1; omega) hev.1 hev.2 (by rw [hee]; exact he)
          rw [hee] at hv
          exact ⟨v, hv, hv2⟩
        · obtain ⟨v, hv, hv2⟩ := n3 (e % 16) (e / 16) (by congr 1; omega) (by rw [hy1, if_neg (by omega)]; congr 1; omega) hev.1 hev.2 (by rw [hee]; exact he)
          rw [hee] at hv
          exact ⟨v, f4 _ _ hv, hv2⟩
      · omega
theorem l_m_goes0 (d s b C R p : Nat) (M : am_M) (Q : Option Value → am_M → Prop) (hL : Lay M) (hB : MB M b C R) (x2 : Int32) (v4 v5 v6 : Value) (hE : am_P am_P0 (d + 3) (am_look tX11_goes) 23 [.ref 277, .int (nI s), .int x2, .int (nI (C * R)), v4, v5, v6] [] (uA M 317 (fun j => if j < C * R then -1 else mI M 317 j)) Q) :
    ∀ (m k : Nat), k + m = C * R → am_P am_P0 (d + 3) (am_look tX11_goes) 2 [.ref 277, .int (nI s), .int x2, .int (nI k), v4, v5, v6] [] (uA M 317 (fun j => if j < k then -1 else mI M 317 j)) Q := by
  obtain ⟨b1, b2, b3, b4, b5, b6, b7, b8⟩ := hB
  have hcr : C * R ≤ 16 * 16 := Nat.mul_le_mul b6 b8
  have hcells : ∀ (f : Nat → Int32) Q, am_E am_P0 (d + 2) 214 [.ref 277] (uA M 317 f) Q ↔ Q (some (.int (nI (C * R)))) (uA M 317 f) := fun f Q => c_m_cells (d + 2) (uA M 317 f) Q (Lay_S hL rfl (fun _ _ => rfl)) b C R (by rw [uA_I, if_neg (by decide)]; exact b1) b2 (by rw [uA_I, if_neg (by decide)]; exact b3) (by rw [uA_I, if_neg (by decide)]; exact b4)
  intro m
  induction m with
  | zero =>
    intro k hk
    have e : k = C * R := by omega
    subst e
    have hle : nI (C * R) ≤ nI (C * R) := (ni_le (by omega) (by omega)).mpr (Nat.le_refl _)
    rw [hX11_goes_2]
    simp +decide only [qX11_goes_0, qX11_goes_1, qX11_goes_2, lm hL, uA_K, uA_N, uA_R, hcells, am_w1_i, am_w1_r, am_w1_x, am_w1_l, am_w1_w, va_rf_s, am_push_n, am_push_s, am_cs_0, am_cs_i, am_cs_l, am_cs_r, m_uI_K, m_uI_N, m_uI_R, m_uI_L, m_uI_I, m_uL_K, m_uL_N, m_uL_R, m_uL_I, m_uL_L, m_uR_K, m_uR_N, m_uR_I, m_uR_L, m_uR_R, true_and, and_true] at hE ⊢
    rw [br_p hle]
    exact hE
  | succ m ih =>
    intro k hk
    have hlt : ¬ nI (C * R) ≤ nI k := by rw [ni_le (by omega) (by omega)]; omega
    rw [hX11_goes_2]
    simp +decide (disch := omega) only [qX11_goes_0, qX11_goes_1, qX11_goes_2, lm hL, uA_K, uA_N, uA_R, hcells, ni_in_t, ni_tn, ni_add1, am_w1_i, am_w1_r, am_w1_x, am_w1_l, am_w1_w, va_rf_s, am_push_n, am_push_s, am_cs_0, am_cs_i, am_cs_l, am_cs_r, m_uI_K, m_uI_N, m_uI_R, m_uI_L, m_uI_I, m_uL_K, m_uL_N, m_uL_R, m_uL_I, m_uL_L, m_uR_K, m_uR_N, m_uR_I, m_uR_L, m_uR_R, true_and, and_true]
    rw [br_n hlt, uI_A]
    have e : (fun j => if j = k then (-1 : Int32) else if j < k then -1 else mI M 317 j) = (fun j => if j < k + 1 then -1 else mI M 317 j) := by
      funext j
      by_cases h1 : j = k
      · rw [if_pos h1, if_pos (by omega)]
      · rw [if_neg h1]
        by_cases h2 : j < k
        · rw [if_pos h2, if_pos (by omega)]
        · rw [if_neg h2, if_neg (by omega)]
    rw [e]
    exact ih (k + 1) (by omega)
/-- the model's goes -/
theorem c_m_goes (d s b C R p : Nat) (M : am_M) (Q : Option Value → am_M → Prop) (hL : Lay M) (hB : MB M b C R) (hs : s < 8) (hp : vld C R p) (hQ : ∀ M', onlyG M M' → GoesP M' C R (mW_ M b C R s) p → Q none M') : am_E am_P0 (d + 3) 237 [.ref 277, .int (nI s), .int (nI (cel C p))] M Q := by
  have hB' := hB
  obtain ⟨b1, b2, b3, b4, b5, b6, b7, b8⟩ := hB'
  have hpl := cel_lt b6 b8 hp
  have hp1 := hp.1
  have hp2 := hp.2
  rw [eX11_goes]
  simp +decide only [qX11_goes_0, qX11_goes_1, qX11_goes_2, am_w1_i, am_w1_r, am_w1_x, am_w1_l, am_w1_w, va_rf_s, am_push_n, am_push_s, am_cs_0, am_cs_i, am_cs_l, am_cs_r, m_uI_K, m_uI_N, m_uI_R, m_uI_L, m_uI_I, m_uL_K, m_uL_N, m_uL_R, m_uL_I, m_uL_L, m_uR_K, m_uR_N, m_uR_I, m_uR_L, m_uR_R, true_and, and_true]
  have e0 : uA M 317 (fun j => if j < 0 then -1 else mI M 317 j) = M := by
    have : (fun j => if j < 0 then (-1 : Int32) else mI M 317 j) = (fun j => mI M 317 j) := by funext j; rw [if_neg (by omega)]
    rw [this, uA_id]
  have hl := l_m_goes0 d s b C R p M Q hL hB (nI (cel C p)) am_x am_x am_x ?_ (C * R) 0 (by omega)
  · rw [e0] at hl
    exact hl
  · obtain ⟨M1, hM1⟩ : ∃ M1, M1 = uI (uA M 317 (fun j => if j < C * R then -1 else mI M 317 j)) 277 59 0 := ⟨_, rfl⟩
    have g1 : onlyG M M1 := by
      rw [hM1]
      exact ⟨fun a j q1 q2 q3 => by rw [m_uI_I, if_neg q3, uA_I, if_neg q1], fun _ _ => rfl, fun _ _ => rfl, rfl⟩
    have L1 := onlyG_Lay g1 hL
    have B1 := MB_G hB g1
    have em : cel C p % C = p % 16 := by
      unfold cel
      rw [Nat.mul_add_mod, Nat.mod_eq_of_lt hp.1]
    have ed : cel C p / C = p / 16 := by
      unfold cel
      rw [Nat.mul_add_div (by omega), Nat.div_eq_of_lt hp.1, Nat.add_zero]
    have hcol := fun Q => c_m_columnOf (d + 2) (cel C p) M1 Q L1 b C B1.1 B1.2.1 B1.2.2.1 (by omega) b6 hpl.2.1
    have hrow := fun Q => c_m_rowOf (d + 2) (cel C p) M1 Q L1 b C B1.1 B1.2.1 B1.2.2.1 (by omega) b6 hpl.2.1
    simp +decide only [qX11_goes_0, qX11_goes_1, qX11_goes_2, lm hL, uA_K, uA_N, uA_R, am_w1_i, am_w1_r, am_w1_x, am_w1_l, am_w1_w, va_rf_s, am_push_n, am_push_s, am_cs_0, am_cs_i, am_cs_l, am_cs_r, m_uI_K, m_uI_N, m_uI_R, m_uI_L, m_uI_I, m_uL_K, m_uL_N, m_uL_R, m_uL_I, m_uL_L, m_uR_K, m_uR_N, m_uR_I, m_uR_L, m_uR_R, true_and, and_true]
    rw [← hM1]
    simp +decide only [hcol, hrow, em, ed, qX11_goes_0, qX11_goes_1, qX11_goes_2, lm L1, am_w1_i, am_w1_r, am_w1_x, am_w1_l, am_w1_w, va_rf_s, am_push_n, am_push_s, am_cs_0, am_cs_i, am_cs_l, am_cs_r, m_uI_K, m_uI_N, m_uI_R, m_uI_L, m_uI_I, m_uL_K, m_uL_N, m_uL_R, m_uL_I, m_uL_L, m_uR_K, m_uR_N, m_uR_I, m_uR_L, m_uR_R, true_and, and_true]
    have hσ0 : BfM M1 C R bf0 := by
      refine ⟨fun q hq => ?_, fun j hj => absurd hj (Nat.not_lt_zero _), ?_, fun q t h => (by cases h), cnt_0 (g := fun p => (bf0.1 p).isSome) (fun t => by simp [bf0]) 256⟩
      · have hql := cel_lt b6 b8 hq
        rw [hM1, m_uI_I, if_neg (fun z => absurd z.1 (by decide)), uA_I, if_pos rfl, if_pos hql.1]
        rfl
      · rw [hM1, m_uI_I, if_pos ⟨rfl, rfl⟩]
        rfl
    refine c_m_reach1 d s b C R (p % 16) (p / 16) 0 M1 _ bf0 L1 B1 hs hp.1 hp.2 (Nat.le_refl _) hσ0 (fun M2 g2 h2 => ?_)
    rw [show 16 * (p / 16) + p % 16 = p by omega, mW_G g1] at h2
    simp +decide only [qX11_goes_0, qX11_goes_1, qX11_goes_2, am_w1_i, am_w1_r, am_w1_x, am_w1_l, am_w1_w, va_rf_s, am_push_n, am_push_s, am_cs_0, am_cs_i, am_cs_l, am_cs_r, m_uI_K, m_uI_N, m_uI_R, m_uI_L, m_uI_I, m_uL_K, m_uL_N, m_uL_R, m_uL_I, m_uL_L, m_uR_K, m_uR_N, m_uR_I, m_uR_L, m_uR_R, true_and, and_true]
    obtain ⟨i1, i2⟩ := bf_start (w := mW_ M b C R s) (p := p)
    exact l_m_goes d s b C R p M Q hL hB hs _ hQ 257 0 (by omega) M2 _ _ _ _ (onlyG_trans g1 g2) h2 (Nat.zero_le _) i1 i2
end
section
/-! the model's facts, and whether they fit -/
/-- hours out of steps -/
def hrT (x : Int32) (v : Nat) : Int32 := if x = -1 then 1000 else (x + nI v - 1) / nI v
theorem c_m_hoursTo (d s b v c : Nat) (M : am_M) (Q : Option Value → am_M → Prop) (hL : Lay M) (hb : mI M 277 12 = nI b) (hb2 : b < 2) (hs : s < 8) (hv : mI M 288 (8 * b + s) = nI v) (hv1 : 1 ≤ v) (hv2 : v ≤ 4) (hc : c < 256) : am_E am_P0 d 238 [.ref 277, .int (nI s), .int (nI c)] M Q ↔ Q (some (.int (hrT (mI M 317 c) v))) M := by
  have e : 8 * nI b + nI s = nI (8 * b + s) := by rw [show (8 : Int32) = nI 8 from rfl, ni_mul, ni_add]
  have hv0 : ¬ nI v = 0 := by rw [show (0 : Int32) = nI 0 from rfl, ni_eq (by omega) (by omega)]; omega
  rw [eX11_hoursTo]
  simp +decide (disch := omega) only [qX11_hoursTo, lm hL, hb, e, hv, hv0, ni_in_t, ni_tn, am_w1_i, am_w1_r, am_w1_x, am_w1_l, am_w1_w, va_rf_s, am_push_n, am_push_s, am_cs_0, am_cs_i, am_cs_l, am_cs_r, m_uI_K, m_uI_N, m_uI_R, m_uI_L, m_uI_I, m_uL_K, m_uL_N, m_uL_R, m_uL_I, m_uL_L, m_uR_K, m_uR_N, m_uR_I, m_uR_L, m_uR_R, true_and, and_true]
  unfold hrT
  by_cases h1 : mI M 317 c = -1
  · rw [br_r h1, if_pos h1]
  · rw [br_q h1, if_neg h1]
theorem hrT_wit {w : Nat → Prop} {v p q h : Nat} {x : Int32} (hv1 : 1 ≤ v) (hv2 : v ≤ 4) (hh : h < 1000) (hx : (∃ k, k ≤ 256 ∧ dst w p q k ∧ x = nI k) ∨ ((∀ k, ¬ ball w p k q) ∧ x = -1)) : hrT x v ≤ nI h ↔ wit w v p q h := by
  unfold hrT wit
  rcases hx with ⟨k, hk, hd, rfl⟩ | ⟨hd, rfl⟩
  · rw [if_neg (nI_m1 (by omega)), ni_add, show (1 : Int32) = nI 1 from rfl, ni_sub (by omega), ni_div (by omega) (by omega)]
    have hq : (k + v - 1) / v ≤ k + v - 1 := Nat.div_le_self _ _
    rw [ni_le (by omega) (by omega)]
    have e : (k + v - 1) / v ≤ h ↔ k ≤ h * v := by
      constructor
      · intro h1
        have h2 := Nat.lt_mul_div_succ (k + v - 1) (show 0 < v by omega)
        have h3 : v * ((k + v - 1) / v + 1) ≤ v * (h + 1) := Nat.mul_le_mul_left v (by omega)
        rw [Nat.mul_add v h 1, Nat.mul_one, Nat.mul_comm v h] at h3
        omega
      · intro h1
        refine Nat.le_of_lt_succ ((Nat.div_lt_iff_lt_mul (show 0 < v by omega)).mpr ?_)
        rw [Nat.succ_mul]
        omega
    rw [e]
    constructor
    · intro h1; exact ball_mono hd.1 h1
    · intro h1
      rcases Nat.lt_or_ge (h * v) k with h2 | h2
      · exact absurd h1 (hd.2 _ h2)
      · exact h2
  · rw [if_pos rfl]
    constructor
    · intro h1
      rw [show (1000 : Int32) = nI 1000 from rfl, ni_le (by omega) (by omega)] at h1
      omega
    · intro h1; exact absurd h1 (hd _)
/-- nothing but S is changed -/
def oS (S : Nat → Nat → Prop) (M M' : am_M) : Prop := (∀ a j, ¬ S a j → mI M' a j = mI M a j) ∧ (∀ a j, mL M' a j = mL M a j) ∧ (∀ a j, mR M' a j = mR M a j) ∧ mS M' = mS M
theorem oS_refl (S : Nat → Nat → Prop) (M : am_M) : oS S M M := ⟨fun _ _ _ => rfl, fun _ _ => rfl, fun _ _ => rfl, rfl⟩
theorem oS_trans {S : Nat → Nat → Prop} {M M' M'' : am_M} (h1 : oS S M M') (h2 : oS S M' M'') : oS S M M'' := ⟨fun a j q => (h2.1 a j q).trans (h1.1 a j q), fun a j => (h2.2.1 a j).trans (h1.2.1 a j), fun a j => (h2.2.2.1 a j).trans (h1.2.2.1 a j), h2.2.2.2.trans h1.2.2.2⟩
theorem oS_up {S S' : Nat → Nat → Prop} {M M' : am_M} (h : oS S M M') (hs : ∀ a j, S a j → S' a j) : oS S' M M' := ⟨fun a j q => h.1 a j (fun z => q (hs a j z)), h.2.1, h.2.2.1, h.2.2.2⟩
theorem oS_Lay {S : Nat → Nat → Prop} {M M' : am_M} (h : oS S M M') (hL : Lay M) : Lay M' := Lay_S hL h.2.2.2 h.2.2.1
def sG (a j : Nat) : Prop := a = 317 ∨ a = 318 ∨ (a = 277 ∧ j = 59)
def sF (a j : Nat) : Prop := a = 319 ∨ a = 320 ∨ a = 321 ∨ (a = 277 ∧ j = 60)
theorem onlyG_S {M M' : am_M} (h : onlyG M M') : oS sG M M' := ⟨fun a j q => h.1 a j (fun z => q (Or.inl z)) (fun z => q (Or.inr (Or.inl z))) (fun z => q (Or.inr (Or.inr z))), h.2.1, h.2.2.1, h.2.2.2⟩
theorem oS_G {M M' : am_M} (h : oS sG M M') : onlyG M M' := ⟨fun a j q1 q2 q3 => h.1 a j (fun z => by rcases z with z | z | z; exact q1 z; exact q2 z; exact q3 z), h.2.1, h.2.2.1, h.2.2.2⟩
/-- the facts as they lie in the model's rows -/
def FcM (M : am_M) (C R : Nat) (F : List Fct) : Prop := mI M 277 60 = nI F.length ∧ F.length ≤ 120 ∧ ∀ i f, F[i]? = some f → (vld C R f.1 ∧ f.2.1 ≤ f.2.2 ∧ f.2.2 < 48) ∧ mI M 319 i = nI (cel C f.1) ∧ mI M 320 i = nI f.2.1 ∧ mI M 321 i = nI f.2.2
theorem FcM_S {M M' : am_M} {C R : Nat} {F : List Fct} {S : Nat → Nat → Prop} (h : FcM M C R F) (hS : oS S M M') (hd : ∀ a j, sF a j → ¬ S a j) : FcM M' C R F := by
  obtain ⟨h1, h2, h3⟩ := h
  refine ⟨by rw [hS.1 _ _ (hd _ _ (Or.inr (Or.inr (Or.inr ⟨rfl, rfl⟩))))]; exact h1, h2, fun i f hf => ?_⟩
  obtain ⟨q1, q2, q3, q4⟩ := h3 i f hf
  exact ⟨q1, by rw [hS.1 _ _ (hd _ _ (Or.inl rfl))]; exact q2, by rw [hS.1 _ _ (hd _ _ (Or.inr (Or.inl rfl)))]; exact q3, by rw [hS.1 _ _ (hd _ _ (Or.inr (Or.inr (Or.inl rfl))))]; exact q4⟩
theorem btw_I {f t f' t' : Nat} (h1 : t < 48) (h2 : t' < 48) (h3 : f ≤ t) (h4 : f' ≤ t') : (if nI t < nI f' then nI f' - nI t else if nI t' < nI f then nI f - nI t' else 0) = nI (btw f t f' t') := by
  unfold btw
  by_cases c1 : t < f'
  · rw [if_pos ((ni_lt (by omega) (by omega)).mpr c1), if_pos c1, ni_sub (by omega)]
  · rw [if_neg (fun z => c1 ((ni_lt (by omega) (by omega)).mp z)), if_neg c1]
    by_cases c2 : t' < f
    · rw [if_pos ((ni_lt (by omega) (by omega)).mpr c2), if_pos c2, ni_sub (by omega)]
    · rw [if_neg (fun z => c2 ((ni_lt (by omega) (by omega)).mp z)), if_neg c2]
      rfl
theorem btw_lt {f t f' t' : Nat} (h1 : t < 48) (h2 : t' < 48) (h3 : f ≤ t) (h4 : f' ≤ t') : btw f t f' t' < 48 := by
  unfold btw
  split
  · omega
  · split <;> omega
theorem onlyG_I {M M' : am_M} (h : onlyG M M') (a j : Nat) (h1 : ¬ a = 317) (h2 : ¬ a = 318) (h3 : ¬ (a = 277 ∧ j = 59)) : mI M' a j = mI M a j := h.1 a j h1 h2 h3
theorem l_m_fit2 (d s b C R v i : Nat) (F : List Fct) (M : am_M) (Q : Option Value → am_M → Prop) (hL : Lay M) (hB : MB M b C R) (hs : s < 8) (hv : mI M 288 (8 * b + s) = nI v) (hv1 : 1 ≤ v) (hv2 : v ≤ 4) (hF : FcM M C R F) (w : Nat → Prop) (f : Fct) (hf : F[i]? = some f) (hG : GoesP M C R w f.1)
    (hN : (¬ ∀ g, g ∈ F → wit w v f.1 g.1 (btw f.2.1 f.2.2 g.2.1 g.2.2)) → Q (some (.int 0)) M)
    (hY : (∀ g, g ∈ F → wit w v f.1 g.1 (btw f.2.1 f.2.2 g.2.1 g.2.2)) → ∀ v3, am_P am_P0 (d + 4) (am_look tX11_fit) 2 [.ref 277, .int (nI s), .int (nI i + 1), v3] [] M Q) :
    ∀ (m j : Nat), j + m = F.length → (∀ k g, k < j → F[k]? = some g → wit w v f.1 g.1 (btw f.2.1 f.2.2 g.2.1 g.2.2)) → am_P am_P0 (d + 4) (am_look tX11_fit) 23 [.ref 277, .int (nI s), .int (nI i), .int (nI j)] [] M Q := by
  obtain ⟨f1, f2, f3⟩ := hF
  obtain ⟨b1, b2, b3, b4, b5, b6, b7, b8⟩ := hB
  have hil : i < F.length := (List.getElem?_eq_some_iff.mp hf).1
  obtain ⟨⟨fv, fo, ft⟩, fc, ff, fg⟩ := f3 i f hf
  intro m
  induction m with
  | zero =>
    intro j hj hall
    have e : j = F.length := by omega
    subst e
    have hle : nI F.length ≤ nI F.length := (ni_le (by omega) (by omega)).mpr (Nat.le_refl _)
    rw [hX11_fit_23]
    simp +decide only [qX11_fit_0, qX11_fit_1, lm hL, f1, am_w1_i, am_w1_r, am_w1_x, am_w1_l, am_w1_w, va_rf_s, am_push_n, am_push_s, am_cs_0, am_cs_i, am_cs_l, am_cs_r, m_uI_K, m_uI_N, m_uI_R, m_uI_L, m_uI_I, m_uL_K, m_uL_N, m_uL_R, m_uL_I, m_uL_L, m_uR_K, m_uR_N, m_uR_I, m_uR_L, m_uR_R, true_and, and_true]
    rw [br_p hle]
    refine hY (fun g hg => ?_) _
    obtain ⟨k, hk⟩ := List.mem_iff_getElem?.mp hg
    exact hall k g (List.getElem?_eq_some_iff.mp hk).1 hk
  | succ m ih =>
    intro j hj hall
    have hlt : ¬ nI F.length ≤ nI j := by rw [ni_le (by omega) (by omega)]; omega
    obtain ⟨g, hg⟩ : ∃ g, F[j]? = some g := ⟨F[j]'(by omega), List.getElem?_eq_getElem (by omega)⟩
    obtain ⟨⟨gv, go, gt⟩, gc, gf, gg⟩ := f3 j g hg
    have gl := cel_lt b6 b8 gv
    have hh := fun Q => c_m_hoursTo (d + 3) s b v (cel C g.1) M Q hL b1 b2 hs hv hv1 hv2 gl.2.1
    have hbt := fun Q => c_m_between (d + 3) (nI f.2.1) (nI f.2.2) (nI g.2.1) (nI g.2.2) M Q
    have hw := hrT_wit (w := w) (v := v) (p := f.1) (q := g.1) (h := btw f.2.1 f.2.2 g.2.1 g.2.2) (x := mI M 317 (cel C g.1)) hv1 hv2 (by have := btw_lt ft gt fo go; omega) (hG g.1 gv)
    rw [hX11_fit_23]
    simp +decide (disch := omega) only [qX11_fit_0, qX11_fit_1, lm hL, f1, fc, ff, fg, gc, gf, gg, hh, hbt, btw_I ft gt fo go, ni_in_t, ni_tn, ni_add1, am_w1_i, am_w1_r, am_w1_x, am_w1_l, am_w1_w, va_rf_s, am_push_n, am_push_s, am_cs_0, am_cs_i, am_cs_l, am_cs_r, m_uI_K, m_uI_N, m_uI_R, m_uI_L, m_uI_I, m_uL_K, m_uL_N, m_uL_R, m_uL_I, m_uL_L, m_uR_K, m_uR_N, m_uR_I, m_uR_L, m_uR_R, true_and, and_true]
    rw [br_n hlt]
    by_cases hc : wit w v f.1 g.1 (btw f.2.1 f.2.2 g.2.1 g.2.2)
    · rw [br_p (hw.mpr hc)]
      refine ih (j + 1) (by omega) (fun k g' hk hg' => ?_)
      by_cases ek : k = j
      · subst ek
        cases hg.symm.trans hg'
        exact hc
      · exact hall k g' (by omega) hg'
    · rw [br_n (fun z => hc (hw.mp z))]
      exact hN (fun z => hc (z g (List.mem_of_getElem? hg)))
theorem l_m_fit (d s b C R v : Nat) (F : List Fct) (M0 : am_M) (Q : Option Value → am_M → Prop) (hL : Lay M0) (hB : MB M0 b C R) (hs : s < 8) (hv : mI M0 288 (8 * b + s) = nI v) (hv1 : 1 ≤ v) (hv2 : v ≤ 4) (hF : FcM M0 C R F)
    (hQ : ∀ M', onlyG M0 M' → Q (some (.int (tI (fitP (mW_ M0 b C R s) v F)))) M') :
    ∀ (m i : Nat), i + m = F.length → ∀ (M : am_M) (v3 : Value), onlyG M0 M → (∀ k f, k < i → F[k]? = some f → ∀ g, g ∈ F → wit (mW_ M0 b C R s) v f.1 g.1 (btw f.2.1 f.2.2 g.2.1 g.2.2)) → am_P am_P0 (d + 4) (am_look tX11_fit) 2 [.ref 277, .int (nI s), .int (nI i), v3] [] M Q := by
  have hd : ∀ a j, sF a j → ¬ sG a j := fun a j h1 h2 => by unfold sF sG at *; omega
  intro m
  induction m with
  | zero =>
    intro i hi M v3 hM hall
    have e : i = F.length := by omega
    subst e
    have hFM := FcM_S hF (onlyG_S hM) hd
    have hle : nI F.length ≤ nI F.length := (ni_le (by have := hF.2.1; omega) (by have := hF.2.1; omega)).mpr (Nat.le_refl _)
    rw [hX11_fit_2]
    simp +decide only [qX11_fit_0, qX11_fit_1, lm (onlyG_Lay hM hL), hFM.1, am_w1_i, am_w1_r, am_w1_x, am_w1_l, am_w1_w, va_rf_s, am_push_n, am_push_s, am_cs_0, am_cs_i, am_cs_l, am_cs_r, m_uI_K, m_uI_N, m_uI_R, m_uI_L, m_uI_I, m_uL_K, m_uL_N, m_uL_R, m_uL_I, m_uL_L, m_uR_K, m_uR_N, m_uR_I, m_uR_L, m_uR_R, true_and, and_true]
    rw [br_p hle]
    have h0 := hQ M hM
    have hfit : fitP (mW_ M0 b C R s) v F := fun a ha c hc => by
      obtain ⟨k, hk⟩ := List.mem_iff_getElem?.mp ha
      exact hall k a (List.getElem?_eq_some_iff.mp hk).1 hk c hc
    rw [tI_t hfit] at h0
    exact h0
  | succ m ih =>
    intro i hi M v3 hM hall
    have hFM := FcM_S hF (onlyG_S hM) hd
    have hLM := onlyG_Lay hM hL
    have h120 := hF.2.1
    have hlt : ¬ nI F.length ≤ nI i := by rw [ni_le (by omega) (by omega)]; omega
    obtain ⟨f, hf⟩ : ∃ f, F[i]? = some f := ⟨F[i]'(by omega), List.getElem?_eq_getElem (by omega)⟩
    obtain ⟨⟨fv, fo, ft⟩, fc, ff, fg⟩ := hFM.2.2 i f hf
    rw [hX11_fit_2]
    simp +decide (disch := omega) only [qX11_fit_0, qX11_fit_1, lm hLM, hFM.1, fc, ni_in_t, ni_tn, am_w1_i, am_w1_r, am_w1_x, am_w1_l, am_w1_w, va_rf_s, am_push_n, am_push_s, am_cs_0, am_cs_i, am_cs_l, am_cs_r, m_uI_K, m_uI_N, m_uI_R, m_uI_L, m_uI_I, m_uL_K, m_uL_N, m_uL_R, m_uL_I, m_uL_L, m_uR_K, m_uR_N, m_uR_I, m_uR_L, m_uR_R, true_and, and_true]
    rw [br_n hlt]
    refine c_m_goes (d) s b C R f.1 M _ hLM (MB_G hB hM) hs fv (fun M' g1 g2 => ?_)
    rw [mW_G hM] at g2
    have hM' := onlyG_trans hM g1
    simp +decide only [qX11_fit_0, qX11_fit_1, am_w1_i, am_w1_r, am_w1_x, am_w1_l, am_w1_w, va_rf_s, am_push_n, am_push_s, am_cs_0, am_cs_i, am_cs_l, am_cs_r, m_uI_K, m_uI_N, m_uI_R, m_uI_L, m_uI_I, m_uL_K, m_uL_N, m_uL_R, m_uL_I, m_uL_L, m_uR_K, m_uR_N, m_uR_I, m_uR_L, m_uR_R, true_and, and_true]
    rw [show (0 : Int32) = nI 0 from rfl]
    refine l_m_fit2 d s b C R v i F M' Q (onlyG_Lay hM' hL) (MB_G hB hM') hs (by rw [onlyG_I hM' _ _ (by decide) (by decide) (by omega)]; exact hv) hv1 hv2 (FcM_S hF (onlyG_S hM') hd) (mW_ M0 b C R s) f hf g2 (fun hn => ?_) (fun hy v3' => ?_) F.length 0 (by omega) (fun k g hk => by omega)
    · have h0 := hQ M' hM'
      have hfit : ¬ fitP (mW_ M0 b C R s) v F := fun z => hn (fun g hg => z f (List.mem_of_getElem? hf) g hg)
      rw [tI_f hfit] at h0
      exact h0
    · rw [ni_add1]
      refine ih (i + 1) (by omega) M' v3' hM' (fun k f' hk hf' => ?_)
      by_cases ek : k = i
      · subst ek
        cases hf.symm.trans hf'
        exact hy
      · exact hall k f' (by omega) hf'
theorem c_m_fit (d s b C R v : Nat) (F : List Fct) (M : am_M) (Q : Option Value → am_M → Prop) (hL : Lay M) (hB : MB M b C R) (hs : s < 8) (hv : mI M 288 (8 * b + s) = nI v) (hv1 : 1 ≤ v) (hv2 : v ≤ 4) (hF : FcM M C R F)
    (hQ : ∀ M', onlyG M M' → Q (some (.int (tI (fitP (mW_ M b C R s) v F)))) M') : am_E am_P0 (d + 4) 244 [.ref 277, .int (nI s)] M Q := by
  rw [eX11_fit]
  simp +decide only [qX11_fit_0, qX11_fit_1, am_w1_i, am_w1_r, am_w1_x, am_w1_l, am_w1_w, va_rf_s, am_push_n, am_push_s, am_cs_0, am_cs_i, am_cs_l, am_cs_r, m_uI_K, m_uI_N, m_uI_R, m_uI_L, m_uI_I, m_uL_K, m_uL_N, m_uL_R, m_uL_I, m_uL_L, m_uR_K, m_uR_N, m_uR_I, m_uR_L, m_uR_R, true_and, and_true]
  rw [show (0 : Int32) = nI 0 from rfl]
  exact l_m_fit d s b C R v F M Q hL hB hs hv hv1 hv2 hF hQ F.length 0 (by omega) M am_x (onlyG_refl M) (fun k f hk => by omega)
end
section
/-! the model's books as facts -/
/-- ship, place, from, to -/
abbrev Bk := Nat × Nat × Nat × Nat
def bkOf (L : List Bk) (s : Nat) : List Fct := (L.filter (fun k => k.1 == s)).map (fun k => k.2)
def bkOK (C R : Nat) (L : List Bk) : Prop := L.length ≤ 12 ∧ ∀ k, k ∈ L → k.1 < 8 ∧ vld C R k.2.1 ∧ k.2.2.1 ≤ k.2.2.2 ∧ k.2.2.2 < 48
/-- the books as they lie in the model's rows -/
def BkM (M : am_M) (b C : Nat) (L : List Bk) : Prop := mI M 294 b = nI L.length ∧ ∀ i k, L[i]? = some k → mI M 295 (12 * b + i) = nI k.1 ∧ mI M 296 (12 * b + i) = nI (cel C k.2.1) ∧ mI M 297 (12 * b + i) = nI k.2.2.1 ∧ mI M 298 (12 * b + i) = nI k.2.2.2
theorem BkM_S {M M' : am_M} {b C : Nat} {L : List Bk} {S : Nat → Nat → Prop} (h : BkM M b C L) (hS : oS S M M') (hd : ∀ a j, 294 ≤ a → a ≤ 298 → ¬ S a j) : BkM M' b C L := by
  refine ⟨by rw [hS.1 _ _ (hd _ _ (by omega) (by omega))]; exact h.1, fun i k hk => ?_⟩
  obtain ⟨q1, q2, q3, q4⟩ := h.2 i k hk
  exact ⟨by rw [hS.1 _ _ (hd _ _ (by omega) (by omega))]; exact q1, by rw [hS.1 _ _ (hd _ _ (by omega) (by omega))]; exact q2, by rw [hS.1 _ _ (hd _ _ (by omega) (by omega))]; exact q3, by rw [hS.1 _ _ (hd _ _ (by omega) (by omega))]; exact q4⟩
theorem bkOf_take {L : List Bk} {s i : Nat} {k : Bk} (h : L[i]? = some k) : bkOf (L.take (i + 1)) s = if k.1 = s then bkOf (L.take i) s ++ [k.2] else bkOf (L.take i) s := by
  have e : L.take (i + 1) = L.take i ++ [k] := by
    rw [List.take_add_one, h]
    rfl
  unfold bkOf
  rw [e, List.filter_append, List.map_append]
  by_cases c : k.1 = s
  · rw [if_pos c]
    simp [c]
  · rw [if_neg c]
    simp [c]
theorem bkOf_len (L : List Bk) (s : Nat) : (bkOf L s).length ≤ L.length := by
  unfold bkOf
  rw [List.length_map]
  exact List.length_filter_le _ _
/-- one more fact -/
theorem FcM_put {M : am_M} {C R : Nat} {F : List Fct} {f : Fct} (h : FcM M C R F) (hl : F.length < 120) (hf : vld C R f.1 ∧ f.2.1 ≤ f.2.2 ∧ f.2.2 < 48) : FcM (uI (uI (uI (uI M 319 F.length (nI (cel C f.1))) 320 F.length (nI f.2.1)) 321 F.length (nI f.2.2)) 277 60 (nI (F.length + 1))) C R (F ++ [f]) ∧ oS sF M (uI (uI (uI (uI M 319 F.length (nI (cel C f.1))) 320 F.length (nI f.2.1)) 321 F.length (nI f.2.2)) 277 60 (nI (F.length + 1))) := by
  obtain ⟨h1, h2, h3⟩ := h
  refine ⟨⟨?_, by rw [List.length_append]; exact hl, fun i g hg => ?_⟩, fun a j hS => ?_, fun _ _ => rfl, fun _ _ => rfl, rfl⟩
  · rw [m_uI_I, if_pos ⟨rfl, rfl⟩, List.length_append]
    rfl
  · have r1 : ∀ x y z n i, mI (uI (uI (uI (uI M 319 F.length x) 320 F.length y) 321 F.length z) 277 60 n) 319 i = if i = F.length then x else mI M 319 i := fun x y z n i => by simp [m_uI_I]
    have r2 : ∀ x y z n i, mI (uI (uI (uI (uI M 319 F.length x) 320 F.length y) 321 F.length z) 277 60 n) 320 i = if i = F.length then y else mI M 320 i := fun x y z n i => by simp [m_uI_I]
    have r3 : ∀ x y z n i, mI (uI (uI (uI (uI M 319 F.length x) 320 F.length y) 321 F.length z) 277 60 n) 321 i = if i = F.length then z else mI M 321 i := fun x y z n i => by simp [m_uI_I]
    rw [r1, r2, r3]
    by_cases e : i = F.length
    · subst e
      rw [List.getElem?_append_right (Nat.le_refl _), Nat.sub_self] at hg
      cases hg
      rw [if_pos rfl, if_pos rfl, if_pos rfl]
      exact ⟨hf, rfl, rfl, rfl⟩
    · have hil := (List.getElem?_eq_some_iff.mp hg).1
      rw [List.length_append] at hil
      have hil2 : i < F.length := by
        have : [f].length = 1 := rfl
        omega
      rw [List.getElem?_append_left hil2] at hg
      rw [if_neg e, if_neg e, if_neg e]
      exact h3 i g hg
  · unfold sF at hS
    rw [m_uI_I, if_neg (fun z => hS (Or.inr (Or.inr (Or.inr z)))), m_uI_I, if_neg (fun z => hS (Or.inr (Or.inr (Or.inl z.1)))), m_uI_I, if_neg (fun z => hS (Or.inr (Or.inl z.1))), m_uI_I, if_neg (fun z => hS (Or.inl z.1))]
theorem MB_S {M M' : am_M} {b C R : Nat} {S : Nat → Nat → Prop} (h : MB M b C R) (g : oS S M M') (hd : ∀ a j, (a = 277 ∧ j = 12) ∨ a = 279 ∨ a = 280 → ¬ S a j) : MB M' b C R := by
  obtain ⟨h1, h2, h3, h4, h5⟩ := h
  exact ⟨by rw [g.1 _ _ (hd _ _ (Or.inl ⟨rfl, rfl⟩))]; exact h1, h2, by rw [g.1 _ _ (hd _ _ (Or.inr (Or.inl rfl)))]; exact h3, by rw [g.1 _ _ (hd _ _ (Or.inr (Or.inr rfl)))]; exact h4, h5⟩
theorem l_m_addBooks (d s b C R : Nat) (L : List Bk) (F : List Fct) (M0 : am_M) (Q : Option Value → am_M → Prop) (hL : Lay M0) (hb : mI M0 277 12 = nI b) (hb2 : b < 2) (hs : s < 8) (hK : BkM M0 b C L) (hO : bkOK C R L) (hFl : F.length + 12 ≤ 120)
    (hQ : ∀ M', oS sF M0 M' → FcM M' C R (F ++ bkOf L s) → Q none M') :
    ∀ (m i : Nat), i + m = L.length → ∀ (M : am_M), oS sF M0 M → FcM M C R (F ++ bkOf (L.take i) s) → am_P am_P0 (d + 1) (am_look tX11_addBooks) 8 [.ref 277, .int (nI s), .int (nI (12 * b + i))] [] M Q := by
  have e12 : 12 * nI b = nI (12 * b) := by rw [show (12 : Int32) = nI 12 from rfl, ni_mul]
  have hd : ∀ a j, 294 ≤ a → a ≤ 298 → ¬ sF a j := fun a j q1 q2 h => by unfold sF at h; omega
  have h12 := hO.1
  intro m
  induction m with
  | zero =>
    intro i hi M hM hF
    have e : i = L.length := by omega
    subst e
    have hLM := oS_Lay hM hL
    have hb' : mI M 277 12 = nI b := by rw [hM.1 _ _ (by unfold sF; omega)]; exact hb
    have hKM := BkM_S hK hM hd
    have hle : nI (12 * b + L.length) ≤ nI (12 * b + L.length) := (ni_le (by omega) (by omega)).mpr (Nat.le_refl _)
    rw [hX11_addBooks_8]
    simp +decide (disch := omega) only [qX11_addBooks, lm hLM, hb', hKM.1, e12, ni_add, ni_in_t, ni_tn, am_w1_i, am_w1_r, am_w1_x, am_w1_l, am_w1_w, va_rf_s, am_push_n, am_push_s, am_cs_0, am_cs_i, am_cs_l, am_cs_r, m_uI_K, m_uI_N, m_uI_R, m_uI_L, m_uI_I, m_uL_K, m_uL_N, m_uL_R, m_uL_I, m_uL_L, m_uR_K, m_uR_N, m_uR_I, m_uR_L, m_uR_R, true_and, and_true]
    rw [br_p hle]
    rw [List.take_length] at hF
    exact hQ M hM hF
  | succ m ih =>
    intro i hi M hM hF
    have hLM := oS_Lay hM hL
    have hb' : mI M 277 12 = nI b := by rw [hM.1 _ _ (by unfold sF; omega)]; exact hb
    have hKM := BkM_S hK hM hd
    have hlt : ¬ nI (12 * b + L.length) ≤ nI (12 * b + i) := by rw [ni_le (by omega) (by omega)]; omega
    obtain ⟨k, hk⟩ : ∃ k, L[i]? = some k := ⟨L[i]'(by omega), List.getElem?_eq_getElem (by omega)⟩
    obtain ⟨q1, q2, q3, q4⟩ := hKM.2 i k hk
    have hok := hO.2 k (List.mem_of_getElem? hk)
    have hlen := bkOf_len (L.take i) s
    rw [List.length_take] at hlen
    have hFn : (F ++ bkOf (L.take i) s).length < 120 := by rw [List.length_append]; omega
    have hfa := fun Q => c_m_fact d (nI (cel C k.2.1)) (nI k.2.2.1) (nI k.2.2.2) M Q hLM (F ++ bkOf (L.take i) s).length hF.1 hFn
    rw [hX11_addBooks_8]
    simp +decide (disch := omega) only [qX11_addBooks, lm hLM, hb', hKM.1, e12, q1, q2, q3, q4, hfa, ni_add, ni_add1, ni_in_t, ni_tn, am_w1_i, am_w1_r, am_w1_x, am_w1_l, am_w1_w, va_rf_s, am_push_n, am_push_s, am_cs_0, am_cs_i, am_cs_l, am_cs_r, m_uI_K, m_uI_N, m_uI_R, m_uI_L, m_uI_I, m_uL_K, m_uL_N, m_uL_R, m_uL_I, m_uL_L, m_uR_K, m_uR_N, m_uR_I, m_uR_L, m_uR_R, true_and, and_true]
    rw [br_n hlt]
    have ht := bkOf_take (s := s) hk
    by_cases c : k.1 = s
    · rw [br_r (by rw [c])]
      rw [if_pos c] at ht
      obtain ⟨p1, p2⟩ := FcM_put (f := k.2) hF hFn hok.2
      refine ih (i + 1) (by omega) _ (oS_trans hM p2) ?_
      rw [ht, ← List.append_assoc]
      exact p1
    · rw [br_q (by rw [ni_eq (by omega) (by omega)]; exact c)]
      refine ih (i + 1) (by omega) M hM ?_
      rw [ht, if_neg c]
      exact hF
theorem c_m_addBooks (d s b C R : Nat) (L : List Bk) (F : List Fct) (M : am_M) (Q : Option Value → am_M → Prop) (hL : Lay M) (hb : mI M 277 12 = nI b) (hb2 : b < 2) (hs : s < 8) (hK : BkM M b C L) (hO : bkOK C R L) (hFl : F.length + 12 ≤ 120) (hF : FcM M C R F)
    (hQ : ∀ M', oS sF M M' → FcM M' C R (F ++ bkOf L s) → Q none M') : am_E am_P0 (d + 1) 241 [.ref 277, .int (nI s)] M Q := by
  have e12 : 12 * nI b = nI (12 * b) := by rw [show (12 : Int32) = nI 12 from rfl, ni_mul]
  rw [eX11_addBooks]
  simp +decide only [qX11_addBooks, lm hL, hb, e12, am_w1_i, am_w1_r, am_w1_x, am_w1_l, am_w1_w, va_rf_s, am_push_n, am_push_s, am_cs_0, am_cs_i, am_cs_l, am_cs_r, m_uI_K, m_uI_N, m_uI_R, m_uI_L, m_uI_I, m_uL_K, m_uL_N, m_uL_R, m_uL_I, m_uL_L, m_uR_K, m_uR_N, m_uR_I, m_uR_L, m_uR_R, true_and, and_true]
  exact l_m_addBooks d s b C R L F M Q hL hb hb2 hs hK hO hFl hQ L.length 0 (by omega) M (oS_refl _ _) (by rw [List.take_zero]; unfold bkOf; simpa using hF)
theorem c_m_booksFit (d s b C R v : Nat) (L : List Bk) (M : am_M) (Q : Option Value → am_M → Prop) (hL : Lay M) (hB : MB M b C R) (hs : s < 8) (hv : mI M 288 (8 * b + s) = nI v) (hv1 : 1 ≤ v) (hv2 : v ≤ 4) (hK : BkM M b C L) (hO : bkOK C R L)
    (hQ : ∀ M', oS (fun a j => sF a j ∨ sG a j) M M' → Q (some (.int (tI (fitP (mW_ M b C R s) v (bkOf L s))))) M') : am_E am_P0 (d + 5) 245 [.ref 277, .int (nI s)] M Q := by
  rw [eX11_booksFit]
  simp +decide only [qX11_booksFit, lm hL, am_w1_i, am_w1_r, am_w1_x, am_w1_l, am_w1_w, va_rf_s, am_push_n, am_push_s, am_cs_0, am_cs_i, am_cs_l, am_cs_r, m_uI_K, m_uI_N, m_uI_R, m_uI_L, m_uI_I, m_uL_K, m_uL_N, m_uL_R, m_uL_I, m_uL_L, m_uR_K, m_uR_N, m_uR_I, m_uR_L, m_uR_R, true_and, and_true]
  have g0 : oS sF M (uI M 277 60 0) := ⟨fun a j h => by rw [m_uI_I, if_neg (fun z => h (Or.inr (Or.inr (Or.inr z))))], fun _ _ => rfl, fun _ _ => rfl, rfl⟩
  have hF0 : FcM (uI M 277 60 0) C R [] := ⟨by rw [m_uI_I, if_pos ⟨rfl, rfl⟩]; rfl, by decide, fun i f h => by cases h⟩
  have hd1 : ∀ a j, (a = 277 ∧ j = 12) ∨ a = 279 ∨ a = 280 → ¬ sF a j := fun a j h q => by unfold sF at q; omega
  have hd2 : ∀ a j, 294 ≤ a → a ≤ 298 → ¬ sF a j := fun a j q1 q2 h => by unfold sF at h; omega
  have B0 := MB_S hB g0 hd1
  refine c_m_addBooks (d + 3) s b C R L [] (uI M 277 60 0) _ (oS_Lay g0 hL) B0.1 B0.2.1 hs (BkM_S hK g0 hd2) hO (by decide) hF0 (fun M1 g1 h1 => ?_)
  have g2 := oS_trans g0 g1
  rw [List.nil_append] at h1
  simp +decide only [qX11_booksFit, lm (oS_Lay g2 hL), am_w1_i, am_w1_r, am_w1_x, am_w1_l, am_w1_w, va_rf_s, am_push_n, am_push_s, am_cs_0, am_cs_i, am_cs_l, am_cs_r, m_uI_K, m_uI_N, m_uI_R, m_uI_L, m_uI_I, m_uL_K, m_uL_N, m_uL_R, m_uL_I, m_uL_L, m_uR_K, m_uR_N, m_uR_I, m_uR_L, m_uR_R, true_and, and_true]
  refine c_m_fit d s b C R v (bkOf L s) M1 _ (oS_Lay g2 hL) (MB_S hB g2 hd1) hs (by rw [g2.1 _ _ (by unfold sF; omega)]; exact hv) hv1 hv2 h1 (fun M2 g3 => ?_)
  have ew : mW_ M1 b C R s = mW_ M b C R s := by
    funext p
    unfold mW_
    rw [g2.1 _ _ (by unfold sF; omega), g2.1 _ _ (by unfold sF; omega)]
  rw [ew]
  simp +decide only [qX11_booksFit, am_w1_i, am_w1_r, am_w1_x, am_w1_l, am_w1_w, va_rf_s, am_push_n, am_push_s, am_cs_0, am_cs_i, am_cs_l, am_cs_r, m_uI_K, m_uI_N, m_uI_R, m_uI_L, m_uI_I, m_uL_K, m_uL_N, m_uL_R, m_uL_I, m_uL_L, m_uR_K, m_uR_N, m_uR_I, m_uR_L, m_uR_R, true_and, and_true]
  exact ⟨tI_01 _, hQ M2 (oS_trans (oS_up g2 (fun a j h => Or.inl h)) (oS_up (onlyG_S g3) (fun a j h => Or.inr h)))⟩
end
section
/-! the class's line: one place an hour -/
def LnP (M : am_M) (w : Nat) (c : Nat → Nat → Prop) : Prop := (∀ h p q, c h p → c h q → p = q) ∧ (∀ h p, c h p → h < 48 ∧ p < 256) ∧ ∀ h, h < 48 → (∃ p, c h p ∧ mI M (w + 7) h = nI p) ∨ ((∀ p, ¬ c h p) ∧ mI M (w + 7) h = -1)
def sL (w a _j : Nat) : Prop := a = w + 7
theorem LnP_ext {M : am_M} {w : Nat} {c c' : Nat → Nat → Prop} (h : ∀ t p, c t p ↔ c' t p) (hc : LnP M w c) : LnP M w c' := by
  have e : c = c' := funext fun t => funext fun p => propext (h t p)
  rw [← e]; exact hc
theorem LnP_I {M M' : am_M} {w : Nat} {c : Nat → Nat → Prop} (hc : LnP M w c) (h : ∀ j, mI M' (w + 7) j = mI M (w + 7) j) : LnP M' w c := ⟨hc.1, hc.2.1, fun t ht => by rw [h]; exact hc.2.2 t ht⟩
theorem LnP_put {M : am_M} {w t p : Nat} {c : Nat → Nat → Prop} (hc : LnP M w c) (ht : t < 48) (hp : p < 256) (hn : ∀ q, c t q → q = p) : LnP (uI M (w + 7) t (nI p)) w (fun h q => c h q ∨ (h = t ∧ q = p)) := by
  obtain ⟨h1, h2, h3⟩ := hc
  refine ⟨fun h a b ha hb => ?_, fun h a ha => ?_, fun h hh => ?_⟩
  · rcases ha with ha | ⟨rfl, rfl⟩ <;> rcases hb with hb | ⟨hb1, hb2⟩
    · exact h1 h a b ha hb
    · subst hb1; subst hb2; exact hn a ha
    · exact (hn b hb).symm
    · exact hb2.symm
  · rcases ha with ha | ⟨rfl, rfl⟩
    · exact h2 h a ha
    · exact ⟨ht, hp⟩
  · rw [m_uI_I]
    by_cases e : h = t
    · subst e
      rw [if_pos ⟨rfl, rfl⟩]
      exact Or.inl ⟨p, Or.inr ⟨rfl, rfl⟩, rfl⟩
    · rw [if_neg (fun z => e z.2)]
      rcases h3 h hh with ⟨q, q1, q2⟩ | ⟨q1, q2⟩
      · exact Or.inl ⟨q, Or.inl q1, q2⟩
      · exact Or.inr ⟨fun a ha => by rcases ha with ha | ha; exact q1 a ha; exact e ha.1, q2⟩
theorem c_x_lput (d w t p : Nat) (M : am_M) (Q : Option Value → am_M → Prop) (c : Nat → Nat → Prop) (hL : Lay M) (hw : isTr w) (hc : LnP M w c) (ht : t < 48) (hp : p < 256) : am_E am_P0 d 7 [.ref (w + 6), .int (nI t), .int (nI p)] M Q ↔ ((∀ q, c t q → q = p) → Q (some (.int 1)) (uI M (w + 7) t (nI p))) ∧ (¬ (∀ q, c t q → q = p) → Q (some (.int 0)) M) := by
  rw [eX1_put]
  simp +decide (disch := omega) only [qX1_put, lt_ hL hw, ni_in_t, ni_tn, am_w1_i, am_w1_r, am_w1_x, am_w1_l, am_w1_w, va_rf_s, am_push_n, am_push_s, am_cs_0, am_cs_i, am_cs_l, am_cs_r, m_uI_K, m_uI_N, m_uI_R, m_uI_L, m_uI_I, m_uL_K, m_uL_N, m_uL_R, m_uL_I, m_uL_L, m_uR_K, m_uR_N, m_uR_I, m_uR_L, m_uR_R, true_and, and_true]
  rcases hc.2.2 t ht with ⟨q, q1, q2⟩ | ⟨q1, q2⟩
  · have hq := (hc.2.1 t q q1).2
    rw [q2, br_n (nI_m1 (by omega))]
    by_cases e : q = p
    · subst e
      rw [br_p rfl, br_p (fun x hx => hc.1 t x q hx q1)]
    · rw [br_n (fun z => e ((ni_eq (by omega) (by omega)).mp z)), br_n (fun z => e (z q q1))]
  · rw [br_p q2, br_p (fun q hq => absurd hq (q1 q))]
theorem c_x_clear (d w : Nat) (M : am_M) (Q : Option Value → am_M → Prop) (hL : Lay M) (hw : isTr w) : am_E am_P0 (d + 1) 6 [.ref (w + 6)] M Q ↔ Q none (uA M (w + 7) (fun j => if j < 48 then -1 else mI M (w + 7) j)) := by
  have hk := lt_ hL hw
  have hK : mK M (w + 7) = 0 := by simp only [hk]
  have hN : mN M (w + 7) = 48 := by simp only [hk]
  rw [eX1_clear]
  simp +decide only [qX1_clear, lt_ hL hw, am_w1_i, am_w1_r, am_w1_x, am_w1_l, am_w1_w, va_rf_s, am_push_n, am_push_s, am_cs_0, am_cs_i, am_cs_l, am_cs_r, m_uI_K, m_uI_N, m_uI_R, m_uI_L, m_uI_I, m_uL_K, m_uL_N, m_uL_R, m_uL_I, m_uL_L, m_uR_K, m_uR_N, m_uR_I, m_uR_L, m_uR_R, true_and, and_true]
  rw [c_fillI d (w + 7) (-1) M _ hK (by omega), hN]
  simp +decide only [qX1_clear, am_w1_i, am_w1_r, am_w1_x, am_w1_l, am_w1_w, va_rf_s, am_push_n, am_push_s, am_cs_0, am_cs_i, am_cs_l, am_cs_r, m_uI_K, m_uI_N, m_uI_R, m_uI_L, m_uI_I, m_uL_K, m_uL_N, m_uL_R, m_uL_I, m_uL_L, m_uR_K, m_uR_N, m_uR_I, m_uR_L, m_uR_R, true_and, and_true]
theorem LnP_0 (M : am_M) (w : Nat) : LnP (uA M (w + 7) (fun j => if j < 48 then -1 else mI M (w + 7) j)) w (fun _ _ => False) := ⟨fun _ _ _ h => h.elim, fun _ _ h => h.elim, fun h hh => Or.inr ⟨fun _ h => h, by rw [uA_I, if_pos rfl, if_pos hh]⟩⟩
/-- what is known behind the first h hours -/
def hldI (c : Nat → Nat → Prop) (wt : Nat → Prop) (v h : Nat) (last : Int32) : Prop :=
  ((last = -1 ∧ ∀ t p, t < h → ¬ c t p) ∨ (∃ l pl, l < h ∧ last = nI l ∧ c l pl ∧ ∀ t p, l < t → t < h → ¬ c t p)) ∧ (∀ t p, t < h → c t p → wt p) ∧ ∀ t1 t2 p1 p2, t1 < t2 → t2 < h → c t1 p1 → c t2 p2 → (∀ t, t1 < t → t < t2 → ∀ p, ¬ c t p) → wit wt v p1 p2 (t2 - t1)
theorem l_x_holds (d s v : Nat) (wt : Nat → Prop) (c : Nat → Nat → Prop) (M0 : am_M) (Q : Option Value → am_M → Prop) (hs : s < 8) (hc0 : LnP M0 (173 + 13 * s) c)
    (hQ : ∀ M', rgF M0 M' → Q (some (.int (tI (linP wt v c)))) M') :
    ∀ (m h : Nat), h + m = 48 → ∀ (M : am_M) (last : Int32) (v4 : Value), rgF M0 M → TrW M s v wt → hldI c wt v h last → am_P am_P0 (d + 3) (am_look tX1_holds) 4 [.ref (179 + 13 * s), .ref (174 + 13 * s), .int last, .int (nI h), v4] [] M Q := by
  obtain ⟨w, hwe⟩ : ∃ w, w = 173 + 13 * s := ⟨_, rfl⟩
  have hw : isTr w := ⟨s, hs, hwe⟩
  have e1 : 174 + 13 * s = w + 1 := by omega
  have e2 : 175 + 13 * s = w + 2 := by omega
  have e6 : 179 + 13 * s = w + 6 := by omega
  intro m
  induction m with
  | zero =>
    intro h hh M last v4 hM hT hI
    have e : h = 48 := by omega
    subst e
    rw [hX1_holds_4]
    simp +decide only [qX1_holds_0, qX1_holds_1, am_w1_i, am_w1_r, am_w1_x, am_w1_l, am_w1_w, va_rf_s, am_push_n, am_push_s, am_cs_0, am_cs_i, am_cs_l, am_cs_r, m_uI_K, m_uI_N, m_uI_R, m_uI_L, m_uI_I, m_uL_K, m_uL_N, m_uL_R, m_uL_I, m_uL_L, m_uR_K, m_uR_N, m_uR_I, m_uR_L, m_uR_R, true_and, and_true, true_implies, false_implies]
    have h0 := hQ M hM
    have hlin : linP wt v c := ⟨hc0.1, fun t p hp => hI.2.1 t p (hc0.2.1 t p hp).1 hp, fun t1 t2 p1 p2 q1 q2 q3 q4 => hI.2.2 t1 t2 p1 p2 q1 (hc0.2.1 t2 p2 q3).1 q2 q3 q4⟩
    rw [tI_t hlin] at h0
    exact h0
  | succ m ih =>
    intro h hh M last v4 hM hT hI
    have hL := hM.1
    have hc : LnP M w c := LnP_I (by rw [hwe]; exact hc0) (fun j => hM.2.2.2.1 _ _ (by omega) (fun s' hs' => by omega))
    have hlt : ¬ (48 : Int32) ≤ nI h := by rw [show (48 : Int32) = nI 48 from rfl, ni_le (by omega) (by omega)]; omega
    rw [hX1_holds_4, e1, e6]
    rcases hc.2.2 h (by omega) with ⟨p, hp, hm⟩ | ⟨hp, hm⟩
    · have hp2 := (hc.2.1 h p hp).2
      have hwat := fun Q => c_x_isWater (d + 2) w p M Q hL hw hp2
      have hwt : inS (fun i => mL M (w + 2) i) p ↔ wt p := by rw [← e2]; exact hT.2.2.1 p
      simp +decide (disch := omega) only [qX1_holds_0, qX1_holds_1, lt_ hL hw, hm, hwat, ni_in_t, ni_tn, ni_add1, am_w1_i, am_w1_r, am_w1_x, am_w1_l, am_w1_w, va_rf_s, am_push_n, am_push_s, am_cs_0, am_cs_i, am_cs_l, am_cs_r, m_uI_K, m_uI_N, m_uI_R, m_uI_L, m_uI_I, m_uL_K, m_uL_N, m_uL_R, m_uL_I, m_uL_L, m_uR_K, m_uR_N, m_uR_I, m_uR_L, m_uR_R, true_and, and_true]
      rw [br_n hlt, br_q (nI_m1 (by omega))]
      by_cases hpw : wt p
      · rw [tI_t (hwt.mpr hpw), br_n (by decide)]
        rcases hI.1 with ⟨hl, hno⟩ | ⟨l, pl, hl, rfl, hpl, hno⟩
        · rw [br_p hl, ← e1, ← e6]
          refine ih (h + 1) (by omega) M _ _ hM hT ⟨Or.inr ⟨h, p, by omega, rfl, hp, fun t q q1 q2 => by omega⟩, fun t q ht hq => ?_, fun t1 t2 p1 p2 q1 q2 q3 q4 q5 => ?_⟩
          · by_cases et : t = h
            · subst et; rw [hc.1 t q p hq hp]; exact hpw
            · exact hI.2.1 t q (by omega) hq
          · by_cases et : t2 = h
            · exact absurd q3 (hno t1 p1 (by omega))
            · exact hI.2.2 t1 t2 p1 p2 q1 (by omega) q3 q4 q5
        · have hpl2 := hc.2.1 l pl hpl
          have hml : mI M (w + 7) l = nI pl := by
            rcases hc.2.2 l hpl2.1 with ⟨x, x1, x2⟩ | ⟨x1, x2⟩
            · rw [x2, hc.1 l x pl x1 hpl]
            · exact absurd hpl (x1 pl)
          rw [br_n (nI_m1 (by omega))]
          simp +decide (disch := omega) only [lt_ hL hw, hml, ni_in_t, ni_tn, am_w1_i, am_w1_r, am_w1_x, am_w1_l, am_w1_w, va_rf_s, am_push_n, am_push_s, am_cs_0, am_cs_i, am_cs_l, am_cs_r, m_uI_K, m_uI_N, m_uI_R, m_uI_L, m_uI_I, m_uL_K, m_uL_N, m_uL_R, m_uL_I, m_uL_L, m_uR_K, m_uR_N, m_uR_I, m_uR_L, m_uR_R, true_and, and_true]
          rw [ni_sub (by omega), ← e1]
          refine c_x_isWithin d s pl p (h - l) v wt M _ hL hM.2.1 hs hpl2.2 hp2 (by omega) hT (fun M' g => ?_)
          simp +decide only [qX1_holds_0, qX1_holds_1, ni_add1, am_w1_i, am_w1_r, am_w1_x, am_w1_l, am_w1_w, va_rf_s, am_push_n, am_push_s, am_cs_0, am_cs_i, am_cs_l, am_cs_r, m_uI_K, m_uI_N, m_uI_R, m_uI_L, m_uI_I, m_uL_K, m_uL_N, m_uL_R, m_uL_I, m_uL_L, m_uR_K, m_uR_N, m_uR_I, m_uR_L, m_uR_R, true_and, and_true]
          by_cases hwi : wit wt v pl p (h - l)
          · rw [tI_t hwi, br_q (by decide), ← e6]
            refine ih (h + 1) (by omega) M' _ _ (rgF_trans hM g) (g.2.2.2.2.2.2 s v wt hs hT) ⟨Or.inr ⟨h, p, by omega, rfl, hp, fun t q q1 q2 => by omega⟩, fun t q ht hq => ?_, fun t1 t2 p1 p2 q1 q2 q3 q4 q5 => ?_⟩
            · by_cases et : t = h
              · subst et; rw [hc.1 t q p hq hp]; exact hpw
              · exact hI.2.1 t q (by omega) hq
            · by_cases et : t2 = h
              · subst et
                have et1 : t1 = l := by
                  rcases Nat.lt_trichotomy t1 l with x | x | x
                  · exact absurd hpl (q5 l x hl pl)
                  · exact x
                  · exact absurd q3 (hno t1 p1 x q1)
                subst et1
                rw [hc.1 _ p1 pl q3 hpl, hc.1 _ p2 p q4 hp]
                exact hwi
              · exact hI.2.2 t1 t2 p1 p2 q1 (by omega) q3 q4 q5
          · rw [tI_f hwi, br_r rfl]
            have h0 := hQ M' (rgF_trans hM g)
            have hlin : ¬ linP wt v c := fun z => hwi (z.2.2 l h pl p hl hpl hp (fun t x1 x2 q => hno t q x1 x2))
            rw [tI_f hlin] at h0
            exact h0
      · rw [tI_f (fun z => hpw (hwt.mp z)), br_p rfl]
        have h0 := hQ M hM
        have hlin : ¬ linP wt v c := fun z => hpw (z.2.1 h p hp)
        rw [tI_f hlin] at h0
        exact h0
    · simp +decide (disch := omega) only [qX1_holds_0, qX1_holds_1, lt_ hL hw, hm, ni_in_t, ni_tn, ni_add1, am_w1_i, am_w1_r, am_w1_x, am_w1_l, am_w1_w, va_rf_s, am_push_n, am_push_s, am_cs_0, am_cs_i, am_cs_l, am_cs_r, m_uI_K, m_uI_N, m_uI_R, m_uI_L, m_uI_I, m_uL_K, m_uL_N, m_uL_R, m_uL_I, m_uL_L, m_uR_K, m_uR_N, m_uR_I, m_uR_L, m_uR_R, true_and, and_true, not_true_eq_false, not_false_eq_true, true_implies, false_implies]
      rw [br_n hlt, ← e1, ← e6]
      refine ih (h + 1) (by omega) M _ _ hM hT ⟨?_, fun t q ht hq => ?_, fun t1 t2 p1 p2 q1 q2 q3 q4 q5 => ?_⟩
      · rcases hI.1 with ⟨hl, hno⟩ | ⟨l, pl, hl, rfl, hpl, hno⟩
        · refine Or.inl ⟨hl, fun t q ht => ?_⟩
          by_cases et : t = h
          · subst et; exact hp q
          · exact hno t q (by omega)
        · refine Or.inr ⟨l, pl, by omega, rfl, hpl, fun t q q1 q2 => ?_⟩
          by_cases et : t = h
          · subst et; exact hp q
          · exact hno t q q1 (by omega)
      · by_cases et : t = h
        · subst et; exact absurd hq (hp q)
        · exact hI.2.1 t q (by omega) hq
      · by_cases et : t2 = h
        · subst et; exact absurd q4 (hp p2)
        · exact hI.2.2 t1 t2 p1 p2 q1 (by omega) q3 q4 q5
theorem c_x_holds (d s v : Nat) (wt : Nat → Prop) (c : Nat → Nat → Prop) (M : am_M) (Q : Option Value → am_M → Prop) (hs : s < 8) (hL : Lay M) (hI : RInv M) (hc : LnP M (173 + 13 * s) c) (hT : TrW M s v wt)
    (hQ : ∀ M', rgF M M' → Q (some (.int (tI (linP wt v c)))) M') : am_E am_P0 (d + 3) 8 [.ref (179 + 13 * s), .ref (174 + 13 * s)] M Q := by
  rw [eX1_holds]
  simp +decide only [qX1_holds_0, qX1_holds_1, am_w1_i, am_w1_r, am_w1_x, am_w1_l, am_w1_w, va_rf_s, am_push_n, am_push_s, am_cs_0, am_cs_i, am_cs_l, am_cs_r, m_uI_K, m_uI_N, m_uI_R, m_uI_L, m_uI_I, m_uL_K, m_uL_N, m_uL_R, m_uL_I, m_uL_L, m_uR_K, m_uR_N, m_uR_I, m_uR_L, m_uR_R, true_and, and_true]
  rw [show (0 : Int32) = nI 0 from rfl]
  exact l_x_holds d s v wt c M Q hs hc hQ 48 0 (by omega) M (-1) _ (rgF_refl hL hI) hT ⟨Or.inl ⟨rfl, fun t p ht => by omega⟩, fun t p ht => by omega, fun t1 t2 p1 p2 q1 q2 => by omega⟩
/-- a ship's books as they lie in the class's rows -/
def BkX (M : am_M) (g : Nat) (F : List Fct) : Prop := mI M g 9 = nI F.length ∧ F.length ≤ 12 ∧ ∀ i f, F[i]? = some f → (f.1 < 256 ∧ f.2.1 ≤ f.2.2 ∧ f.2.2 < 48) ∧ mI M (g + 4) i = nI f.1 ∧ mI M (g + 5) i = nI f.2.1 ∧ mI M (g + 6) i = nI f.2.2
theorem BkX_S {M M' : am_M} {g : Nat} {F : List Fct} {S : Nat → Nat → Prop} (h : BkX M g F) (hS : oS S M M') (hd : ∀ a j, g ≤ a → a ≤ g + 6 → ¬ S a j) : BkX M' g F := by
  refine ⟨by rw [hS.1 _ _ (hd _ _ (by omega) (by omega))]; exact h.1, h.2.1, fun i k hk => ?_⟩
  obtain ⟨q1, q2, q3, q4⟩ := h.2.2 i k hk
  exact ⟨q1, by rw [hS.1 _ _ (hd _ _ (by omega) (by omega))]; exact q2, by rw [hS.1 _ _ (hd _ _ (by omega) (by omega))]; exact q3, by rw [hS.1 _ _ (hd _ _ (by omega) (by omega))]; exact q4⟩
theorem isSh_lt {g : Nat} (h : isSh g) : g + 6 < 164 := by
  obtain ⟨s, hs, h | h⟩ := h <;> omega
theorem isTr_ge {w : Nat} (h : isTr w) : 173 ≤ w ∧ w + 12 < 277 := by
  obtain ⟨s, hs, h⟩ := h; omega
/-- the books up to the i-th, and of that the hours ahead of t -/
def covB (F : List Fct) (i t : Nat) (h p : Nat) : Prop := cov (F.take i) h p ∨ ∃ f, F[i]? = some f ∧ f.2.1 ≤ h ∧ h < t ∧ p = f.1
theorem cov_take {F : List Fct} {i : Nat} {f : Fct} (hf : F[i]? = some f) (h p : Nat) : cov (F.take (i + 1)) h p ↔ cov (F.take i) h p ∨ (f.1 = p ∧ f.2.1 ≤ h ∧ h ≤ f.2.2) := by
  have e : F.take (i + 1) = F.take i ++ [f] := by
    rw [List.take_add_one, hf]
    rfl
  unfold cov
  rw [e]
  constructor
  · rintro ⟨a, ha, q⟩
    rcases List.mem_append.mp ha with ha | ha
    · exact Or.inl ⟨a, ha, q⟩
    · rw [List.mem_singleton] at ha
      subst ha
      exact Or.inr q
  · rintro (⟨a, ha, q⟩ | q)
    · exact ⟨a, List.mem_append_left _ ha, q⟩
    · exact ⟨f, List.mem_append_right _ (List.mem_singleton.mpr rfl), q⟩
theorem cov_sub {F : List Fct} {i : Nat} {h p : Nat} (hc : cov (F.take i) h p) : cov F h p := by
  obtain ⟨a, ha, q⟩ := hc
  exact ⟨a, List.mem_of_mem_take ha, q⟩
/-- one place an hour -/
def uniq (c : Nat → Nat → Prop) : Prop := ∀ h p q, c h p → c h q → p = q
theorem l_x_layB2 (d w g i : Nat) (F : List Fct) (f : Fct) (M0 : am_M) (Q : Option Value → am_M → Prop) (hw : isTr w) (hg : isSh g) (hf : F[i]? = some f) (hR : mR M0 w 0 = some g)
    (hN : ∀ M', oS (sL w) M0 M' → ¬ uniq (cov F) → Q (some (.int 0)) M')
    (hY : ∀ M' v2, oS (sL w) M0 M' → LnP M' w (cov (F.take (i + 1))) → am_P am_P0 (d + 1) (am_look tX8_layBooks) 9 [.ref w, .int (nI i + 1), .int v2] [] M' Q) :
    ∀ (m t : Nat), t + m = f.2.2 + 1 → f.2.1 ≤ t → ∀ (M : am_M), oS (sL w) M0 M → Lay M → BkX M g F → LnP M w (covB F i t) → am_P am_P0 (d + 1) (am_look tX8_layBooks) 30 [.ref w, .int (nI i), .int (nI t)] [] M Q := by
  have hgl := isSh_lt hg
  have hwl := isTr_ge hw
  intro m
  induction m with
  | zero =>
    intro t ht hft M hM hL hB hc
    obtain ⟨⟨q1, q2, q3⟩, q4, q5, q6⟩ := hB.2.2 i f hf
    have hil := (List.getElem?_eq_some_iff.mp hf).1
    have h12 := hB.2.1
    have hlt : nI f.2.2 < nI t := (ni_lt (by omega) (by omega)).mpr (by omega)
    have hR' : mR M w 0 = some g := by rw [hM.2.2.1]; exact hR
    rw [hX8_layBooks_30]
    simp +decide (disch := omega) only [qX8_layBooks, lt_ hL hw, lw_ hL hg, hR', q6, ni_in_t, ni_tn, am_w1_i, am_w1_r, am_w1_x, am_w1_l, am_w1_w, va_rf_s, am_push_n, am_push_s, am_cs_0, am_cs_i, am_cs_l, am_cs_r, m_uI_K, m_uI_N, m_uI_R, m_uI_L, m_uI_I, m_uL_K, m_uL_N, m_uL_R, m_uL_I, m_uL_L, m_uR_K, m_uR_N, m_uR_I, m_uR_L, m_uR_R, true_and, and_true]
    rw [br_p hlt]
    refine hY M _ hM (LnP_ext (fun h p => ?_) hc)
    rw [cov_take hf]
    unfold covB
    constructor
    · rintro (z | ⟨f', z1, z2, z3, z4⟩)
      · exact Or.inl z
      · cases hf.symm.trans z1
        exact Or.inr ⟨z4.symm, z2, by omega⟩
    · rintro (z | ⟨z1, z2, z3⟩)
      · exact Or.inl z
      · exact Or.inr ⟨f, hf, z2, by omega, z1.symm⟩
  | succ m ih =>
    intro t ht hft M hM hL hB hc
    obtain ⟨⟨q1, q2, q3⟩, q4, q5, q6⟩ := hB.2.2 i f hf
    have hil := (List.getElem?_eq_some_iff.mp hf).1
    have h12 := hB.2.1
    have hlt : ¬ nI f.2.2 < nI t := fun z => by rw [ni_lt (by omega) (by omega)] at z; omega
    have hR' : mR M w 0 = some g := by rw [hM.2.2.1]; exact hR
    have hput := fun Q => c_x_lput d w t f.1 M Q (covB F i t) hL hw hc (by omega) q1
    rw [hX8_layBooks_30]
    simp +decide (disch := omega) only [qX8_layBooks, lt_ hL hw, lw_ hL hg, hR', q4, q6, hput, ni_in_t, ni_tn, ni_add1, am_w1_i, am_w1_r, am_w1_x, am_w1_l, am_w1_w, va_rf_s, am_push_n, am_push_s, am_cs_0, am_cs_i, am_cs_l, am_cs_r, m_uI_K, m_uI_N, m_uI_R, m_uI_L, m_uI_I, m_uL_K, m_uL_N, m_uL_R, m_uL_I, m_uL_L, m_uR_K, m_uR_N, m_uR_I, m_uR_L, m_uR_R, true_and, and_true, not_true_eq_false, not_false_eq_true, true_implies, false_implies]
    rw [br_n hlt]
    by_cases hn : ∀ q, covB F i t t q → q = f.1
    · rw [br_p hn]
      have hM' : oS (sL w) M0 (uI M (w + 7) t (nI f.1)) := oS_trans hM ⟨fun a j h => by rw [m_uI_I, if_neg (fun z => h z.1)], fun _ _ => rfl, fun _ _ => rfl, rfl⟩
      refine ih (t + 1) (by omega) (by omega) _ hM' hL (BkX_S hB ⟨fun a j h => by rw [m_uI_I, if_neg (fun z => h z.1)], fun _ _ => rfl, fun _ _ => rfl, rfl⟩ (fun a j z1 z2 z3 => by have z4 : a = w + 7 := z3; omega) : BkX (uI M (w + 7) t (nI f.1)) g F) (LnP_ext (fun h p => ?_) (LnP_put hc (by omega) q1 hn))
      unfold covB
      constructor
      · rintro ((z | ⟨f', z1, z2, z3, z4⟩) | ⟨z1, z2⟩)
        · exact Or.inl z
        · exact Or.inr ⟨f', z1, z2, by omega, z4⟩
        · exact Or.inr ⟨f, hf, by omega, by omega, z2⟩
      · rintro (z | ⟨f', z1, z2, z3, z4⟩)
        · exact Or.inl (Or.inl z)
        · by_cases et : h = t
          · cases hf.symm.trans z1
            exact Or.inr ⟨et, z4⟩
          · exact Or.inl (Or.inr ⟨f', z1, z2, by omega, z4⟩)
    · rw [br_n hn]
      refine hN M hM (fun hu => hn (fun q hq => ?_))
      refine hu t q f.1 ?_ ⟨f, List.mem_of_getElem? hf, rfl, hft, by omega⟩
      rcases hq with z | ⟨f', z1, z2, z3, z4⟩
      · exact cov_sub z
      · omega
theorem l_x_layB (d w g : Nat) (F : List Fct) (M0 : am_M) (Q : Option Value → am_M → Prop) (hw : isTr w) (hg : isSh g) (hR : mR M0 w 0 = some g)
    (hN : ∀ M', oS (sL w) M0 M' → ¬ uniq (cov F) → Q (some (.int 0)) M') (hY : ∀ M', oS (sL w) M0 M' → LnP M' w (cov F) → Q (some (.int 1)) M') :
    ∀ (m i : Nat), i + m = F.length → ∀ (M : am_M) (v2 : Value), oS (sL w) M0 M → Lay M → BkX M g F → LnP M w (cov (F.take i)) → (v2 = am_x ∨ ∃ x, v2 = .int x) → am_P am_P0 (d + 1) (am_look tX8_layBooks) 9 [.ref w, .int (nI i), v2] [] M Q := by
  have hgl := isSh_lt hg
  have hwl := isTr_ge hw
  intro m
  induction m with
  | zero =>
    intro i hi M v2 hM hL hB hc _
    have e : i = F.length := by omega
    subst e
    have h12 := hB.2.1
    have hle : nI F.length ≤ nI F.length := (ni_le (by omega) (by omega)).mpr (Nat.le_refl _)
    have hR' : mR M w 0 = some g := by rw [hM.2.2.1]; exact hR
    rw [hX8_layBooks_9]
    simp +decide (disch := omega) only [qX8_layBooks, lt_ hL hw, lw_ hL hg, hR', hB.1, am_w1_i, am_w1_r, am_w1_x, am_w1_l, am_w1_w, va_rf_s, am_push_n, am_push_s, am_cs_0, am_cs_i, am_cs_l, am_cs_r, m_uI_K, m_uI_N, m_uI_R, m_uI_L, m_uI_I, m_uL_K, m_uL_N, m_uL_R, m_uL_I, m_uL_L, m_uR_K, m_uR_N, m_uR_I, m_uR_L, m_uR_R, true_and, and_true]
    rw [br_p hle]
    rw [List.take_length] at hc
    exact hY M hM hc
  | succ m ih =>
    intro i hi M v2 hM hL hB hc hv2
    have h12 := hB.2.1
    have hlt : ¬ nI F.length ≤ nI i := by rw [ni_le (by omega) (by omega)]; omega
    obtain ⟨f, hf⟩ : ∃ f, F[i]? = some f := ⟨F[i]'(by omega), List.getElem?_eq_getElem (by omega)⟩
    obtain ⟨⟨q1, q2, q3⟩, q4, q5, q6⟩ := hB.2.2 i f hf
    have hR' : mR M w 0 = some g := by rw [hM.2.2.1]; exact hR
    have hw2 : am_w1 v2 = v2 := by rcases hv2 with rfl | ⟨x, rfl⟩ <;> rfl
    rw [hX8_layBooks_9]
    simp +decide (disch := omega) only [qX8_layBooks, lt_ hL hw, lw_ hL hg, hR', hB.1, q5, ni_in_t, ni_tn, am_w1_i, am_w1_r, am_w1_x, am_w1_l, am_w1_w, va_rf_s, am_push_n, am_push_s, am_cs_0, am_cs_i, am_cs_l, am_cs_r, m_uI_K, m_uI_N, m_uI_R, m_uI_L, m_uI_I, m_uL_K, m_uL_N, m_uL_R, m_uL_I, m_uL_L, m_uR_K, m_uR_N, m_uR_I, m_uR_L, m_uR_R, true_and, and_true]
    rw [br_n hlt]
    refine l_x_layB2 d w g i F f M0 Q hw hg hf hR hN (fun M' v2' g1 g2 => ?_) (f.2.2 + 1 - f.2.1) f.2.1 (by omega) (Nat.le_refl _) M hM hL hB (LnP_ext (fun h p => ?_) hc)
    · rw [ni_add1]
      have g3 : oS (sL w) M M' := ⟨fun a j h => (g1.1 a j h).trans (hM.1 a j h).symm, fun a j => (g1.2.1 a j).trans (hM.2.1 a j).symm, fun a j => (g1.2.2.1 a j).trans (hM.2.2.1 a j).symm, g1.2.2.2.trans hM.2.2.2.symm⟩
      exact ih (i + 1) (by omega) M' _ g1 (oS_Lay g3 hL) (BkX_S hB g3 (fun a j z1 z2 z3 => by have z4 : a = w + 7 := z3; omega)) g2 (Or.inr ⟨_, rfl⟩)
    · unfold covB
      constructor
      · exact Or.inl
      · rintro (z | ⟨f', z1, z2, z3, z4⟩)
        · exact z
        · cases hf.symm.trans z1
          omega
/-- the books are laid, if one place an hour is all they have -/
theorem c_x_layBooks (d w g : Nat) (F : List Fct) (M : am_M) (Q : Option Value → am_M → Prop) (hL : Lay M) (hw : isTr w) (hg : isSh g) (hR : mR M w 0 = some g) (hB : BkX M g F)
    (hN : ∀ M', oS (sL w) M M' → ¬ uniq (cov F) → Q (some (.int 0)) M') (hY : ∀ M', oS (sL w) M M' → LnP M' w (cov F) → Q (some (.int 1)) M') : am_E am_P0 (d + 2) 77 [.ref w] M Q := by
  have hgl := isSh_lt hg
  have hwl := isTr_ge hw
  have hcl := fun Q => c_x_clear d w M Q hL hw
  rw [eX8_layBooks]
  simp +decide only [qX8_layBooks, lt_ hL hw, hcl, am_w1_i, am_w1_r, am_w1_x, am_w1_l, am_w1_w, va_rf_s, am_push_n, am_push_s, am_cs_0, am_cs_i, am_cs_l, am_cs_r, m_uI_K, m_uI_N, m_uI_R, m_uI_L, m_uI_I, m_uL_K, m_uL_N, m_uL_R, m_uL_I, m_uL_L, m_uR_K, m_uR_N, m_uR_I, m_uR_L, m_uR_R, true_and, and_true]
  rw [show (0 : Int32) = nI 0 from rfl]
  have g1 : oS (sL w) M (uA M (w + 7) (fun j => if j < 48 then -1 else mI M (w + 7) j)) := ⟨fun a j h => by rw [uA_I, if_neg (show ¬ a = w + 7 from h)], fun _ _ => rfl, fun _ _ => rfl, rfl⟩
  refine l_x_layB (d + 1) w g F M Q hw hg hR hN hY F.length 0 (by omega) _ _ g1 (oS_Lay g1 hL) (BkX_S hB g1 (fun a j z1 z2 z3 => by have z4 : a = w + 7 := z3; omega)) (LnP_ext (fun h p => ?_) (LnP_0 M w)) (Or.inl rfl)
  rw [List.take_zero]
  constructor
  · exact fun h => h.elim
  · rintro ⟨a, ha, -⟩
    cases ha
end
section
/-! the class: sayings laid on the line -/
/-- hour, place, laden -/
abbrev Sy := Nat × Nat × Bool
def b01 (l : Bool) : Int32 := if l = true then 1 else 0
/-- a ship's sayings as they lie in the class's rows -/
def SyX (M : am_M) (g : Nat) (Y : List Sy) : Prop := mI M g 5 = nI Y.length ∧ Y.length ≤ 48 ∧ ∀ i y, Y[i]? = some y → (y.1 < 48 ∧ y.2.1 < 256) ∧ mI M (g + 1) i = nI y.1 ∧ mI M (g + 2) i = nI y.2.1 ∧ mI M (g + 3) i = b01 y.2.2
theorem SyX_S {M M' : am_M} {g : Nat} {Y : List Sy} {S : Nat → Nat → Prop} (h : SyX M g Y) (hS : oS S M M') (hd : ∀ a j, g ≤ a → a ≤ g + 6 → ¬ S a j) : SyX M' g Y := by
  refine ⟨by rw [hS.1 _ _ (hd _ _ (by omega) (by omega))]; exact h.1, h.2.1, fun i k hk => ?_⟩
  obtain ⟨q1, q2, q3, q4⟩ := h.2.2 i k hk
  exact ⟨q1, by rw [hS.1 _ _ (hd _ _ (by omega) (by omega))]; exact q2, by rw [hS.1 _ _ (hd _ _ (by omega) (by omega))]; exact q3, by rw [hS.1 _ _ (hd _ _ (by omega) (by omega))]; exact q4⟩
/-- deep enough -/
def sndP (dep : Nat → Nat) (dr ld p : Nat) (l : Bool) : Prop := dr + (if l = true then ld else 0) ≤ dep p
/-- what is needed to ask whether it is deep enough: the track's ship and sea -/
def DpX (M : am_M) (w g z : Nat) (dep : Nat → Nat) (dr ld : Nat) : Prop := mR M w 0 = some g ∧ mR M w 1 = some z ∧ mI M g 3 = nI dr ∧ mI M g 4 = nI ld ∧ dr ≤ 40 ∧ ld ≤ 40 ∧ ∀ p, p < 256 → dep p ≤ 99 ∧ mI M (z + 21) p = nI (dep p)
theorem DpX_S {M M' : am_M} {w g z : Nat} {dep : Nat → Nat} {dr ld : Nat} {S : Nat → Nat → Prop} (h : DpX M w g z dep dr ld) (hS : oS S M M') (hd1 : ∀ j, ¬ S g j) (hd2 : ∀ j, ¬ S (z + 21) j) : DpX M' w g z dep dr ld := by
  obtain ⟨h1, h2, h3, h4, h5, h6, h7⟩ := h
  exact ⟨by rw [hS.2.2.1]; exact h1, by rw [hS.2.2.1]; exact h2, by rw [hS.1 _ _ (hd1 _)]; exact h3, by rw [hS.1 _ _ (hd1 _)]; exact h4, h5, h6, fun p hp => ⟨(h7 p hp).1, by rw [hS.1 _ _ (hd2 _)]; exact (h7 p hp).2⟩⟩
theorem c_x_isSound (d w g z p : Nat) (l : Bool) (dep : Nat → Nat) (dr ld : Nat) (M : am_M) (Q : Option Value → am_M → Prop) (hL : Lay M) (hw : isTr w) (hg : isSh g) (hz : z = 2 ∨ z = 83) (hD : DpX M w g z dep dr ld) (hp : p < 256) : am_E am_P0 d 75 [.ref w, .int (nI p), .int (b01 l)] M Q ↔ Q (some (.int (tI (sndP dep dr ld p l)))) M := by
  obtain ⟨h1, h2, h3, h4, h5, h6, h7⟩ := hD
  obtain ⟨h8, h9⟩ := h7 p hp
  have key : ∀ n, n ≤ 80 → ((nI (dep p) < nI (dr + n)) ↔ ¬ dr + n ≤ dep p) := fun n hn => by rw [ni_lt (by omega) (by omega)]; omega
  rw [eX8_isSound]
  simp +decide (disch := omega) only [qX8_isSound, lt_ hL hw, lw_ hL hg, lz hL hz, h1, h2, h3, h4, h9, ni_add, ni_in_t, ni_tn, am_w1_i, am_w1_r, am_w1_x, am_w1_l, am_w1_w, va_rf_s, am_push_n, am_push_s, am_cs_0, am_cs_i, am_cs_l, am_cs_r, m_uI_K, m_uI_N, m_uI_R, m_uI_L, m_uI_I, m_uL_K, m_uL_N, m_uL_R, m_uL_I, m_uL_L, m_uR_K, m_uR_N, m_uR_I, m_uR_L, m_uR_R, true_and, and_true]
  unfold sndP
  cases l with
  | true =>
    rw [show b01 true = 1 from rfl, br_n (by decide), if_pos rfl]
    by_cases e : dr + ld ≤ dep p
    · rw [br_n (fun q => (key ld (by omega)).mp q e), tI_t e]
    · rw [br_p ((key ld (by omega)).mpr e), tI_f e]
  | false =>
    rw [show b01 false = 0 from rfl, br_p rfl, if_neg (by decide), show (0 : Int32) = nI 0 from rfl, ni_add]
    by_cases e : dr + 0 ≤ dep p
    · rw [br_n (fun q => (key 0 (by omega)).mp q e), tI_t e]
    · rw [br_p ((key 0 (by omega)).mpr e), tI_f e]
      exact Iff.rfl
/-- an hour, so many later -/
def hrOf (t : Nat) (x : Int) : Option Nat := if 0 ≤ (t : Int) + x ∧ (t : Int) + x < 48 then some ((t : Int) + x).toNat else none
/-- sayings as facts, so many hours later -/
def syF (Y : List Sy) (x : Int) : List Fct := Y.filterMap (fun y => (hrOf y.1 x).map (fun t => (y.2.1, t, t)))
def syS (Y : List Sy) (x : Int) (snd : Nat → Bool → Prop) : Prop := ∀ y, y ∈ Y → ∀ t, hrOf y.1 x = some t → snd y.2.1 y.2.2
theorem syF_take {Y : List Sy} {i : Nat} {y : Sy} {x : Int} (h : Y[i]? = some y) : syF (Y.take (i + 1)) x = syF (Y.take i) x ++ (match hrOf y.1 x with | none => [] | some t => [(y.2.1, t, t)]) := by
  have e : Y.take (i + 1) = Y.take i ++ [y] := by
    rw [List.take_add_one, h]
    rfl
  unfold syF
  rw [e, List.filterMap_append]
  congr 1
  cases hh : hrOf y.1 x <;> simp [hh]
theorem cov_app (F G : List Fct) (h p : Nat) : cov (F ++ G) h p ↔ cov F h p ∨ cov G h p := by
  unfold cov
  constructor
  · rintro ⟨a, ha, q⟩
    rcases List.mem_append.mp ha with ha | ha
    · exact Or.inl ⟨a, ha, q⟩
    · exact Or.inr ⟨a, ha, q⟩
  · rintro (⟨a, ha, q⟩ | ⟨a, ha, q⟩)
    · exact ⟨a, List.mem_append_left _ ha, q⟩
    · exact ⟨a, List.mem_append_right _ ha, q⟩
theorem cov_one (p t h q : Nat) : cov [(p, t, t)] h q ↔ h = t ∧ q = p := by
  unfold cov
  constructor
  · rintro ⟨a, ha, q1, q2, q3⟩
    rw [List.mem_singleton] at ha
    subst ha
    dsimp only at q1 q2 q3
    omega
  · rintro ⟨rfl, rfl⟩
    exact ⟨_, List.mem_singleton.mpr rfl, rfl, Nat.le_refl _, Nat.le_refl _⟩
theorem i32_add {t : Nat} {sh : Int32} (ht : t < 48) (h1 : -100 ≤ sh.toInt) (h2 : sh.toInt ≤ 100) : (nI t + sh).toInt = (t : Int) + sh.toInt := by
  rw [Int32.toInt_add, ni_ti (by omega)]
  have e : ((2 ^ 32 : Nat) : Int) = 4294967296 := rfl
  simp only [Int.bmod, e]
  omega
theorem l_x_layS (d w g z gs : Nat) (dep : Nat → Nat) (dr ld : Nat) (F : List Fct) (Y : List Sy) (sh : Int32) (M0 : am_M) (Q : Option Value → am_M → Prop) (hw : isTr w) (hg : isSh g) (hgs : isSh gs) (hz : z = 2 ∨ z = 83) (h1 : -100 ≤ sh.toInt) (h2 : sh.toInt ≤ 100)
    (hN : ∀ M', oS (sL w) M0 M' → ¬ (syS Y sh.toInt (sndP dep dr ld) ∧ uniq (cov (F ++ syF Y sh.toInt))) → Q (some (.int 0)) M')
    (hY : ∀ M', oS (sL w) M0 M' → syS Y sh.toInt (sndP dep dr ld) → LnP M' w (cov (F ++ syF Y sh.toInt)) → Q (some (.int 1)) M') :
    ∀ (m i : Nat), i + m = Y.length → ∀ (M : am_M) (v4 : Value), oS (sL w) M0 M → Lay M → DpX M w g z dep dr ld → SyX M gs Y → LnP M w (cov (F ++ syF (Y.take i) sh.toInt)) → syS (Y.take i) sh.toInt (sndP dep dr ld) → am_P am_P0 (d + 1) (am_look tX8_laySayings) 2 [.ref w, .ref gs, .int sh, .int (nI i), v4] [] M Q := by
  have hgl := isSh_lt hg
  have hgsl := isSh_lt hgs
  have hwl := isTr_ge hw
  intro m
  induction m with
  | zero =>
    intro i hi M v4 hM hL hD hS hc hs
    have e : i = Y.length := by omega
    subst e
    have h48 := hS.2.1
    have hle : nI Y.length ≤ nI Y.length := (ni_le (by omega) (by omega)).mpr (Nat.le_refl _)
    rw [hX8_laySayings_2]
    simp +decide (disch := omega) only [qX8_laySayings_0, qX8_laySayings_1, lw_ hL hgs, hS.1, am_w1_i, am_w1_r, am_w1_x, am_w1_l, am_w1_w, va_rf_s, am_push_n, am_push_s, am_cs_0, am_cs_i, am_cs_l, am_cs_r, m_uI_K, m_uI_N, m_uI_R, m_uI_L, m_uI_I, m_uL_K, m_uL_N, m_uL_R, m_uL_I, m_uL_L, m_uR_K, m_uR_N, m_uR_I, m_uR_L, m_uR_R, true_and, and_true]
    rw [br_p hle]
    rw [List.take_length] at hc hs
    exact hY M hM hs hc
  | succ m ih =>
    intro i hi M v4 hM hL hD hS hc hs
    have h48 := hS.2.1
    have hlt : ¬ nI Y.length ≤ nI i := by rw [ni_le (by omega) (by omega)]; omega
    obtain ⟨y, hy⟩ : ∃ y, Y[i]? = some y := ⟨Y[i]'(by omega), List.getElem?_eq_getElem (by omega)⟩
    obtain ⟨⟨q1, q2⟩, q3, q4, q5⟩ := hS.2.2 i y hy
    have hmem := List.mem_of_getElem? hy
    have eh := i32_add (sh := sh) q1 h1 h2
    have hho := fun Q => c_x_isHour d (nI y.1 + sh) M Q
    have hso := fun Q => c_x_isSound d w g z y.2.1 y.2.2 dep dr ld M Q hL hw hg hz hD q2
    have htk := syF_take (x := sh.toInt) hy
    have hst : ∀ z', syS (Y.take (i + 1)) sh.toInt z' ↔ syS (Y.take i) sh.toInt z' ∧ ∀ t, hrOf y.1 sh.toInt = some t → z' y.2.1 y.2.2 := by
      intro z'
      have e : Y.take (i + 1) = Y.take i ++ [y] := by
        rw [List.take_add_one, hy]
        rfl
      unfold syS
      rw [e]
      constructor
      · intro hh
        exact ⟨fun y' hy' => hh y' (List.mem_append_left _ hy'), hh y (List.mem_append_right _ (List.mem_singleton.mpr rfl))⟩
      · rintro ⟨a1, a2⟩ y' hy'
        rcases List.mem_append.mp hy' with hy' | hy'
        · exact a1 y' hy'
        · rw [List.mem_singleton] at hy'
          subst hy'
          exact a2
    rw [hX8_laySayings_2]
    by_cases hin : 0 ≤ (y.1 : Int) + sh.toInt ∧ (y.1 : Int) + sh.toInt < 48
    · obtain ⟨t, ht⟩ : ∃ t, hrOf y.1 sh.toInt = some t := ⟨_, if_pos hin⟩
      have hte : (t : Int) = (y.1 : Int) + sh.toInt ∧ t < 48 := by
        unfold hrOf at ht
        rw [if_pos hin] at ht
        cases ht
        omega
      have ehr : nI y.1 + sh = nI t := by
        rw [← Int32.toInt_inj, eh, ni_ti (by omega)]
        omega
      have hput := fun Q => c_x_lput d w t y.2.1 M Q _ hL hw hc hte.2 q2
      rw [ht] at htk
      dsimp only at htk
      have hb1 : bI (0 ≤ (nI t).toInt ∧ (nI t).toInt < 48) = 1 := bI_t (by rw [ni_ti (by omega)]; omega)
      rw [ehr] at hho
      simp +decide (disch := omega) only [qX8_laySayings_0, qX8_laySayings_1, lt_ hL hw, lw_ hL hgs, hS.1, q3, q4, q5, ehr, hho, hso, hput, hb1, ni_in_t, ni_tn, ni_add1, am_w1_i, am_w1_r, am_w1_x, am_w1_l, am_w1_w, va_rf_s, am_push_n, am_push_s, am_cs_0, am_cs_i, am_cs_l, am_cs_r, m_uI_K, m_uI_N, m_uI_R, m_uI_L, m_uI_I, m_uL_K, m_uL_N, m_uL_R, m_uL_I, m_uL_L, m_uR_K, m_uR_N, m_uR_I, m_uR_L, m_uR_R, true_and, and_true, not_true_eq_false, not_false_eq_true, true_implies, false_implies]
      rw [br_n hlt]
      by_cases hsn : sndP dep dr ld y.2.1 y.2.2
      · rw [tI_t hsn, br_n (by decide)]
        by_cases hn : ∀ q, cov (F ++ syF (Y.take i) sh.toInt) t q → q = y.2.1
        · rw [br_p hn]
          have g2 : oS (sL w) M (uI M (w + 7) t (nI y.2.1)) := ⟨fun a j h => by rw [m_uI_I, if_neg (fun z => h z.1)], fun _ _ => rfl, fun _ _ => rfl, rfl⟩
          refine ih (i + 1) (by omega) _ _ (oS_trans hM g2) hL (DpX_S hD g2 (fun j z3 => by have z4 : g = w + 7 := z3; omega) (fun j z3 => by have z4 : z + 21 = w + 7 := z3; omega)) (SyX_S hS g2 (fun a j z1 z2 z3 => by have z4 : a = w + 7 := z3; omega)) ?_ ((hst _).mpr ⟨hs, fun _ _ => hsn⟩)
          refine LnP_ext (fun h p => ?_) (LnP_put hc hte.2 q2 hn)
          rw [htk, ← List.append_assoc, cov_app (F ++ syF (Y.take i) sh.toInt), cov_one]
        · rw [br_n hn]
          refine hN M hM (fun hu => hn (fun q hq => ?_))
          have hyF : cov (syF Y sh.toInt) t y.2.1 := ⟨(y.2.1, t, t), List.mem_filterMap.mpr ⟨y, hmem, by rw [ht]; rfl⟩, rfl, Nat.le_refl _, Nat.le_refl _⟩
          refine hu.2 t q y.2.1 ?_ ((cov_app _ _ _ _).mpr (Or.inr hyF))
          rcases (cov_app _ _ _ _).mp hq with z | ⟨a, ha, qa⟩
          · exact (cov_app _ _ _ _).mpr (Or.inl z)
          · refine (cov_app _ _ _ _).mpr (Or.inr ⟨a, ?_, qa⟩)
            obtain ⟨y', hy', e'⟩ := List.mem_filterMap.mp ha
            exact List.mem_filterMap.mpr ⟨y', List.mem_of_mem_take hy', e'⟩
      · rw [tI_f hsn, br_p rfl]
        exact hN M hM (fun hu => hsn (hu.1 y hmem t ht))
    · have ht : hrOf y.1 sh.toInt = none := if_neg hin
      rw [ht] at htk
      have hb0 : bI (0 ≤ (nI y.1 + sh).toInt ∧ (nI y.1 + sh).toInt < 48) = 0 := bI_f (by rw [eh]; exact hin)
      simp +decide (disch := omega) only [qX8_laySayings_0, qX8_laySayings_1, lw_ hL hgs, hS.1, q3, hho, hb0, ni_in_t, ni_tn, ni_add1, am_w1_i, am_w1_r, am_w1_x, am_w1_l, am_w1_w, va_rf_s, am_push_n, am_push_s, am_cs_0, am_cs_i, am_cs_l, am_cs_r, m_uI_K, m_uI_N, m_uI_R, m_uI_L, m_uI_I, m_uL_K, m_uL_N, m_uL_R, m_uL_I, m_uL_L, m_uR_K, m_uR_N, m_uR_I, m_uR_L, m_uR_R, true_and, and_true, true_implies, false_implies]
      rw [br_n hlt]
      refine ih (i + 1) (by omega) M _ hM hL hD hS ?_ ((hst _).mpr ⟨hs, fun t h => by rw [ht] at h; cases h⟩)
      rw [htk, List.append_nil]
      exact hc
theorem c_x_laySayings (d w g z gs : Nat) (dep : Nat → Nat) (dr ld : Nat) (F : List Fct) (Y : List Sy) (sh : Int32) (M : am_M) (Q : Option Value → am_M → Prop) (hL : Lay M) (hw : isTr w) (hg : isSh g) (hgs : isSh gs) (hz : z = 2 ∨ z = 83) (h1 : -100 ≤ sh.toInt) (h2 : sh.toInt ≤ 100) (hD : DpX M w g z dep dr ld) (hS : SyX M gs Y) (hc : LnP M w (cov F))
    (hN : ∀ M', oS (sL w) M M' → ¬ (syS Y sh.toInt (sndP dep dr ld) ∧ uniq (cov (F ++ syF Y sh.toInt))) → Q (some (.int 0)) M')
    (hY : ∀ M', oS (sL w) M M' → syS Y sh.toInt (sndP dep dr ld) → LnP M' w (cov (F ++ syF Y sh.toInt)) → Q (some (.int 1)) M') : am_E am_P0 (d + 1) 78 [.ref w, .ref gs, .int sh] M Q := by
  rw [eX8_laySayings]
  simp +decide only [qX8_laySayings_0, qX8_laySayings_1, am_w1_i, am_w1_r, am_w1_x, am_w1_l, am_w1_w, va_rf_s, am_push_n, am_push_s, am_cs_0, am_cs_i, am_cs_l, am_cs_r, m_uI_K, m_uI_N, m_uI_R, m_uI_L, m_uI_I, m_uL_K, m_uL_N, m_uL_R, m_uL_I, m_uL_L, m_uR_K, m_uR_N, m_uR_I, m_uR_L, m_uR_R, true_and, and_true]
  rw [show (0 : Int32) = nI 0 from rfl]
  refine l_x_layS d w g z gs dep dr ld F Y sh M Q hw hg hgs hz h1 h2 hN hY Y.length 0 (by omega) M _ (oS_refl _ _) hL hD hS ?_ (fun y hy => by rw [List.take_zero] at hy; cases hy)
  rw [List.take_zero]
  show LnP M w (cov (F ++ []))
  rw [List.append_nil]
  exact hc
end
section
/-! the class: whether sayings fit with the books -/
/-- nothing is changed but the line of the track s, rows, and what is known of them -/
def xF (s : Nat) (M M' : am_M) : Prop := Lay M' ∧ RInv M' ∧ mC M ≤ mC M' ∧ (∀ a j, a < 336 → (∀ s', s' < 8 → ¬ a = 177 + 13 * s') → ¬ a = 180 + 13 * s → mI M' a j = mI M a j) ∧ (∀ a j, a < 336 → mL M' a j = mL M a j) ∧ (∀ a j, a < 336 → (∀ s', s' < 8 → ¬ a = 176 + 13 * s') → mR M' a j = mR M a j) ∧ ∀ s' v wt, s' < 8 → TrW M s' v wt → TrW M' s' v wt
theorem xF_refl {s : Nat} {M : am_M} (h : Lay M) (hI : RInv M) : xF s M M := ⟨h, hI, Nat.le_refl _, fun _ _ _ _ _ => rfl, fun _ _ _ => rfl, fun _ _ _ _ => rfl, fun _ _ _ _ h => h⟩
theorem xF_trans {s : Nat} {M M' M'' : am_M} (h1 : xF s M M') (h2 : xF s M' M'') : xF s M M'' :=
  ⟨h2.1, h2.2.1, Nat.le_trans h1.2.2.1 h2.2.2.1, fun a j q1 q2 q3 => (h2.2.2.2.1 a j q1 q2 q3).trans (h1.2.2.2.1 a j q1 q2 q3), fun a j q1 => (h2.2.2.2.2.1 a j q1).trans (h1.2.2.2.2.1 a j q1), fun a j q1 q2 => (h2.2.2.2.2.2.1 a j q1 q2).trans (h1.2.2.2.2.2.1 a j q1 q2), fun s v wt q1 q2 => h2.2.2.2.2.2.2 s v wt q1 (h1.2.2.2.2.2.2 s v wt q1 q2)⟩
theorem xF_r {s : Nat} {M M' : am_M} (h : rgF M M') : xF s M M' := ⟨h.1, h.2.1, h.2.2.1, fun a j q1 q2 _ => h.2.2.2.1 a j q1 q2, h.2.2.2.2.1, h.2.2.2.2.2.1, h.2.2.2.2.2.2⟩
theorem RInv_S {M M' : am_M} (hI : RInv M) (hR : ∀ a j, mR M' a j = mR M a j) (hS : mS M' = mS M) : RInv M' := by
  have eC : mC M' = mC M := by unfold mC; rw [hS]
  have ec : cnt (rgC M') 2048 = cnt (rgC M) 2048 := cnt_ext (fun t _ => by unfold rgC; rw [hR])
  exact ⟨fun s p r q1 q2 q3 => by rw [eC]; exact hI.1 s p r q1 q2 (by rw [← hR]; exact q3), fun s p s' p' r q1 q2 q3 q4 q5 q6 => hI.2.1 s p s' p' r q1 q2 q3 q4 (by rw [← hR]; exact q5) (by rw [← hR]; exact q6), by rw [eC, ec]; exact hI.2.2⟩
theorem TrW_S {M M' : am_M} {s v : Nat} {wt : Nat → Prop} (h : TrW M s v wt) (h1 : ∀ j, mI M' (174 + 13 * s) j = mI M (174 + 13 * s) j) (h2 : ∀ j, mI M' (177 + 13 * s) j = mI M (177 + 13 * s) j) (hLl : ∀ a j, mL M' a j = mL M a j) (hR : ∀ a j, mR M' a j = mR M a j) : TrW M' s v wt := by
  obtain ⟨a1, a2, a3, a4⟩ := h
  refine ⟨by rw [h1]; exact a1, a2, fun q => (inS_ext (fun i _ => hLl _ i) q).trans (a3 q), fun p hp => ?_⟩
  obtain ⟨k1, k2⟩ := a4 p hp
  refine ⟨by rw [h2]; exact k1, fun hk => ?_⟩
  rw [h2] at hk
  obtain ⟨r, q1, q2⟩ := k2 hk
  exact ⟨r, by rw [hR]; exact q1, fun i hi q => (inS_ext (fun j _ => hLl r _) q).trans (q2 i hi q)⟩
theorem xF_L {s : Nat} {M M' : am_M} (hs : s < 8) (hL : Lay M) (hI : RInv M) (h : oS (sL (173 + 13 * s)) M M') : xF s M M' := by
  have hi : ∀ a j, ¬ a = 180 + 13 * s → mI M' a j = mI M a j := fun a j q3 => h.1 a j (fun z => q3 (by have z' : a = 173 + 13 * s + 7 := z; omega))
  exact ⟨oS_Lay h hL, RInv_S hI h.2.2.1 h.2.2.2, by unfold mC; rw [h.2.2.2]; exact Nat.le_refl _, fun a j _ _ q3 => hi a j q3, fun a j _ => h.2.1 a j, fun a j _ _ => h.2.2.1 a j, fun s' v wt hs' hT => TrW_S hT (fun j => hi _ j (by omega)) (fun j => hi _ j (by omega)) h.2.1 h.2.2.1⟩
theorem uniq_sub {c c' : Nat → Nat → Prop} (h : ∀ t p, c t p → c' t p) (hu : uniq c') : uniq c := fun t p q a b => hu t p q (h t p a) (h t q b)
theorem lin_uniq {wt : Nat → Prop} {v : Nat} {c : Nat → Nat → Prop} (h : linP wt v c) : uniq c := h.1
/-- ordered -/
def ordF (F : List Fct) : Prop := ∀ a, a ∈ F → a.2.1 ≤ a.2.2
theorem ordF_app {F G : List Fct} (h1 : ordF F) (h2 : ordF G) : ordF (F ++ G) := fun a ha => by
  rcases List.mem_append.mp ha with q | q
  · exact h1 a q
  · exact h2 a q
theorem ordF_sy (Y : List Sy) (x : Int) : ordF (syF Y x) := fun a ha => by
  obtain ⟨y, -, e⟩ := List.mem_filterMap.mp ha
  rw [Option.map_eq_some_iff] at e
  obtain ⟨t, -, e⟩ := e
  rw [← e]
  exact Nat.le_refl _
theorem BkX_ord {M : am_M} {g : Nat} {F : List Fct} (h : BkX M g F) : ordF F := fun a ha => by
  obtain ⟨i, hi⟩ := List.mem_iff_getElem?.mp ha
  exact (h.2.2 i a hi).1.2.1
/-- facts of own sayings, if they are wanted -/
def ownF (o : Bool) (Y0 : List Sy) : List Fct := if o = true then syF Y0 0 else []
def ownS (o : Bool) (Y0 : List Sy) (snd : Nat → Bool → Prop) : Prop := o = true → syS Y0 0 snd
theorem c_x_fits (d s g z gs v : Nat) (wt : Nat → Prop) (dep : Nat → Nat) (dr ld : Nat) (F : List Fct) (Y0 Y : List Sy) (sh : Int32) (o : Bool) (M : am_M) (Q : Option Value → am_M → Prop) (hL : Lay M) (hI : RInv M) (hs : s < 8) (hg : isSh g) (hgs : isSh gs) (hz : z = 2 ∨ z = 83) (h1 : -100 ≤ sh.toInt) (h2 : sh.toInt ≤ 100)
    (hD : DpX M (173 + 13 * s) g z dep dr ld) (hB : BkX M g F) (hS0 : SyX M g Y0) (hS : SyX M gs Y) (hT : TrW M s v wt)
    (hQ : ∀ M', xF s M M' → Q (some (.int (tI (ownS o Y0 (sndP dep dr ld) ∧ syS Y sh.toInt (sndP dep dr ld) ∧ fitP wt v (F ++ ownF o Y0 ++ syF Y sh.toInt))))) M') :
    am_E am_P0 (d + 4) 79 [.ref (173 + 13 * s), .ref gs, .int sh, .int (b01 o)] M Q := by
  obtain ⟨w, hwe⟩ : ∃ w, w = 173 + 13 * s := ⟨_, rfl⟩
  have hw : isTr w := ⟨s, hs, hwe⟩
  have hgl := isSh_lt hg
  have hgsl := isSh_lt hgs
  have hwl := isTr_ge hw
  have hord : ordF (F ++ ownF o Y0 ++ syF Y sh.toInt) := ordF_app (ordF_app (BkX_ord hB) (by unfold ownF; split; exact ordF_sy _ _; exact fun a ha => by cases ha)) (ordF_sy _ _)
  have hfl := fit_lin (w := wt) (v := v) hord
  have fin0 : ∀ M', oS (sL w) M M' → ¬ (ownS o Y0 (sndP dep dr ld) ∧ syS Y sh.toInt (sndP dep dr ld) ∧ fitP wt v (F ++ ownF o Y0 ++ syF Y sh.toInt)) → Q (some (.int 0)) M' := fun M' g1 hn => by
    have h0 := hQ M' (xF_L hs hL hI (by rw [← hwe]; exact g1))
    rw [tI_f hn] at h0
    exact h0
  rw [← hwe] at hD ⊢
  have nS : ∀ j, ¬ sL w g j := fun j z3 => by have z4 : g = w + 7 := z3; omega
  have nZ : ∀ j, ¬ sL w (z + 21) j := fun j z3 => by have z4 : z + 21 = w + 7 := z3; omega
  have nG : ∀ a j, g ≤ a → a ≤ g + 6 → ¬ sL w a j := fun a j z1 z2 z3 => by have z4 : a = w + 7 := z3; omega
  have nGs : ∀ a j, gs ≤ a → a ≤ gs + 6 → ¬ sL w a j := fun a j z1 z2 z3 => by have z4 : a = w + 7 := z3; omega
  -- the rest, from the sayer's sayings on
  have rest : ∀ (F' : List Fct) (M1 : am_M), F' = F ++ ownF o Y0 → oS (sL w) M M1 → LnP M1 w (cov F') → ownS o Y0 (sndP dep dr ld) → am_P am_P0 (d + 4) (am_look tX8_fits) 23 [.ref w, .ref gs, .int sh, .int (b01 o)] [] M1 Q := by
    intro F' M1 hF' g1 hc hown
    have L1 := oS_Lay g1 hL
    simp +decide only [qX8_fits, lt_ L1 hw, am_w1_i, am_w1_r, am_w1_x, am_w1_l, am_w1_w, va_rf_s, am_push_n, am_push_s, am_cs_0, am_cs_i, am_cs_l, am_cs_r, m_uI_K, m_uI_N, m_uI_R, m_uI_L, m_uI_I, m_uL_K, m_uL_N, m_uL_R, m_uL_I, m_uL_L, m_uR_K, m_uR_N, m_uR_I, m_uR_L, m_uR_R, true_and, and_true]
    refine c_x_laySayings (d + 2) w g z gs dep dr ld F' Y sh M1 _ L1 hw hg hgs hz h1 h2 (DpX_S hD g1 nS nZ) (SyX_S hS g1 nGs) hc (fun M2 g2 hn => ?_) (fun M2 g2 hss hc2 => ?_)
    · simp +decide only [qX8_fits, am_w1_i, am_w1_r, am_w1_x, am_w1_l, am_w1_w, va_rf_s, am_push_n, am_push_s, am_cs_0, am_cs_i, am_cs_l, am_cs_r, m_uI_K, m_uI_N, m_uI_R, m_uI_L, m_uI_I, m_uL_K, m_uL_N, m_uL_R, m_uL_I, m_uL_L, m_uR_K, m_uR_N, m_uR_I, m_uR_L, m_uR_R, true_and, and_true, true_implies, false_implies]
      refine fin0 M2 (oS_trans g1 g2) (fun z => hn ⟨z.2.1, ?_⟩)
      rw [hF']
      exact lin_uniq (hfl.mp z.2.2)
    · have g3 := oS_trans g1 g2
      have L2 := oS_Lay g3 hL
      simp +decide only [qX8_fits, lt_ L2 hw, am_w1_i, am_w1_r, am_w1_x, am_w1_l, am_w1_w, va_rf_s, am_push_n, am_push_s, am_cs_0, am_cs_i, am_cs_l, am_cs_r, m_uI_K, m_uI_N, m_uI_R, m_uI_L, m_uI_I, m_uL_K, m_uL_N, m_uL_R, m_uL_I, m_uL_L, m_uR_K, m_uR_N, m_uR_I, m_uR_L, m_uR_R, true_and, and_true, true_implies, false_implies]
      have x2 := xF_L hs hL hI (by rw [← hwe]; exact g3)
      have e6 : w + 6 = 179 + 13 * s := by omega
      have e1 : w + 1 = 174 + 13 * s := by omega
      rw [e6, e1]
      refine c_x_holds d s v wt (cov (F' ++ syF Y sh.toInt)) M2 _ hs L2 x2.2.1 (by rw [← hwe]; exact hc2) (x2.2.2.2.2.2.2 s v wt hs hT) (fun M3 g4 => ?_)
      have x3 := xF_trans x2 (xF_r (s := s) g4)
      have h0 := hQ M3 x3
      simp +decide only [qX8_fits, am_w1_i, am_w1_r, am_w1_x, am_w1_l, am_w1_w, va_rf_s, am_push_n, am_push_s, am_cs_0, am_cs_i, am_cs_l, am_cs_r, m_uI_K, m_uI_N, m_uI_R, m_uI_L, m_uI_I, m_uL_K, m_uL_N, m_uL_R, m_uL_I, m_uL_L, m_uR_K, m_uR_N, m_uR_I, m_uR_L, m_uR_R, true_and, and_true]
      rw [hF']
      by_cases hl : linP wt v (cov (F ++ ownF o Y0 ++ syF Y sh.toInt))
      · rw [tI_t hl, br_n (by decide)]
        rw [tI_t ⟨hown, hss, hfl.mpr hl⟩] at h0
        exact h0
      · rw [tI_f hl, br_p rfl]
        rw [tI_f (fun z => hl (hfl.mp z.2.2))] at h0
        exact h0
  rw [eX8_fits]
  simp +decide only [qX8_fits, lt_ hL hw, am_w1_i, am_w1_r, am_w1_x, am_w1_l, am_w1_w, va_rf_s, am_push_n, am_push_s, am_cs_0, am_cs_i, am_cs_l, am_cs_r, m_uI_K, m_uI_N, m_uI_R, m_uI_L, m_uI_I, m_uL_K, m_uL_N, m_uL_R, m_uL_I, m_uL_L, m_uR_K, m_uR_N, m_uR_I, m_uR_L, m_uR_R, true_and, and_true]
  refine c_x_layBooks (d + 1) w g F M _ hL hw hg hD.1 hB (fun M1 g1 hn => ?_) (fun M1 g1 hc => ?_)
  · simp +decide only [qX8_fits, am_w1_i, am_w1_r, am_w1_x, am_w1_l, am_w1_w, va_rf_s, am_push_n, am_push_s, am_cs_0, am_cs_i, am_cs_l, am_cs_r, m_uI_K, m_uI_N, m_uI_R, m_uI_L, m_uI_I, m_uL_K, m_uL_N, m_uL_R, m_uL_I, m_uL_L, m_uR_K, m_uR_N, m_uR_I, m_uR_L, m_uR_R, true_and, and_true, true_implies, false_implies]
    refine fin0 M1 g1 (fun z => hn (uniq_sub (fun t p q => ?_) (lin_uniq (hfl.mp z.2.2))))
    rw [cov_app, cov_app]
    exact Or.inl (Or.inl q)
  · have L1 := oS_Lay g1 hL
    have hR1 : mR M1 w 0 = some g := by rw [g1.2.2.1]; exact hD.1
    cases o with
    | false =>
      have hr := rest F M1 (by unfold ownF; simp) g1 hc (fun h => by cases h)
      simp +decide only [qX8_fits, lt_ L1 hw, hR1, show b01 false = 0 from rfl, am_w1_i, am_w1_r, am_w1_x, am_w1_l, am_w1_w, va_rf_s, am_push_n, am_push_s, am_cs_0, am_cs_i, am_cs_l, am_cs_r, m_uI_K, m_uI_N, m_uI_R, m_uI_L, m_uI_I, m_uL_K, m_uL_N, m_uL_R, m_uL_I, m_uL_L, m_uR_K, m_uR_N, m_uR_I, m_uR_L, m_uR_R, true_and, and_true, true_implies, false_implies] at hr ⊢
      exact hr
    | true =>
      simp +decide only [qX8_fits, lt_ L1 hw, hR1, show b01 true = 1 from rfl, am_w1_i, am_w1_r, am_w1_x, am_w1_l, am_w1_w, va_rf_s, am_push_n, am_push_s, am_cs_0, am_cs_i, am_cs_l, am_cs_r, m_uI_K, m_uI_N, m_uI_R, m_uI_L, m_uI_I, m_uL_K, m_uL_N, m_uL_R, m_uL_I, m_uL_L, m_uR_K, m_uR_N, m_uR_I, m_uR_L, m_uR_R, true_and, and_true, true_implies, false_implies]
      refine c_x_laySayings (d + 2) w g z g dep dr ld F Y0 0 M1 _ L1 hw hg hg hz (by decide) (by decide) (DpX_S hD g1 nS nZ) (SyX_S hS0 g1 nG) hc (fun M2 g2 hn => ?_) (fun M2 g2 hss hc2 => ?_)
      · simp +decide only [qX8_fits, am_w1_i, am_w1_r, am_w1_x, am_w1_l, am_w1_w, va_rf_s, am_push_n, am_push_s, am_cs_0, am_cs_i, am_cs_l, am_cs_r, m_uI_K, m_uI_N, m_uI_R, m_uI_L, m_uI_I, m_uL_K, m_uL_N, m_uL_R, m_uL_I, m_uL_L, m_uR_K, m_uR_N, m_uR_I, m_uR_L, m_uR_R, true_and, and_true, true_implies, false_implies]
        refine fin0 M2 (oS_trans g1 g2) (fun z => hn ⟨z.1 rfl, uniq_sub (fun t p q => ?_) (lin_uniq (hfl.mp z.2.2))⟩)
        rw [cov_app]
        exact Or.inl q
      · have hr := rest (F ++ syF Y0 0) M2 rfl (oS_trans g1 g2) hc2 (fun _ => hss)
        simp +decide only [qX8_fits, lt_ (oS_Lay (oS_trans g1 g2) hL) hw, show b01 true = 1 from rfl, am_w1_i, am_w1_r, am_w1_x, am_w1_l, am_w1_w, va_rf_s, am_push_n, am_push_s, am_cs_0, am_cs_i, am_cs_l, am_cs_r, m_uI_K, m_uI_N, m_uI_R, m_uI_L, m_uI_I, m_uL_K, m_uL_N, m_uL_R, m_uL_I, m_uL_L, m_uR_K, m_uR_N, m_uR_I, m_uR_L, m_uR_R, true_and, and_true, true_implies, false_implies] at hr ⊢
        exact hr
end
section
/-! the model's sayings as facts -/
def srtY (Y : List Sy) : Prop := Y.Pairwise (fun a b => a.1 < b.1)
def bef (Y : List Sy) (t : Nat) : List Sy := Y.filter (fun y => decide (y.1 < t))
theorem bef_mem {Y : List Sy} {t : Nat} {y : Sy} : y ∈ bef Y t ↔ y ∈ Y ∧ y.1 < t := by
  unfold bef
  rw [List.mem_filter, decide_eq_true_eq]
theorem bef_t {Y : List Sy} {t : Nat} {y : Sy} (hs : srtY Y) (hy : y ∈ Y) (ht : y.1 = t) : bef Y (t + 1) = bef Y t ++ [y] := by
  induction Y with
  | nil => cases hy
  | cons a r ih =>
    have hs' := List.pairwise_cons.mp hs
    unfold bef at ih ⊢
    by_cases c1 : a.1 < t
    · have hyr : y ∈ r := by
        rcases List.mem_cons.mp hy with rfl | h
        · omega
        · exact h
      rw [List.filter_cons_of_pos (by simp; omega), List.filter_cons_of_pos (by simpa using c1), ih hs'.2 hyr]
      rfl
    · have hya : y = a := by
        rcases List.mem_cons.mp hy with h | h
        · exact h
        · have := hs'.1 y h; omega
      subst hya
      have e1 : r.filter (fun y => decide (y.1 < t + 1)) = [] := by
        rw [List.filter_eq_nil_iff]
        intro x hx
        have := hs'.1 x hx
        simp; omega
      have e2 : r.filter (fun y => decide (y.1 < t)) = [] := by
        rw [List.filter_eq_nil_iff]
        intro x hx
        have := hs'.1 x hx
        simp; omega
      rw [List.filter_cons_of_pos (by simp; omega), List.filter_cons_of_neg (by simp; omega), e1, e2]
      rfl
theorem bef_f {Y : List Sy} {t : Nat} (h : ∀ y, y ∈ Y → ¬ y.1 = t) : bef Y (t + 1) = bef Y t := by
  unfold bef
  apply List.filter_congr
  intro y hy
  have := h y hy
  by_cases c : y.1 < t
  · simp [c]; omega
  · have : ¬ y.1 < t + 1 := by omega
    simp [c, this]
theorem bef_0 (Y : List Sy) : bef Y 0 = [] := by
  unfold bef
  rw [List.filter_eq_nil_iff]
  intro y _
  simp
theorem bef_all {Y : List Sy} (h : ∀ y, y ∈ Y → y.1 < 48) : bef Y 48 = Y := by
  unfold bef
  rw [List.filter_eq_self]
  intro y hy
  simpa using h y hy
/-- the sayings of the ship s as they lie in the model's rows -/
def SyM (M : am_M) (b C R s : Nat) (Y : List Sy) : Prop := srtY Y ∧ (∀ y, y ∈ Y → y.1 < 48 ∧ vld C R y.2.1) ∧ ∀ t, t < 48 → (∃ y, y ∈ Y ∧ y.1 = t ∧ mI M 292 (384 * b + 48 * s + t) = nI (cel C y.2.1) ∧ mI M 293 (384 * b + 48 * s + t) = b01 y.2.2) ∨ ((∀ y, y ∈ Y → ¬ y.1 = t) ∧ mI M 292 (384 * b + 48 * s + t) = -1)
theorem SyM_S {M M' : am_M} {b C R s : Nat} {Y : List Sy} {S : Nat → Nat → Prop} (h : SyM M b C R s Y) (hS : oS S M M') (hd : ∀ a j, a = 292 ∨ a = 293 → ¬ S a j) : SyM M' b C R s Y := by
  refine ⟨h.1, h.2.1, fun t ht => ?_⟩
  rw [hS.1 _ _ (hd _ _ (Or.inl rfl)), hS.1 _ _ (hd _ _ (Or.inr rfl))]
  exact h.2.2 t ht
/-- draft, load and depths as they lie in the model's rows -/
def DpM (M : am_M) (b C R s : Nat) (dep : Nat → Nat) (dr ld : Nat) : Prop := mI M 289 (8 * b + s) = nI dr ∧ mI M 290 (8 * b + s) = nI ld ∧ dr ≤ 40 ∧ ld ≤ 40 ∧ ∀ p, vld C R p → dep p ≤ 99 ∧ mI M 315 (cel C p) = nI (dep p)
theorem DpM_S {M M' : am_M} {b C R s : Nat} {dep : Nat → Nat} {dr ld : Nat} {S : Nat → Nat → Prop} (h : DpM M b C R s dep dr ld) (hS : oS S M M') (hd : ∀ a j, a = 289 ∨ a = 290 ∨ a = 315 → ¬ S a j) : DpM M' b C R s dep dr ld := by
  obtain ⟨h1, h2, h3, h4, h5⟩ := h
  exact ⟨by rw [hS.1 _ _ (hd _ _ (Or.inl rfl))]; exact h1, by rw [hS.1 _ _ (hd _ _ (Or.inr (Or.inl rfl)))]; exact h2, h3, h4, fun p hp => ⟨(h5 p hp).1, by rw [hS.1 _ _ (hd _ _ (Or.inr (Or.inr rfl)))]; exact (h5 p hp).2⟩⟩
theorem b01_0 {l : Bool} : b01 l = 0 ↔ l = false := by cases l <;> decide
theorem m_snd {M : am_M} {b C R s : Nat} {dep : Nat → Nat} {dr ld : Nat} (h : DpM M b C R s dep dr ld) {p : Nat} (hp : vld C R p) (l : Bool) : (mI M 289 (8 * b + s) + (if b01 l = 0 then 0 else mI M 290 (8 * b + s)) ≤ mI M 315 (cel C p)) ↔ sndP dep dr ld p l := by
  obtain ⟨h1, h2, h3, h4, h5⟩ := h
  obtain ⟨h6, h7⟩ := h5 p hp
  unfold sndP
  rw [h1, h2, h7]
  cases l with
  | true => rw [if_neg (by decide), ni_add, ni_le (by omega) (by omega)]; simp
  | false => rw [if_pos (show b01 false = 0 from rfl), show (0 : Int32) = nI 0 from rfl, ni_add, ni_le (by omega) (by omega)]; simp
theorem m_wat {M : am_M} {b C R s : Nat} {dep : Nat → Nat} {dr ld : Nat} (h : DpM M b C R s dep dr ld) (p : Nat) : mW_ M b C R s p ↔ vld C R p ∧ dr ≤ dep p := by
  obtain ⟨h1, h2, h3, h4, h5⟩ := h
  unfold mW_
  constructor
  · rintro ⟨q1, q2⟩
    obtain ⟨h6, h7⟩ := h5 p q1
    rw [h1, h7, ni_le (by omega) (by omega)] at q2
    exact ⟨q1, q2⟩
  · rintro ⟨q1, q2⟩
    obtain ⟨h6, h7⟩ := h5 p q1
    rw [h1, h7, ni_le (by omega) (by omega)]
    exact ⟨q1, q2⟩
theorem bI_tI {p q : Prop} [Decidable p] (h : p ↔ q) : bI p = tI q := by
  rw [tI_b, tI_i h]
theorem syF_app (Y Z : List Sy) (x : Int) : syF (Y ++ Z) x = syF Y x ++ syF Z x := List.filterMap_append ..
theorem syF_len (Y : List Sy) (x : Int) : (syF Y x).length ≤ Y.length := List.length_filterMap_le _ _
theorem syS_app (Y Z : List Sy) (x : Int) (snd : Nat → Bool → Prop) : syS (Y ++ Z) x snd ↔ syS Y x snd ∧ syS Z x snd := by
  unfold syS
  constructor
  · intro h
    exact ⟨fun y hy => h y (List.mem_append_left _ hy), fun y hy => h y (List.mem_append_right _ hy)⟩
  · rintro ⟨h1, h2⟩ y hy
    rcases List.mem_append.mp hy with q | q
    · exact h1 y q
    · exact h2 y q
theorem bef_len {Y : List Sy} (hs : srtY Y) (t : Nat) : (bef Y t).length ≤ t := by
  induction t with
  | zero => rw [bef_0]; exact Nat.le_refl _
  | succ t ih =>
    by_cases h : ∃ y, y ∈ Y ∧ y.1 = t
    · obtain ⟨y, hy, ht⟩ := h
      rw [bef_t hs hy ht, List.length_append]
      have : [y].length = 1 := rfl
      omega
    · rw [bef_f (fun y hy ht => h ⟨y, hy, ht⟩)]; omega
theorem l_m_addS (d s so b C R : Nat) (dep : Nat → Nat) (dr ld : Nat) (F : List Fct) (Y : List Sy) (sh : Int32) (M0 : am_M) (Q : Option Value → am_M → Prop) (hL : Lay M0) (hb : mI M0 277 12 = nI b) (hb2 : b < 2) (hC : C ≤ 16) (hR : R ≤ 16) (hs : s < 8) (hso : so < 8) (h1 : -100 ≤ sh.toInt) (h2 : sh.toInt ≤ 100) (hD : DpM M0 b C R s dep dr ld) (hY : SyM M0 b C R so Y) (hFl : F.length + 48 ≤ 120)
    (hQ : ∀ M', oS sF M0 M' → FcM M' C R (F ++ syF Y sh.toInt) → Q (some (.int (tI (syS Y sh.toInt (sndP dep dr ld))))) M') :
    ∀ (m t : Nat), t + m = 48 → ∀ (M : am_M), oS sF M0 M → FcM M C R (F ++ syF (bef Y t) sh.toInt) → am_P am_P0 (d + 2) (am_look tX11_addSayings) 6 [.ref 277, .int (nI so), .int (nI s), .int sh, .int (tI (syS (bef Y t) sh.toInt (sndP dep dr ld))), .int (nI t)] [] M Q := by
  have nY : ∀ a j, a = 292 ∨ a = 293 → ¬ sF a j := fun a j h z => by unfold sF at z; omega
  have nD : ∀ a j, a = 289 ∨ a = 290 ∨ a = 315 → ¬ sF a j := fun a j h z => by unfold sF at z; omega
  intro m
  induction m with
  | zero =>
    intro t ht M hM hF
    have e : t = 48 := by omega
    subst e
    rw [bef_all (fun y hy => (hY.2.1 y hy).1)] at hF ⊢
    rw [hX11_addSayings_6]
    simp +decide only [qX11_addSayings_0, qX11_addSayings_1, am_w1_i, am_w1_r, am_w1_x, am_w1_l, am_w1_w, va_rf_s, am_push_n, am_push_s, am_cs_0, am_cs_i, am_cs_l, am_cs_r, m_uI_K, m_uI_N, m_uI_R, m_uI_L, m_uI_I, m_uL_K, m_uL_N, m_uL_R, m_uL_I, m_uL_L, m_uR_K, m_uR_N, m_uR_I, m_uR_L, m_uR_R, true_and, and_true, true_implies, false_implies]
    exact ⟨tI_01 _, hQ M hM hF⟩
  | succ m ih =>
    intro t ht M hM hF
    have hLM := oS_Lay hM hL
    have hbM : mI M 277 12 = nI b := by rw [hM.1 _ _ (by unfold sF; omega)]; exact hb
    have hYM := SyM_S hY hM nY
    have hDM := DpM_S hD hM nD
    have hlt : ¬ (48 : Int32) ≤ nI t := by rw [show (48 : Int32) = nI 48 from rfl, ni_le (by omega) (by omega)]; omega
    have hsa := fun Q => c_m_said (d + 1) so t M Q hLM b hbM hb2 hso (by omega)
    have hho := fun Q => c_m_isHour d (nI t + sh) M Q
    have eh := i32_add (t := t) (sh := sh) (by omega) h1 h2
    rw [hX11_addSayings_6]
    rcases hYM.2.2 t (by omega) with ⟨y, hy, hyt, hm1, hm2⟩ | ⟨hno, hm1⟩
    · have hv := (hYM.2.1 y hy).2
      have hcl := cel_lt hC hR hv
      have hbt := bef_t hYM.1 hy hyt
      have hn1 : ¬ nI (cel C y.2.1) = -1 := nI_m1 (by omega)
      by_cases hin : 0 ≤ (t : Int) + sh.toInt ∧ (t : Int) + sh.toInt < 48
      · obtain ⟨t', ht'⟩ : ∃ t', hrOf y.1 sh.toInt = some t' := ⟨_, by rw [hyt]; exact if_pos hin⟩
        have hte : (t' : Int) = (t : Int) + sh.toInt ∧ t' < 48 := by
          rw [hyt] at ht'
          unfold hrOf at ht'
          rw [if_pos hin] at ht'
          cases ht'
          omega
        have ehr : nI t + sh = nI t' := by
          rw [← Int32.toInt_inj, eh, ni_ti (by omega)]
          omega
        have hb1 : bI (0 ≤ (nI t').toInt ∧ (nI t').toInt < 48) = 1 := bI_t (by rw [ni_ti (by omega)]; omega)
        rw [ehr] at hho
        have hlen : (F ++ syF (bef Y t) sh.toInt).length < 120 := by
          have a1 := syF_len (bef Y t) sh.toInt
          have a2 := bef_len hYM.1 t
          rw [List.length_append]; omega
        have hfa := fun Q => c_m_fact (d + 1) (nI (cel C y.2.1)) (nI t') (nI t') M Q hLM (F ++ syF (bef Y t) sh.toInt).length hF.1 hlen
        obtain ⟨p1, p2⟩ := FcM_put (f := (y.2.1, t', t')) hF hlen ⟨hv, Nat.le_refl _, hte.2⟩
        dsimp only at p1 p2
        have esy : syF [y] sh.toInt = [(y.2.1, t', t')] := by
          unfold syF
          simp [ht']
        have ess : syS [y] sh.toInt (sndP dep dr ld) ↔ sndP dep dr ld y.2.1 y.2.2 := by
          unfold syS
          constructor
          · intro h; exact h y (List.mem_singleton.mpr rfl) t' ht'
          · intro h y' hy' t2 _
            rw [List.mem_singleton] at hy'
            subst hy'
            exact h
        simp +decide only [qX11_addSayings_0, qX11_addSayings_1, lm hLM, hsa, hm1, hho, ehr, hb1, hfa, ni_add1, am_w1_i, am_w1_r, am_w1_x, am_w1_l, am_w1_w, va_rf_s, am_push_n, am_push_s, am_cs_0, am_cs_i, am_cs_l, am_cs_r, m_uI_K, m_uI_N, m_uI_R, m_uI_L, m_uI_I, m_uL_K, m_uL_N, m_uL_R, m_uL_I, m_uL_L, m_uR_K, m_uR_N, m_uR_I, m_uR_L, m_uR_R, true_and, and_true, not_true_eq_false, not_false_eq_true, true_implies, false_implies]
        rw [br_n hlt, br_n hn1]
        obtain ⟨M1, hM1e⟩ : ∃ M1, M1 = uI (uI (uI (uI M 319 (F ++ syF (bef Y t) sh.toInt).length (nI (cel C y.2.1))) 320 (F ++ syF (bef Y t) sh.toInt).length (nI t')) 321 (F ++ syF (bef Y t) sh.toInt).length (nI t')) 277 60 (nI ((F ++ syF (bef Y t) sh.toInt).length + 1)) := ⟨_, rfl⟩
        rw [← hM1e] at p1 p2 ⊢
        have hM1 := oS_trans hM p2
        have hL1 := oS_Lay hM1 hL
        have hb1' : mI M1 277 12 = nI b := by rw [hM1.1 _ _ (by unfold sF; omega)]; exact hb
        have hm1' : mI M1 292 (384 * b + 48 * so + t) = nI (cel C y.2.1) := by rw [p2.1 _ _ (by unfold sF; omega)]; exact hm1
        have hm2' : mI M1 293 (384 * b + 48 * so + t) = b01 y.2.2 := by rw [p2.1 _ _ (by unfold sF; omega)]; exact hm2
        have hsa1 := fun Q => c_m_said (d + 1) so t M1 Q hL1 b hb1' hb2 hso (by omega)
        have hla1 := fun Q => c_m_laden (d + 1) so t M1 Q hL1 b hb1' hb2 hso (by omega) (by rw [hm2']; cases y.2.2 <;> decide)
        have hsn1 := fun Q => c_m_isSound (d + 1) s (cel C y.2.1) (b01 y.2.2) M1 Q hL1 b hb1' hb2 hs hcl.2.1
        have hsnd := bI_tI (m_snd (DpM_S hD hM1 nD) hv y.2.2)
        have hfin := ih (t + 1) (by omega) M1 hM1 (by rw [hbt, syF_app, esy, ← List.append_assoc]; exact p1)
        rw [hbt, tI_i ((syS_app _ _ _ _).trans (and_congr Iff.rfl ess))] at hfin
        simp +decide only [qX11_addSayings_0, qX11_addSayings_1, lm hL1, hsa1, hla1, hsn1, hm1', hm2', hsnd, ni_add1, am_w1_i, am_w1_r, am_w1_x, am_w1_l, am_w1_w, va_rf_s, am_push_n, am_push_s, am_cs_0, am_cs_i, am_cs_l, am_cs_r, m_uI_K, m_uI_N, m_uI_R, m_uI_L, m_uI_I, m_uL_K, m_uL_N, m_uL_R, m_uL_I, m_uL_L, m_uR_K, m_uR_N, m_uR_I, m_uR_L, m_uR_R, true_and, and_true] at hfin ⊢
        by_cases c1 : syS (bef Y t) sh.toInt (sndP dep dr ld)
        · rw [tI_t c1, br_n (by decide)]
          by_cases c2 : sndP dep dr ld y.2.1 y.2.2
          · rw [tI_t c2, br_n (by decide)]
            rw [tI_t ⟨c1, c2⟩] at hfin
            exact hfin
          · rw [tI_f c2, br_p rfl]
            rw [tI_f (fun z => c2 z.2)] at hfin
            exact hfin
        · rw [tI_f c1, br_p rfl]
          rw [tI_f (fun z => c1 z.1)] at hfin
          exact hfin
      · have ht' : hrOf y.1 sh.toInt = none := by rw [hyt]; exact if_neg hin
        have hb0 : bI (0 ≤ (nI t + sh).toInt ∧ (nI t + sh).toInt < 48) = 0 := bI_f (by rw [eh]; exact hin)
        have esy : syF [y] sh.toInt = [] := by
          unfold syF
          simp [ht']
        have ess : syS [y] sh.toInt (sndP dep dr ld) := fun y' hy' t2 h2' => by
          rw [List.mem_singleton] at hy'
          subst hy'
          rw [ht'] at h2'
          cases h2'
        have hfin := ih (t + 1) (by omega) M hM (by rw [hbt, syF_app, esy, List.append_nil]; exact hF)
        rw [hbt, tI_i ((syS_app _ _ _ _).trans (and_iff_left ess))] at hfin
        simp +decide only [qX11_addSayings_0, qX11_addSayings_1, lm hLM, hsa, hm1, hho, hb0, ni_add1, am_w1_i, am_w1_r, am_w1_x, am_w1_l, am_w1_w, va_rf_s, am_push_n, am_push_s, am_cs_0, am_cs_i, am_cs_l, am_cs_r, m_uI_K, m_uI_N, m_uI_R, m_uI_L, m_uI_I, m_uL_K, m_uL_N, m_uL_R, m_uL_I, m_uL_L, m_uR_K, m_uR_N, m_uR_I, m_uR_L, m_uR_R, true_and, and_true, not_true_eq_false, not_false_eq_true, true_implies, false_implies]
        rw [br_n hlt, br_n hn1]
        exact hfin
    · have hbf := bef_f hno
      have hfin := ih (t + 1) (by omega) M hM (by rw [hbf]; exact hF)
      rw [hbf] at hfin
      simp +decide only [qX11_addSayings_0, qX11_addSayings_1, lm hLM, hsa, hm1, ni_add1, am_w1_i, am_w1_r, am_w1_x, am_w1_l, am_w1_w, va_rf_s, am_push_n, am_push_s, am_cs_0, am_cs_i, am_cs_l, am_cs_r, m_uI_K, m_uI_N, m_uI_R, m_uI_L, m_uI_I, m_uL_K, m_uL_N, m_uL_R, m_uL_I, m_uL_L, m_uR_K, m_uR_N, m_uR_I, m_uR_L, m_uR_R, true_and, and_true, true_implies, false_implies]
      rw [br_n hlt]
      exact hfin
theorem c_m_addSayings (d s so b C R : Nat) (dep : Nat → Nat) (dr ld : Nat) (F : List Fct) (Y : List Sy) (sh : Int32) (M : am_M) (Q : Option Value → am_M → Prop) (hL : Lay M) (hb : mI M 277 12 = nI b) (hb2 : b < 2) (hC : C ≤ 16) (hR : R ≤ 16) (hs : s < 8) (hso : so < 8) (h1 : -100 ≤ sh.toInt) (h2 : sh.toInt ≤ 100) (hD : DpM M b C R s dep dr ld) (hY : SyM M b C R so Y) (hFl : F.length + 48 ≤ 120) (hF : FcM M C R F)
    (hQ : ∀ M', oS sF M M' → FcM M' C R (F ++ syF Y sh.toInt) → Q (some (.int (tI (syS Y sh.toInt (sndP dep dr ld))))) M') : am_E am_P0 (d + 2) 242 [.ref 277, .int (nI so), .int (nI s), .int sh] M Q := by
  rw [eX11_addSayings]
  simp +decide only [qX11_addSayings_0, qX11_addSayings_1, am_w1_i, am_w1_r, am_w1_x, am_w1_l, am_w1_w, va_rf_s, am_push_n, am_push_s, am_cs_0, am_cs_i, am_cs_l, am_cs_r, m_uI_K, m_uI_N, m_uI_R, m_uI_L, m_uI_I, m_uL_K, m_uL_N, m_uL_R, m_uL_I, m_uL_L, m_uR_K, m_uR_N, m_uR_I, m_uR_L, m_uR_R, true_and, and_true]
  have h0 := l_m_addS d s so b C R dep dr ld F Y sh M Q hL hb hb2 hC hR hs hso h1 h2 hD hY hFl hQ 48 0 (by omega) M (oS_refl _ _) (by rw [bef_0]; show FcM M C R (F ++ []); rw [List.append_nil]; exact hF)
  have hss : syS (bef Y 0) sh.toInt (sndP dep dr ld) := fun y hy => by rw [bef_0] at hy; cases hy
  rw [tI_t hss] at h0
  exact h0
end
