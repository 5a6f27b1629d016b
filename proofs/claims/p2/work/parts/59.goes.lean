/-! the model's search in breadth -/
/-- the model's number of a place -/
def cel (C p : Nat) : Nat := C * (p / 16) + p % 16
def vld (C R p : Nat) : Prop := p % 16 < C ∧ p / 16 < R
theorem cel_inj {C R p q : Nat} (hp : vld C R p) (hq : vld C R q) (h : cel C p = cel C q) : p = q := by
  unfold vld at hp hq
  unfold cel at h
  have h1 : (C * (p / 16) + p % 16) / C = p / 16 := by rw [Nat.mul_add_div (by omega), Nat.div_eq_of_lt hp.1, Nat.add_zero]
  have h2 : (C * (q / 16) + q % 16) / C = q / 16 := by rw [Nat.mul_add_div (by omega), Nat.div_eq_of_lt hq.1, Nat.add_zero]
  have h3 : p / 16 = q / 16 := by rw [← h1, ← h2, h]
  rw [h3] at h
  omega
theorem cel_lt {C R p : Nat} (hC : C ≤ 16) (hR : R ≤ 16) (h : vld C R p) : cel C p < C * R ∧ cel C p < 256 ∧ p < 256 := by
  unfold vld at h
  unfold cel
  have h1 : C * (p / 16) + C ≤ C * R := by
    have : C * (p / 16 + 1) ≤ C * R := Nat.mul_le_mul_left C h.2
    rw [Nat.mul_add, Nat.mul_one] at this
    exact this
  have h2 : C * R ≤ 16 * 16 := Nat.mul_le_mul hC hR
  omega
theorem cel_of {C R c : Nat} (hC : C ≤ 16) (h : c < C * R) : ∃ p, vld C R p ∧ cel C p = c ∧ c % C = p % 16 ∧ c / C = p / 16 := by
  have hC0 : 0 < C := by
    rcases Nat.eq_zero_or_pos C with e | e
    · subst e; rw [Nat.zero_mul] at h; omega
    · exact e
  have h1 := Nat.mod_lt c hC0
  have h2 : c / C < R := Nat.div_lt_of_lt_mul h
  have e1 : (16 * (c / C) + c % C) / 16 = c / C := by omega
  have e2 : (16 * (c / C) + c % C) % 16 = c % C := by omega
  refine ⟨16 * (c / C) + c % C, ⟨by omega, by omega⟩, ?_, by omega, by omega⟩
  unfold cel
  rw [e1, e2]
  exact Nat.div_add_mod c C
/-- nothing but the search's own rows is changed -/
def onlyG (M M' : am_M) : Prop := (∀ a j, ¬ a = 317 → ¬ a = 318 → ¬ (a = 277 ∧ j = 59) → mI M' a j = mI M a j) ∧ (∀ a j, mL M' a j = mL M a j) ∧ (∀ a j, mR M' a j = mR M a j) ∧ mS M' = mS M
theorem onlyG_refl (M : am_M) : onlyG M M := ⟨fun _ _ _ _ _ => rfl, fun _ _ => rfl, fun _ _ => rfl, rfl⟩
theorem onlyG_trans {M M' M'' : am_M} (h1 : onlyG M M') (h2 : onlyG M' M'') : onlyG M M'' := ⟨fun a j q1 q2 q3 => (h2.1 a j q1 q2 q3).trans (h1.1 a j q1 q2 q3), fun a j => (h2.2.1 a j).trans (h1.2.1 a j), fun a j => (h2.2.2.1 a j).trans (h1.2.2.1 a j), h2.2.2.2.trans h1.2.2.2⟩
theorem onlyG_Lay {M M' : am_M} (h : onlyG M M') (hL : Lay M) : Lay M' := Lay_S hL h.2.2.2 h.2.2.1
/-- the model's sea: its bank, its size -/
def MB (M : am_M) (b C R : Nat) : Prop := mI M 277 12 = nI b ∧ b < 2 ∧ mI M 279 b = nI C ∧ mI M 280 b = nI R ∧ 1 ≤ C ∧ C ≤ 16 ∧ 1 ≤ R ∧ R ≤ 16
theorem MB_G {M M' : am_M} {b C R : Nat} (h : MB M b C R) (g : onlyG M M') : MB M' b C R := by
  obtain ⟨h1, h2, h3, h4, h5⟩ := h
  exact ⟨by rw [g.1 _ _ (by decide) (by decide) (by decide)]; exact h1, h2, by rw [g.1 _ _ (by decide) (by decide) (by omega)]; exact h3, by rw [g.1 _ _ (by decide) (by decide) (by omega)]; exact h4, h5⟩
/-- water for the ship s -/
def mW_ (M : am_M) (b C R s : Nat) (p : Nat) : Prop := vld C R p ∧ mI M 289 (8 * b + s) ≤ mI M 315 (cel C p)
theorem mW_G {M M' : am_M} {b C R s : Nat} (g : onlyG M M') : mW_ M' b C R s = mW_ M b C R s := by
  funext p
  unfold mW_
  rw [g.1 _ _ (by decide) (by decide) (by omega), g.1 _ _ (by decide) (by decide) (by omega)]
/-- the rows hold what the search knows -/
def BfM (M : am_M) (C R : Nat) (σ : Bf) : Prop :=
  (∀ p, vld C R p → mI M 317 (cel C p) = match σ.1 p with | none => -1 | some t => nI t) ∧ (∀ j, j < σ.2.2 → vld C R (σ.2.1 j) ∧ mI M 318 j = nI (cel C (σ.2.1 j))) ∧ mI M 277 59 = nI σ.2.2 ∧ (∀ p t, σ.1 p = some t → vld C R p ∧ t < σ.2.2) ∧ cnt (fun p => (σ.1 p).isSome) 256 = σ.2.2
theorem nI_m1 {t : Nat} (h : t < 2147483648) : ¬ nI t = -1 := by
  intro e
  have := congrArg Int32.toInt e
  rw [ni_ti h] at this
  have h1 : (-1 : Int32).toInt = -1 := rfl
  omega
theorem c_m_reach1 (d s b C R x y t : Nat) (M : am_M) (Q : Option Value → am_M → Prop) (σ : Bf) (hL : Lay M) (hB : MB M b C R) (hs : s < 8) (hx : x < C) (hy : y < R) (ht : t ≤ σ.2.2) (hσ : BfM M C R σ)
    (hQ : ∀ M', onlyG M M' → BfM M' C R (rch (mW_ M b C R s) t σ (16 * y + x)) → Q none M') : am_E am_P0 (d + 2) 236 [.ref 277, .int (nI s), .int (nI x), .int (nI y), .int (nI t)] M Q := by
  obtain ⟨b1, b2, b3, b4, b5, b6, b7, b8⟩ := hB
  obtain ⟨s1, s2, s3, s4, s5⟩ := hσ
  have hvl : vld C R (16 * y + x) := ⟨by omega, by omega⟩
  have hce : cel C (16 * y + x) = C * y + x := by
    unfold cel
    rw [show (16 * y + x) / 16 = y by omega, show (16 * y + x) % 16 = x by omega]
  have hcl := cel_lt b6 b8 hvl
  rw [hce] at hcl
  have hq := fun Q => c_m_isCell d (nI x) (nI y) M Q hL b C R b1 b2 b3 b4 b6 b8
  have hq2 := fun Q => c_m_at (d + 1) x y M Q hL b C b1 b2 b3
  have hq3 := fun Q => c_m_isWater (d + 1) s (C * y + x) M Q hL b b1 b2 hs hcl.2.1
  have hbt : bI ((0 ≤ (nI x).toInt ∧ (nI x).toInt < C) ∧ (0 ≤ (nI y).toInt ∧ (nI y).toInt < R)) = 1 := bI_t (by rw [ni_ti (by omega), ni_ti (by omega)]; omega)
  have h0 := s1 _ hvl
  rw [hce] at h0
  rw [eX11_reaches]
  simp +decide (disch := omega) only [qX11_reaches_0, qX11_reaches_1, lm hL, hq, hq2, hq3, hbt, s3, ni_in_t, ni_tn, ni_add1, am_w1_i, am_w1_r, am_w1_x, am_w1_l, am_w1_w, va_rf_s, am_push_n, am_push_s, am_cs_0, am_cs_i, am_cs_l, am_cs_r, m_uI_K, m_uI_N, m_uI_R, m_uI_L, m_uI_I, m_uL_K, m_uL_N, m_uL_R, m_uL_I, m_uL_L, m_uR_K, m_uR_N, m_uR_I, m_uR_L, m_uR_R, true_and, and_true, false_and, if_false, not_true_eq_false, not_false_eq_true, true_implies, false_implies]
  cases hm : σ.1 (16 * y + x) with
  | some u =>
    rw [hm] at h0
    dsimp only at h0
    have hu := s4 _ _ hm
    have hle := cnt_le (fun p => (σ.1 p).isSome) 256
    rw [br_q (by rw [h0]; exact nI_m1 (by omega))]
    have e : rch (mW_ M b C R s) t σ (16 * y + x) = σ := rch_n (fun q => by rw [hm] at q; cases q.2)
    rw [e] at hQ
    exact hQ M (onlyG_refl M) ⟨s1, s2, s3, s4, s5⟩
  | none =>
    rw [hm] at h0
    dsimp only at h0
    rw [br_r h0]
    by_cases hw : mI M 289 (8 * b + s) ≤ mI M 315 (C * y + x)
    · rw [bI_t hw, br_q (by decide)]
      have hww : mW_ M b C R s (16 * y + x) := ⟨hvl, by rw [hce]; exact hw⟩
      have e : rch (mW_ M b C R s) t σ (16 * y + x) = ((fun c => if c = 16 * y + x then some t else σ.1 c), (fun j => if j = σ.2.2 then 16 * y + x else σ.2.1 j), σ.2.2 + 1) := rch_p ⟨hww, hm⟩
      rw [e] at hQ
      have hlt : σ.2.2 < 256 := by
        have h1 := cnt_set (g := fun p => (σ.1 p).isSome) (g' := fun p => (if p = 16 * y + x then some t else σ.1 p).isSome) (a := 16 * y + x) (fun z hz => by rw [if_neg hz]) (by simp [hm]) (by simp) 256
        have h2 := cnt_le (fun p => (if p = 16 * y + x then some t else σ.1 p).isSome) 256
        rw [if_pos hcl.2.2, s5] at h1
        omega
      simp +decide (disch := omega) only [qX11_reaches_0, qX11_reaches_1, lm hL, s3, ni_in_t, ni_tn, ni_add1, am_w1_i, am_w1_r, am_w1_x, am_w1_l, am_w1_w, va_rf_s, am_push_n, am_push_s, am_cs_0, am_cs_i, am_cs_l, am_cs_r, m_uI_K, m_uI_N, m_uI_R, m_uI_L, m_uI_I, m_uL_K, m_uL_N, m_uL_R, m_uL_I, m_uL_L, m_uR_K, m_uR_N, m_uR_I, m_uR_L, m_uR_R, true_and, and_true, false_and, if_false]
      refine hQ _ ⟨fun a j q1 q2 q3 => ?_, fun _ _ => rfl, fun _ _ => rfl, rfl⟩ ⟨fun p hp => ?_, fun j hj => ?_, ?_, fun p u hu => ?_, ?_⟩
      · rw [m_uI_I, if_neg q3, m_uI_I, if_neg (fun z => q2 z.1), m_uI_I, if_neg (fun z => q1 z.1)]
      · dsimp only
        rw [m_uI_I, if_neg (by omega), m_uI_I, if_neg (by omega), m_uI_I]
        by_cases ep : p = 16 * y + x
        · subst ep
          rw [if_pos ⟨rfl, hce⟩, if_pos rfl]
        · rw [if_neg (fun z => ep (cel_inj hp hvl (z.2.trans hce.symm))), if_neg ep]
          exact s1 p hp
      · dsimp only at hj ⊢
        have em : mI (uI (uI (uI M 317 (C * y + x) (nI t)) 318 σ.2.2 (nI (C * y + x))) 277 59 (nI (σ.2.2 + 1))) 318 j = if j = σ.2.2 then nI (C * y + x) else mI M 318 j := by
          rw [m_uI_I, if_neg (fun z => absurd z.1 (by decide)), m_uI_I]
          by_cases ej : j = σ.2.2
          · rw [if_pos ⟨rfl, ej⟩, if_pos ej]
          · rw [if_neg (fun z => ej z.2), if_neg ej, m_uI_I, if_neg (fun z => absurd z.1 (by decide))]
        rw [em]
        by_cases ej : j = σ.2.2
        · rw [if_pos ej, if_pos ej, hce]
          exact ⟨hvl, rfl⟩
        · rw [if_neg ej, if_neg ej]
          exact s2 j (by omega)
      · dsimp only
        rw [m_uI_I, if_pos ⟨rfl, rfl⟩]
      · dsimp only at hu ⊢
        by_cases ep : p = 16 * y + x
        · rw [if_pos ep] at hu
          cases hu
          exact ⟨by rw [ep]; exact hvl, by omega⟩
        · rw [if_neg ep] at hu
          have := s4 p u hu
          exact ⟨this.1, by omega⟩
      · dsimp only
        have h1 := cnt_set (g := fun p => (σ.1 p).isSome) (g' := fun p => (if p = 16 * y + x then some t else σ.1 p).isSome) (a := 16 * y + x) (fun z hz => by rw [if_neg hz]) (by simp [hm]) (by simp) 256
        rw [if_pos hcl.2.2, s5] at h1
        exact h1
    · rw [bI_f hw, br_r rfl]
      have e : rch (mW_ M b C R s) t σ (16 * y + x) = σ := rch_n (fun q => hw (by have := q.1.2; rw [hce] at this; exact this))
      rw [e] at hQ
      exact hQ M (onlyG_refl M) ⟨s1, s2, s3, s4, s5⟩
theorem c_m_reach0 (d b C R : Nat) (s x y t : Int32) (M : am_M) (Q : Option Value → am_M → Prop) (hL : Lay M) (hB : MB M b C R) (hv : ¬ ((0 ≤ x.toInt ∧ x.toInt < C) ∧ (0 ≤ y.toInt ∧ y.toInt < R))) (hQ : Q none M) : am_E am_P0 (d + 2) 236 [.ref 277, .int s, .int x, .int y, .int t] M Q := by
  obtain ⟨b1, b2, b3, b4, b5, b6, b7, b8⟩ := hB
  have hq := fun Q => c_m_isCell d x y M Q hL b C R b1 b2 b3 b4 b6 b8
  rw [eX11_reaches]
  simp +decide (disch := omega) only [qX11_reaches_0, qX11_reaches_1, lm hL, hq, bI_f hv, am_w1_i, am_w1_r, am_w1_x, am_w1_l, am_w1_w, va_rf_s, am_push_n, am_push_s, am_cs_0, am_cs_i, am_cs_l, am_cs_r, m_uI_K, m_uI_N, m_uI_R, m_uI_L, m_uI_I, m_uL_K, m_uL_N, m_uL_R, m_uL_I, m_uL_L, m_uR_K, m_uR_N, m_uR_I, m_uR_L, m_uR_R, true_and, and_true, not_true_eq_false, not_false_eq_true, true_implies, false_implies]
  exact hQ
