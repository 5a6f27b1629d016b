/-! the model's search: the loops -/
section
variable (d s b C R p k t u : Nat) (w : Nat → Prop) (M0 : am_M)
def gPr (M : am_M) (σ : Bf) : Prop := onlyG M0 M ∧ BfM M C R σ ∧ bfJ w p k t σ ∧ σ.2.1 k = u
theorem m_nb (hL : Lay M0) (hB : MB M0 b C R) (hw : w = mW_ M0 b C R s) (hs : s < 8) (M : am_M) (σ : Bf) (Q : Option Value → am_M → Prop) (h : gPr C R p k t u w M0 M σ) (x y : Int32)
    (hc : (∃ x0 y0, x = nI x0 ∧ y = nI y0 ∧ x0 < C ∧ y0 < R ∧ nbr u (16 * y0 + x0)) ∨ ¬ ((0 ≤ x.toInt ∧ x.toInt < C) ∧ (0 ≤ y.toInt ∧ y.toInt < R)))
    (hQ : ∀ M' σ', gPr C R p k t u w M0 M' σ' → (∀ c v, σ.1 c = some v → σ'.1 c = some v) → (∀ x0 y0, x = nI x0 → y = nI y0 → x0 < C → y0 < R → w (16 * y0 + x0) → ∃ v, σ'.1 (16 * y0 + x0) = some v ∧ v ≤ t + 1) → Q none M') :
    am_E am_P0 (d + 2) 236 [.ref 277, .int (nI s), .int x, .int y, .int (nI (t + 1))] M Q := by
  obtain ⟨h1, h2, h3, h4⟩ := h
  have hLM := onlyG_Lay h1 hL
  have hBM := MB_G hB h1
  have hC16 := hB.2.2.2.2.2.1
  have hR16 := hB.2.2.2.2.2.2.2
  rcases hc with ⟨x0, y0, rfl, rfl, hx, hy, hn⟩ | hv
  · have ht : t < σ.2.2 := (h2.2.2.2.1 _ _ h3.2.2.2.2.2.2).2
    refine c_m_reach1 d s b C R x0 y0 (t + 1) M Q σ hLM hBM hs hx hy (by omega) h2 (fun M' g1 g2 => ?_)
    have ew : mW_ M b C R s = w := by rw [hw, mW_G h1]
    rw [ew] at g2
    rw [← h4] at hn
    obtain ⟨j1, j2, j3, j4⟩ := bfJ_rch h3 hn
    refine hQ M' _ ⟨onlyG_trans h1 g1, g2, j1, by rw [j2]; exact h4⟩ j3 (fun x1 y1 e1 e2 q1 q2 hwd => ?_)
    have f1 : x0 = x1 := by rw [ni_eq (by omega) (by omega)] at e1; exact e1
    have f2 : y0 = y1 := by rw [ni_eq (by omega) (by omega)] at e2; exact e2
    subst f1; subst f2
    exact j4 hwd
  · refine c_m_reach0 d b C R (nI s) x y (nI (t + 1)) M Q hLM hBM hv ?_
    refine hQ M σ ⟨h1, h2, h3, h4⟩ (fun _ _ h => h) (fun x1 y1 e1 e2 q1 q2 => ?_)
    subst e1; subst e2
    exact absurd ⟨⟨by rw [ni_ti (by omega)]; omega, by rw [ni_ti (by omega)]; omega⟩, by rw [ni_ti (by omega)]; omega, by rw [ni_ti (by omega)]; omega⟩ hv
end
/-- how far each place is, as the model has it -/
def GoesP (M : am_M) (C R : Nat) (w : Nat → Prop) (p : Nat) : Prop := ∀ q, vld C R q → (∃ k, k ≤ 256 ∧ dst w p q k ∧ mI M 317 (cel C q) = nI k) ∨ ((∀ k, ¬ ball w p k q) ∧ mI M 317 (cel C q) = -1)
theorem GoesP_of {M : am_M} {C R p : Nat} {w : Nat → Prop} {σ : Bf} (h : BfM M C R σ) (hI : bfI w p σ.2.2 σ) (hp : w p → σ.1 p = some 0) : GoesP M C R w p := by
  intro q hq
  have he := bf_end hI hp q
  have h1 := h.1 q hq
  have hle := cnt_le (fun p => (σ.1 p).isSome) 256
  have h5 := h.2.2.2.2
  cases hm : σ.1 q with
  | none =>
    rw [hm] at h1
    refine Or.inr ⟨fun k hk => ?_, h1⟩
    obtain ⟨u, hu, -⟩ := (he k).mp hk
    rw [hm] at hu; cases hu
  | some k =>
    rw [hm] at h1
    have hk := (h.2.2.2.1 q k hm).2
    refine Or.inl ⟨k, by omega, ⟨(he k).mpr ⟨k, hm, Nat.le_refl _⟩, fun j hj hb => ?_⟩, h1⟩
    obtain ⟨u, hu, hle⟩ := (he j).mp hb
    rw [hm] at hu
    cases hu
    omega
theorem l_m_goes (d s b C R p : Nat) (M0 : am_M) (Q : Option Value → am_M → Prop) (hL : Lay M0) (hB : MB M0 b C R) (hs : s < 8) (x2 : Int32) (hQ : ∀ M', onlyG M0 M' → GoesP M' C R (mW_ M0 b C R s) p → Q none M') :
    ∀ (m k : Nat), k + m = 257 → ∀ (M : am_M) (σ : Bf) (v4 v5 v6 : Value), onlyG M0 M → BfM M C R σ → k ≤ σ.2.2 → bfI (mW_ M0 b C R s) p k σ → (mW_ M0 b C R s p → σ.1 p = some 0) →
    am_P am_P0 (d + 3) (am_look tX11_goes) 46 [.ref 277, .int (nI s), .int x2, .int (nI k), v4, v5, v6] [] M Q := by
  obtain ⟨w, hwd⟩ : ∃ w, w = mW_ M0 b C R s := ⟨_, rfl⟩
  rw [← hwd] at hQ ⊢
  have hC1 := hB.2.2.2.2.1
  have hC16 := hB.2.2.2.2.2.1
  have hR16 := hB.2.2.2.2.2.2.2
  intro m
  induction m with
  | zero =>
    intro k hk M σ v4 v5 v6 hM hσ hks hI hp0
    have hle := cnt_le (fun p => (σ.1 p).isSome) 256
    have h5 := hσ.2.2.2.2
    omega
  | succ m ih =>
    intro k hk M σ v4 v5 v6 hM hσ hks hI hp0
    have hLM := onlyG_Lay hM hL
    have hle := cnt_le (fun p => (σ.1 p).isSome) 256
    have h5 := hσ.2.2.2.2
    have hn := hσ.2.2.1
    rw [hX11_goes_46]
    by_cases hke : k = σ.2.2
    · have hle2 : nI σ.2.2 ≤ nI k := (ni_le (by omega) (by omega)).mpr (by omega)
      simp +decide only [qX11_goes_0, qX11_goes_1, qX11_goes_2, lm hLM, hn, am_w1_i, am_w1_r, am_w1_x, am_w1_l, am_w1_w, va_rf_s, am_push_n, am_push_s, am_cs_0, am_cs_i, am_cs_l, am_cs_r, m_uI_K, m_uI_N, m_uI_R, m_uI_L, m_uI_I, m_uL_K, m_uL_N, m_uL_R, m_uL_I, m_uL_L, m_uR_K, m_uR_N, m_uR_I, m_uR_L, m_uR_R, true_and, and_true]
      rw [br_p hle2]
      rw [hke] at hI
      exact hQ M hM (GoesP_of hσ hI hp0)
    · have hlt : ¬ nI σ.2.2 ≤ nI k := by rw [ni_le (by omega) (by omega)]; omega
      rcases hI with ⟨hk2, t, hJ⟩ | ⟨hk2, -⟩
      · obtain ⟨hu, hq⟩ := hσ.2.1 k hk2
        obtain ⟨u, hue⟩ : ∃ u, u = σ.2.1 k := ⟨_, rfl⟩
        rw [← hue] at hu hq
        have hul := cel_lt hC16 hR16 hu
        have htk : σ.1 u = some t := by rw [hue]; exact hJ.2.2.2.2.2.2
        have ht : t < σ.2.2 := (hσ.2.2.2.1 _ _ htk).2
        have hBM := MB_G hB hM
        have em : cel C u % C = u % 16 := by
          unfold cel
          rw [Nat.mul_add_mod, Nat.mod_eq_of_lt hu.1]
        have ed : cel C u / C = u / 16 := by
          unfold cel
          rw [Nat.mul_add_div (by omega), Nat.div_eq_of_lt hu.1, Nat.add_zero]
        have hcol := fun Q => c_m_columnOf (d + 2) (cel C u) M Q hLM b C hBM.1 hBM.2.1 hBM.2.2.1 (by omega) hC16 hul.2.1
        have hrow := fun Q => c_m_rowOf (d + 2) (cel C u) M Q hLM b C hBM.1 hBM.2.1 hBM.2.2.1 (by omega) hC16 hul.2.1
        have hst : ∀ (M' : am_M) (σ' : Bf), gPr C R p k t u w M0 M' σ' → mI M' 317 (cel C u) = nI t := fun M' σ' g => by
          have h1 := g.2.1.1 u hu
          have h2 := g.2.2.1.2.2.2.2.2.2
          rw [g.2.2.2] at h2
          rw [h2] at h1
          exact h1
        have g0 : gPr C R p k t u w M0 M σ := ⟨hM, hσ, hJ, hue.symm⟩
        have s0 := hst M σ g0
        have hx1 : nI (u % 16) - 1 = if u % 16 = 0 then -1 else nI (u % 16 - 1) := by
          split
          · rename_i e; rw [e]; rfl
          · rw [show (1 : Int32) = nI 1 from rfl, ni_sub (by omega)]
        have hy1 : nI (u / 16) - 1 = if u / 16 = 0 then -1 else nI (u / 16 - 1) := by
          split
          · rename_i e; rw [e]; rfl
          · rw [show (1 : Int32) = nI 1 from rfl, ni_sub (by omega)]
        have m1 : (-1 : Int32).toInt = -1 := rfl
        have hu1 := hu.1
        have hu2 := hu.2
        simp +decide (disch := omega) only [qX11_goes_0, qX11_goes_1, qX11_goes_2, lm hLM, hn, hq, hcol, hrow, em, ed, s0, ni_in_t, ni_tn, ni_add1, am_w1_i, am_w1_r, am_w1_x, am_w1_l, am_w1_w, va_rf_s, am_push_n, am_push_s, am_cs_0, am_cs_i, am_cs_l, am_cs_r, m_uI_K, m_uI_N, m_uI_R, m_uI_L, m_uI_I, m_uL_K, m_uL_N, m_uL_R, m_uL_I, m_uL_L, m_uR_K, m_uR_N, m_uR_I, m_uR_L, m_uR_R, true_and, and_true]
        rw [br_n hlt]
        refine m_nb d s b C R p k t u w M0 hL hB hwd hs M σ _ g0 _ _ ?_ (fun M1 σ1 g1 f1 n1 => ?_)
        · rw [hx1]
          by_cases e : u % 16 = 0
          · rw [if_pos e]; exact Or.inr (by rw [m1]; omega)
          · rw [if_neg e]; exact Or.inl ⟨_, _, rfl, rfl, by omega, hu2, by unfold nbr; omega⟩
        have L1 := onlyG_Lay g1.1 hL
        have s1 := hst M1 σ1 g1
        simp +decide (disch := omega) only [qX11_goes_0, qX11_goes_1, qX11_goes_2, lm L1, s1, ni_in_t, ni_tn, ni_add1, am_w1_i, am_w1_r, am_w1_x, am_w1_l, am_w1_w, va_rf_s, am_push_n, am_push_s, am_cs_0, am_cs_i, am_cs_l, am_cs_r, m_uI_K, m_uI_N, m_uI_R, m_uI_L, m_uI_I, m_uL_K, m_uL_N, m_uL_R, m_uL_I, m_uL_L, m_uR_K, m_uR_N, m_uR_I, m_uR_L, m_uR_R, true_and, and_true]
        refine m_nb d s b C R p k t u w M0 hL hB hwd hs M1 σ1 _ g1 _ _ ?_ (fun M2 σ2 g2 f2 n2 => ?_)
        · by_cases e : u % 16 + 1 < C
          · exact Or.inl ⟨_, _, rfl, rfl, e, hu2, by unfold nbr; omega⟩
          · exact Or.inr (by rw [ni_ti (by omega)]; omega)
        have L2 := onlyG_Lay g2.1 hL
        have s2 := hst M2 σ2 g2
        simp +decide (disch := omega) only [qX11_goes_0, qX11_goes_1, qX11_goes_2, lm L2, s2, ni_in_t, ni_tn, ni_add1, am_w1_i, am_w1_r, am_w1_x, am_w1_l, am_w1_w, va_rf_s, am_push_n, am_push_s, am_cs_0, am_cs_i, am_cs_l, am_cs_r, m_uI_K, m_uI_N, m_uI_R, m_uI_L, m_uI_I, m_uL_K, m_uL_N, m_uL_R, m_uL_I, m_uL_L, m_uR_K, m_uR_N, m_uR_I, m_uR_L, m_uR_R, true_and, and_true]
        refine m_nb d s b C R p k t u w M0 hL hB hwd hs M2 σ2 _ g2 _ _ ?_ (fun M3 σ3 g3 f3 n3 => ?_)
        · rw [hy1]
          by_cases e : u / 16 = 0
          · rw [if_pos e]; exact Or.inr (by rw [m1]; omega)
          · rw [if_neg e]; exact Or.inl ⟨_, _, rfl, rfl, hu1, by omega, by unfold nbr; omega⟩
        have L3 := onlyG_Lay g3.1 hL
        have s3 := hst M3 σ3 g3
        simp +decide (disch := omega) only [qX11_goes_0, qX11_goes_1, qX11_goes_2, lm L3, s3, ni_in_t, ni_tn, ni_add1, am_w1_i, am_w1_r, am_w1_x, am_w1_l, am_w1_w, va_rf_s, am_push_n, am_push_s, am_cs_0, am_cs_i, am_cs_l, am_cs_r, m_uI_K, m_uI_N, m_uI_R, m_uI_L, m_uI_I, m_uL_K, m_uL_N, m_uL_R, m_uL_I, m_uL_L, m_uR_K, m_uR_N, m_uR_I, m_uR_L, m_uR_R, true_and, and_true]
        refine m_nb d s b C R p k t u w M0 hL hB hwd hs M3 σ3 _ g3 _ _ ?_ (fun M4 σ4 g4 f4 n4 => ?_)
        · by_cases e : u / 16 + 1 < R
          · exact Or.inl ⟨_, _, rfl, rfl, hu1, e, by unfold nbr; omega⟩
          · exact Or.inr (by rw [ni_ti (n := u / 16 + 1) (by omega)]; omega)
        simp +decide (disch := omega) only [qX11_goes_0, qX11_goes_1, qX11_goes_2, ni_add1, am_w1_i, am_w1_r, am_w1_x, am_w1_l, am_w1_w, va_rf_s, am_push_n, am_push_s, am_cs_0, am_cs_i, am_cs_l, am_cs_r, m_uI_K, m_uI_N, m_uI_R, m_uI_L, m_uI_I, m_uL_K, m_uL_N, m_uL_R, m_uL_I, m_uL_L, m_uR_K, m_uR_N, m_uR_I, m_uR_L, m_uR_R, true_and, and_true]
        refine ih (k + 1) (by omega) M4 σ4 _ _ _ g4.1 g4.2.1 g4.2.2.1.2.2.2.2.2.1 (bfI_next g4.2.2.1 (fun e hn he => ?_)) (fun hw => f4 _ _ (f3 _ _ (f2 _ _ (f1 _ _ (hp0 hw)))))
        rw [g4.2.2.2] at hn
        have hev : vld C R e := by rw [hwd] at he; exact he.1
        have hee : 16 * (e / 16) + e % 16 = e := by omega
        unfold nbr at hn
        unfold vld at hev
        rcases hn with ⟨q1, q2⟩ | ⟨q1, q2⟩ | q1 | q1
        · obtain ⟨v, hv, hv2⟩ := n2 (e % 16) (e / 16) (by congr 1; omega) (by congr 1; omega) hev.1 hev.2 (by rw [hee]; exact he)
          rw [hee] at hv
          exact ⟨v, f4 _ _ (f3 _ _ hv), hv2⟩
        · obtain ⟨v, hv, hv2⟩ := n1 (e % 16) (e / 16) (by rw [hx1, if_neg (by omega)]; congr 1; omega) (by congr 1; omega) hev.1 hev.2 (by rw [hee]; exact he)
          rw [hee] at hv
          exact ⟨v, f4 _ _ (f3 _ _ (f2 _ _ hv)), hv2⟩
        · obtain ⟨v, hv, hv2⟩ := n4 (e % 16) (e / 16) (by congr 1; omega) (by congr 1; omega) hev.1 hev.2 (by rw [hee]; exact he)
          rw [hee] at hv
          exact ⟨v, hv, hv2⟩
        · obtain ⟨v, hv, hv2⟩ := n3 (e % 16) (e / 16) (by congr 1; omega) (by rw [hy1, if_neg (by omega)]; congr 1; omega) hev.1 hev.2 (by rw [hee]; exact he)
          rw [hee] at hv
          exact ⟨v, f4 _ _ hv, hv2⟩
      · omega
theorem l_m_goes0 (d s b C R p : Nat) (M : am_M) (Q : Option Value → am_M → Prop) (hL : Lay M) (hB : MB M b C R) (x2 : Int32) (v4 v5 v6 : Value) (hE : am_P am_P0 (d + 3) (am_look tX11_goes) 23 [.ref 277, .int (nI s), .int x2, .int (nI (C * R)), v4, v5, v6] [] (uA M 317 (fun j => if j < C * R then -1 else mI M 317 j)) Q) :
    ∀ (m k : Nat), k + m = C * R → am_P am_P0 (d + 3) (am_look tX11_goes) 2 [.ref 277, .int (nI s), .int x2, .int (nI k), v4, v5, v6] [] (uA M 317 (fun j => if j < k then -1 else mI M 317 j)) Q := by
  obtain ⟨b1, b2, b3, b4, b5, b6, b7, b8⟩ := hB
  have hcr : C * R ≤ 16 * 16 := Nat.mul_le_mul b6 b8
  have hcells : ∀ (f : Nat → Int32) Q, am_E am_P0 (d + 2) 214 [.ref 277] (uA M 317 f) Q ↔ Q (some (.int (nI (C * R)))) (uA M 317 f) := fun f Q => c_m_cells (d + 2) (uA M 317 f) Q (Lay_S hL rfl (fun _ _ => rfl)) b C R (by rw [uA_I, if_neg (by decide)]; exact b1) b2 (by rw [uA_I, if_neg (by decide)]; exact b3) (by rw [uA_I, if_neg (by decide)]; exact b4)
  intro m
  induction m with
  | zero =>
    intro k hk
    have e : k = C * R := by omega
    subst e
    have hle : nI (C * R) ≤ nI (C * R) := (ni_le (by omega) (by omega)).mpr (Nat.le_refl _)
    rw [hX11_goes_2]
    simp +decide only [qX11_goes_0, qX11_goes_1, qX11_goes_2, lm hL, uA_K, uA_N, uA_R, hcells, am_w1_i, am_w1_r, am_w1_x, am_w1_l, am_w1_w, va_rf_s, am_push_n, am_push_s, am_cs_0, am_cs_i, am_cs_l, am_cs_r, m_uI_K, m_uI_N, m_uI_R, m_uI_L, m_uI_I, m_uL_K, m_uL_N, m_uL_R, m_uL_I, m_uL_L, m_uR_K, m_uR_N, m_uR_I, m_uR_L, m_uR_R, true_and, and_true] at hE ⊢
    rw [br_p hle]
    exact hE
  | succ m ih =>
    intro k hk
    have hlt : ¬ nI (C * R) ≤ nI k := by rw [ni_le (by omega) (by omega)]; omega
    rw [hX11_goes_2]
    simp +decide (disch := omega) only [qX11_goes_0, qX11_goes_1, qX11_goes_2, lm hL, uA_K, uA_N, uA_R, hcells, ni_in_t, ni_tn, ni_add1, am_w1_i, am_w1_r, am_w1_x, am_w1_l, am_w1_w, va_rf_s, am_push_n, am_push_s, am_cs_0, am_cs_i, am_cs_l, am_cs_r, m_uI_K, m_uI_N, m_uI_R, m_uI_L, m_uI_I, m_uL_K, m_uL_N, m_uL_R, m_uL_I, m_uL_L, m_uR_K, m_uR_N, m_uR_I, m_uR_L, m_uR_R, true_and, and_true]
    rw [br_n hlt, uI_A]
    have e : (fun j => if j = k then (-1 : Int32) else if j < k then -1 else mI M 317 j) = (fun j => if j < k + 1 then -1 else mI M 317 j) := by
      funext j
      by_cases h1 : j = k
      · rw [if_pos h1, if_pos (by omega)]
      · rw [if_neg h1]
        by_cases h2 : j < k
        · rw [if_pos h2, if_pos (by omega)]
        · rw [if_neg h2, if_neg (by omega)]
    rw [e]
    exact ih (k + 1) (by omega)
/-- the model's goes -/
theorem c_m_goes (d s b C R p : Nat) (M : am_M) (Q : Option Value → am_M → Prop) (hL : Lay M) (hB : MB M b C R) (hs : s < 8) (hp : vld C R p) (hQ : ∀ M', onlyG M M' → GoesP M' C R (mW_ M b C R s) p → Q none M') : am_E am_P0 (d + 3) 237 [.ref 277, .int (nI s), .int (nI (cel C p))] M Q := by
  have hB' := hB
  obtain ⟨b1, b2, b3, b4, b5, b6, b7, b8⟩ := hB'
  have hpl := cel_lt b6 b8 hp
  have hp1 := hp.1
  have hp2 := hp.2
  rw [eX11_goes]
  simp +decide only [qX11_goes_0, qX11_goes_1, qX11_goes_2, am_w1_i, am_w1_r, am_w1_x, am_w1_l, am_w1_w, va_rf_s, am_push_n, am_push_s, am_cs_0, am_cs_i, am_cs_l, am_cs_r, m_uI_K, m_uI_N, m_uI_R, m_uI_L, m_uI_I, m_uL_K, m_uL_N, m_uL_R, m_uL_I, m_uL_L, m_uR_K, m_uR_N, m_uR_I, m_uR_L, m_uR_R, true_and, and_true]
  have e0 : uA M 317 (fun j => if j < 0 then -1 else mI M 317 j) = M := by
    have : (fun j => if j < 0 then (-1 : Int32) else mI M 317 j) = (fun j => mI M 317 j) := by funext j; rw [if_neg (by omega)]
    rw [this, uA_id]
  have hl := l_m_goes0 d s b C R p M Q hL hB (nI (cel C p)) am_x am_x am_x ?_ (C * R) 0 (by omega)
  · rw [e0] at hl
    exact hl
  · obtain ⟨M1, hM1⟩ : ∃ M1, M1 = uI (uA M 317 (fun j => if j < C * R then -1 else mI M 317 j)) 277 59 0 := ⟨_, rfl⟩
    have g1 : onlyG M M1 := by
      rw [hM1]
      exact ⟨fun a j q1 q2 q3 => by rw [m_uI_I, if_neg q3, uA_I, if_neg q1], fun _ _ => rfl, fun _ _ => rfl, rfl⟩
    have L1 := onlyG_Lay g1 hL
    have B1 := MB_G hB g1
    have em : cel C p % C = p % 16 := by
      unfold cel
      rw [Nat.mul_add_mod, Nat.mod_eq_of_lt hp.1]
    have ed : cel C p / C = p / 16 := by
      unfold cel
      rw [Nat.mul_add_div (by omega), Nat.div_eq_of_lt hp.1, Nat.add_zero]
    have hcol := fun Q => c_m_columnOf (d + 2) (cel C p) M1 Q L1 b C B1.1 B1.2.1 B1.2.2.1 (by omega) b6 hpl.2.1
    have hrow := fun Q => c_m_rowOf (d + 2) (cel C p) M1 Q L1 b C B1.1 B1.2.1 B1.2.2.1 (by omega) b6 hpl.2.1
    simp +decide only [qX11_goes_0, qX11_goes_1, qX11_goes_2, lm hL, uA_K, uA_N, uA_R, am_w1_i, am_w1_r, am_w1_x, am_w1_l, am_w1_w, va_rf_s, am_push_n, am_push_s, am_cs_0, am_cs_i, am_cs_l, am_cs_r, m_uI_K, m_uI_N, m_uI_R, m_uI_L, m_uI_I, m_uL_K, m_uL_N, m_uL_R, m_uL_I, m_uL_L, m_uR_K, m_uR_N, m_uR_I, m_uR_L, m_uR_R, true_and, and_true]
    rw [← hM1]
    simp +decide only [hcol, hrow, em, ed, qX11_goes_0, qX11_goes_1, qX11_goes_2, lm L1, am_w1_i, am_w1_r, am_w1_x, am_w1_l, am_w1_w, va_rf_s, am_push_n, am_push_s, am_cs_0, am_cs_i, am_cs_l, am_cs_r, m_uI_K, m_uI_N, m_uI_R, m_uI_L, m_uI_I, m_uL_K, m_uL_N, m_uL_R, m_uL_I, m_uL_L, m_uR_K, m_uR_N, m_uR_I, m_uR_L, m_uR_R, true_and, and_true]
    have hσ0 : BfM M1 C R bf0 := by
      refine ⟨fun q hq => ?_, fun j hj => absurd hj (Nat.not_lt_zero _), ?_, fun q t h => (by cases h), cnt_0 (g := fun p => (bf0.1 p).isSome) (fun t => by simp [bf0]) 256⟩
      · have hql := cel_lt b6 b8 hq
        rw [hM1, m_uI_I, if_neg (fun z => absurd z.1 (by decide)), uA_I, if_pos rfl, if_pos hql.1]
        rfl
      · rw [hM1, m_uI_I, if_pos ⟨rfl, rfl⟩]
        rfl
    refine c_m_reach1 d s b C R (p % 16) (p / 16) 0 M1 _ bf0 L1 B1 hs hp.1 hp.2 (Nat.le_refl _) hσ0 (fun M2 g2 h2 => ?_)
    rw [show 16 * (p / 16) + p % 16 = p by omega, mW_G g1] at h2
    simp +decide only [qX11_goes_0, qX11_goes_1, qX11_goes_2, am_w1_i, am_w1_r, am_w1_x, am_w1_l, am_w1_w, va_rf_s, am_push_n, am_push_s, am_cs_0, am_cs_i, am_cs_l, am_cs_r, m_uI_K, m_uI_N, m_uI_R, m_uI_L, m_uI_I, m_uL_K, m_uL_N, m_uL_R, m_uL_I, m_uL_L, m_uR_K, m_uR_N, m_uR_I, m_uR_L, m_uR_R, true_and, and_true]
    obtain ⟨i1, i2⟩ := bf_start (w := mW_ M b C R s) (p := p)
    exact l_m_goes d s b C R p M Q hL hB hs _ hQ 257 0 (by omega) M2 _ _ _ _ (onlyG_trans g1 g2) h2 (Nat.zero_le _) i1 i2
