/-! chance (model), beyond -/
def s333 (a _j : Nat) : Prop := a = 333
section
variable (d L s b0 : Nat) (M0 : am_M) (Q : Option Value → am_M → Prop) (x2 : Int32)
theorem l_m_ch0 (hL0 : Lay M0) (b : Nat) (v5 v6 : Value) (j5 : jk v5) (j6 : jk v6)
    (hN : ∀ M', gF s333 nT M0 M' → (∀ k, k < 50 → mL M' 333 k = zL (od L 0 k : Int)) → am_P am_P0 d (am_look tX11_chanceOf) 77 [.ref 277, .int (nI s), .int x2, .int (nI b), .int 0, v5, v6] [] M' Q) :
    ∀ (m j : Nat), j + m = 50 → ∀ (M : am_M), gF s333 nT M0 M → (∀ k, k < j → mL M 333 k = zL (od L 0 k : Int)) → am_P am_P0 d (am_look tX11_chanceOf) 42 [.ref 277, .int (nI s), .int x2, .int (nI b), .int (nI j), v5, v6] [] M Q := by
  intro m
  induction m with
  | zero =>
    intro j hj M hM hv
    have ej : j = 50 := by omega
    subst ej
    have h0 := hN M hM hv
    rw [hX11_chanceOf_42]
    simp +decide only [qX11_chanceOf_0, qX11_chanceOf_1, qX11_chanceOf_2, show nI 50 = (50 : Int32) from rfl, jk_w j5, jk_w j6, am_w1_i, am_w1_r, am_w1_x, am_w1_l, am_w1_w, va_rf_s, am_push_n, am_push_s, am_cs_0, am_cs_i, am_cs_l, am_cs_r, m_uI_K, m_uI_N, m_uI_R, m_uI_L, m_uI_I, m_uL_K, m_uL_N, m_uL_R, m_uL_I, m_uL_L, m_uR_K, m_uR_N, m_uR_I, m_uR_L, m_uR_R, true_and, and_true, true_implies, false_implies, not_true_eq_false, not_false_eq_true, if_true, if_false, false_and, and_false] at h0 ⊢
    exact h0
  | succ m ih =>
    intro j hj M hM hv
    have hL := gF_LayN hM hL0
    have hlt : ¬ (50 : Int32) ≤ nI j := by rw [show (50 : Int32) = nI 50 from rfl, ni_le (by omega) (by omega)]; omega
    have w1 : gF s333 nT M (uL M 333 j (zL (od L 0 j : Int))) := gF_l _ rfl
    have h0 := ih (j + 1) (by omega) (uL M 333 j (zL (od L 0 j : Int))) (gF_trans hM w1) (fun k hk => by
      rw [m_uL_L]
      by_cases e : k = j
      · rw [if_pos ⟨rfl, e⟩, e]
      · rw [if_neg (by omega)]; exact hv k (by omega))
    have ez : nI j = 0 ↔ j = 0 := by rw [show (0 : Int32) = nI 0 from rfl, ni_eq (by omega) (by omega)]
    rw [show od L 0 j = (if j = 0 then 1000000000000 else 0) from rfl] at h0
    rw [hX11_chanceOf_42]
    simp +decide (disch := omega) only [qX11_chanceOf_0, qX11_chanceOf_1, qX11_chanceOf_2, lm hL, ez, ni_in_t, ni_tn, ni_add1, jk_w j5, jk_w j6, Classical.not_not, am_w1_i, am_w1_r, am_w1_x, am_w1_l, am_w1_w, va_rf_s, am_push_n, am_push_s, am_cs_0, am_cs_i, am_cs_l, am_cs_r, m_uI_K, m_uI_N, m_uI_R, m_uI_L, m_uI_I, m_uL_K, m_uL_N, m_uL_R, m_uL_I, m_uL_L, m_uR_K, m_uR_N, m_uR_I, m_uR_L, m_uR_R, true_and, and_true, true_implies, false_implies, not_true_eq_false, not_false_eq_true, if_true, if_false, false_and, and_false]
    first | rw [br_n (hlt)] | rw [br_q (hlt)] | rw [br_u (hlt)]
    by_cases c : j = 0
    · rw [if_pos c] at h0
      first | rw [br_p (c)] | rw [br_r (c)] | rw [br_s (c)]
      exact h0
    · rw [if_neg c] at h0
      first | rw [br_n (c)] | rw [br_q (c)] | rw [br_u (c)]
      exact h0
theorem l_m_ch2 (hL0 : Lay M0) (hb0 : mI M0 277 12 = nI b0) (hb2 : b0 < 2) (hlk : mI M0 303 b0 = nI L) (hLk : L ≤ 100) (b t : Nat) (v6 : Value) (j6 : jk v6)
    (hN : ∀ M' v5, gF s333 nT M0 M' → jk v5 → (∀ k, k < 50 → mL M' 333 k = zL (od L (t + 1) k : Int)) → am_P am_P0 d (am_look tX11_chanceOf) 77 [.ref 277, .int (nI s), .int x2, .int (nI b), .int (nI (t + 1)), v5, v6] [] M' Q) (hbt : t < 1000) :
    ∀ (j : Nat), j ≤ 50 → ∀ (M : am_M) (x : Int32), x.toInt = (j : Int) - 1 → gF s333 nT M0 M → (∀ k, k < 50 → mL M 333 k = zL ((if j ≤ k then od L (t + 1) k else od L t k : Nat) : Int)) → am_P am_P0 d (am_look tX11_chanceOf) 87 [.ref 277, .int (nI s), .int x2, .int (nI b), .int (nI t), .int x, v6] [] M Q := by
  intro j
  induction j with
  | zero =>
    intro hj M x hx hM hv
    have hlt : x < 0 := by rw [lt32, z32]; omega
    have h0 := hN M (.int x) hM (Or.inr ⟨_, rfl⟩) (fun k hk => by rw [hv k hk, if_pos (by omega)])
    rw [hX11_chanceOf_87]
    simp +decide only [qX11_chanceOf_0, qX11_chanceOf_1, qX11_chanceOf_2, ni_add1, jk_w j6, am_w1_i, am_w1_r, am_w1_x, am_w1_l, am_w1_w, va_rf_s, am_push_n, am_push_s, am_cs_0, am_cs_i, am_cs_l, am_cs_r, m_uI_K, m_uI_N, m_uI_R, m_uI_L, m_uI_I, m_uL_K, m_uL_N, m_uL_R, m_uL_I, m_uL_L, m_uR_K, m_uR_N, m_uR_I, m_uR_L, m_uR_R, true_and, and_true, true_implies, false_implies, not_true_eq_false, not_false_eq_true, if_true, if_false, false_and, and_false] at h0 ⊢
    first | rw [br_p (hlt)] | rw [br_r (hlt)] | rw [br_s (hlt)]
    exact h0
  | succ j ih =>
    intro hj M x hx hM hv
    have hL := gF_LayN hM hL0
    have ex : x = nI j := i32_of (by omega) (by omega)
    subst ex
    have hb0' : mI M 277 12 = nI b0 := by rw [hM.1 _ _ (by unfold s333; omega)]; exact hb0
    have hlk' : mI M 303 b0 = nI L := by rw [hM.1 _ _ (by unfold s333; omega)]; exact hlk
    have hnl : ¬ nI j < 0 := by rw [lt32, z32, ni_ti (by omega)]; omega
    have h1 := hv j (by omega)
    rw [if_neg (by omega)] at h1
    have w1 : gF s333 nT M (uL M 333 j (zL (od L (t + 1) j : Int))) := gF_l _ rfl
    have h0 := ih (by omega) (uL M 333 j (zL (od L (t + 1) j : Int))) (nI j + -1) (by
      cases j with
      | zero => decide
      | succ j => rw [ni_dec, ni_ti (by omega)]; omega) (gF_trans hM w1) (fun k hk => by
      rw [m_uL_L]
      by_cases e : k = j
      · rw [if_pos ⟨rfl, e⟩, e, if_pos (by omega)]
      · rw [if_neg (by omega), hv k hk]
        by_cases c : j + 1 ≤ k
        · rw [if_pos c, if_pos (by omega)]
        · rw [if_neg c, if_neg (by omega)])
    rw [od_t] at h0
    rw [hX11_chanceOf_87]
    simp +decide (disch := omega) only [qX11_chanceOf_0, qX11_chanceOf_1, qX11_chanceOf_2, lm hL, hb0', hlk', h1, ni_in_t, ni_tn, jk_w j6, am_w1_i, am_w1_r, am_w1_x, am_w1_l, am_w1_w, va_rf_s, am_push_n, am_push_s, am_cs_0, am_cs_i, am_cs_l, am_cs_r, m_uI_K, m_uI_N, m_uI_R, m_uI_L, m_uI_I, m_uL_K, m_uL_N, m_uL_R, m_uL_I, m_uL_L, m_uR_K, m_uR_N, m_uR_I, m_uR_L, m_uR_R, true_and, and_true, true_implies, false_implies, not_true_eq_false, not_false_eq_true, if_true, if_false, false_and, and_false]
    first | rw [br_n (hnl)] | rw [br_q (hnl)] | rw [br_u (hnl)]
    rw [ni_pos (by omega)]
    by_cases c : j = 0
    · have e := od_step0 hLk (od_le hLk t 0)
      have e2 : ∀ x : Int64, x + 0 = x := fun x => by simp
      subst c
      rw [if_pos rfl] at h0
      simp +decide only [e2, e, am_w1_i, am_w1_r, am_w1_x, am_w1_l, am_w1_w, va_rf_s, am_push_n, am_push_s, am_cs_0, am_cs_i, am_cs_l, am_cs_r, m_uI_K, m_uI_N, m_uI_R, m_uI_L, m_uI_I, m_uL_K, m_uL_N, m_uL_R, m_uL_I, m_uL_L, m_uR_K, m_uR_N, m_uR_I, m_uR_L, m_uR_R, true_and, and_true, true_implies, false_implies, not_true_eq_false, not_false_eq_true, if_true, if_false, false_and, and_false]
      exact h0
    · obtain ⟨i, rfl⟩ : ∃ i, j = i + 1 := ⟨j - 1, by omega⟩
      have h2 := hv i (by omega)
      rw [if_neg (by omega)] at h2
      have e := od_step hLk (od_le hLk t (i + 1)) (od_le hLk t i)
      rw [if_neg (by omega), show i + 1 - 1 = i by omega] at h0
      first | rw [br_n (c)] | rw [br_q (c)] | rw [br_u (c)]
      simp +decide (disch := omega) only [ni_sub1, h2, e, ni_in_t, ni_tn, am_w1_i, am_w1_r, am_w1_x, am_w1_l, am_w1_w, va_rf_s, am_push_n, am_push_s, am_cs_0, am_cs_i, am_cs_l, am_cs_r, m_uI_K, m_uI_N, m_uI_R, m_uI_L, m_uI_I, m_uL_K, m_uL_N, m_uL_R, m_uL_I, m_uL_L, m_uR_K, m_uR_N, m_uR_I, m_uR_L, m_uR_R, true_and, and_true, true_implies, false_implies, not_true_eq_false, not_false_eq_true, if_true, if_false, false_and, and_false]
      exact h0
theorem l_m_ch1 (hL0 : Lay M0) (hb0 : mI M0 277 12 = nI b0) (hb2 : b0 < 2) (hlk : mI M0 303 b0 = nI L) (hLk : L ≤ 100) (b : Nat) (hb : b ≤ 46) (v6 : Value) (j6 : jk v6)
    (hN : ∀ M' v5, gF s333 nT M0 M' → jk v5 → (∀ k, k < 50 → mL M' 333 k = zL (od L b k : Int)) → am_P am_P0 d (am_look tX11_chanceOf) 166 [.ref 277, .int (nI s), .int x2, .int (nI b), .int (nI b), v5, v6] [] M' Q) :
    ∀ (m t : Nat), t + m = b → ∀ (M : am_M) (v5 : Value), jk v5 → gF s333 nT M0 M → (∀ k, k < 50 → mL M 333 k = zL (od L t k : Int)) → am_P am_P0 d (am_look tX11_chanceOf) 77 [.ref 277, .int (nI s), .int x2, .int (nI b), .int (nI t), v5, v6] [] M Q := by
  intro m
  induction m with
  | zero =>
    intro t ht M v5 j5 hM hv
    have et : t = b := by omega
    subst et
    have hle : nI t ≤ nI t := (ni_le (by omega) (by omega)).mpr (by omega)
    have h0 := hN M v5 hM j5 hv
    rw [hX11_chanceOf_77]
    simp +decide only [qX11_chanceOf_0, qX11_chanceOf_1, qX11_chanceOf_2, jk_w j5, jk_w j6, am_w1_i, am_w1_r, am_w1_x, am_w1_l, am_w1_w, va_rf_s, am_push_n, am_push_s, am_cs_0, am_cs_i, am_cs_l, am_cs_r, m_uI_K, m_uI_N, m_uI_R, m_uI_L, m_uI_I, m_uL_K, m_uL_N, m_uL_R, m_uL_I, m_uL_L, m_uR_K, m_uR_N, m_uR_I, m_uR_L, m_uR_R, true_and, and_true, true_implies, false_implies, not_true_eq_false, not_false_eq_true, if_true, if_false, false_and, and_false] at h0 ⊢
    first | rw [br_p (hle)] | rw [br_r (hle)] | rw [br_s (hle)]
    exact h0
  | succ m ih =>
    intro t ht M v5 j5 hM hv
    have hlt : ¬ nI b ≤ nI t := by rw [ni_le (by omega) (by omega)]; omega
    have h9 := l_m_ch2 d L s b0 M0 Q x2 hL0 hb0 hb2 hlk hLk b t v6 j6 (fun M' v5' g' j5' v' => ih (t + 1) (by omega) M' v5' j5' g' v') (by omega) 50 (Nat.le_refl _) M 49 (by decide) hM (fun k hk => by rw [hv k hk, if_neg (by omega)])
    rw [hX11_chanceOf_77]
    simp +decide only [qX11_chanceOf_0, qX11_chanceOf_1, qX11_chanceOf_2, jk_w j5, jk_w j6, am_w1_i, am_w1_r, am_w1_x, am_w1_l, am_w1_w, va_rf_s, am_push_n, am_push_s, am_cs_0, am_cs_i, am_cs_l, am_cs_r, m_uI_K, m_uI_N, m_uI_R, m_uI_L, m_uI_I, m_uL_K, m_uL_N, m_uL_R, m_uL_I, m_uL_L, m_uR_K, m_uR_N, m_uR_I, m_uR_L, m_uR_R, true_and, and_true, true_implies, false_implies, not_true_eq_false, not_false_eq_true, if_true, if_false, false_and, and_false]
    first | rw [br_n (hlt)] | rw [br_q (hlt)] | rw [br_u (hlt)]
    exact h9
theorem l_m_ch3 (f : Nat → Nat) (M : am_M) (hL : Lay M) (hv : ∀ k, k < 50 → mL M 333 k = zL (f k : Int)) (g : Nat) (hg : g ≤ 48) (v3 : Value) (j3 : jk v3) (hQ : Q (some (.long (zL (csum f g (50 - g) : Int)))) M) :
    ∀ (m n : Nat), n + m = 50 - g → am_P am_P0 d (am_look tX11_chanceOf) 172 [.ref 277, .int (nI s), .int x2, v3, .long (zL (csum f g n : Int)), am_x, .int (nI (g + n))] [] M Q := by
  intro m
  induction m with
  | zero =>
    intro n hn
    have hle : (50 : Int32) ≤ nI (g + n) := by rw [show (50 : Int32) = nI 50 from rfl]; exact (ni_le (by omega) (by omega)).mpr (by omega)
    rw [show 50 - g = n by omega] at hQ
    rw [hX11_chanceOf_172]
    simp +decide only [qX11_chanceOf_0, qX11_chanceOf_1, qX11_chanceOf_2, am_w1_i, am_w1_r, am_w1_x, am_w1_l, am_w1_w, va_rf_s, am_push_n, am_push_s, am_cs_0, am_cs_i, am_cs_l, am_cs_r, m_uI_K, m_uI_N, m_uI_R, m_uI_L, m_uI_I, m_uL_K, m_uL_N, m_uL_R, m_uL_I, m_uL_L, m_uR_K, m_uR_N, m_uR_I, m_uR_L, m_uR_R, true_and, and_true, true_implies, false_implies, not_true_eq_false, not_false_eq_true, if_true, if_false, false_and, and_false]
    first | rw [br_p (hle)] | rw [br_r (hle)] | rw [br_s (hle)]
    exact hQ
  | succ m ih =>
    intro n hn
    have hlt : ¬ (50 : Int32) ≤ nI (g + n) := by rw [show (50 : Int32) = nI 50 from rfl, ni_le (by omega) (by omega)]; omega
    have h0 := ih (n + 1) (by omega)
    have e : zL (csum f g n : Int) + zL (f (g + n) : Int) = zL (csum f g (n + 1) : Int) := by rw [zL_add]; congr 1
    rw [← e] at h0
    rw [hX11_chanceOf_172]
    simp +decide (disch := omega) only [qX11_chanceOf_0, qX11_chanceOf_1, qX11_chanceOf_2, lm hL, hv (g + n) (by omega), ni_in_t, ni_tn, ni_add1, jk_w j3, am_w1_i, am_w1_r, am_w1_x, am_w1_l, am_w1_w, va_rf_s, am_push_n, am_push_s, am_cs_0, am_cs_i, am_cs_l, am_cs_r, m_uI_K, m_uI_N, m_uI_R, m_uI_L, m_uI_I, m_uL_K, m_uL_N, m_uL_R, m_uL_I, m_uL_L, m_uR_K, m_uR_N, m_uR_I, m_uR_L, m_uR_R, true_and, and_true, true_implies, false_implies, not_true_eq_false, not_false_eq_true, if_true, if_false, false_and, and_false]
    first | rw [br_n (hlt)] | rw [br_q (hlt)] | rw [br_u (hlt)]
    exact h0
end
theorem m_chanceOf {M : am_M} {b s : Nat} {D : Dat} (hD : dOK D) (hL : Lay M) (h : MdM M b D) (hs : s < dN D) (d : Nat) (Q : Option Value → am_M → Prop) (hQ : ∀ M', gF sMz nT M M' → Q (some (.long (zL (chN D s : Int)))) M') : am_E am_P0 (d + 9) 284 [.ref 277, .int (nI s)] M Q := by
  have n8 := dN_8 hD
  have hLk := hD.1.2.1
  have h48 := dY_len hD s
  have hsr := hD.1.2.2.2.2.1 s
  have hbt := betY_lt (Y := dY D s) (fun y hy => (hD.1.2.2.2.1 s y hy).1)
  have hgl : gpD D s 48 ≤ 48 := cnt_le _ _
  rw [eX11_chanceOf]
  simp +decide only [qX11_chanceOf_0, qX11_chanceOf_1, qX11_chanceOf_2, lm hL, am_w1_i, am_w1_r, am_w1_x, am_w1_l, am_w1_w, va_rf_s, am_push_n, am_push_s, am_cs_0, am_cs_i, am_cs_l, am_cs_r, m_uI_K, m_uI_N, m_uI_R, m_uI_L, m_uI_I, m_uL_K, m_uL_N, m_uL_R, m_uL_I, m_uL_L, m_uR_K, m_uR_N, m_uR_I, m_uR_L, m_uR_R, true_and, and_true, true_implies, false_implies, not_true_eq_false, not_false_eq_true, if_true, if_false, false_and, and_false]
  refine m_gapsOf hD hL h hs d _ (fun M1 g1 k1 _ => ?_)
  have L1 := gF_LayN g1 hL
  have h1 := MdM_q h g1
  have key : am_P am_P0 (d + 9) (am_look tX11_chanceOf) 38 [.ref 277, .int (nI s), .int (nI (gpD D s 48)), am_x, am_x, am_x, am_x] [.int (nI (betY (dY D s)))] M1 Q := by
    have h9 := l_m_ch0 (d + 9) (dLk D) s M1 Q (nI (gpD D s 48)) L1 (betY (dY D s)) am_x am_x (Or.inl rfl) (Or.inl rfl) (fun M2 g2 v2 => by
      exact l_m_ch1 (d + 9) (dLk D) s b M1 Q (nI (gpD D s 48)) L1 h1.1.1 h1.1.2 h1.2.2.1 hLk (betY (dY D s)) hbt am_x (Or.inl rfl) (fun M3 v5 g3 j5 v3 => by
        have L3 := gF_LayN g3 L1
        have h0 := hQ M3 (gF_trans (gF_up g1 (fun a j q => Or.inl q) (fun _ _ q => q)) (gF_up g3 (fun a j q => by unfold s333 at q; unfold sMz; omega) (fun _ _ q => q)))
        have e : csum (od (dLk D) (betY (dY D s))) (gpD D s 48) (50 - gpD D s 48) = chN D s := by
          unfold chN
          rw [show 50 - gpD D s 48 = 48 - gpD D s 48 + 1 + 1 by omega]
          show csum _ _ _ + od _ _ _ + od _ _ _ = _
          rw [od_0 _ _ (by omega), od_0 _ _ (by omega)]
          rfl
        rw [← e] at h0
        have h8 := l_m_ch3 (d + 9) s Q (nI (gpD D s 48)) (od (dLk D) (betY (dY D s))) M3 L3 v3 (gpD D s 48) hgl (.int (nI (betY (dY D s)))) (Or.inr ⟨_, rfl⟩) h0 (50 - gpD D s 48) 0 (by omega)
        simp +decide only [qX11_chanceOf_0, qX11_chanceOf_1, qX11_chanceOf_2, jk_w j5, am_w1_i, am_w1_r, am_w1_x, am_w1_l, am_w1_w, va_rf_s, am_push_n, am_push_s, am_cs_0, am_cs_i, am_cs_l, am_cs_r, m_uI_K, m_uI_N, m_uI_R, m_uI_L, m_uI_I, m_uL_K, m_uL_N, m_uL_R, m_uL_I, m_uL_L, m_uR_K, m_uR_N, m_uR_I, m_uR_L, m_uR_R, true_and, and_true, true_implies, false_implies, not_true_eq_false, not_false_eq_true, if_true, if_false, false_and, and_false]
        exact h8) (betY (dY D s)) 0 (by omega) M2 am_x (Or.inl rfl) g2 v2) 50 0 (by omega) M1 (gF_refl _ _ _) (fun k hk => by omega)
    simp +decide only [qX11_chanceOf_0, qX11_chanceOf_1, qX11_chanceOf_2, am_w1_i, am_w1_r, am_w1_x, am_w1_l, am_w1_w, va_rf_s, am_push_n, am_push_s, am_cs_0, am_cs_i, am_cs_l, am_cs_r, m_uI_K, m_uI_N, m_uI_R, m_uI_L, m_uI_I, m_uL_K, m_uL_N, m_uL_R, m_uL_I, m_uL_L, m_uR_K, m_uR_N, m_uR_I, m_uR_L, m_uR_R, true_and, and_true, true_implies, false_implies, not_true_eq_false, not_false_eq_true, if_true, if_false, false_and, and_false]
    exact h9
  have hn := k1.1.1.1
  have hh := k1.1.1.2
  by_cases c : (dY D s).length < 2
  · have e0 : betY (dY D s) = 0 := by unfold betY; rw [if_pos c]
    have hl : ¬ (2 : Int32) ≤ nI (dY D s).length := by rw [show (2 : Int32) = nI 2 from rfl, ni_le (by omega) (by omega)]; omega
    rw [e0] at key
    simp +decide (disch := omega) only [qX11_chanceOf_0, qX11_chanceOf_1, qX11_chanceOf_2, lm L1, hn, am_w1_i, am_w1_r, am_w1_x, am_w1_l, am_w1_w, va_rf_s, am_push_n, am_push_s, am_cs_0, am_cs_i, am_cs_l, am_cs_r, m_uI_K, m_uI_N, m_uI_R, m_uI_L, m_uI_I, m_uL_K, m_uL_N, m_uL_R, m_uL_I, m_uL_L, m_uR_K, m_uR_N, m_uR_I, m_uR_L, m_uR_R, true_and, and_true, true_implies, false_implies, not_true_eq_false, not_false_eq_true, if_true, if_false, false_and, and_false]
    first | rw [br_n (hl)] | rw [br_q (hl)] | rw [br_u (hl)]
    simp +decide only [qX11_chanceOf_0, qX11_chanceOf_1, qX11_chanceOf_2, am_w1_i, am_w1_r, am_w1_x, am_w1_l, am_w1_w, va_rf_s, am_push_n, am_push_s, am_cs_0, am_cs_i, am_cs_l, am_cs_r, m_uI_K, m_uI_N, m_uI_R, m_uI_L, m_uI_I, m_uL_K, m_uL_N, m_uL_R, m_uL_I, m_uL_L, m_uR_K, m_uR_N, m_uR_I, m_uR_L, m_uR_R, true_and, and_true, true_implies, false_implies, not_true_eq_false, not_false_eq_true, if_true, if_false, false_and, and_false] at key ⊢
    exact key
  · obtain ⟨y0, hy0⟩ : ∃ y, (dY D s)[0]? = some y := ⟨(dY D s)[0]'(by omega), List.getElem?_eq_getElem (by omega)⟩
    obtain ⟨yl, hyl⟩ : ∃ y, (dY D s)[(dY D s).length - 1]? = some y := ⟨(dY D s)[(dY D s).length - 1]'(by omega), List.getElem?_eq_getElem (by omega)⟩
    have hlt := srtY_lt hsr hy0 hyl (by omega)
    have e0 : betY (dY D s) = yl.1 - y0.1 - 1 := by unfold betY; rw [if_neg c, hyl, hy0]; rfl
    have hl : (2 : Int32) ≤ nI (dY D s).length := by rw [show (2 : Int32) = nI 2 from rfl]; exact (ni_le (by omega) (by omega)).mpr (by omega)
    have eL : nI (dY D s).length - 1 = nI ((dY D s).length - 1) := by rw [show (1 : Int32) = nI 1 from rfl, ni_sub (by omega)]
    have es : nI yl.1 - nI y0.1 - 1 = nI (betY (dY D s)) := by rw [show (1 : Int32) = nI 1 from rfl, ni_sub (by omega), ni_sub (by omega), e0]
    simp +decide (disch := omega) only [qX11_chanceOf_0, qX11_chanceOf_1, qX11_chanceOf_2, lm L1, hn, eL, hh 0 y0 hy0, hh _ yl hyl, es, show (Int32.toInt 0).toNat = 0 from rfl, ni_in_t, ni_tn, am_w1_i, am_w1_r, am_w1_x, am_w1_l, am_w1_w, va_rf_s, am_push_n, am_push_s, am_cs_0, am_cs_i, am_cs_l, am_cs_r, m_uI_K, m_uI_N, m_uI_R, m_uI_L, m_uI_I, m_uL_K, m_uL_N, m_uL_R, m_uL_I, m_uL_L, m_uR_K, m_uR_N, m_uR_I, m_uR_L, m_uR_R, true_and, and_true, true_implies, false_implies, not_true_eq_false, not_false_eq_true, if_true, if_false, false_and, and_false]
    first | rw [br_p (hl)] | rw [br_r (hl)] | rw [br_s (hl)]
    simp +decide only [qX11_chanceOf_0, qX11_chanceOf_1, qX11_chanceOf_2, am_w1_i, am_w1_r, am_w1_x, am_w1_l, am_w1_w, va_rf_s, am_push_n, am_push_s, am_cs_0, am_cs_i, am_cs_l, am_cs_r, m_uI_K, m_uI_N, m_uI_R, m_uI_L, m_uI_I, m_uL_K, m_uL_N, m_uL_R, m_uL_I, m_uL_L, m_uR_K, m_uR_N, m_uR_I, m_uR_L, m_uR_R, true_and, and_true, true_implies, false_implies, not_true_eq_false, not_false_eq_true, if_true, if_false, false_and, and_false] at key ⊢
    exact key
theorem m_chance (v : Int32) : MzO 285 [.int v] (aCha v) := by
  intro d M b D Q hD hL h hQ
  have n8 := dN_8 hD
  have eS := fun v Q => m_isShip hD hL h (d + 18) v Q
  unfold aCha at hQ
  rw [eX11_chance]
  simp +decide only [qX11_chance, lm hL, eS, bI_0, Classical.not_not, am_w1_i, am_w1_r, am_w1_x, am_w1_l, am_w1_w, va_rf_s, am_push_n, am_push_s, am_cs_0, am_cs_i, am_cs_l, am_cs_r, m_uI_K, m_uI_N, m_uI_R, m_uI_L, m_uI_I, m_uL_K, m_uL_N, m_uL_R, m_uL_I, m_uL_L, m_uR_K, m_uR_N, m_uR_I, m_uR_L, m_uR_R, true_and, and_true, true_implies, false_implies, not_true_eq_false, not_false_eq_true, if_true, if_false, false_and, and_false]
  by_cases hv : 0 ≤ v.toInt ∧ v.toInt < dN D
  · first | rw [br_p (hv)] | rw [br_r (hv)] | rw [br_s (hv)]
    rw [if_pos hv] at hQ
    obtain ⟨s, s1, s2, s3⟩ := sh_of (by omega) hv
    rw [s3] at hQ
    rw [s2]
    refine m_chanceOf hD hL h s1 (d + 10) _ (fun M1 g1 => ?_)
    have h0 := hQ M1 g1
    simp +decide only [qX11_chance, am_w1_i, am_w1_r, am_w1_x, am_w1_l, am_w1_w, va_rf_s, am_push_n, am_push_s, am_cs_0, am_cs_i, am_cs_l, am_cs_r, m_uI_K, m_uI_N, m_uI_R, m_uI_L, m_uI_I, m_uL_K, m_uL_N, m_uL_R, m_uL_I, m_uL_L, m_uR_K, m_uR_N, m_uR_I, m_uR_L, m_uR_R, true_and, and_true, true_implies, false_implies, not_true_eq_false, not_false_eq_true, if_true, if_false, false_and, and_false]
    exact h0
  · have h0 := hQ M (gF_refl _ _ _)
    rw [if_neg hv] at h0
    first | rw [br_n (hv)] | rw [br_q (hv)] | rw [br_u (hv)]
    exact h0
theorem op_chance (v : Int32) : OpI 135 285 [.int v] isJ := op_z (fun D => ⟨_, rfl⟩) (x_chance v) (m_chance v)
/-! beyond -/
def byP (D : Dat) (s : Nat) : Prop := ¬ gpD D s 48 = 0 ∧ chN D s * dN D < 50000000000
noncomputable def aBey (D : Dat) : Value := .int (btI (byP D) (dN D))
theorem by_cmp {D : Dat} (hD : dOK D) (s : Nat) : 0 ≤ lg_cmp (zL (chN D s : Int) * (nI (dN D)).toInt64) 50000000000 ↔ ¬ chN D s * dN D < 50000000000 := by
  have n8 := dN_8 hD
  have hc := chN_le hD s
  have hm : chN D s * dN D ≤ 48000000000000 * 8 := Nat.mul_le_mul hc n8
  rw [nI_L _ (by omega), zL_mul, show ((chN D s : Int) * (dN D : Int)) = ((chN D s * dN D : Nat) : Int) from by simp, show (50000000000 : Int64) = zL 50000000000 from rfl, lgc_z (by unfold sm_; omega) (by unfold sm_; omega), t3_nn]
  omega
theorem l_x_beyond (d z : Nat) (D : Dat) (M0 : am_M) (Q : Option Value → am_M → Prop) (hD : dOK D) (hQ : ∀ M', zF (sXq z) M0 M' → XR M' z D → Q (some (.int (btI (byP D) (dN D)))) M') :
    ∀ (m s : Nat), s + m = dN D → ∀ (M : am_M) (v3 : Value), (v3 = am_x ∨ ∃ x, v3 = .long x) → zF (sXq z) M0 M → XR M z D → am_P am_P0 (d + 8) (am_look tX10_beyond) 4 [.ref 0, .int (btI (byP D) s), .int (nI s), v3, am_x] [] M Q := by
  have n8 := dN_8 hD
  intro m
  induction m with
  | zero =>
    intro s hs M v3 hv3 hM h
    have hz := h.1.2.2.1
    have hL := h.1.1
    have hr := h.1.2.2.2.1
    have hle : nI (dN D) ≤ nI s := (ni_le (by omega) (by omega)).mpr (by omega)
    have h0 := hQ M hM h
    rw [hX10_beyond_4]
    simp +decide only [qX10_beyond, lx hL, lz hL hz, hr, (x_n h).1, am_w1_i, am_w1_r, am_w1_x, am_w1_l, am_w1_w, va_rf_s, am_push_n, am_push_s, am_cs_0, am_cs_i, am_cs_l, am_cs_r, m_uI_K, m_uI_N, m_uI_R, m_uI_L, m_uI_I, m_uL_K, m_uL_N, m_uL_R, m_uL_I, m_uL_L, m_uR_K, m_uR_N, m_uR_I, m_uR_L, m_uR_R, true_and, and_true, true_implies, false_implies, not_true_eq_false, not_false_eq_true, if_true, if_false, false_and, and_false]
    first | rw [br_p (hle)] | rw [br_r (hle)] | rw [br_s (hle)]
    rw [show s = dN D by omega]
    exact h0
  | succ m ih =>
    intro s hs M v3 hv3 hM h
    have hz := h.1.2.2.1
    have hL := h.1.1
    have hr := h.1.2.2.2.1
    have hlt : ¬ nI (dN D) ≤ nI s := by rw [ni_le (by omega) (by omega)]; omega
    have hgl : gpD D s 48 ≤ 48 := cnt_le _ _
    rw [hX10_beyond_4]
    simp +decide (disch := omega) only [qX10_beyond, lx hL, lz hL hz, hr, (x_n h).1, am_w1_i, am_w1_r, am_w1_x, am_w1_l, am_w1_w, va_rf_s, am_push_n, am_push_s, am_cs_0, am_cs_i, am_cs_l, am_cs_r, m_uI_K, m_uI_N, m_uI_R, m_uI_L, m_uI_I, m_uL_K, m_uL_N, m_uL_R, m_uL_I, m_uL_L, m_uR_K, m_uR_N, m_uR_I, m_uR_L, m_uR_R, true_and, and_true, true_implies, false_implies, not_true_eq_false, not_false_eq_true, if_true, if_false, false_and, and_false]
    first | rw [br_n (hlt)] | rw [br_q (hlt)] | rw [br_u (hlt)]
    refine x_chanceOf hD h (by omega) d _ (fun M1 f1 X1 e14 => ?_)
    have L1 := X1.1.1
    have hr1 := X1.1.2.2.2.1
    have hst := lt_ L1 (isTr_of (show s < 8 by omega))
    have htr := ltr L1 (show s < 8 by omega)
    have h0 := ih (s + 1) (by omega) M1 (.long (zL (chN D s : Int))) (Or.inr ⟨_, rfl⟩) (zF_trans hM f1) X1
    simp +decide (disch := omega) only [qX10_beyond, lx L1, lz L1 hz, hr1, hst, htr, e14, (x_n X1).1, by_cmp hD s, ni_in_t, ni_tn, ni_add1, am_w1_i, am_w1_r, am_w1_x, am_w1_l, am_w1_w, va_rf_s, am_push_n, am_push_s, am_cs_0, am_cs_i, am_cs_l, am_cs_r, m_uI_K, m_uI_N, m_uI_R, m_uI_L, m_uI_I, m_uL_K, m_uL_N, m_uL_R, m_uL_I, m_uL_L, m_uR_K, m_uR_N, m_uR_I, m_uR_L, m_uR_R, true_and, and_true, true_implies, false_implies, not_true_eq_false, not_false_eq_true, if_true, if_false, false_and, and_false]
    rw [ni_pos (by omega)]
    by_cases c : gpD D s 48 = 0
    · rw [btI_f (fun q => q.1 c)] at h0
      first | rw [br_p (c)] | rw [br_r (c)] | rw [br_s (c)]
      exact h0
    · first | rw [br_n (c)] | rw [br_q (c)] | rw [br_u (c)]
      by_cases c2 : chN D s * dN D < 50000000000
      · rw [btI_t ⟨c, c2⟩] at h0
        first | rw [br_p (c2)] | rw [br_r (c2)] | rw [br_s (c2)]
        exact h0
      · rw [btI_f (fun q => c2 q.2)] at h0
        first | rw [br_n (c2)] | rw [br_q (c2)] | rw [br_u (c2)]
        exact h0
theorem x_beyond : XqO 136 [] aBey := by
  intro d M z D Q hD h hQ
  have h0 := l_x_beyond (d + 12) z D M Q hD hQ (dN D) 0 (by omega) M am_x (Or.inl rfl) (XR_2 h) h
  rw [eX10_beyond]
  simp +decide only [qX10_beyond, am_w1_i, am_w1_r, am_w1_x, am_w1_l, am_w1_w, va_rf_s, am_push_n, am_push_s, am_cs_0, am_cs_i, am_cs_l, am_cs_r, m_uI_K, m_uI_N, m_uI_R, m_uI_L, m_uI_I, m_uL_K, m_uL_N, m_uL_R, m_uL_I, m_uL_L, m_uR_K, m_uR_N, m_uR_I, m_uR_L, m_uR_R, true_and, and_true, true_implies, false_implies, not_true_eq_false, not_false_eq_true, if_true, if_false, false_and, and_false]
  exact h0
theorem l_m_beyond (d b : Nat) (D : Dat) (M0 : am_M) (Q : Option Value → am_M → Prop) (hD : dOK D) (hL0 : Lay M0) (h0' : MdM M0 b D) (hQ : ∀ M', gF sMz nT M0 M' → Q (some (.int (btI (byP D) (dN D)))) M') :
    ∀ (m s : Nat), s + m = dN D → ∀ (M : am_M), gF sMz nT M0 M → am_P am_P0 (d + 10) (am_look tX11_beyond) 4 [.ref 277, .int (btI (byP D) s), .int (nI s)] [] M Q := by
  have n8 := dN_8 hD
  intro m
  induction m with
  | zero =>
    intro s hs M hM
    have hL := gF_LayN hM hL0
    have h := MdM_z h0' hM
    have hb2 := h.1.2
    have hle : nI (dN D) ≤ nI s := (ni_le (by omega) (by omega)).mpr (by omega)
    have h0 := hQ M hM
    rw [hX11_beyond_4]
    simp +decide (disch := omega) only [qX11_beyond, lm hL, h.1.1, h.2.2.2.1.1, ni_in_t, ni_tn, am_w1_i, am_w1_r, am_w1_x, am_w1_l, am_w1_w, va_rf_s, am_push_n, am_push_s, am_cs_0, am_cs_i, am_cs_l, am_cs_r, m_uI_K, m_uI_N, m_uI_R, m_uI_L, m_uI_I, m_uL_K, m_uL_N, m_uL_R, m_uL_I, m_uL_L, m_uR_K, m_uR_N, m_uR_I, m_uR_L, m_uR_R, true_and, and_true, true_implies, false_implies, not_true_eq_false, not_false_eq_true, if_true, if_false, false_and, and_false]
    first | rw [br_p (hle)] | rw [br_r (hle)] | rw [br_s (hle)]
    rw [show s = dN D by omega]
    exact h0
  | succ m ih =>
    intro s hs M hM
    have hL := gF_LayN hM hL0
    have h := MdM_z h0' hM
    have hb2 := h.1.2
    have hlt : ¬ nI (dN D) ≤ nI s := by rw [ni_le (by omega) (by omega)]; omega
    have hgl : gpD D s 48 ≤ 48 := cnt_le _ _
    rw [hX11_beyond_4]
    simp +decide (disch := omega) only [qX11_beyond, lm hL, h.1.1, h.2.2.2.1.1, ni_in_t, ni_tn, am_w1_i, am_w1_r, am_w1_x, am_w1_l, am_w1_w, va_rf_s, am_push_n, am_push_s, am_cs_0, am_cs_i, am_cs_l, am_cs_r, m_uI_K, m_uI_N, m_uI_R, m_uI_L, m_uI_I, m_uL_K, m_uL_N, m_uL_R, m_uL_I, m_uL_L, m_uR_K, m_uR_N, m_uR_I, m_uR_L, m_uR_R, true_and, and_true, true_implies, false_implies, not_true_eq_false, not_false_eq_true, if_true, if_false, false_and, and_false]
    first | rw [br_n (hlt)] | rw [br_q (hlt)] | rw [br_u (hlt)]
    refine m_gapsOf hD hL h (by omega) (d + 1) _ (fun M1 g1 _ _ => ?_)
    have L1 := gF_LayN g1 hL
    have h1 := MdM_q h g1
    have G1 : gF sMz nT M0 M1 := gF_trans hM (gF_up g1 (fun a j q => Or.inl q) (fun _ _ q => q))
    simp +decide (disch := omega) only [qX11_beyond, lm L1, or_z, ni_add1, am_w1_i, am_w1_r, am_w1_x, am_w1_l, am_w1_w, va_rf_s, am_push_n, am_push_s, am_cs_0, am_cs_i, am_cs_l, am_cs_r, m_uI_K, m_uI_N, m_uI_R, m_uI_L, m_uI_I, m_uL_K, m_uL_N, m_uL_R, m_uL_I, m_uL_L, m_uR_K, m_uR_N, m_uR_I, m_uR_L, m_uR_R, true_and, and_true, true_implies, false_implies, not_true_eq_false, not_false_eq_true, if_true, if_false, false_and, and_false]
    rw [ni_pos (by omega)]
    by_cases c : gpD D s 48 = 0
    · have h0 := ih (s + 1) (by omega) M1 G1
      rw [btI_f (fun q => q.1 c)] at h0
      first | rw [br_p (c)] | rw [br_r (c)] | rw [br_s (c)]
      exact h0
    · first | rw [br_n (c)] | rw [br_q (c)] | rw [br_u (c)]
      refine m_chanceOf hD L1 h1 (by omega) d _ (fun M2 g2 => ?_)
      have L2 := gF_LayN g2 L1
      have h2 := MdM_z h1 g2
      have h0 := ih (s + 1) (by omega) M2 (gF_trans G1 g2)
      simp +decide (disch := omega) only [qX11_beyond, lm L2, h2.1.1, h2.2.2.2.1.1, by_cmp hD s, or_z, ni_in_t, ni_tn, ni_add1, am_w1_i, am_w1_r, am_w1_x, am_w1_l, am_w1_w, va_rf_s, am_push_n, am_push_s, am_cs_0, am_cs_i, am_cs_l, am_cs_r, m_uI_K, m_uI_N, m_uI_R, m_uI_L, m_uI_I, m_uL_K, m_uL_N, m_uL_R, m_uL_I, m_uL_L, m_uR_K, m_uR_N, m_uR_I, m_uR_L, m_uR_R, true_and, and_true, true_implies, false_implies, not_true_eq_false, not_false_eq_true, if_true, if_false, false_and, and_false]
      by_cases c2 : chN D s * dN D < 50000000000
      · rw [btI_t ⟨c, c2⟩] at h0
        first | rw [br_p (c2)] | rw [br_r (c2)] | rw [br_s (c2)]
        exact h0
      · rw [btI_f (fun q => c2 q.2)] at h0
        first | rw [br_n (c2)] | rw [br_q (c2)] | rw [br_u (c2)]
        exact h0
theorem m_beyond : MzO 286 [] aBey := by
  intro d M b D Q hD hL h hQ
  have h0 := l_m_beyond (d + 10) b D M Q hD hL h hQ (dN D) 0 (by omega) M (gF_refl _ _ _)
  rw [eX11_beyond]
  simp +decide only [qX11_beyond, am_w1_i, am_w1_r, am_w1_x, am_w1_l, am_w1_w, va_rf_s, am_push_n, am_push_s, am_cs_0, am_cs_i, am_cs_l, am_cs_r, m_uI_K, m_uI_N, m_uI_R, m_uI_L, m_uI_I, m_uL_K, m_uL_N, m_uL_R, m_uL_I, m_uL_L, m_uR_K, m_uR_N, m_uR_I, m_uR_L, m_uR_R, true_and, and_true, true_implies, false_implies, not_true_eq_false, not_false_eq_true, if_true, if_false, false_and, and_false]
  exact h0
theorem op_beyond : OpI 136 286 [] isI := op_z (fun D => ⟨_, rfl⟩) x_beyond m_beyond
