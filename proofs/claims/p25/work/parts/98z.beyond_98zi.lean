/-! 98z.beyond 98za.settl 98zb.next 98zc.pile 98zd.look 98ze.tape 98zf.spot 98zg.add 98zh.add2 98zi.drop -/
section
/-! chance (model), beyond -/
def s333 (a _j : Nat) : Prop := a = 333
section
variable (d L s b0 : Nat) (M0 : am_M) (Q : Option Value → am_M → Prop) (x2 : Int32)
theorem l_m_ch0 (hL0 : Lay M0) (b : Nat) (v5 v6 : Value) (j5 : jk v5) (j6 : jk v6)
    (hN : ∀ M', gF s333 nT M0 M' → (∀ k, k < 50 → mL M' 333 k = zL (od L 0 k : Int)) → am_P am_P0 d (am_look tX11_chanceOf) 77 [.ref 277, .int (nI s), .int x2, .int (nI b), .int 0, v5, v6] [] M' Q) :
    ∀ (m j : Nat), j + m = 50 → ∀ (M : am_M), gF s333 nT M0 M → (∀ k, k < j → mL M 333 k = zL (od L 0 k : Int)) → am_P am_P0 d (am_look tX11_chanceOf) 42 [.ref 277, .int (nI s), .int x2, .int (nI b), .int (nI j), v5, v6] [] M Q := by
  intro m
  induction m with
  | zero =>
    intro j hj M hM hv
    have ej : j = 50 := by omega
    subst ej
    have h0 := hN M hM hv
    rw [hX11_chanceOf_42]
    simp +decide only [qX11_chanceOf_0, qX11_chanceOf_1, qX11_chanceOf_2, show nI 50 = (50 : Int32) from rfl, jk_w j5, jk_w j6, am_w1_i, am_w1_r, am_w1_x, am_w1_l, am_w1_w, va_rf_s, am_push_n, am_push_s, am_cs_0, am_cs_i, am_cs_l, am_cs_r, m_uI_K, m_uI_N, m_uI_R, m_uI_L, m_uI_I, m_uL_K, m_uL_N, m_uL_R, m_uL_I, m_uL_L, m_uR_K, m_uR_N, m_uR_I, m_uR_L, m_uR_R, true_and, and_true, true_implies, false_implies, not_true_eq_false, not_false_eq_true, if_true, if_false, false_and, and_false] at h0 ⊢
    exact h0
  | succ m ih =>
    intro j hj M hM hv
    have hL := gF_LayN hM hL0
    have hlt : ¬ (50 : Int32) ≤ nI j := by rw [show (50 : Int32) = nI 50 from rfl, ni_le (by omega) (by omega)]; omega
    have w1 : gF s333 nT M (uL M 333 j (zL (od L 0 j : Int))) := gF_l _ rfl
    have h0 := ih (j + 1) (by omega) (uL M 333 j (zL (od L 0 j : Int))) (gF_trans hM w1) (fun k hk => by
      rw [m_uL_L]
      by_cases e : k = j
      · rw [if_pos ⟨rfl, e⟩, e]
      · rw [if_neg (by omega)]; exact hv k (by omega))
    have ez : nI j = 0 ↔ j = 0 := by rw [show (0 : Int32) = nI 0 from rfl, ni_eq (by omega) (by omega)]
    rw [show od L 0 j = (if j = 0 then 1000000000000 else 0) from rfl] at h0
    rw [hX11_chanceOf_42]
    simp +decide (disch := omega) only [qX11_chanceOf_0, qX11_chanceOf_1, qX11_chanceOf_2, lm hL, ez, ni_in_t, ni_tn, ni_add1, jk_w j5, jk_w j6, Classical.not_not, am_w1_i, am_w1_r, am_w1_x, am_w1_l, am_w1_w, va_rf_s, am_push_n, am_push_s, am_cs_0, am_cs_i, am_cs_l, am_cs_r, m_uI_K, m_uI_N, m_uI_R, m_uI_L, m_uI_I, m_uL_K, m_uL_N, m_uL_R, m_uL_I, m_uL_L, m_uR_K, m_uR_N, m_uR_I, m_uR_L, m_uR_R, true_and, and_true, true_implies, false_implies, not_true_eq_false, not_false_eq_true, if_true, if_false, false_and, and_false]
    first | rw [br_n (hlt)] | rw [br_q (hlt)] | rw [br_u (hlt)]
    by_cases c : j = 0
    · rw [if_pos c] at h0
      first | rw [br_p (c)] | rw [br_r (c)] | rw [br_s (c)]
      exact h0
    · rw [if_neg c] at h0
      first | rw [br_n (c)] | rw [br_q (c)] | rw [br_u (c)]
      exact h0
theorem l_m_ch2 (hL0 : Lay M0) (hb0 : mI M0 277 12 = nI b0) (hb2 : b0 < 2) (hlk : mI M0 303 b0 = nI L) (hLk : L ≤ 100) (b t : Nat) (v6 : Value) (j6 : jk v6)
    (hN : ∀ M' v5, gF s333 nT M0 M' → jk v5 → (∀ k, k < 50 → mL M' 333 k = zL (od L (t + 1) k : Int)) → am_P am_P0 d (am_look tX11_chanceOf) 77 [.ref 277, .int (nI s), .int x2, .int (nI b), .int (nI (t + 1)), v5, v6] [] M' Q) (hbt : t < 1000) :
    ∀ (j : Nat), j ≤ 50 → ∀ (M : am_M) (x : Int32), x.toInt = (j : Int) - 1 → gF s333 nT M0 M → (∀ k, k < 50 → mL M 333 k = zL ((if j ≤ k then od L (t + 1) k else od L t k : Nat) : Int)) → am_P am_P0 d (am_look tX11_chanceOf) 87 [.ref 277, .int (nI s), .int x2, .int (nI b), .int (nI t), .int x, v6] [] M Q := by
  intro j
  induction j with
  | zero =>
    intro hj M x hx hM hv
    have hlt : x < 0 := by rw [lt32, z32]; omega
    have h0 := hN M (.int x) hM (Or.inr ⟨_, rfl⟩) (fun k hk => by rw [hv k hk, if_pos (by omega)])
    rw [hX11_chanceOf_87]
    simp +decide only [qX11_chanceOf_0, qX11_chanceOf_1, qX11_chanceOf_2, ni_add1, jk_w j6, am_w1_i, am_w1_r, am_w1_x, am_w1_l, am_w1_w, va_rf_s, am_push_n, am_push_s, am_cs_0, am_cs_i, am_cs_l, am_cs_r, m_uI_K, m_uI_N, m_uI_R, m_uI_L, m_uI_I, m_uL_K, m_uL_N, m_uL_R, m_uL_I, m_uL_L, m_uR_K, m_uR_N, m_uR_I, m_uR_L, m_uR_R, true_and, and_true, true_implies, false_implies, not_true_eq_false, not_false_eq_true, if_true, if_false, false_and, and_false] at h0 ⊢
    first | rw [br_p (hlt)] | rw [br_r (hlt)] | rw [br_s (hlt)]
    exact h0
  | succ j ih =>
    intro hj M x hx hM hv
    have hL := gF_LayN hM hL0
    have ex : x = nI j := i32_of (by omega) (by omega)
    subst ex
    have hb0' : mI M 277 12 = nI b0 := by rw [hM.1 _ _ (by unfold s333; omega)]; exact hb0
    have hlk' : mI M 303 b0 = nI L := by rw [hM.1 _ _ (by unfold s333; omega)]; exact hlk
    have hnl : ¬ nI j < 0 := by rw [lt32, z32, ni_ti (by omega)]; omega
    have h1 := hv j (by omega)
    rw [if_neg (by omega)] at h1
    have w1 : gF s333 nT M (uL M 333 j (zL (od L (t + 1) j : Int))) := gF_l _ rfl
    have h0 := ih (by omega) (uL M 333 j (zL (od L (t + 1) j : Int))) (nI j + -1) (by
      cases j with
      | zero => decide
      | succ j => rw [ni_dec, ni_ti (by omega)]; omega) (gF_trans hM w1) (fun k hk => by
      rw [m_uL_L]
      by_cases e : k = j
      · rw [if_pos ⟨rfl, e⟩, e, if_pos (by omega)]
      · rw [if_neg (by omega), hv k hk]
        by_cases c : j + 1 ≤ k
        · rw [if_pos c, if_pos (by omega)]
        · rw [if_neg c, if_neg (by omega)])
    rw [od_t] at h0
    rw [hX11_chanceOf_87]
    simp +decide (disch := omega) only [qX11_chanceOf_0, qX11_chanceOf_1, qX11_chanceOf_2, lm hL, hb0', hlk', h1, ni_in_t, ni_tn, jk_w j6, am_w1_i, am_w1_r, am_w1_x, am_w1_l, am_w1_w, va_rf_s, am_push_n, am_push_s, am_cs_0, am_cs_i, am_cs_l, am_cs_r, m_uI_K, m_uI_N, m_uI_R, m_uI_L, m_uI_I, m_uL_K, m_uL_N, m_uL_R, m_uL_I, m_uL_L, m_uR_K, m_uR_N, m_uR_I, m_uR_L, m_uR_R, true_and, and_true, true_implies, false_implies, not_true_eq_false, not_false_eq_true, if_true, if_false, false_and, and_false]
    first | rw [br_n (hnl)] | rw [br_q (hnl)] | rw [br_u (hnl)]
    rw [ni_pos (by omega)]
    by_cases c : j = 0
    · have e := od_step0 hLk (od_le hLk t 0)
      have e2 : ∀ x : Int64, x + 0 = x := fun x => by simp
      subst c
      rw [if_pos rfl] at h0
      simp +decide only [e2, e, am_w1_i, am_w1_r, am_w1_x, am_w1_l, am_w1_w, va_rf_s, am_push_n, am_push_s, am_cs_0, am_cs_i, am_cs_l, am_cs_r, m_uI_K, m_uI_N, m_uI_R, m_uI_L, m_uI_I, m_uL_K, m_uL_N, m_uL_R, m_uL_I, m_uL_L, m_uR_K, m_uR_N, m_uR_I, m_uR_L, m_uR_R, true_and, and_true, true_implies, false_implies, not_true_eq_false, not_false_eq_true, if_true, if_false, false_and, and_false]
      exact h0
    · obtain ⟨i, rfl⟩ : ∃ i, j = i + 1 := ⟨j - 1, by omega⟩
      have h2 := hv i (by omega)
      rw [if_neg (by omega)] at h2
      have e := od_step hLk (od_le hLk t (i + 1)) (od_le hLk t i)
      rw [if_neg (by omega), show i + 1 - 1 = i by omega] at h0
      first | rw [br_n (c)] | rw [br_q (c)] | rw [br_u (c)]
      simp +decide (disch := omega) only [ni_sub1, h2, e, ni_in_t, ni_tn, am_w1_i, am_w1_r, am_w1_x, am_w1_l, am_w1_w, va_rf_s, am_push_n, am_push_s, am_cs_0, am_cs_i, am_cs_l, am_cs_r, m_uI_K, m_uI_N, m_uI_R, m_uI_L, m_uI_I, m_uL_K, m_uL_N, m_uL_R, m_uL_I, m_uL_L, m_uR_K, m_uR_N, m_uR_I, m_uR_L, m_uR_R, true_and, and_true, true_implies, false_implies, not_true_eq_false, not_false_eq_true, if_true, if_false, false_and, and_false]
      exact h0
theorem l_m_ch1 (hL0 : Lay M0) (hb0 : mI M0 277 12 = nI b0) (hb2 : b0 < 2) (hlk : mI M0 303 b0 = nI L) (hLk : L ≤ 100) (b : Nat) (hb : b ≤ 46) (v6 : Value) (j6 : jk v6)
    (hN : ∀ M' v5, gF s333 nT M0 M' → jk v5 → (∀ k, k < 50 → mL M' 333 k = zL (od L b k : Int)) → am_P am_P0 d (am_look tX11_chanceOf) 166 [.ref 277, .int (nI s), .int x2, .int (nI b), .int (nI b), v5, v6] [] M' Q) :
    ∀ (m t : Nat), t + m = b → ∀ (M : am_M) (v5 : Value), jk v5 → gF s333 nT M0 M → (∀ k, k < 50 → mL M 333 k = zL (od L t k : Int)) → am_P am_P0 d (am_look tX11_chanceOf) 77 [.ref 277, .int (nI s), .int x2, .int (nI b), .int (nI t), v5, v6] [] M Q := by
  intro m
  induction m with
  | zero =>
    intro t ht M v5 j5 hM hv
    have et : t = b := by omega
    subst et
    have hle : nI t ≤ nI t := (ni_le (by omega) (by omega)).mpr (by omega)
    have h0 := hN M v5 hM j5 hv
    rw [hX11_chanceOf_77]
    simp +decide only [qX11_chanceOf_0, qX11_chanceOf_1, qX11_chanceOf_2, jk_w j5, jk_w j6, am_w1_i, am_w1_r, am_w1_x, am_w1_l, am_w1_w, va_rf_s, am_push_n, am_push_s, am_cs_0, am_cs_i, am_cs_l, am_cs_r, m_uI_K, m_uI_N, m_uI_R, m_uI_L, m_uI_I, m_uL_K, m_uL_N, m_uL_R, m_uL_I, m_uL_L, m_uR_K, m_uR_N, m_uR_I, m_uR_L, m_uR_R, true_and, and_true, true_implies, false_implies, not_true_eq_false, not_false_eq_true, if_true, if_false, false_and, and_false] at h0 ⊢
    first | rw [br_p (hle)] | rw [br_r (hle)] | rw [br_s (hle)]
    exact h0
  | succ m ih =>
    intro t ht M v5 j5 hM hv
    have hlt : ¬ nI b ≤ nI t := by rw [ni_le (by omega) (by omega)]; omega
    have h9 := l_m_ch2 d L s b0 M0 Q x2 hL0 hb0 hb2 hlk hLk b t v6 j6 (fun M' v5' g' j5' v' => ih (t + 1) (by omega) M' v5' j5' g' v') (by omega) 50 (Nat.le_refl _) M 49 (by decide) hM (fun k hk => by rw [hv k hk, if_neg (by omega)])
    rw [hX11_chanceOf_77]
    simp +decide only [qX11_chanceOf_0, qX11_chanceOf_1, qX11_chanceOf_2, jk_w j5, jk_w j6, am_w1_i, am_w1_r, am_w1_x, am_w1_l, am_w1_w, va_rf_s, am_push_n, am_push_s, am_cs_0, am_cs_i, am_cs_l, am_cs_r, m_uI_K, m_uI_N, m_uI_R, m_uI_L, m_uI_I, m_uL_K, m_uL_N, m_uL_R, m_uL_I, m_uL_L, m_uR_K, m_uR_N, m_uR_I, m_uR_L, m_uR_R, true_and, and_true, true_implies, false_implies, not_true_eq_false, not_false_eq_true, if_true, if_false, false_and, and_false]
    first | rw [br_n (hlt)] | rw [br_q (hlt)] | rw [br_u (hlt)]
    exact h9
theorem l_m_ch3 (f : Nat → Nat) (M : am_M) (hL : Lay M) (hv : ∀ k, k < 50 → mL M 333 k = zL (f k : Int)) (g : Nat) (hg : g ≤ 48) (v3 : Value) (j3 : jk v3) (hQ : Q (some (.long (zL (csum f g (50 - g) : Int)))) M) :
    ∀ (m n : Nat), n + m = 50 - g → am_P am_P0 d (am_look tX11_chanceOf) 172 [.ref 277, .int (nI s), .int x2, v3, .long (zL (csum f g n : Int)), am_x, .int (nI (g + n))] [] M Q := by
  intro m
  induction m with
  | zero =>
    intro n hn
    have hle : (50 : Int32) ≤ nI (g + n) := by rw [show (50 : Int32) = nI 50 from rfl]; exact (ni_le (by omega) (by omega)).mpr (by omega)
    rw [show 50 - g = n by omega] at hQ
    rw [hX11_chanceOf_172]
    simp +decide only [qX11_chanceOf_0, qX11_chanceOf_1, qX11_chanceOf_2, am_w1_i, am_w1_r, am_w1_x, am_w1_l, am_w1_w, va_rf_s, am_push_n, am_push_s, am_cs_0, am_cs_i, am_cs_l, am_cs_r, m_uI_K, m_uI_N, m_uI_R, m_uI_L, m_uI_I, m_uL_K, m_uL_N, m_uL_R, m_uL_I, m_uL_L, m_uR_K, m_uR_N, m_uR_I, m_uR_L, m_uR_R, true_and, and_true, true_implies, false_implies, not_true_eq_false, not_false_eq_true, if_true, if_false, false_and, and_false]
    first | rw [br_p (hle)] | rw [br_r (hle)] | rw [br_s (hle)]
    exact hQ
  | succ m ih =>
    intro n hn
    have hlt : ¬ (50 : Int32) ≤ nI (g + n) := by rw [show (50 : Int32) = nI 50 from rfl, ni_le (by omega) (by omega)]; omega
    have h0 := ih (n + 1) (by omega)
    have e : zL (csum f g n : Int) + zL (f (g + n) : Int) = zL (csum f g (n + 1) : Int) := by rw [zL_add]; congr 1
    rw [← e] at h0
    rw [hX11_chanceOf_172]
    simp +decide (disch := omega) only [qX11_chanceOf_0, qX11_chanceOf_1, qX11_chanceOf_2, lm hL, hv (g + n) (by omega), ni_in_t, ni_tn, ni_add1, jk_w j3, am_w1_i, am_w1_r, am_w1_x, am_w1_l, am_w1_w, va_rf_s, am_push_n, am_push_s, am_cs_0, am_cs_i, am_cs_l, am_cs_r, m_uI_K, m_uI_N, m_uI_R, m_uI_L, m_uI_I, m_uL_K, m_uL_N, m_uL_R, m_uL_I, m_uL_L, m_uR_K, m_uR_N, m_uR_I, m_uR_L, m_uR_R, true_and, and_true, true_implies, false_implies, not_true_eq_false, not_false_eq_true, if_true, if_false, false_and, and_false]
    first | rw [br_n (hlt)] | rw [br_q (hlt)] | rw [br_u (hlt)]
    exact h0
end
theorem m_chanceOf {M : am_M} {b s : Nat} {D : Dat} (hD : dOK D) (hL : Lay M) (h : MdM M b D) (hs : s < dN D) (d : Nat) (Q : Option Value → am_M → Prop) (hQ : ∀ M', gF sMz nT M M' → Q (some (.long (zL (chN D s : Int)))) M') : am_E am_P0 (d + 9) 284 [.ref 277, .int (nI s)] M Q := by
  have n8 := dN_8 hD
  have hLk := hD.1.2.1
  have h48 := dY_len hD s
  have hsr := hD.1.2.2.2.2.1 s
  have hbt := betY_lt (Y := dY D s) (fun y hy => (hD.1.2.2.2.1 s y hy).1)
  have hgl : gpD D s 48 ≤ 48 := cnt_le _ _
  rw [eX11_chanceOf]
  simp +decide only [qX11_chanceOf_0, qX11_chanceOf_1, qX11_chanceOf_2, lm hL, am_w1_i, am_w1_r, am_w1_x, am_w1_l, am_w1_w, va_rf_s, am_push_n, am_push_s, am_cs_0, am_cs_i, am_cs_l, am_cs_r, m_uI_K, m_uI_N, m_uI_R, m_uI_L, m_uI_I, m_uL_K, m_uL_N, m_uL_R, m_uL_I, m_uL_L, m_uR_K, m_uR_N, m_uR_I, m_uR_L, m_uR_R, true_and, and_true, true_implies, false_implies, not_true_eq_false, not_false_eq_true, if_true, if_false, false_and, and_false]
  refine m_gapsOf hD hL h hs d _ (fun M1 g1 k1 _ => ?_)
  have L1 := gF_LayN g1 hL
  have h1 := MdM_q h g1
  have key : am_P am_P0 (d + 9) (am_look tX11_chanceOf) 38 [.ref 277, .int (nI s), .int (nI (gpD D s 48)), am_x, am_x, am_x, am_x] [.int (nI (betY (dY D s)))] M1 Q := by
    have h9 := l_m_ch0 (d + 9) (dLk D) s M1 Q (nI (gpD D s 48)) L1 (betY (dY D s)) am_x am_x (Or.inl rfl) (Or.inl rfl) (fun M2 g2 v2 => by
      exact l_m_ch1 (d + 9) (dLk D) s b M1 Q (nI (gpD D s 48)) L1 h1.1.1 h1.1.2 h1.2.2.1 hLk (betY (dY D s)) hbt am_x (Or.inl rfl) (fun M3 v5 g3 j5 v3 => by
        have L3 := gF_LayN g3 L1
        have h0 := hQ M3 (gF_trans (gF_up g1 (fun a j q => Or.inl q) (fun _ _ q => q)) (gF_up g3 (fun a j q => by unfold s333 at q; unfold sMz; omega) (fun _ _ q => q)))
        have e : csum (od (dLk D) (betY (dY D s))) (gpD D s 48) (50 - gpD D s 48) = chN D s := by
          unfold chN
          rw [show 50 - gpD D s 48 = 48 - gpD D s 48 + 1 + 1 by omega]
          show csum _ _ _ + od _ _ _ + od _ _ _ = _
          rw [od_0 _ _ (by omega), od_0 _ _ (by omega)]
          rfl
        rw [← e] at h0
        have h8 := l_m_ch3 (d + 9) s Q (nI (gpD D s 48)) (od (dLk D) (betY (dY D s))) M3 L3 v3 (gpD D s 48) hgl (.int (nI (betY (dY D s)))) (Or.inr ⟨_, rfl⟩) h0 (50 - gpD D s 48) 0 (by omega)
        simp +decide only [qX11_chanceOf_0, qX11_chanceOf_1, qX11_chanceOf_2, jk_w j5, am_w1_i, am_w1_r, am_w1_x, am_w1_l, am_w1_w, va_rf_s, am_push_n, am_push_s, am_cs_0, am_cs_i, am_cs_l, am_cs_r, m_uI_K, m_uI_N, m_uI_R, m_uI_L, m_uI_I, m_uL_K, m_uL_N, m_uL_R, m_uL_I, m_uL_L, m_uR_K, m_uR_N, m_uR_I, m_uR_L, m_uR_R, true_and, and_true, true_implies, false_implies, not_true_eq_false, not_false_eq_true, if_true, if_false, false_and, and_false]
        exact h8) (betY (dY D s)) 0 (by omega) M2 am_x (Or.inl rfl) g2 v2) 50 0 (by omega) M1 (gF_refl _ _ _) (fun k hk => by omega)
    simp +decide only [qX11_chanceOf_0, qX11_chanceOf_1, qX11_chanceOf_2, am_w1_i, am_w1_r, am_w1_x, am_w1_l, am_w1_w, va_rf_s, am_push_n, am_push_s, am_cs_0, am_cs_i, am_cs_l, am_cs_r, m_uI_K, m_uI_N, m_uI_R, m_uI_L, m_uI_I, m_uL_K, m_uL_N, m_uL_R, m_uL_I, m_uL_L, m_uR_K, m_uR_N, m_uR_I, m_uR_L, m_uR_R, true_and, and_true, true_implies, false_implies, not_true_eq_false, not_false_eq_true, if_true, if_false, false_and, and_false]
    exact h9
  have hn := k1.1.1.1
  have hh := k1.1.1.2
  by_cases c : (dY D s).length < 2
  · have e0 : betY (dY D s) = 0 := by unfold betY; rw [if_pos c]
    have hl : ¬ (2 : Int32) ≤ nI (dY D s).length := by rw [show (2 : Int32) = nI 2 from rfl, ni_le (by omega) (by omega)]; omega
    rw [e0] at key
    simp +decide (disch := omega) only [qX11_chanceOf_0, qX11_chanceOf_1, qX11_chanceOf_2, lm L1, hn, am_w1_i, am_w1_r, am_w1_x, am_w1_l, am_w1_w, va_rf_s, am_push_n, am_push_s, am_cs_0, am_cs_i, am_cs_l, am_cs_r, m_uI_K, m_uI_N, m_uI_R, m_uI_L, m_uI_I, m_uL_K, m_uL_N, m_uL_R, m_uL_I, m_uL_L, m_uR_K, m_uR_N, m_uR_I, m_uR_L, m_uR_R, true_and, and_true, true_implies, false_implies, not_true_eq_false, not_false_eq_true, if_true, if_false, false_and, and_false]
    first | rw [br_n (hl)] | rw [br_q (hl)] | rw [br_u (hl)]
    simp +decide only [qX11_chanceOf_0, qX11_chanceOf_1, qX11_chanceOf_2, am_w1_i, am_w1_r, am_w1_x, am_w1_l, am_w1_w, va_rf_s, am_push_n, am_push_s, am_cs_0, am_cs_i, am_cs_l, am_cs_r, m_uI_K, m_uI_N, m_uI_R, m_uI_L, m_uI_I, m_uL_K, m_uL_N, m_uL_R, m_uL_I, m_uL_L, m_uR_K, m_uR_N, m_uR_I, m_uR_L, m_uR_R, true_and, and_true, true_implies, false_implies, not_true_eq_false, not_false_eq_true, if_true, if_false, false_and, and_false] at key ⊢
    exact key
  · obtain ⟨y0, hy0⟩ : ∃ y, (dY D s)[0]? = some y := ⟨(dY D s)[0]'(by omega), List.getElem?_eq_getElem (by omega)⟩
    obtain ⟨yl, hyl⟩ : ∃ y, (dY D s)[(dY D s).length - 1]? = some y := ⟨(dY D s)[(dY D s).length - 1]'(by omega), List.getElem?_eq_getElem (by omega)⟩
    have hlt := srtY_lt hsr hy0 hyl (by omega)
    have e0 : betY (dY D s) = yl.1 - y0.1 - 1 := by unfold betY; rw [if_neg c, hyl, hy0]; rfl
    have hl : (2 : Int32) ≤ nI (dY D s).length := by rw [show (2 : Int32) = nI 2 from rfl]; exact (ni_le (by omega) (by omega)).mpr (by omega)
    have eL : nI (dY D s).length - 1 = nI ((dY D s).length - 1) := by rw [show (1 : Int32) = nI 1 from rfl, ni_sub (by omega)]
    have es : nI yl.1 - nI y0.1 - 1 = nI (betY (dY D s)) := by rw [show (1 : Int32) = nI 1 from rfl, ni_sub (by omega), ni_sub (by omega), e0]
    simp +decide (disch := omega) only [qX11_chanceOf_0, qX11_chanceOf_1, qX11_chanceOf_2, lm L1, hn, eL, hh 0 y0 hy0, hh _ yl hyl, es, show (Int32.toInt 0).toNat = 0 from rfl, ni_in_t, ni_tn, am_w1_i, am_w1_r, am_w1_x, am_w1_l, am_w1_w, va_rf_s, am_push_n, am_push_s, am_cs_0, am_cs_i, am_cs_l, am_cs_r, m_uI_K, m_uI_N, m_uI_R, m_uI_L, m_uI_I, m_uL_K, m_uL_N, m_uL_R, m_uL_I, m_uL_L, m_uR_K, m_uR_N, m_uR_I, m_uR_L, m_uR_R, true_and, and_true, true_implies, false_implies, not_true_eq_false, not_false_eq_true, if_true, if_false, false_and, and_false]
    first | rw [br_p (hl)] | rw [br_r (hl)] | rw [br_s (hl)]
    simp +decide only [qX11_chanceOf_0, qX11_chanceOf_1, qX11_chanceOf_2, am_w1_i, am_w1_r, am_w1_x, am_w1_l, am_w1_w, va_rf_s, am_push_n, am_push_s, am_cs_0, am_cs_i, am_cs_l, am_cs_r, m_uI_K, m_uI_N, m_uI_R, m_uI_L, m_uI_I, m_uL_K, m_uL_N, m_uL_R, m_uL_I, m_uL_L, m_uR_K, m_uR_N, m_uR_I, m_uR_L, m_uR_R, true_and, and_true, true_implies, false_implies, not_true_eq_false, not_false_eq_true, if_true, if_false, false_and, and_false] at key ⊢
    exact key
theorem m_chance (v : Int32) : MzO 285 [.int v] (aCha v) := by
  intro d M b D Q hD hL h hQ
  have n8 := dN_8 hD
  have eS := fun v Q => m_isShip hD hL h (d + 18) v Q
  unfold aCha at hQ
  rw [eX11_chance]
  simp +decide only [qX11_chance, lm hL, eS, bI_0, Classical.not_not, am_w1_i, am_w1_r, am_w1_x, am_w1_l, am_w1_w, va_rf_s, am_push_n, am_push_s, am_cs_0, am_cs_i, am_cs_l, am_cs_r, m_uI_K, m_uI_N, m_uI_R, m_uI_L, m_uI_I, m_uL_K, m_uL_N, m_uL_R, m_uL_I, m_uL_L, m_uR_K, m_uR_N, m_uR_I, m_uR_L, m_uR_R, true_and, and_true, true_implies, false_implies, not_true_eq_false, not_false_eq_true, if_true, if_false, false_and, and_false]
  by_cases hv : 0 ≤ v.toInt ∧ v.toInt < dN D
  · first | rw [br_p (hv)] | rw [br_r (hv)] | rw [br_s (hv)]
    rw [if_pos hv] at hQ
    obtain ⟨s, s1, s2, s3⟩ := sh_of (by omega) hv
    rw [s3] at hQ
    rw [s2]
    refine m_chanceOf hD hL h s1 (d + 10) _ (fun M1 g1 => ?_)
    have h0 := hQ M1 g1
    simp +decide only [qX11_chance, am_w1_i, am_w1_r, am_w1_x, am_w1_l, am_w1_w, va_rf_s, am_push_n, am_push_s, am_cs_0, am_cs_i, am_cs_l, am_cs_r, m_uI_K, m_uI_N, m_uI_R, m_uI_L, m_uI_I, m_uL_K, m_uL_N, m_uL_R, m_uL_I, m_uL_L, m_uR_K, m_uR_N, m_uR_I, m_uR_L, m_uR_R, true_and, and_true, true_implies, false_implies, not_true_eq_false, not_false_eq_true, if_true, if_false, false_and, and_false]
    exact h0
  · have h0 := hQ M (gF_refl _ _ _)
    rw [if_neg hv] at h0
    first | rw [br_n (hv)] | rw [br_q (hv)] | rw [br_u (hv)]
    exact h0
theorem op_chance (v : Int32) : OpI 135 285 [.int v] isJ := op_z (fun D => ⟨_, rfl⟩) (x_chance v) (m_chance v)
/-! beyond -/
def byP (D : Dat) (s : Nat) : Prop := ¬ gpD D s 48 = 0 ∧ chN D s * dN D < 50000000000
noncomputable def aBey (D : Dat) : Value := .int (btI (byP D) (dN D))
theorem by_cmp {D : Dat} (hD : dOK D) (s : Nat) : 0 ≤ lg_cmp (zL (chN D s : Int) * (nI (dN D)).toInt64) 50000000000 ↔ ¬ chN D s * dN D < 50000000000 := by
  have n8 := dN_8 hD
  have hc := chN_le hD s
  have hm : chN D s * dN D ≤ 48000000000000 * 8 := Nat.mul_le_mul hc n8
  rw [nI_L _ (by omega), zL_mul, show ((chN D s : Int) * (dN D : Int)) = ((chN D s * dN D : Nat) : Int) from by simp, show (50000000000 : Int64) = zL 50000000000 from rfl, lgc_z (by unfold sm_; omega) (by unfold sm_; omega), t3_nn]
  omega
theorem l_x_beyond (d z : Nat) (D : Dat) (M0 : am_M) (Q : Option Value → am_M → Prop) (hD : dOK D) (hQ : ∀ M', zF (sXq z) M0 M' → XR M' z D → Q (some (.int (btI (byP D) (dN D)))) M') :
    ∀ (m s : Nat), s + m = dN D → ∀ (M : am_M) (v3 : Value), (v3 = am_x ∨ ∃ x, v3 = .long x) → zF (sXq z) M0 M → XR M z D → am_P am_P0 (d + 8) (am_look tX10_beyond) 4 [.ref 0, .int (btI (byP D) s), .int (nI s), v3, am_x] [] M Q := by
  have n8 := dN_8 hD
  intro m
  induction m with
  | zero =>
    intro s hs M v3 hv3 hM h
    have hz := h.1.2.2.1
    have hL := h.1.1
    have hr := h.1.2.2.2.1
    have hle : nI (dN D) ≤ nI s := (ni_le (by omega) (by omega)).mpr (by omega)
    have h0 := hQ M hM h
    rw [hX10_beyond_4]
    simp +decide only [qX10_beyond, lx hL, lz hL hz, hr, (x_n h).1, am_w1_i, am_w1_r, am_w1_x, am_w1_l, am_w1_w, va_rf_s, am_push_n, am_push_s, am_cs_0, am_cs_i, am_cs_l, am_cs_r, m_uI_K, m_uI_N, m_uI_R, m_uI_L, m_uI_I, m_uL_K, m_uL_N, m_uL_R, m_uL_I, m_uL_L, m_uR_K, m_uR_N, m_uR_I, m_uR_L, m_uR_R, true_and, and_true, true_implies, false_implies, not_true_eq_false, not_false_eq_true, if_true, if_false, false_and, and_false]
    first | rw [br_p (hle)] | rw [br_r (hle)] | rw [br_s (hle)]
    rw [show s = dN D by omega]
    exact h0
  | succ m ih =>
    intro s hs M v3 hv3 hM h
    have hz := h.1.2.2.1
    have hL := h.1.1
    have hr := h.1.2.2.2.1
    have hlt : ¬ nI (dN D) ≤ nI s := by rw [ni_le (by omega) (by omega)]; omega
    have hgl : gpD D s 48 ≤ 48 := cnt_le _ _
    rw [hX10_beyond_4]
    simp +decide (disch := omega) only [qX10_beyond, lx hL, lz hL hz, hr, (x_n h).1, am_w1_i, am_w1_r, am_w1_x, am_w1_l, am_w1_w, va_rf_s, am_push_n, am_push_s, am_cs_0, am_cs_i, am_cs_l, am_cs_r, m_uI_K, m_uI_N, m_uI_R, m_uI_L, m_uI_I, m_uL_K, m_uL_N, m_uL_R, m_uL_I, m_uL_L, m_uR_K, m_uR_N, m_uR_I, m_uR_L, m_uR_R, true_and, and_true, true_implies, false_implies, not_true_eq_false, not_false_eq_true, if_true, if_false, false_and, and_false]
    first | rw [br_n (hlt)] | rw [br_q (hlt)] | rw [br_u (hlt)]
    refine x_chanceOf hD h (by omega) d _ (fun M1 f1 X1 e14 => ?_)
    have L1 := X1.1.1
    have hr1 := X1.1.2.2.2.1
    have hst := lt_ L1 (isTr_of (show s < 8 by omega))
    have htr := ltr L1 (show s < 8 by omega)
    have h0 := ih (s + 1) (by omega) M1 (.long (zL (chN D s : Int))) (Or.inr ⟨_, rfl⟩) (zF_trans hM f1) X1
    simp +decide (disch := omega) only [qX10_beyond, lx L1, lz L1 hz, hr1, hst, htr, e14, (x_n X1).1, by_cmp hD s, ni_in_t, ni_tn, ni_add1, am_w1_i, am_w1_r, am_w1_x, am_w1_l, am_w1_w, va_rf_s, am_push_n, am_push_s, am_cs_0, am_cs_i, am_cs_l, am_cs_r, m_uI_K, m_uI_N, m_uI_R, m_uI_L, m_uI_I, m_uL_K, m_uL_N, m_uL_R, m_uL_I, m_uL_L, m_uR_K, m_uR_N, m_uR_I, m_uR_L, m_uR_R, true_and, and_true, true_implies, false_implies, not_true_eq_false, not_false_eq_true, if_true, if_false, false_and, and_false]
    rw [ni_pos (by omega)]
    by_cases c : gpD D s 48 = 0
    · rw [btI_f (fun q => q.1 c)] at h0
      first | rw [br_p (c)] | rw [br_r (c)] | rw [br_s (c)]
      exact h0
    · first | rw [br_n (c)] | rw [br_q (c)] | rw [br_u (c)]
      by_cases c2 : chN D s * dN D < 50000000000
      · rw [btI_t ⟨c, c2⟩] at h0
        first | rw [br_p (c2)] | rw [br_r (c2)] | rw [br_s (c2)]
        exact h0
      · rw [btI_f (fun q => c2 q.2)] at h0
        first | rw [br_n (c2)] | rw [br_q (c2)] | rw [br_u (c2)]
        exact h0
theorem x_beyond : XqO 136 [] aBey := by
  intro d M z D Q hD h hQ
  have h0 := l_x_beyond (d + 12) z D M Q hD hQ (dN D) 0 (by omega) M am_x (Or.inl rfl) (XR_2 h) h
  rw [eX10_beyond]
  simp +decide only [qX10_beyond, am_w1_i, am_w1_r, am_w1_x, am_w1_l, am_w1_w, va_rf_s, am_push_n, am_push_s, am_cs_0, am_cs_i, am_cs_l, am_cs_r, m_uI_K, m_uI_N, m_uI_R, m_uI_L, m_uI_I, m_uL_K, m_uL_N, m_uL_R, m_uL_I, m_uL_L, m_uR_K, m_uR_N, m_uR_I, m_uR_L, m_uR_R, true_and, and_true, true_implies, false_implies, not_true_eq_false, not_false_eq_true, if_true, if_false, false_and, and_false]
  exact h0
theorem l_m_beyond (d b : Nat) (D : Dat) (M0 : am_M) (Q : Option Value → am_M → Prop) (hD : dOK D) (hL0 : Lay M0) (h0' : MdM M0 b D) (hQ : ∀ M', gF sMz nT M0 M' → Q (some (.int (btI (byP D) (dN D)))) M') :
    ∀ (m s : Nat), s + m = dN D → ∀ (M : am_M), gF sMz nT M0 M → am_P am_P0 (d + 10) (am_look tX11_beyond) 4 [.ref 277, .int (btI (byP D) s), .int (nI s)] [] M Q := by
  have n8 := dN_8 hD
  intro m
  induction m with
  | zero =>
    intro s hs M hM
    have hL := gF_LayN hM hL0
    have h := MdM_z h0' hM
    have hb2 := h.1.2
    have hle : nI (dN D) ≤ nI s := (ni_le (by omega) (by omega)).mpr (by omega)
    have h0 := hQ M hM
    rw [hX11_beyond_4]
    simp +decide (disch := omega) only [qX11_beyond, lm hL, h.1.1, h.2.2.2.1.1, ni_in_t, ni_tn, am_w1_i, am_w1_r, am_w1_x, am_w1_l, am_w1_w, va_rf_s, am_push_n, am_push_s, am_cs_0, am_cs_i, am_cs_l, am_cs_r, m_uI_K, m_uI_N, m_uI_R, m_uI_L, m_uI_I, m_uL_K, m_uL_N, m_uL_R, m_uL_I, m_uL_L, m_uR_K, m_uR_N, m_uR_I, m_uR_L, m_uR_R, true_and, and_true, true_implies, false_implies, not_true_eq_false, not_false_eq_true, if_true, if_false, false_and, and_false]
    first | rw [br_p (hle)] | rw [br_r (hle)] | rw [br_s (hle)]
    rw [show s = dN D by omega]
    exact h0
  | succ m ih =>
    intro s hs M hM
    have hL := gF_LayN hM hL0
    have h := MdM_z h0' hM
    have hb2 := h.1.2
    have hlt : ¬ nI (dN D) ≤ nI s := by rw [ni_le (by omega) (by omega)]; omega
    have hgl : gpD D s 48 ≤ 48 := cnt_le _ _
    rw [hX11_beyond_4]
    simp +decide (disch := omega) only [qX11_beyond, lm hL, h.1.1, h.2.2.2.1.1, ni_in_t, ni_tn, am_w1_i, am_w1_r, am_w1_x, am_w1_l, am_w1_w, va_rf_s, am_push_n, am_push_s, am_cs_0, am_cs_i, am_cs_l, am_cs_r, m_uI_K, m_uI_N, m_uI_R, m_uI_L, m_uI_I, m_uL_K, m_uL_N, m_uL_R, m_uL_I, m_uL_L, m_uR_K, m_uR_N, m_uR_I, m_uR_L, m_uR_R, true_and, and_true, true_implies, false_implies, not_true_eq_false, not_false_eq_true, if_true, if_false, false_and, and_false]
    first | rw [br_n (hlt)] | rw [br_q (hlt)] | rw [br_u (hlt)]
    refine m_gapsOf hD hL h (by omega) (d + 1) _ (fun M1 g1 _ _ => ?_)
    have L1 := gF_LayN g1 hL
    have h1 := MdM_q h g1
    have G1 : gF sMz nT M0 M1 := gF_trans hM (gF_up g1 (fun a j q => Or.inl q) (fun _ _ q => q))
    simp +decide (disch := omega) only [qX11_beyond, lm L1, or_z, ni_add1, am_w1_i, am_w1_r, am_w1_x, am_w1_l, am_w1_w, va_rf_s, am_push_n, am_push_s, am_cs_0, am_cs_i, am_cs_l, am_cs_r, m_uI_K, m_uI_N, m_uI_R, m_uI_L, m_uI_I, m_uL_K, m_uL_N, m_uL_R, m_uL_I, m_uL_L, m_uR_K, m_uR_N, m_uR_I, m_uR_L, m_uR_R, true_and, and_true, true_implies, false_implies, not_true_eq_false, not_false_eq_true, if_true, if_false, false_and, and_false]
    rw [ni_pos (by omega)]
    by_cases c : gpD D s 48 = 0
    · have h0 := ih (s + 1) (by omega) M1 G1
      rw [btI_f (fun q => q.1 c)] at h0
      first | rw [br_p (c)] | rw [br_r (c)] | rw [br_s (c)]
      exact h0
    · first | rw [br_n (c)] | rw [br_q (c)] | rw [br_u (c)]
      refine m_chanceOf hD L1 h1 (by omega) d _ (fun M2 g2 => ?_)
      have L2 := gF_LayN g2 L1
      have h2 := MdM_z h1 g2
      have h0 := ih (s + 1) (by omega) M2 (gF_trans G1 g2)
      simp +decide (disch := omega) only [qX11_beyond, lm L2, h2.1.1, h2.2.2.2.1.1, by_cmp hD s, or_z, ni_in_t, ni_tn, ni_add1, am_w1_i, am_w1_r, am_w1_x, am_w1_l, am_w1_w, va_rf_s, am_push_n, am_push_s, am_cs_0, am_cs_i, am_cs_l, am_cs_r, m_uI_K, m_uI_N, m_uI_R, m_uI_L, m_uI_I, m_uL_K, m_uL_N, m_uL_R, m_uL_I, m_uL_L, m_uR_K, m_uR_N, m_uR_I, m_uR_L, m_uR_R, true_and, and_true, true_implies, false_implies, not_true_eq_false, not_false_eq_true, if_true, if_false, false_and, and_false]
      by_cases c2 : chN D s * dN D < 50000000000
      · rw [btI_t ⟨c, c2⟩] at h0
        first | rw [br_p (c2)] | rw [br_r (c2)] | rw [br_s (c2)]
        exact h0
      · rw [btI_f (fun q => c2 q.2)] at h0
        first | rw [br_n (c2)] | rw [br_q (c2)] | rw [br_u (c2)]
        exact h0
theorem m_beyond : MzO 286 [] aBey := by
  intro d M b D Q hD hL h hQ
  have h0 := l_m_beyond (d + 10) b D M Q hD hL h hQ (dN D) 0 (by omega) M (gF_refl _ _ _)
  rw [eX11_beyond]
  simp +decide only [qX11_beyond, am_w1_i, am_w1_r, am_w1_x, am_w1_l, am_w1_w, va_rf_s, am_push_n, am_push_s, am_cs_0, am_cs_i, am_cs_l, am_cs_r, m_uI_K, m_uI_N, m_uI_R, m_uI_L, m_uI_I, m_uL_K, m_uL_N, m_uL_R, m_uL_I, m_uL_L, m_uR_K, m_uR_N, m_uR_I, m_uR_L, m_uR_R, true_and, and_true, true_implies, false_implies, not_true_eq_false, not_false_eq_true, if_true, if_false, false_and, and_false]
  exact h0
theorem op_beyond : OpI 136 286 [] isI := op_z (fun D => ⟨_, rfl⟩) x_beyond m_beyond
end
section
/-! settles -/
noncomputable def stK (D : Dat) (s h p : Nat) : Nat := cnt (fun s => dB (0 < (dY D s).length ∧ 2 ≤ dMc D s h ∧ dMy D s h p)) s
theorem stK_e (D : Dat) (h p : Nat) : stK D (dN D) h p = stN D h p := rfl
theorem stK_t {D : Dat} {s h p : Nat} (c : 0 < (dY D s).length ∧ 2 ≤ dMc D s h ∧ dMy D s h p) : stK D (s + 1) h p = stK D s h p + 1 := cnt_t (dB_t.mpr c)
theorem stK_f {D : Dat} {s h p : Nat} (c : ¬ (0 < (dY D s).length ∧ 2 ≤ dMc D s h ∧ dMy D s h p)) : stK D (s + 1) h p = stK D s h p := cnt_f (fun q => c (dB_t.mp q))
noncomputable def aStl (t x y : Int32) (D : Dat) : Value := .int (if isCl D x y ∧ isHr t then nI (stN D t.toInt.toNat (plI x y)) else -1)
theorem x_countMay {M : am_M} {s t : Nat} {D : Dat} (hL : Lay M) (hs : s < 8) (ht : t < 48) (hS : dSX M D s) (d : Nat) (Q : Option Value → am_M → Prop) : am_E am_P0 (d + 2) 89 [.ref (173 + 13 * s), .int (nI t)] M Q ↔ Q (some (.int (nI (dMc D s t)))) M := by
  rw [c_x_countMay d s t M Q hL hs ht]
  have e1 : cnt (fun p => dB (inS (my4 M s t) p)) 256 = dMc D s t := by
    unfold dMc
    congr 1
    funext p
    exact congrArg dB (propext (hS.2.2.2.2 t ht p))
  rw [e1]
theorem l_x_settles (d z t p : Nat) (x2 x3 : Int32) (D : Dat) (M0 : am_M) (Q : Option Value → am_M → Prop) (hD : dOK D) (ht : t < 48) (hp : p < 256) (hQ : ∀ M', zF (sXq z) M0 M' → XR M' z D → Q (some (.int (nI (stN D t p)))) M') :
    ∀ (m s : Nat), s + m = dN D → ∀ (M : am_M) (v7 : Value), (v7 = am_x ∨ ∃ a, v7 = .ref a) → zF (sXq z) M0 M → XR M z D → am_P am_P0 (d + 6) (am_look tX10_settles) 32 [.ref 0, .int (nI t), .int x2, .int x3, .int (nI p), .int (nI (stK D s t p)), .int (nI s), v7] [] M Q := by
  have n8 := dN_8 hD
  intro m
  induction m with
  | zero =>
    intro s hs M v7 hv7 hM h
    have hz := h.1.2.2.1
    have hL := h.1.1
    have hr := h.1.2.2.2.1
    have hle : nI (dN D) ≤ nI s := (ni_le (by omega) (by omega)).mpr (by omega)
    have h0 := hQ M hM h
    rw [hX10_settles_32]
    simp +decide only [qX10_settles_0, qX10_settles_1, lx hL, lz hL hz, hr, (x_n h).1, am_w1_i, am_w1_r, am_w1_x, am_w1_l, am_w1_w, va_rf_s, am_push_n, am_push_s, am_cs_0, am_cs_i, am_cs_l, am_cs_r, m_uI_K, m_uI_N, m_uI_R, m_uI_L, m_uI_I, m_uL_K, m_uL_N, m_uL_R, m_uL_I, m_uL_L, m_uR_K, m_uR_N, m_uR_I, m_uR_L, m_uR_R, true_and, and_true, true_implies, false_implies, not_true_eq_false, not_false_eq_true, if_true, if_false, false_and, and_false]
    first | rw [br_p (hle)] | rw [br_r (hle)] | rw [br_s (hle)]
    rw [show s = dN D by omega]
    exact h0
  | succ m ih =>
    intro s hs M v7 hv7 hM h
    have hz := h.1.2.2.1
    have hL := h.1.1
    have hr := h.1.2.2.2.1
    have hlt : ¬ nI (dN D) ≤ nI s := by rw [ni_le (by omega) (by omega)]; omega
    have h48 := dY_len hD s
    have hmc : dMc D s t ≤ 256 := cnt_le _ _
    have hw7 : am_w1 v7 = v7 := by rcases hv7 with rfl | ⟨x, rfl⟩ <;> rfl
    rw [hX10_settles_32]
    simp +decide (disch := omega) only [qX10_settles_0, qX10_settles_1, lx hL, lz hL hz, hr, (x_n h).1, hw7, am_w1_i, am_w1_r, am_w1_x, am_w1_l, am_w1_w, va_rf_s, am_push_n, am_push_s, am_cs_0, am_cs_i, am_cs_l, am_cs_r, m_uI_K, m_uI_N, m_uI_R, m_uI_L, m_uI_I, m_uL_K, m_uL_N, m_uL_R, m_uL_I, m_uL_L, m_uR_K, m_uR_N, m_uR_I, m_uR_L, m_uR_R, true_and, and_true, true_implies, false_implies, not_true_eq_false, not_false_eq_true, if_true, if_false, false_and, and_false]
    first | rw [br_n (hlt)] | rw [br_q (hlt)] | rw [br_u (hlt)]
    refine x_setT hD h d (by omega) _ (fun M1 f1 X1 S1 => ?_)
    have L1 := X1.1.1
    have hr1 := X1.1.2.2.2.1
    have hst := lt_ L1 (isTr_of (show s < 8 by omega))
    have hsh := lsh L1 hz (s := s) (by omega)
    have hw_ := lw_ L1 (isSh_z (z := z) (s := s) hz (by omega))
    have hc := (x_ship X1 (s := s) (by omega)).2.1.1
    have em := fun Q => x_mayBe (D := D) (t := t) (p := p) L1 (show s < 8 by omega) ht hp S1 (d + 5) Q
    have ec := fun Q => x_countMay (D := D) (t := t) L1 (show s < 8 by omega) ht S1 (d + 3) Q
    have h0 := ih (s + 1) (by omega) M1 (.ref (173 + 13 * s)) (Or.inr ⟨_, rfl⟩) (zF_trans hM (zF_up f1 (fun a j q => sSt_q (by omega) q))) X1
    simp +decide (disch := omega) only [qX10_settles_0, qX10_settles_1, lx L1, lz L1 hz, hr1, hst, hsh, hw_, hc, em, ec, tI_0, ni_in_t, ni_tn, ni_add1, am_w1_i, am_w1_r, am_w1_x, am_w1_l, am_w1_w, va_rf_s, am_push_n, am_push_s, am_cs_0, am_cs_i, am_cs_l, am_cs_r, m_uI_K, m_uI_N, m_uI_R, m_uI_L, m_uI_I, m_uL_K, m_uL_N, m_uL_R, m_uL_I, m_uL_L, m_uR_K, m_uR_N, m_uR_I, m_uR_L, m_uR_R, true_and, and_true, true_implies, false_implies, not_true_eq_false, not_false_eq_true, if_true, if_false, false_and, and_false]
    rw [ni_pos (by omega), show (1 : Int32) = nI 1 from rfl, ni_le (by omega) (by omega)]
    by_cases c : (dY D s).length = 0
    · rw [stK_f (fun q => by omega)] at h0
      first | rw [br_p (c)] | rw [br_r (c)] | rw [br_s (c)]
      exact h0
    · first | rw [br_n (c)] | rw [br_q (c)] | rw [br_u (c)]
      by_cases c1 : dMy D s t p
      · first | rw [br_p (c1)] | rw [br_r (c1)] | rw [br_s (c1)]
        by_cases c2 : dMc D s t ≤ 1
        · rw [stK_f (fun q => by omega)] at h0
          first | rw [br_p (c2)] | rw [br_r (c2)] | rw [br_s (c2)]
          exact h0
        · rw [stK_t ⟨by omega, by omega, c1⟩] at h0
          first | rw [br_n (c2)] | rw [br_q (c2)] | rw [br_u (c2)]
          exact h0
      · rw [stK_f (fun q => c1 q.2.2)] at h0
        first | rw [br_n (c1)] | rw [br_q (c1)] | rw [br_u (c1)]
        exact h0
theorem x_settles (t x y : Int32) : XqO 137 [.int t, .int x, .int y] (aStl t x y) := by
  intro d M z D Q hD h hQ
  have hz := h.1.2.2.1
  have hL := h.1.1
  have hr := h.1.2.2.2.1
  have eP := fun x y Q => x_place hD h (d + 19) x y Q
  unfold aStl at hQ
  rw [eX10_settles]
  simp +decide only [qX10_settles_0, qX10_settles_1, lx hL, lz hL hz, hr, eP, c_x_isHour, bI_0, Classical.not_not, am_w1_i, am_w1_r, am_w1_x, am_w1_l, am_w1_w, va_rf_s, am_push_n, am_push_s, am_cs_0, am_cs_i, am_cs_l, am_cs_r, m_uI_K, m_uI_N, m_uI_R, m_uI_L, m_uI_I, m_uL_K, m_uL_N, m_uL_R, m_uL_I, m_uL_L, m_uR_K, m_uR_N, m_uR_I, m_uR_L, m_uR_R, true_and, and_true, true_implies, false_implies, not_true_eq_false, not_false_eq_true, if_true, if_false, false_and, and_false]
  by_cases hc : isCl D x y
  · obtain ⟨c1, c2, c3, c4, c5, c6, c7⟩ := cl_of hD hc
    rw [if_pos hc]
    have hne : ¬ nI (plI x y) = -1 := nI_m1 (by omega)
    first | rw [br_n (hne)] | rw [br_q (hne)] | rw [br_u (hne)]
    by_cases ht : 0 ≤ t.toInt ∧ t.toInt < 48
    · first | rw [br_p (ht)] | rw [br_r (ht)] | rw [br_s (ht)]
      rw [if_pos ⟨hc, ht⟩] at hQ
      have et : t = nI t.toInt.toNat := i32_of (by omega) (by omega)
      have h0 := l_x_settles (d + 14) z t.toInt.toNat (plI x y) x y D M Q hD (by omega) c2 hQ (dN D) 0 (by omega) M am_x (Or.inl rfl) (XR_2 h) h
      rw [← et] at h0
      exact h0
    · first | rw [br_n (ht)] | rw [br_q (ht)] | rw [br_u (ht)]
      have h0 := hQ M (XR_2 h) h
      rw [if_neg (fun q => ht q.2)] at h0
      exact h0
  · rw [if_neg hc]
    have h0 := hQ M (XR_2 h) h
    rw [if_neg (fun q => hc q.1)] at h0
    simp +decide only [am_w1_i, am_w1_r, am_w1_x, am_w1_l, am_w1_w, va_rf_s, am_push_n, am_push_s, am_cs_0, am_cs_i, am_cs_l, am_cs_r, m_uI_K, m_uI_N, m_uI_R, m_uI_L, m_uI_I, m_uL_K, m_uL_N, m_uL_R, m_uL_I, m_uL_L, m_uR_K, m_uR_N, m_uR_I, m_uR_L, m_uR_R, true_and, and_true, true_implies, false_implies, not_true_eq_false, not_false_eq_true, if_true, if_false, false_and, and_false]
    exact h0
/-- the model: what looks settle -/
def StM4 (M : am_M) (D : Dat) (f : Nat → Nat → Nat) : Prop := ∀ h c, h < 48 → c < dC D * dR D → mI M 334 (256 * h + c) = nI (f h (plc (dC D) c))
def s334 (a _j : Nat) : Prop := a = 334
theorem MdM_4 {M M' : am_M} {b : Nat} {D : Dat} (h : MdM M b D) (hg : gF s334 nT M M') : MdM M' b D := MdM_g h hg (fun a j q z => by unfold s334 at z; unfold tlM at q; omega)
theorem LyM_4 {M M' : am_M} {C R : Nat} {w : Nat → Prop} {v : Nat} {snd : Nat → Bool → Prop} {B : List Fct} {Y : List Sy} (h : LyM M C R w v snd B Y) (hg : gF s334 nT M M') : LyM M' C R w v snd B Y := LyM_g h hg (fun a j q z => by unfold s334 at z; unfold sY sK sP sFG sF sG at q; omega)
theorem l_m_sa0 (d : Nat) (M0 : am_M) (Q : Option Value → am_M → Prop) (hL0 : Lay M0) (hN : ∀ M', gF s334 nT M0 M' → (∀ i, i < 12288 → mI M' 334 i = 0) → am_P am_P0 d (am_look tX11_settlesAll) 24 [.ref 277, .int 0, am_x, am_x] [] M' Q) :
    ∀ (m i : Nat), i + m = 12288 → ∀ (M : am_M), gF s334 nT M0 M → (∀ k, k < i → mI M 334 k = 0) → am_P am_P0 d (am_look tX11_settlesAll) 2 [.ref 277, .int (nI i), am_x, am_x] [] M Q := by
  intro m
  induction m with
  | zero =>
    intro i hi M hM hb
    have ei : i = 12288 := by omega
    subst ei
    have h0 := hN M hM hb
    rw [hX11_settlesAll_2]
    simp +decide only [qX11_settlesAll_0, qX11_settlesAll_1, show nI 12288 = (12288 : Int32) from rfl, am_w1_i, am_w1_r, am_w1_x, am_w1_l, am_w1_w, va_rf_s, am_push_n, am_push_s, am_cs_0, am_cs_i, am_cs_l, am_cs_r, m_uI_K, m_uI_N, m_uI_R, m_uI_L, m_uI_I, m_uL_K, m_uL_N, m_uL_R, m_uL_I, m_uL_L, m_uR_K, m_uR_N, m_uR_I, m_uR_L, m_uR_R, true_and, and_true, true_implies, false_implies, not_true_eq_false, not_false_eq_true, if_true, if_false, false_and, and_false] at h0 ⊢
    exact h0
  | succ m ih =>
    intro i hi M hM hb
    have hL := gF_LayN hM hL0
    have hlt : ¬ (12288 : Int32) ≤ nI i := by rw [show (12288 : Int32) = nI 12288 from rfl, ni_le (by omega) (by omega)]; omega
    have w1 : gF s334 nT M (uI M 334 i 0) := gF_i _ rfl
    have h0 := ih (i + 1) (by omega) (uI M 334 i 0) (gF_trans hM w1) (fun k hk => by
      rw [m_uI_I]
      by_cases e : k = i
      · rw [if_pos ⟨rfl, e⟩]
      · rw [if_neg (by omega)]; exact hb k (by omega))
    rw [hX11_settlesAll_2]
    simp +decide (disch := omega) only [qX11_settlesAll_0, qX11_settlesAll_1, lm hL, ni_in_t, ni_tn, ni_add1, am_w1_i, am_w1_r, am_w1_x, am_w1_l, am_w1_w, va_rf_s, am_push_n, am_push_s, am_cs_0, am_cs_i, am_cs_l, am_cs_r, m_uI_K, m_uI_N, m_uI_R, m_uI_L, m_uI_I, m_uL_K, m_uL_N, m_uL_R, m_uL_I, m_uL_L, m_uR_K, m_uR_N, m_uR_I, m_uR_L, m_uR_R, true_and, and_true, true_implies, false_implies, not_true_eq_false, not_false_eq_true, if_true, if_false, false_and, and_false]
    first | rw [br_n (hlt)] | rw [br_q (hlt)] | rw [br_u (hlt)]
    exact h0
section
variable (d b s : Nat) (D : Dat) (M0 : am_M) (Q : Option Value → am_M → Prop)
theorem l_m_sa3 (hD : dOK D) (hL0 : Lay M0) (h0' : MdM M0 b D) (hs : s < dN D) (hlen : 0 < (dY D s).length) (hY0 : LyM M0 (dC D) (dR D) (dWt D s) (dV D s) (dSn D s) (dBs D s) (dY D s)) (t : Nat) (ht : t < 48) (hm2 : 2 ≤ dMc D s t)
    (hN : ∀ M' v3, gF s334 nT M0 M' → jk v3 → StM4 M' D (fun h p => if h < t + 1 then stK D (s + 1) h p else stK D s h p) → am_P am_P0 (d + 3) (am_look tX11_settlesAll) 55 [.ref 277, .int (nI s), .int (nI (t + 1)), v3] [] M' Q) :
    ∀ (m c : Nat), c + m = dC D * dR D → ∀ (M : am_M), gF s334 nT M0 M → (∀ h k, h < 48 → k < dC D * dR D → mI M 334 (256 * h + k) = nI (if h < t ∨ (h = t ∧ k < c) then stK D (s + 1) h (plc (dC D) k) else stK D s h (plc (dC D) k))) → am_P am_P0 (d + 3) (am_look tX11_settlesAll) 76 [.ref 277, .int (nI s), .int (nI t), .int (nI c)] [] M Q := by
  have n8 := dN_8 hD
  have hCR : dC D * dR D ≤ 16 * 16 := Nat.mul_le_mul hD.1.1.1 hD.1.1.2
  have hC1 := dOK_1 hD hs
  intro m
  induction m with
  | zero =>
    intro c hc M hM hb
    have hL := gF_LayN hM hL0
    have h := MdM_4 h0' hM
    have ec := fun Q => c_m_cells (d + 2) M Q hL b (dC D) (dR D) h.1.1 h.1.2 h.2.1.1 h.2.1.2
    have hle : nI (dC D * dR D) ≤ nI c := (ni_le (by omega) (by omega)).mpr (by omega)
    have h0 := hN M (.int (nI c)) hM (Or.inr ⟨_, rfl⟩) (fun h' k a1 a2 => by
      rw [hb h' k a1 a2]
      dsimp only
      by_cases q : h' < t + 1
      · rw [if_pos (by omega), if_pos q]
      · rw [if_neg (by omega), if_neg q])
    rw [hX11_settlesAll_76]
    simp +decide only [qX11_settlesAll_0, qX11_settlesAll_1, lm hL, ec, ni_add1, am_w1_i, am_w1_r, am_w1_x, am_w1_l, am_w1_w, va_rf_s, am_push_n, am_push_s, am_cs_0, am_cs_i, am_cs_l, am_cs_r, m_uI_K, m_uI_N, m_uI_R, m_uI_L, m_uI_I, m_uL_K, m_uL_N, m_uL_R, m_uL_I, m_uL_L, m_uR_K, m_uR_N, m_uR_I, m_uR_L, m_uR_R, true_and, and_true, true_implies, false_implies, not_true_eq_false, not_false_eq_true, if_true, if_false, false_and, and_false] at h0 ⊢
    first | rw [br_p (hle)] | rw [br_r (hle)] | rw [br_s (hle)]
    exact h0
  | succ m ih =>
    intro c hc M hM hb
    have hL := gF_LayN hM hL0
    have h := MdM_4 h0' hM
    have hY := LyM_4 hY0 hM
    have ec := fun Q => c_m_cells (d + 2) M Q hL b (dC D) (dR D) h.1.1 h.1.2 h.2.1.1 h.2.1.2
    have hlt : ¬ nI (dC D * dR D) ≤ nI c := by rw [ni_le (by omega) (by omega)]; omega
    have hcl : c < dC D * dR D := by omega
    have hp := plc_v hD.1.1.1 hC1.1 hcl
    have em := fun Q => m_mayBe hD hL h hs (d + 1) Q hY hp.1 ht
    rw [hp.2] at em
    have e256 : (256 : Int32) * nI t + nI c = nI (256 * t + c) := by rw [show (256 : Int32) = nI 256 from rfl, ni_mul, ni_add]
    have hcur := hb t c ht hcl
    rw [if_neg (by omega)] at hcur
    have put : am_P am_P0 (d + 3) (am_look tX11_settlesAll) 76 [.ref 277, .int (nI s), .int (nI t), .int (nI (c + 1))] [] (uI M 334 (256 * t + c) (nI (stK D (s + 1) t (plc (dC D) c)))) Q := by
      have w1 : gF s334 nT M (uI M 334 (256 * t + c) (nI (stK D (s + 1) t (plc (dC D) c)))) := gF_i _ rfl
      refine ih (c + 1) (by omega) _ (gF_trans hM w1) (fun h' k a1 a2 => ?_)
      rw [m_uI_I]
      by_cases e : h' = t ∧ k = c
      · rw [e.1, e.2, if_pos ⟨rfl, rfl⟩, if_pos (by omega)]
      · rw [if_neg (by omega), hb h' k a1 a2]
        by_cases q : h' < t ∨ (h' = t ∧ k < c)
        · rw [if_pos q, if_pos (by omega)]
        · rw [if_neg q, if_neg (by omega)]
    rw [hX11_settlesAll_76]
    simp +decide (disch := omega) only [qX11_settlesAll_0, qX11_settlesAll_1, lm hL, ec, em, e256, hcur, tI_0, ni_in_t, ni_tn, ni_add1, am_w1_i, am_w1_r, am_w1_x, am_w1_l, am_w1_w, va_rf_s, am_push_n, am_push_s, am_cs_0, am_cs_i, am_cs_l, am_cs_r, m_uI_K, m_uI_N, m_uI_R, m_uI_L, m_uI_I, m_uL_K, m_uL_N, m_uL_R, m_uL_I, m_uL_L, m_uR_K, m_uR_N, m_uR_I, m_uR_L, m_uR_R, true_and, and_true, true_implies, false_implies, not_true_eq_false, not_false_eq_true, if_true, if_false, false_and, and_false]
    first | rw [br_n (hlt)] | rw [br_q (hlt)] | rw [br_u (hlt)]
    by_cases c2 : dMy D s t (plc (dC D) c)
    · rw [stK_t ⟨hlen, hm2, c2⟩] at put
      first | rw [br_p (c2)] | rw [br_r (c2)] | rw [br_s (c2)]
      exact put
    · rw [stK_f (fun q => c2 q.2.2)] at put
      first | rw [br_n (c2)] | rw [br_q (c2)] | rw [br_u (c2)]
      rw [show (0 : Int32) = nI 0 from rfl, ni_add]
      exact put
theorem l_m_sa2 (hD : dOK D) (hL0 : Lay M0) (h0' : MdM M0 b D) (hs : s < dN D) (hlen : 0 < (dY D s).length) (hY0 : LyM M0 (dC D) (dR D) (dWt D s) (dV D s) (dSn D s) (dBs D s) (dY D s))
    (hN : ∀ M' v2 v3, gF s334 nT M0 M' → jk v2 → jk v3 → StM4 M' D (stK D (s + 1)) → am_P am_P0 (d + 3) (am_look tX11_settlesAll) 24 [.ref 277, .int (nI (s + 1)), v2, v3] [] M' Q) :
    ∀ (m t : Nat), t + m = 48 → ∀ (M : am_M) (v3 : Value), jk v3 → gF s334 nT M0 M → StM4 M D (fun h p => if h < t then stK D (s + 1) h p else stK D s h p) → am_P am_P0 (d + 3) (am_look tX11_settlesAll) 55 [.ref 277, .int (nI s), .int (nI t), v3] [] M Q := by
  have n8 := dN_8 hD
  intro m
  induction m with
  | zero =>
    intro t ht M v3 j3 hM hb
    have et : t = 48 := by omega
    subst et
    have h0 := hN M (.int 48) v3 hM (Or.inr ⟨_, rfl⟩) j3 (fun h' k a1 a2 => by rw [hb h' k a1 a2]; dsimp only; rw [if_pos a1])
    rw [hX11_settlesAll_55]
    simp +decide only [qX11_settlesAll_0, qX11_settlesAll_1, show nI 48 = (48 : Int32) from rfl, ni_add1, jk_w j3, am_w1_i, am_w1_r, am_w1_x, am_w1_l, am_w1_w, va_rf_s, am_push_n, am_push_s, am_cs_0, am_cs_i, am_cs_l, am_cs_r, m_uI_K, m_uI_N, m_uI_R, m_uI_L, m_uI_I, m_uL_K, m_uL_N, m_uL_R, m_uL_I, m_uL_L, m_uR_K, m_uR_N, m_uR_I, m_uR_L, m_uR_R, true_and, and_true, true_implies, false_implies, not_true_eq_false, not_false_eq_true, if_true, if_false, false_and, and_false] at h0 ⊢
    exact h0
  | succ m ih =>
    intro t ht M v3 j3 hM hb
    have hL := gF_LayN hM hL0
    have h := MdM_4 h0' hM
    have hY := LyM_4 hY0 hM
    have hlt : ¬ (48 : Int32) ≤ nI t := by rw [show (48 : Int32) = nI 48 from rfl, ni_le (by omega) (by omega)]; omega
    have ec := fun Q => m_cellsOf hD hL h hs d Q hY (t := t) (by omega)
    have hmc : dMc D s t ≤ 256 := cnt_le _ _
    rw [hX11_settlesAll_55]
    simp +decide only [qX11_settlesAll_0, qX11_settlesAll_1, lm hL, ec, jk_w j3, am_w1_i, am_w1_r, am_w1_x, am_w1_l, am_w1_w, va_rf_s, am_push_n, am_push_s, am_cs_0, am_cs_i, am_cs_l, am_cs_r, m_uI_K, m_uI_N, m_uI_R, m_uI_L, m_uI_I, m_uL_K, m_uL_N, m_uL_R, m_uL_I, m_uL_L, m_uR_K, m_uR_N, m_uR_I, m_uR_L, m_uR_R, true_and, and_true, true_implies, false_implies, not_true_eq_false, not_false_eq_true, if_true, if_false, false_and, and_false]
    first | rw [br_n (hlt)] | rw [br_q (hlt)] | rw [br_u (hlt)]
    rw [show (2 : Int32) = nI 2 from rfl, ni_le (by omega) (by omega)]
    by_cases c : 2 ≤ dMc D s t
    · first | rw [br_p (c)] | rw [br_r (c)] | rw [br_s (c)]
      exact l_m_sa3 d b s D M0 Q hD hL0 h0' hs hlen hY0 t (by omega) c (fun M' v3' g' j3' S' => ih (t + 1) (by omega) M' v3' j3' g' S') (dC D * dR D) 0 (by omega) M hM (fun h' k a1 a2 => by
        rw [hb h' k a1 a2]
        dsimp only
        by_cases q : h' < t
        · rw [if_pos q, if_pos (by omega)]
        · rw [if_neg q, if_neg (by omega)])
    · first | rw [br_n (c)] | rw [br_q (c)] | rw [br_u (c)]
      have h0 := ih (t + 1) (by omega) M v3 j3 hM (fun h' k a1 a2 => by
        rw [hb h' k a1 a2]
        dsimp only
        by_cases q : h' < t
        · rw [if_pos q, if_pos (by omega)]
        · rw [if_neg q]
          by_cases e : h' = t
          · rw [if_pos (by omega), e, stK_f (fun z => c z.2.1)]
          · rw [if_neg (by omega)])
      simp +decide only [qX11_settlesAll_0, qX11_settlesAll_1, ni_add1, jk_w j3, am_w1_i, am_w1_r, am_w1_x, am_w1_l, am_w1_w, va_rf_s, am_push_n, am_push_s, am_cs_0, am_cs_i, am_cs_l, am_cs_r, m_uI_K, m_uI_N, m_uI_R, m_uI_L, m_uI_I, m_uL_K, m_uL_N, m_uL_R, m_uL_I, m_uL_L, m_uR_K, m_uR_N, m_uR_I, m_uR_L, m_uR_R, true_and, and_true, true_implies, false_implies, not_true_eq_false, not_false_eq_true, if_true, if_false, false_and, and_false]
      exact h0
end
theorem l_m_sa1 (d b : Nat) (D : Dat) (M0 : am_M) (Q : Option Value → am_M → Prop) (hD : dOK D) (hL0 : Lay M0) (h0' : MdM M0 b D) (hQ : ∀ M', gF sMz nT M0 M' → StM4 M' D (stN D) → Q none M') :
    ∀ (m s : Nat), s + m = dN D → ∀ (M : am_M) (v2 v3 : Value), jk v2 → jk v3 → gF sMz nT M0 M → StM4 M D (stK D s) → am_P am_P0 (d + 8) (am_look tX11_settlesAll) 24 [.ref 277, .int (nI s), v2, v3] [] M Q := by
  have n8 := dN_8 hD
  intro m
  induction m with
  | zero =>
    intro s hs M v2 v3 h2 h3 hM hb
    have hL := gF_LayN hM hL0
    have h := MdM_z h0' hM
    have hb2 := h.1.2
    have hle : nI (dN D) ≤ nI s := (ni_le (by omega) (by omega)).mpr (by omega)
    have h0 := hQ M hM (by rw [show s = dN D by omega] at hb; exact hb)
    rw [hX11_settlesAll_24]
    simp +decide (disch := omega) only [qX11_settlesAll_0, qX11_settlesAll_1, lm hL, h.1.1, h.2.2.2.1.1, ni_in_t, ni_tn, am_w1_i, am_w1_r, am_w1_x, am_w1_l, am_w1_w, va_rf_s, am_push_n, am_push_s, am_cs_0, am_cs_i, am_cs_l, am_cs_r, m_uI_K, m_uI_N, m_uI_R, m_uI_L, m_uI_I, m_uL_K, m_uL_N, m_uL_R, m_uL_I, m_uL_L, m_uR_K, m_uR_N, m_uR_I, m_uR_L, m_uR_R, true_and, and_true, true_implies, false_implies, not_true_eq_false, not_false_eq_true, if_true, if_false, false_and, and_false]
    first | rw [br_p (hle)] | rw [br_r (hle)] | rw [br_s (hle)]
    exact h0
  | succ m ih =>
    intro s hs M v2 v3 h2 h3 hM hb
    have hL := gF_LayN hM hL0
    have h := MdM_z h0' hM
    have hb2 := h.1.2
    have h48 := dY_len hD s
    have hlt : ¬ nI (dN D) ≤ nI s := by rw [ni_le (by omega) (by omega)]; omega
    have hsay := fun Q => m_sayN hD hL h (s := s) (by omega) (d + 6) Q
    have ez : nI (dY D s).length = 0 ↔ (dY D s).length = 0 := by rw [show (0 : Int32) = nI 0 from rfl, ni_eq (by omega) (by omega)]
    rw [hX11_settlesAll_24]
    simp +decide (disch := omega) only [qX11_settlesAll_0, qX11_settlesAll_1, lm hL, h.1.1, h.2.2.2.1.1, hsay, ez, jk_w h2, jk_w h3, ni_in_t, ni_tn, ni_add1, Classical.not_not, am_w1_i, am_w1_r, am_w1_x, am_w1_l, am_w1_w, va_rf_s, am_push_n, am_push_s, am_cs_0, am_cs_i, am_cs_l, am_cs_r, m_uI_K, m_uI_N, m_uI_R, m_uI_L, m_uI_I, m_uL_K, m_uL_N, m_uL_R, m_uL_I, m_uL_L, m_uR_K, m_uR_N, m_uR_I, m_uR_L, m_uR_R, true_and, and_true, true_implies, false_implies, not_true_eq_false, not_false_eq_true, if_true, if_false, false_and, and_false]
    first | rw [br_n (hlt)] | rw [br_q (hlt)] | rw [br_u (hlt)]
    by_cases c : (dY D s).length = 0
    · first | rw [br_p (c)] | rw [br_r (c)] | rw [br_s (c)]
      exact ih (s + 1) (by omega) M v2 v3 h2 h3 hM (fun h' k a1 a2 => by rw [hb h' k a1 a2, stK_f (fun q => by omega)])
    · first | rw [br_n (c)] | rw [br_q (c)] | rw [br_u (c)]
      obtain ⟨w1, w2, w3, w4, w5⟩ := mh hD h (s := s) (by omega)
      refine c_m_lays d s b (dC D) (dR D) (dV D s) (dDp D) (dDr D s) (dLd D s) (dBk D) (dY D s) M _ hL w1 (by omega) w2 w3 w4 (dY_len hD s) (fun M1 o1 y1 => ?_)
      rw [w5] at y1
      have g1 : gF sMz nT M M1 := gF_up (gF_o o1) (fun a j q => Or.inl (sMq_Y q)) (fun _ _ q => q)
      have L1 := gF_LayN g1 hL
      have h1 := MdM_z h g1
      have h9 := l_m_sa2 (d + 5) b s D M1 Q hD L1 h1 (by omega) (by omega) y1 (fun M' v2' v3' g' q2 q3 e' => ih (s + 1) (by omega) M' v2' v3' q2 q3 (gF_trans hM (gF_trans g1 (gF_up g' (fun a j q => by unfold s334 at q; unfold sMz; omega) (fun _ _ q => q)))) e') 48 0 (by omega) M1 v3 h3 (gF_refl _ _ _) (fun h' k a1 a2 => by dsimp only; rw [if_neg (by omega), o1.1 _ _ (by unfold sY sK sP sFG sF sG; omega)]; exact hb h' k a1 a2)
      simp +decide only [qX11_settlesAll_0, qX11_settlesAll_1, jk_w h3, am_w1_i, am_w1_r, am_w1_x, am_w1_l, am_w1_w, va_rf_s, am_push_n, am_push_s, am_cs_0, am_cs_i, am_cs_l, am_cs_r, m_uI_K, m_uI_N, m_uI_R, m_uI_L, m_uI_I, m_uL_K, m_uL_N, m_uL_R, m_uL_I, m_uL_L, m_uR_K, m_uR_N, m_uR_I, m_uR_L, m_uR_R, true_and, and_true, true_implies, false_implies, not_true_eq_false, not_false_eq_true, if_true, if_false, false_and, and_false]
      exact h9
theorem m_settlesAll {M : am_M} {b : Nat} {D : Dat} (hD : dOK D) (hL : Lay M) (h : MdM M b D) (d : Nat) (Q : Option Value → am_M → Prop) (hQ : ∀ M', gF sMz nT M M' → StM4 M' D (stN D) → Q none M') : am_E am_P0 (d + 8) 287 [.ref 277] M Q := by
  have hCR : dC D * dR D ≤ 16 * 16 := Nat.mul_le_mul hD.1.1.1 hD.1.1.2
  have h0 := l_m_sa0 (d + 8) M Q hL (fun M' g' e' => by
    have g2 : gF sMz nT M M' := gF_up g' (fun a j q => by unfold s334 at q; unfold sMz; omega) (fun _ _ q => q)
    exact l_m_sa1 d b D M' Q hD (gF_LayN g' hL) (MdM_z h g2) (fun M2 q2 => hQ M2 (gF_trans g2 q2)) (dN D) 0 (by omega) M' am_x am_x (Or.inl rfl) (Or.inl rfl) (gF_refl _ _ _) (fun h' k a1 a2 => by rw [e' _ (by omega)]; rfl)) 12288 0 (by omega) M (gF_refl _ _ _) (fun k hk => by omega)
  rw [eX11_settlesAll]
  simp +decide only [qX11_settlesAll_0, qX11_settlesAll_1, am_w1_i, am_w1_r, am_w1_x, am_w1_l, am_w1_w, va_rf_s, am_push_n, am_push_s, am_cs_0, am_cs_i, am_cs_l, am_cs_r, m_uI_K, m_uI_N, m_uI_R, m_uI_L, m_uI_I, m_uL_K, m_uL_N, m_uL_R, m_uL_I, m_uL_L, m_uR_K, m_uR_N, m_uR_I, m_uR_L, m_uR_R, true_and, and_true, true_implies, false_implies, not_true_eq_false, not_false_eq_true, if_true, if_false, false_and, and_false]
  exact h0
theorem m_settles (t x y : Int32) : MzO 288 [.int t, .int x, .int y] (aStl t x y) := by
  intro d M b D Q hD hL h hQ
  have hCR : dC D * dR D ≤ 16 * 16 := Nat.mul_le_mul hD.1.1.1 hD.1.1.2
  have eC := fun x y Q => m_isCell hD hL h (d + 18) x y Q
  have eH := fun x Q => c_m_isHour (d + 18) x M Q
  unfold aStl at hQ
  rw [eX11_settles]
  simp +decide only [qX11_settles, lm hL, eC, eH, bI_0, Classical.not_not, am_w1_i, am_w1_r, am_w1_x, am_w1_l, am_w1_w, va_rf_s, am_push_n, am_push_s, am_cs_0, am_cs_i, am_cs_l, am_cs_r, m_uI_K, m_uI_N, m_uI_R, m_uI_L, m_uI_I, m_uL_K, m_uL_N, m_uL_R, m_uL_I, m_uL_L, m_uR_K, m_uR_N, m_uR_I, m_uR_L, m_uR_R, true_and, and_true, true_implies, false_implies, not_true_eq_false, not_false_eq_true, if_true, if_false, false_and, and_false]
  by_cases ht : 0 ≤ t.toInt ∧ t.toInt < 48
  · first | rw [br_p (ht)] | rw [br_r (ht)] | rw [br_s (ht)]
    by_cases hc : isCl D x y
    · obtain ⟨c1, c2, c3, c4, c5, c6, c7⟩ := cl_of hD hc
      have hc' := hc
      unfold isCl at hc'
      first | rw [br_p (hc')] | rw [br_r (hc')] | rw [br_s (hc')]
      rw [if_pos ⟨hc, ht⟩] at hQ
      have et : t = nI t.toInt.toNat := i32_of (by omega) (by omega)
      refine m_settlesAll hD hL h (d + 11) _ (fun M1 g1 s1 => ?_)
      have L1 := gF_LayN g1 hL
      have h1 := MdM_z h g1
      have h0 := hQ M1 g1
      have eA := fun Q => m_atI hD L1 h1 hc (d + 19) Q
      have hcl := (cel_lt hD.1.1.1 hD.1.1.2 c1).1
      have e256 : (256 : Int32) * t + nI (cel (dC D) (plI x y)) = nI (256 * t.toInt.toNat + cel (dC D) (plI x y)) := by rw [show (256 : Int32) = nI 256 from rfl, et, ni_mul, ni_add, ← et]
      have e := plc_v hD.1.1.1 c4 hcl
      have e2 : plc (dC D) (cel (dC D) (plI x y)) = plI x y := cel_inj e.1 c1 e.2
      have hv := s1 t.toInt.toNat (cel (dC D) (plI x y)) (by omega) hcl
      rw [e2] at hv
      simp +decide (disch := omega) only [qX11_settles, lm L1, eA, e256, hv, ni_in_t, ni_tn, am_w1_i, am_w1_r, am_w1_x, am_w1_l, am_w1_w, va_rf_s, am_push_n, am_push_s, am_cs_0, am_cs_i, am_cs_l, am_cs_r, m_uI_K, m_uI_N, m_uI_R, m_uI_L, m_uI_I, m_uL_K, m_uL_N, m_uL_R, m_uL_I, m_uL_L, m_uR_K, m_uR_N, m_uR_I, m_uR_L, m_uR_R, true_and, and_true, true_implies, false_implies, not_true_eq_false, not_false_eq_true, if_true, if_false, false_and, and_false]
      exact h0
    · have h0 := hQ M (gF_refl _ _ _)
      rw [if_neg (fun q => hc q.1)] at h0
      unfold isCl at hc
      first | rw [br_n (hc)] | rw [br_q (hc)] | rw [br_u (hc)]
      exact h0
  · first | rw [br_n (ht)] | rw [br_q (ht)] | rw [br_u (ht)]
    have h0 := hQ M (gF_refl _ _ _)
    rw [if_neg (fun q => ht q.2)] at h0
    exact h0
theorem op_settles (t x y : Int32) : OpI 137 288 [.int t, .int x, .int y] isI := op_z (fun D => ⟨_, rfl⟩) (x_settles t x y) (m_settles t x y)
end
section
/-! next: the model -/
def dom (D : Dat) (h0 p0 h p : Nat) : Prop := stN D h p < stN D h0 p0 ∨ (stN D h p = stN D h0 p0 ∧ (dCs D p0 < dCs D p ∨ (dCs D p0 = dCs D p ∧ (h0 < h ∨ (h0 = h ∧ p0 ≤ p)))))
theorem bst_i {D : Dat} {h p : Nat} (h1 : h < 48) (h2 : p < 256) (h3 : 0 < stN D h p) (h4 : ∀ h' p', h' < 48 → p' < 256 → dom D h p h' p') : bst D h p := ⟨h1, h2, h3, h4⟩
theorem bst_1 {D : Dat} {h p h' p' : Nat} (a : bst D h p) (b : bst D h' p') : h = h' ∧ p = p' := by
  have q1 := a.2.2.2 h' p' b.1 b.2.1
  have q2 := b.2.2.2 h p a.1 a.2.1
  omega
theorem stN_0 {D : Dat} (hD : dOK D) {h p : Nat} (hv : ¬ vld (dC D) (dR D) p) : stN D h p = 0 := cnt_stay (a := 0) (by omega) (fun s _ a2 q => hv (dMy_v hD a2 (dB_t.mp q).2.2))
theorem stN_8 {D : Dat} (hD : dOK D) (h p : Nat) : stN D h p ≤ 8 := Nat.le_trans (cnt_le _ _) (dN_8 hD)
theorem dCs_99 (D : Dat) (p : Nat) : dCs D p ≤ 99 := by
  have := sumR_bd (dRc D) (p % 16, p / 16, 0, dDp D p)
  show (sumR (dRc D) (p % 16, p / 16, 0, dDp D p)).toNat ≤ 99
  omega
theorem plc_mono {C c c' : Nat} (hC : 1 ≤ C) (hC2 : C ≤ 16) (h : c ≤ c') : plc C c ≤ plc C c' := by
  unfold plc
  have h1 := Nat.div_le_div_right (c := C) h
  have h2 := Nat.mod_lt c (show 0 < C by omega)
  have h3 := Nat.mod_lt c' (show 0 < C by omega)
  have h4 := Nat.div_add_mod c C
  have h5 := Nat.div_add_mod c' C
  by_cases e : c / C = c' / C
  · rw [e] at h4 ⊢
    omega
  · omega
noncomputable def nxA (D : Dat) (w : Int32) (h p : Nat) : Int32 := if w.toInt = 0 then nI h else if w.toInt = 1 then nI (cel (dC D) p) else nI (stN D h p)
def nxQ (D : Dat) (w x : Int32) : Prop := (∃ h p, bst D h p ∧ x = nxA D w h p) ∨ ((∀ h p, h < 48 → p < 256 → stN D h p = 0) ∧ x = -1)
theorem nxQ_1 {D : Dat} {w : Int32} : ∀ x y, nxQ D w x → nxQ D w y → x = y := by
  rintro x y (⟨h, p, b1, rfl⟩ | ⟨q1, rfl⟩) (⟨h', p', b2, rfl⟩ | ⟨q2, rfl⟩)
  · obtain ⟨rfl, rfl⟩ := bst_1 b1 b2
    rfl
  · have := b1.2.2.1; have := q2 h p b1.1 b1.2.1; omega
  · have := b2.2.2.1; have := q1 h' p' b2.1 b2.2.1; omega
  · rfl
noncomputable def aNxt (w : Int32) (D : Dat) : Value := .int (if 0 ≤ w.toInt ∧ w.toInt ≤ 2 then theI (nxQ D w) else -1)
def scd (h c h' c' : Nat) : Prop := h' < h ∨ (h' = h ∧ c' < c)
def NxI (D : Dat) (h c : Nat) (x : Int32) : Prop := (x = -1 ∧ ∀ h' c', h' < 48 → c' < dC D * dR D → scd h c h' c' → stN D h' (plc (dC D) c') = 0) ∨ ∃ h0 c0, h0 < 48 ∧ c0 < dC D * dR D ∧ scd h c h0 c0 ∧ x = nI (256 * h0 + c0) ∧ 0 < stN D h0 (plc (dC D) c0) ∧ ∀ h' c', h' < 48 → c' < dC D * dR D → scd h c h' c' → dom D h0 (plc (dC D) c0) h' (plc (dC D) c')
section
variable (d b : Nat) (D : Dat) (M : am_M) (Q : Option Value → am_M → Prop) (w : Int32)
theorem l_m_next2 (hD : dOK D) (hL : Lay M) (h : MdM M b D) (hS : StM4 M D (stN D)) (t : Nat) (ht : t < 48)
    (hN : ∀ x v4 v5 v6, NxI D (t + 1) 0 x → jk v4 → jk v5 → jk v6 → am_P am_P0 (d + 1) (am_look tX11_next) 19 [.ref 277, .int w, .int x, .int (nI (t + 1)), v4, v5, v6] [] M Q) :
    ∀ (m c : Nat), c + m = dC D * dR D → ∀ (x : Int32) (v5 v6 : Value), jk v5 → jk v6 → NxI D t c x → am_P am_P0 (d + 1) (am_look tX11_next) 28 [.ref 277, .int w, .int x, .int (nI t), .int (nI c), v5, v6] [] M Q := by
  have hCR : dC D * dR D ≤ 16 * 16 := Nat.mul_le_mul hD.1.1.1 hD.1.1.2
  have ec := fun Q => c_m_cells d M Q hL b (dC D) (dR D) h.1.1 h.1.2 h.2.1.1 h.2.1.2
  intro m
  induction m with
  | zero =>
    intro c hc x v5 v6 j5 j6 hx
    have hle : nI (dC D * dR D) ≤ nI c := (ni_le (by omega) (by omega)).mpr (by omega)
    have h0 := hN x (.int (nI c)) v5 v6 (by
      rcases hx with ⟨q1, q2⟩ | ⟨h0, c0, q1, q2, q3, q4, q5, q6⟩
      · exact Or.inl ⟨q1, fun h' c' a1 a2 a3 => q2 h' c' a1 a2 (by unfold scd at a3 ⊢; omega)⟩
      · exact Or.inr ⟨h0, c0, q1, q2, by unfold scd at q3 ⊢; omega, q4, q5, fun h' c' a1 a2 a3 => q6 h' c' a1 a2 (by unfold scd at a3 ⊢; omega)⟩) (Or.inr ⟨_, rfl⟩) j5 j6
    rw [hX11_next_28]
    simp +decide only [qX11_next_0, qX11_next_1, qX11_next_2, lm hL, ec, ni_add1, jk_w j5, jk_w j6, am_w1_i, am_w1_r, am_w1_x, am_w1_l, am_w1_w, va_rf_s, am_push_n, am_push_s, am_cs_0, am_cs_i, am_cs_l, am_cs_r, m_uI_K, m_uI_N, m_uI_R, m_uI_L, m_uI_I, m_uL_K, m_uL_N, m_uL_R, m_uL_I, m_uL_L, m_uR_K, m_uR_N, m_uR_I, m_uR_L, m_uR_R, true_and, and_true, true_implies, false_implies, not_true_eq_false, not_false_eq_true, if_true, if_false, false_and, and_false] at h0 ⊢
    first | rw [br_p (hle)] | rw [br_r (hle)] | rw [br_s (hle)]
    exact h0
  | succ m ih =>
    intro c hc x v5 v6 j5 j6 hx
    have hlt : ¬ nI (dC D * dR D) ≤ nI c := by rw [ni_le (by omega) (by omega)]; omega
    have hcl : c < dC D * dR D := by omega
    have hC1 : 1 ≤ dC D := Nat.pos_of_ne_zero (fun q => by rw [q, Nat.zero_mul] at hcl; omega)
    have hp := plc_v hD.1.1.1 hC1 hcl
    have e256 : (256 : Int32) * nI t + nI c = nI (256 * t + c) := by rw [show (256 : Int32) = nI 256 from rfl, ni_mul, ni_add]
    have hv := hS t c ht hcl
    have hcs := (h.2.2.2.2.2.2.2.2 (plc (dC D) c) hp.1).2
    rw [hp.2] at hcs
    have hcs' : mI M 316 c = nI (dCs D (plc (dC D) c)) := hcs
    have h8 := stN_8 hD t (plc (dC D) c)
    have h99 := dCs_99 D (plc (dC D) c)
    have take : (∀ h' c', h' < 48 → c' < dC D * dR D → scd t c h' c' → dom D t (plc (dC D) c) h' (plc (dC D) c')) → 0 < stN D t (plc (dC D) c) → am_P am_P0 (d + 1) (am_look tX11_next) 28 [.ref 277, .int w, .int (nI (256 * t + c)), .int (nI t), .int (nI (c + 1)), .int (nI (256 * t + c)), .int 1] [] M Q := fun hd hpos => ih (c + 1) (by omega) _ _ _ (Or.inr ⟨_, rfl⟩) (Or.inr ⟨_, rfl⟩) (Or.inr ⟨t, c, ht, hcl, by unfold scd; omega, rfl, hpos, fun h' c' a1 a2 a3 => by
      by_cases e : h' = t ∧ c' = c
      · rw [e.1, e.2]; unfold dom; omega
      · exact hd h' c' a1 a2 (by unfold scd at a3 ⊢; omega)⟩)
    rw [hX11_next_28]
    simp +decide (disch := omega) only [qX11_next_0, qX11_next_1, qX11_next_2, lm hL, ec, e256, hv, hcs', jk_w j5, jk_w j6, ni_in_t, ni_tn, ni_add1, Classical.not_not, am_w1_i, am_w1_r, am_w1_x, am_w1_l, am_w1_w, va_rf_s, am_push_n, am_push_s, am_cs_0, am_cs_i, am_cs_l, am_cs_r, m_uI_K, m_uI_N, m_uI_R, m_uI_L, m_uI_I, m_uL_K, m_uL_N, m_uL_R, m_uL_I, m_uL_L, m_uR_K, m_uR_N, m_uR_I, m_uR_L, m_uR_R, true_and, and_true, true_implies, false_implies, not_true_eq_false, not_false_eq_true, if_true, if_false, false_and, and_false]
    first | rw [br_n (hlt)] | rw [br_q (hlt)] | rw [br_u (hlt)]
    rcases hx with ⟨rfl, q2⟩ | ⟨h0, c0, q1, q2, q3, rfl, q5, q6⟩
    · simp +decide only [am_w1_i, am_w1_r, am_w1_x, am_w1_l, am_w1_w, va_rf_s, am_push_n, am_push_s, am_cs_0, am_cs_i, am_cs_l, am_cs_r, m_uI_K, m_uI_N, m_uI_R, m_uI_L, m_uI_I, m_uL_K, m_uL_N, m_uL_R, m_uL_I, m_uL_L, m_uR_K, m_uR_N, m_uR_I, m_uR_L, m_uR_R, true_and, and_true, true_implies, false_implies, not_true_eq_false, not_false_eq_true, if_true, if_false, false_and, and_false]
      rw [ni_pos (by omega)]
      by_cases c1 : stN D t (plc (dC D) c) = 0
      · first | rw [br_p (c1)] | rw [br_r (c1)] | rw [br_s (c1)]
        exact ih (c + 1) (by omega) (-1) _ _ (Or.inr ⟨_, rfl⟩) (Or.inr ⟨_, rfl⟩) (Or.inl ⟨rfl, fun h' c' a1 a2 a3 => by
          by_cases e : h' = t ∧ c' = c
          · rw [e.1, e.2]; exact c1
          · exact q2 h' c' a1 a2 (by unfold scd at a3 ⊢; omega)⟩)
      · first | rw [br_n (c1)] | rw [br_q (c1)] | rw [br_u (c1)]
        exact take (fun h' c' a1 a2 a3 => by have := q2 h' c' a1 a2 a3; unfold dom; omega) (by omega)
    · have hne : ¬ nI (256 * h0 + c0) = -1 := nI_m1 (by omega)
      have hp0 := plc_v hD.1.1.1 hC1 q2
      have hv0 := hS h0 c0 q1 q2
      have hcs0 := (h.2.2.2.2.2.2.2.2 (plc (dC D) c0) hp0.1).2
      rw [hp0.2] at hcs0
      have hcs0' : mI M 316 c0 = nI (dCs D (plc (dC D) c0)) := hcs0
      have h80 := stN_8 hD h0 (plc (dC D) c0)
      have h990 := dCs_99 D (plc (dC D) c0)
      have er : nI (256 * h0 + c0) - nI (256 * h0 + c0) / 256 * 256 = nI c0 := by
        rw [show (256 : Int32) = nI 256 from rfl, ni_rem (by omega) (by omega)]
        congr 1
        omega
      have keep : dom D h0 (plc (dC D) c0) t (plc (dC D) c) → ∀ v6', jk v6' → am_P am_P0 (d + 1) (am_look tX11_next) 28 [.ref 277, .int w, .int (nI (256 * h0 + c0)), .int (nI t), .int (nI (c + 1)), .int (nI (256 * t + c)), v6'] [] M Q := fun hd v6' j6' => ih (c + 1) (by omega) _ _ _ (Or.inr ⟨_, rfl⟩) j6' (Or.inr ⟨h0, c0, q1, q2, by unfold scd at q3 ⊢; omega, rfl, q5, fun h' c' a1 a2 a3 => by
        by_cases e : h' = t ∧ c' = c
        · rw [e.1, e.2]; exact hd
        · exact q6 h' c' a1 a2 (by unfold scd at a3 ⊢; omega)⟩)
      have hmono : h0 < t ∨ (h0 = t ∧ plc (dC D) c0 ≤ plc (dC D) c) := by
        rcases q3 with q | q
        · exact Or.inl q
        · exact Or.inr ⟨q.1, plc_mono hC1 hD.1.1.1 (by omega)⟩
      simp +decide (disch := omega) only [qX11_next_0, qX11_next_1, qX11_next_2, lm hL, er, hv0, hcs0', ni_in_t, ni_tn, am_w1_i, am_w1_r, am_w1_x, am_w1_l, am_w1_w, va_rf_s, am_push_n, am_push_s, am_cs_0, am_cs_i, am_cs_l, am_cs_r, m_uI_K, m_uI_N, m_uI_R, m_uI_L, m_uI_I, m_uL_K, m_uL_N, m_uL_R, m_uL_I, m_uL_L, m_uR_K, m_uR_N, m_uR_I, m_uR_L, m_uR_R, true_and, and_true, true_implies, false_implies, not_true_eq_false, not_false_eq_true, if_true, if_false, false_and, and_false]
      first | rw [br_n (hne)] | rw [br_q (hne)] | rw [br_u (hne)]
      rw [ni_lt (by omega) (by omega), ni_eq (by omega) (by omega), ni_le (by omega) (by omega)]
      by_cases c1 : stN D h0 (plc (dC D) c0) < stN D t (plc (dC D) c)
      · first | rw [br_p (c1)] | rw [br_r (c1)] | rw [br_s (c1)]
        exact take (fun h' c' a1 a2 a3 => by have := q6 h' c' a1 a2 a3; unfold dom at this ⊢; omega) (by omega)
      · first | rw [br_n (c1)] | rw [br_q (c1)] | rw [br_u (c1)]
        by_cases c2 : stN D t (plc (dC D) c) = stN D h0 (plc (dC D) c0)
        · first | rw [br_p (c2)] | rw [br_r (c2)] | rw [br_s (c2)]
          by_cases c3 : dCs D (plc (dC D) c0) ≤ dCs D (plc (dC D) c)
          · first | rw [br_p (c3)] | rw [br_r (c3)] | rw [br_s (c3)]
            exact keep (by unfold dom; omega) _ (Or.inr ⟨_, rfl⟩)
          · first | rw [br_n (c3)] | rw [br_q (c3)] | rw [br_u (c3)]
            exact take (fun h' c' a1 a2 a3 => by have := q6 h' c' a1 a2 a3; unfold dom at this ⊢; omega) (by omega)
        · first | rw [br_n (c2)] | rw [br_q (c2)] | rw [br_u (c2)]
          exact keep (by unfold dom; omega) _ (Or.inr ⟨_, rfl⟩)
theorem l_m_next1 (hD : dOK D) (hL : Lay M) (h : MdM M b D) (hS : StM4 M D (stN D)) (hw : 0 ≤ w.toInt ∧ w.toInt ≤ 2) (hQ : Q (some (.int (theI (nxQ D w)))) M) :
    ∀ (m t : Nat), t + m = 48 → ∀ (x : Int32) (v4 v5 v6 : Value), jk v4 → jk v5 → jk v6 → NxI D t 0 x → am_P am_P0 (d + 1) (am_look tX11_next) 19 [.ref 277, .int w, .int x, .int (nI t), v4, v5, v6] [] M Q := by
  have hCR : dC D * dR D ≤ 16 * 16 := Nat.mul_le_mul hD.1.1.1 hD.1.1.2
  intro m
  induction m with
  | zero =>
    intro t ht x v4 v5 v6 j4 j5 j6 hx
    have et : t = 48 := by omega
    subst et
    rw [hX11_next_19]
    rcases hx with ⟨rfl, q2⟩ | ⟨h0, c0, q1, q2, q3, rfl, q5, q6⟩
    · rw [the_e nxQ_1 (Or.inr ⟨fun h' p' a1 a2 => by
        by_cases hv : vld (dC D) (dR D) p'
        · have hcl := (cel_lt hD.1.1.1 hD.1.1.2 hv).1
          have hC1 : 1 ≤ dC D := Nat.pos_of_ne_zero (fun q => by rw [q, Nat.zero_mul] at hcl; omega)
          have e := plc_v hD.1.1.1 hC1 hcl
          have e2 : plc (dC D) (cel (dC D) p') = p' := cel_inj e.1 hv e.2
          have := q2 h' (cel (dC D) p') a1 hcl (by unfold scd; omega)
          rw [e2] at this
          exact this
        · exact stN_0 hD hv, rfl⟩)] at hQ
      simp +decide only [qX11_next_0, qX11_next_1, qX11_next_2, show nI 48 = (48 : Int32) from rfl, am_w1_i, am_w1_r, am_w1_x, am_w1_l, am_w1_w, va_rf_s, am_push_n, am_push_s, am_cs_0, am_cs_i, am_cs_l, am_cs_r, m_uI_K, m_uI_N, m_uI_R, m_uI_L, m_uI_I, m_uL_K, m_uL_N, m_uL_R, m_uL_I, m_uL_L, m_uR_K, m_uR_N, m_uR_I, m_uR_L, m_uR_R, true_and, and_true, true_implies, false_implies, not_true_eq_false, not_false_eq_true, if_true, if_false, false_and, and_false]
      exact hQ
    · have hC1 : 1 ≤ dC D := Nat.pos_of_ne_zero (fun q => by rw [q, Nat.zero_mul] at q2; omega)
      have hp0 := plc_v hD.1.1.1 hC1 q2
      have hb : bst D h0 (plc (dC D) c0) := bst_i q1 (cel_lt hD.1.1.1 hD.1.1.2 hp0.1).2.2 q5 (fun h' p' a1 a2 => by
        by_cases hv : vld (dC D) (dR D) p'
        · have hcl := (cel_lt hD.1.1.1 hD.1.1.2 hv).1
          have e := plc_v hD.1.1.1 hC1 hcl
          have e2 : plc (dC D) (cel (dC D) p') = p' := cel_inj e.1 hv e.2
          have := q6 h' (cel (dC D) p') a1 hcl (by unfold scd; omega)
          rw [e2] at this
          exact this
        · have := stN_0 hD hv (h := h')
          unfold dom
          omega)
      rw [the_e nxQ_1 (Or.inl ⟨h0, _, hb, rfl⟩)] at hQ
      unfold nxA at hQ
      rw [hp0.2] at hQ
      have hne : ¬ nI (256 * h0 + c0) = -1 := nI_m1 (by omega)
      have er : nI (256 * h0 + c0) - nI h0 * 256 = nI c0 := by
        rw [show (256 : Int32) = nI 256 from rfl, ni_mul, ni_sub (by omega)]
        congr 1
        omega
      have ed : nI (256 * h0 + c0) / 256 = nI h0 := by
        rw [show (256 : Int32) = nI 256 from rfl, ni_div (by omega) (by omega)]
        congr 1
        omega
      have hv0 := hS h0 c0 q1 q2
      simp +decide (disch := omega) only [qX11_next_0, qX11_next_1, qX11_next_2, lm hL, ed, er, hv0, show nI 48 = (48 : Int32) from rfl, ni_in_t, ni_tn, Classical.not_not, am_w1_i, am_w1_r, am_w1_x, am_w1_l, am_w1_w, va_rf_s, am_push_n, am_push_s, am_cs_0, am_cs_i, am_cs_l, am_cs_r, m_uI_K, m_uI_N, m_uI_R, m_uI_L, m_uI_I, m_uL_K, m_uL_N, m_uL_R, m_uL_I, m_uL_L, m_uR_K, m_uR_N, m_uR_I, m_uR_L, m_uR_R, true_and, and_true, true_implies, false_implies, not_true_eq_false, not_false_eq_true, if_true, if_false, false_and, and_false]
      first | rw [br_n (hne)] | rw [br_q (hne)] | rw [br_u (hne)]
      by_cases c : w = 0
      · rw [if_pos (by rw [c]; rfl)] at hQ
        first | rw [br_p (c)] | rw [br_r (c)] | rw [br_s (c)]
        exact hQ
      · have c' : ¬ w.toInt = 0 := fun q => c (Int32.toInt_inj.mp q)
        rw [if_neg c'] at hQ
        first | rw [br_n (c)] | rw [br_q (c)] | rw [br_u (c)]
        by_cases c1 : w = 1
        · rw [if_pos (by rw [c1]; rfl)] at hQ
          first | rw [br_p (c1)] | rw [br_r (c1)] | rw [br_s (c1)]
          exact hQ
        · have c1' : ¬ w.toInt = 1 := fun q => c1 (Int32.toInt_inj.mp q)
          rw [if_neg c1'] at hQ
          first | rw [br_n (c1)] | rw [br_q (c1)] | rw [br_u (c1)]
          exact hQ
  | succ m ih =>
    intro t ht x v4 v5 v6 j4 j5 j6 hx
    have hlt : ¬ (48 : Int32) ≤ nI t := by rw [show (48 : Int32) = nI 48 from rfl, ni_le (by omega) (by omega)]; omega
    have h9 := l_m_next2 d b D M Q w hD hL h hS t (by omega) (fun x' v4' v5' v6' a1 a2 a3 a4 => ih (t + 1) (by omega) x' v4' v5' v6' a2 a3 a4 a1) (dC D * dR D) 0 (by omega) x v5 v6 j5 j6 hx
    rw [hX11_next_19]
    simp +decide only [qX11_next_0, qX11_next_1, qX11_next_2, jk_w j4, jk_w j5, jk_w j6, am_w1_i, am_w1_r, am_w1_x, am_w1_l, am_w1_w, va_rf_s, am_push_n, am_push_s, am_cs_0, am_cs_i, am_cs_l, am_cs_r, m_uI_K, m_uI_N, m_uI_R, m_uI_L, m_uI_I, m_uL_K, m_uL_N, m_uL_R, m_uL_I, m_uL_L, m_uR_K, m_uR_N, m_uR_I, m_uR_L, m_uR_R, true_and, and_true, true_implies, false_implies, not_true_eq_false, not_false_eq_true, if_true, if_false, false_and, and_false]
    first | rw [br_n (hlt)] | rw [br_q (hlt)] | rw [br_u (hlt)]
    exact h9
end
theorem m_next (w : Int32) : MzO 289 [.int w] (aNxt w) := by
  intro d M b D Q hD hL h hQ
  have e2 : (2 : Int32).toInt = 2 := rfl
  unfold aNxt at hQ
  rw [eX11_next]
  simp +decide only [qX11_next_0, qX11_next_1, qX11_next_2, lm hL, c_m_is, bI_0, Classical.not_not, am_w1_i, am_w1_r, am_w1_x, am_w1_l, am_w1_w, va_rf_s, am_push_n, am_push_s, am_cs_0, am_cs_i, am_cs_l, am_cs_r, m_uI_K, m_uI_N, m_uI_R, m_uI_L, m_uI_I, m_uL_K, m_uL_N, m_uL_R, m_uL_I, m_uL_L, m_uR_K, m_uR_N, m_uR_I, m_uR_L, m_uR_R, true_and, and_true, true_implies, false_implies, not_true_eq_false, not_false_eq_true, if_true, if_false, false_and, and_false]
  by_cases hw : 0 ≤ w ∧ w ≤ 2
  · first | rw [br_p (hw)] | rw [br_r (hw)] | rw [br_s (hw)]
    rw [le32, le32, z32, e2] at hw
    rw [if_pos hw] at hQ
    refine m_settlesAll hD hL h (d + 11) _ (fun M1 g1 s1 => ?_)
    have L1 := gF_LayN g1 hL
    have h1 := MdM_z h g1
    have h9 := l_m_next1 (d + 19) b D M1 Q w hD L1 h1 s1 hw (hQ M1 g1) 48 0 (by omega) (-1) am_x am_x am_x (Or.inl rfl) (Or.inl rfl) (Or.inl rfl) (Or.inl ⟨rfl, fun h' c' _ _ a3 => by unfold scd at a3; omega⟩)
    simp +decide only [qX11_next_0, qX11_next_1, qX11_next_2, am_w1_i, am_w1_r, am_w1_x, am_w1_l, am_w1_w, va_rf_s, am_push_n, am_push_s, am_cs_0, am_cs_i, am_cs_l, am_cs_r, m_uI_K, m_uI_N, m_uI_R, m_uI_L, m_uI_I, m_uL_K, m_uL_N, m_uL_R, m_uL_I, m_uL_L, m_uR_K, m_uR_N, m_uR_I, m_uR_L, m_uR_R, true_and, and_true, true_implies, false_implies, not_true_eq_false, not_false_eq_true, if_true, if_false, false_and, and_false]
    exact h9
  · first | rw [br_n (hw)] | rw [br_q (hw)] | rw [br_u (hw)]
    have h0 := hQ M (gF_refl _ _ _)
    rw [if_neg (fun q => hw (by rw [le32, le32, z32, e2]; exact q))] at h0
    exact h0
end
section
/-! the class: pileUp -/
def s172 (a _j : Nat) : Prop := a = 172
theorem l_fillR (d a : Nat) (v : Int64) (M : am_M) (Q : Option Value → am_M → Prop) (hK : mK M a = 1) (hN : mN M a = 36) : ∀ (m k : Nat), k + m = 4 → (am_P am_P0 (d + 1) (am_look tJ7_fill_bad5a) 10 [.ref a, .int 0, .int 4, .long v, am_x, .int (nI k)] [] (uB M a (fun j => if j < k then v else mL M a j)) Q ↔ Q none (uB M a (fun j => if j < 4 then v else mL M a j))) := by
  intro m
  induction m with
  | zero =>
    intro k hk
    have ek : k = 4 := by omega
    subst ek
    rw [hJ7_fill_bad5a_10]
    simp +decide only [qJ7_fill_bad5a, show nI 4 = (4 : Int32) from rfl, am_w1_i, am_w1_r, am_w1_x, am_w1_l, am_w1_w, va_rf_s, am_push_n, am_push_s, am_cs_0, am_cs_i, am_cs_l, am_cs_r, m_uI_K, m_uI_N, m_uI_R, m_uI_L, m_uI_I, m_uL_K, m_uL_N, m_uL_R, m_uL_I, m_uL_L, m_uR_K, m_uR_N, m_uR_I, m_uR_L, m_uR_R, true_and, and_true, true_implies, false_implies, not_true_eq_false, not_false_eq_true, if_true, if_false, false_and, and_false]
  | succ m ih =>
    intro k hk
    have hlt : ¬ (4 : Int32) ≤ nI k := by rw [show (4 : Int32) = nI 4 from rfl, ni_le (by omega) (by omega)]; omega
    have h0 := ih (k + 1) (by omega)
    have e : uL (uB M a (fun j => if j < k then v else mL M a j)) a k v = uB M a (fun j => if j < k + 1 then v else mL M a j) := by
      rw [uL_B]
      congr 1
      funext j
      by_cases c : j = k
      · rw [if_pos c, if_pos (by omega)]
      · rw [if_neg c]
        by_cases c2 : j < k
        · rw [if_pos c2, if_pos (by omega)]
        · rw [if_neg c2, if_neg (by omega)]
    rw [hJ7_fill_bad5a_10]
    simp +decide (disch := omega) only [qJ7_fill_bad5a, uB_K, uB_N, hK, hN, ni_in_t, ni_tn, ni_add1, e, am_w1_i, am_w1_r, am_w1_x, am_w1_l, am_w1_w, va_rf_s, am_push_n, am_push_s, am_cs_0, am_cs_i, am_cs_l, am_cs_r, m_uI_K, m_uI_N, m_uI_R, m_uI_L, m_uI_I, m_uL_K, m_uL_N, m_uL_R, m_uL_I, m_uL_L, m_uR_K, m_uR_N, m_uR_I, m_uR_L, m_uR_R, true_and, and_true, true_implies, false_implies, not_true_eq_false, not_false_eq_true, if_true, if_false, false_and, and_false]
    rw [br_n hlt]
    exact h0
theorem c_fillR (d a : Nat) (v : Int64) (M : am_M) (Q : Option Value → am_M → Prop) (hK : mK M a = 1) (hN : mN M a = 36) : am_E am_P0 (d + 1) 323 [.ref a, .int 0, .int 4, .long v] M Q ↔ Q none (uB M a (fun j => if j < 4 then v else mL M a j)) := by
  have h0 := l_fillR d a v M Q hK hN 4 0 (by omega)
  have e0 : uB M a (fun j => if j < 0 then v else mL M a j) = M := by
    have : (fun j => if j < 0 then v else mL M a j) = fun k => mL M a k := by
      funext j
      rw [if_neg (by omega)]
    rw [this, uB_id]
  rw [e0] at h0
  rw [eJ7_fill_bad5a]
  simp +decide only [qJ7_fill_bad5a, eJ7_rangeCheck_23922, qJ7_rangeCheck_23922, hK, hN, show Int32.ofNat 36 = (36 : Int32) from rfl, am_w1_i, am_w1_r, am_w1_x, am_w1_l, am_w1_w, va_rf_s, am_push_n, am_push_s, am_cs_0, am_cs_i, am_cs_l, am_cs_r, m_uI_K, m_uI_N, m_uI_R, m_uI_L, m_uI_I, m_uL_K, m_uL_N, m_uL_R, m_uL_I, m_uL_L, m_uR_K, m_uR_N, m_uR_I, m_uR_L, m_uR_R, true_and, and_true, true_implies, false_implies, not_true_eq_false, not_false_eq_true, if_true, if_false, false_and, and_false]
  exact h0
theorem sb_nz {x : Int64} : ¬ x = 0 ↔ ∃ i, i < 64 ∧ sbit x i = true := by
  constructor
  · intro h
    apply Classical.byContradiction
    intro q
    apply h
    apply sb_ext
    intro i hi
    rw [sb_0]
    cases hb : sbit x i with
    | false => rfl
    | true => exact absurd ⟨i, hi, hb⟩ q
  · rintro ⟨i, hi, hb⟩ e
    rw [e, sb_0] at hb
    cases hb
/-- bit p of the row m -/
def lvB (M : am_M) (m p : Nat) : Prop := sbit (mL M 172 (4 * m + p / 64)) (p % 64) = true
def LvP (M : am_M) (D : Dat) (s t : Nat) : Prop := ∀ m p, m ≤ 8 → p < 256 → (lvB M m p ↔ m ≤ stK D s t p)
def LvQ (M : am_M) (D : Dat) (s t n w : Nat) : Prop := ∀ m p, m ≤ 8 → p < 256 → (lvB M m p ↔ (if n < m ∨ (m = n ∧ p / 64 < w) then m ≤ stK D (s + 1) t p else m ≤ stK D s t p))
def MxP (D : Dat) (s t mo : Nat) : Prop := (∀ p, p < 256 → stK D s t p ≤ mo) ∧ (mo = 0 ∨ ∃ p, p < 256 ∧ stK D s t p = mo) ∧ mo ≤ s
def MoP (D : Dat) (s t m0 mo n w : Nat) : Prop := (mo = m0 ∧ ∀ p, p < 256 → (n < m0 + 1 ∨ (n = m0 + 1 ∧ p / 64 < w)) → ¬ m0 + 1 ≤ stK D (s + 1) t p) ∨ (mo = m0 + 1 ∧ ∃ p, p < 256 ∧ m0 + 1 ≤ stK D (s + 1) t p)
def AllS (M : am_M) (D : Dat) : Prop := ∀ s, s < dN D → dSX M D s
theorem AllS_g {M M' : am_M} {D : Dat} (hD : dOK D) (h : AllS M D) (hL : Lay M) (hI : RInv M) (hg : gF s172 nT M M') : AllS M' D := fun s hs => SetX_z (by have := dN_8 hD; omega) (h s hs) (zF_g hL hI hg (fun a j s' q w => by unfold s172 at w; omega) (fun a j w => by unfold s172 at w; omega)) (fun a j q w => by unfold s172 at w; omega)
theorem XR_172 {M M' : am_M} {z : Nat} {D : Dat} (hD : dOK D) (h : XR M z D) (hg : gF s172 nT M M') : XR M' z D := XR_k (s0 := 0) hD (by omega) h (zF_g h.1.1 h.1.2.1 hg (fun a j s' q w => by unfold s172 at w; omega) (fun a j w => by unfold s172 at w; omega)) (fun a j q => by unfold s172 at q; omega)
section
variable (d z s t : Nat) (D : Dat) (M0 : am_M) (Q : Option Value → am_M → Prop)
theorem l_x_pile3 (hD : dOK D) (hX0 : XR M0 z D) (hA0 : AllS M0 D) (ht : t < 48) (hs : s < dN D) (hact : 0 < (dY D s).length ∧ 2 ≤ dMc D s t) (m0 n : Nat) (hn1 : 1 ≤ n) (hn : n ≤ m0 + 1) (hm0 : m0 ≤ s)
    (hN : ∀ M' mo v6, gF s172 nT M0 M' → jk v6 → LvQ M' D s t (n - 1) 0 → MoP D s t m0 mo (n - 1) 0 → am_P am_P0 (d + 1) (am_look tX10_pileUp) 77 [.ref 0, .int (nI t), .int (nI mo), .int (nI s), .int (nI (n - 1)), .int (nI 4), v6] [] M' Q) :
    ∀ (m w : Nat), w + m = 4 → ∀ (M : am_M) (mo : Nat) (v6 : Value), jk v6 → gF s172 nT M0 M → LvQ M D s t n w → MoP D s t m0 mo n w → am_P am_P0 (d + 1) (am_look tX10_pileUp) 85 [.ref 0, .int (nI t), .int (nI mo), .int (nI s), .int (nI n), .int (nI w), v6] [] M Q := by
  have n8 := dN_8 hD
  have hz := hX0.1.2.2.1
  intro m
  induction m with
  | zero =>
    intro w hw M mo v6 j6 hM hQ' hMo
    have ew : w = 4 := by omega
    subst ew
    obtain ⟨k, rfl⟩ : ∃ k, n = k + 1 := ⟨n - 1, by omega⟩
    have h0 := hN M mo v6 hM j6 (fun m p a1 a2 => by
      rw [hQ' m p a1 a2]
      by_cases q : k + 1 < m ∨ (m = k + 1 ∧ p / 64 < 4)
      · rw [if_pos q, if_pos (by omega)]
      · rw [if_neg q, if_neg (by omega)]) (by
      rcases hMo with ⟨q1, q2⟩ | q
      · exact Or.inl ⟨q1, fun p a1 a2 => q2 p a1 (by omega)⟩
      · exact Or.inr q)
    rw [hX10_pileUp_85]
    simp +decide only [qX10_pileUp_0, qX10_pileUp_1, qX10_pileUp_2, show nI 4 = (4 : Int32) from rfl, ni_dec, jk_w j6, am_w1_i, am_w1_r, am_w1_x, am_w1_l, am_w1_w, va_rf_s, am_push_n, am_push_s, am_cs_0, am_cs_i, am_cs_l, am_cs_r, m_uI_K, m_uI_N, m_uI_R, m_uI_L, m_uI_I, m_uL_K, m_uL_N, m_uL_R, m_uL_I, m_uL_L, m_uR_K, m_uR_N, m_uR_I, m_uR_L, m_uR_R, true_and, and_true, true_implies, false_implies, not_true_eq_false, not_false_eq_true, if_true, if_false, false_and, and_false] at h0 ⊢
    exact h0
  | succ m ih =>
    intro w hw M mo v6 j6 hM hQ' hMo
    have hX := XR_172 hD hX0 hM
    have hA := AllS_g hD hA0 hX0.1.1 hX0.1.2.1 hM
    have hL := hX.1.1
    have hlt : ¬ (4 : Int32) ≤ nI w := by rw [show (4 : Int32) = nI 4 from rfl, ni_le (by omega) (by omega)]; omega
    have htr := ltr hL (show s < 8 by omega)
    have hst := lt_ hL (isTr_of (show s < 8 by omega))
    have e4 : nI n * 4 + nI w = nI (4 * n + w) := by rw [show (4 : Int32) = nI 4 from rfl, ni_mul, ni_add]; congr 1; omega
    have e4' : nI (4 * n + w) - 4 = nI (4 * (n - 1) + w) := by rw [show (4 : Int32) = nI 4 from rfl, ni_sub (by omega)]; congr 1; omega
    have e4t : nI t * 4 + nI w = nI (4 * t + w) := by rw [show (4 : Int32) = nI 4 from rfl, ni_mul, ni_add]; congr 1; omega
    obtain ⟨nv, hnv⟩ : ∃ nv, nv = mL M 172 (4 * n + w) ||| (mL M 172 (4 * (n - 1) + w) &&& mL M (173 + 13 * s + 10) (4 * t + w)) := ⟨_, rfl⟩
    have hbit : ∀ i, i < 64 → (sbit nv i = true ↔ n ≤ stK D (s + 1) t (64 * w + i)) := fun i hi => by
      have p1 : (64 * w + i) / 64 = w := by omega
      have p2 : (64 * w + i) % 64 = i := by omega
      have b1 := hQ' n (64 * w + i) (by omega) (by omega)
      have b2 := hQ' (n - 1) (64 * w + i) (by omega) (by omega)
      have b3 := (hA s hs).2.2.2.2 t ht (64 * w + i)
      unfold lvB at b1 b2
      rw [p1, p2, if_neg (by omega)] at b1 b2
      unfold inS at b3
      rw [p1, p2] at b3
      have b4 : sbit (mL M (173 + 13 * s + 10) (4 * t + w)) i = true ↔ dMy D s t (64 * w + i) := by
        rw [show 173 + 13 * s + 10 = 183 + 13 * s by omega]
        exact ⟨fun q => b3.mp ⟨by omega, q⟩, fun q => (b3.mpr q).2⟩
      rw [hnv, sb_or, sb_and, Bool.or_eq_true, Bool.and_eq_true, b1, b2, b4]
      by_cases c : dMy D s t (64 * w + i)
      · rw [stK_t ⟨hact.1, hact.2, c⟩]
        constructor
        · rintro (q | q) <;> omega
        · intro q; exact Or.inr ⟨by omega, c⟩
      · rw [stK_f (fun q => c q.2.2)]
        constructor
        · rintro (q | q)
          · exact q
          · exact absurd q.2 c
        · intro q; exact Or.inl q
    have w1 : gF s172 nT M (uL M 172 (4 * n + w) nv) := gF_l _ rfl
    have hQ2 : LvQ (uL M 172 (4 * n + w) nv) D s t n (w + 1) := fun m' p a1 a2 => by
      by_cases e : m' = n ∧ p / 64 = w
      · obtain ⟨rfl, e2⟩ := e
        unfold lvB
        rw [e2, m_uL_L, if_pos ⟨rfl, rfl⟩, hbit _ (by omega), if_pos (by omega), show 64 * w + p % 64 = p by omega]
      · have e5 : lvB (uL M 172 (4 * n + w) nv) m' p ↔ lvB M m' p := by
          unfold lvB
          rw [m_uL_L, if_neg (by omega)]
        rw [e5, hQ' m' p a1 a2]
        by_cases q : n < m' ∨ (m' = n ∧ p / 64 < w)
        · rw [if_pos q, if_pos (by omega)]
        · rw [if_neg q, if_neg (by omega)]
    have mob : mo ≤ m0 + 1 ∧ m0 ≤ mo := by rcases hMo with q | q <;> omega
    have ema := fun M Q => c_max d mo n M Q (by omega) (by omega)
    rw [hX10_pileUp_85]
    simp +decide (disch := omega) only [qX10_pileUp_0, qX10_pileUp_1, qX10_pileUp_2, lx hL, htr, hst, e4, e4', e4t, ← hnv, lgc_0, ema, jk_w j6, ni_in_t, ni_tn, ni_add1, am_w1_i, am_w1_r, am_w1_x, am_w1_l, am_w1_w, va_rf_s, am_push_n, am_push_s, am_cs_0, am_cs_i, am_cs_l, am_cs_r, m_uI_K, m_uI_N, m_uI_R, m_uI_L, m_uI_I, m_uL_K, m_uL_N, m_uL_R, m_uL_I, m_uL_L, m_uR_K, m_uR_N, m_uR_I, m_uR_L, m_uR_R, true_and, and_true, true_implies, false_implies, not_true_eq_false, not_false_eq_true, if_true, if_false, false_and, and_false]
    first | rw [br_n (hlt)] | rw [br_q (hlt)] | rw [br_u (hlt)]
    by_cases c : nv = 0
    · first | rw [br_p (c)] | rw [br_r (c)] | rw [br_s (c)]
      refine ih (w + 1) (by omega) _ mo _ (Or.inr ⟨_, rfl⟩) (gF_trans hM w1) hQ2 ?_
      rcases hMo with ⟨q1, q2⟩ | q
      · refine Or.inl ⟨q1, fun p a1 a2 a3 => ?_⟩
        by_cases e : n = m0 + 1 ∧ p / 64 = w
        · have hz0 : ¬ ∃ i, i < 64 ∧ sbit nv i = true := fun z => sb_nz.mpr z c
          exact hz0 ⟨p % 64, by omega, (hbit _ (by omega)).mpr (by rw [show 64 * w + p % 64 = p by omega]; omega)⟩
        · exact q2 p a1 (by omega) a3
      · exact Or.inr q
    · first | rw [br_n (c)] | rw [br_q (c)] | rw [br_u (c)]
      obtain ⟨i, hi, hb⟩ := sb_nz.mp c
      have hge := (hbit i hi).mp hb
      refine ih (w + 1) (by omega) _ (max mo n) _ (Or.inr ⟨_, rfl⟩) (gF_trans hM w1) hQ2 ?_
      by_cases e : n = m0 + 1
      · exact Or.inr ⟨by omega, 64 * w + i, by omega, by omega⟩
      · rw [show max mo n = mo by omega]
        rcases hMo with ⟨q1, q2⟩ | q
        · exact Or.inl ⟨q1, fun p a1 a2 => q2 p a1 (by omega)⟩
        · exact Or.inr q
theorem l_x_pile2 (hD : dOK D) (hX0 : XR M0 z D) (hA0 : AllS M0 D) (ht : t < 48) (hs : s < dN D) (hact : 0 < (dY D s).length ∧ 2 ≤ dMc D s t) (m0 : Nat) (hm0 : m0 ≤ s)
    (hN : ∀ M' mo v4 v5 v6, gF s172 nT M0 M' → jk v4 → jk v5 → jk v6 → LvQ M' D s t 0 0 → MoP D s t m0 mo 0 0 → am_P am_P0 (d + 1) (am_look tX10_pileUp) 24 [.ref 0, .int (nI t), .int (nI mo), .int (nI (s + 1)), v4, v5, v6] [] M' Q) :
    ∀ (n : Nat), n ≤ m0 + 1 → ∀ (M : am_M) (mo : Nat) (v5 v6 : Value), jk v5 → jk v6 → gF s172 nT M0 M → LvQ M D s t n 0 → MoP D s t m0 mo n 0 → am_P am_P0 (d + 1) (am_look tX10_pileUp) 77 [.ref 0, .int (nI t), .int (nI mo), .int (nI s), .int (nI n), v5, v6] [] M Q := by
  have n8 := dN_8 hD
  intro n
  induction n with
  | zero =>
    intro hn M mo v5 v6 j5 j6 hM hQ' hMo
    have h0 := hN M mo (.int (nI 0)) v5 v6 hM (Or.inr ⟨_, rfl⟩) j5 j6 hQ' hMo
    rw [hX10_pileUp_77]
    simp +decide only [qX10_pileUp_0, qX10_pileUp_1, qX10_pileUp_2, show nI 0 = (0 : Int32) from rfl, ni_add1, jk_w j5, jk_w j6, am_w1_i, am_w1_r, am_w1_x, am_w1_l, am_w1_w, va_rf_s, am_push_n, am_push_s, am_cs_0, am_cs_i, am_cs_l, am_cs_r, m_uI_K, m_uI_N, m_uI_R, m_uI_L, m_uI_I, m_uL_K, m_uL_N, m_uL_R, m_uL_I, m_uL_L, m_uR_K, m_uR_N, m_uR_I, m_uR_L, m_uR_R, true_and, and_true, true_implies, false_implies, not_true_eq_false, not_false_eq_true, if_true, if_false, false_and, and_false] at h0 ⊢
    exact h0
  | succ n ih =>
    intro hn M mo v5 v6 j5 j6 hM hQ' hMo
    have hnp : ¬ nI (n + 1) ≤ 0 := by rw [ni_pos (by omega)]; omega
    have h9 := l_x_pile3 d z s t D M0 Q hD hX0 hA0 ht hs hact m0 (n + 1) (by omega) hn hm0 (fun M' mo' v6' g' j6' q1 q2 => ih (by omega) M' mo' (.int (nI 4)) v6' (Or.inr ⟨_, rfl⟩) j6' g' q1 q2) 4 0 (by omega) M mo v6 j6 hM hQ' hMo
    rw [hX10_pileUp_77]
    simp +decide only [qX10_pileUp_0, qX10_pileUp_1, qX10_pileUp_2, jk_w j5, jk_w j6, am_w1_i, am_w1_r, am_w1_x, am_w1_l, am_w1_w, va_rf_s, am_push_n, am_push_s, am_cs_0, am_cs_i, am_cs_l, am_cs_r, m_uI_K, m_uI_N, m_uI_R, m_uI_L, m_uI_I, m_uL_K, m_uL_N, m_uL_R, m_uL_I, m_uL_L, m_uR_K, m_uR_N, m_uR_I, m_uR_L, m_uR_R, true_and, and_true, true_implies, false_implies, not_true_eq_false, not_false_eq_true, if_true, if_false, false_and, and_false]
    first | rw [br_n (hnp)] | rw [br_q (hnp)] | rw [br_u (hnp)]
    exact h9
end
theorem l_x_pile1 (d z t : Nat) (D : Dat) (M0 : am_M) (Q : Option Value → am_M → Prop) (hD : dOK D) (hX0 : XR M0 z D) (hA0 : AllS M0 D) (ht : t < 48)
    (hQ : ∀ M' mo, gF s172 nT M0 M' → MxP D (dN D) t mo → LvP M' D (dN D) t → Q (some (.int (nI mo))) M') :
    ∀ (m s : Nat), s + m = dN D → ∀ (M : am_M) (mo : Nat) (v4 v5 v6 : Value), jk v4 → jk v5 → jk v6 → gF s172 nT M0 M → MxP D s t mo → LvP M D s t → am_P am_P0 (d + 3) (am_look tX10_pileUp) 24 [.ref 0, .int (nI t), .int (nI mo), .int (nI s), v4, v5, v6] [] M Q := by
  have n8 := dN_8 hD
  intro m
  induction m with
  | zero =>
    intro s hs M mo v4 v5 v6 j4 j5 j6 hM hMx hLv
    have hX := XR_172 hD hX0 hM
    have hz := hX.1.2.2.1
    have hL := hX.1.1
    have hr := hX.1.2.2.2.1
    have hle : nI (dN D) ≤ nI s := (ni_le (by omega) (by omega)).mpr (by omega)
    rw [show s = dN D by omega] at hMx hLv
    have h0 := hQ M mo hM hMx hLv
    rw [hX10_pileUp_24]
    simp +decide only [qX10_pileUp_0, qX10_pileUp_1, qX10_pileUp_2, lx hL, lz hL hz, hr, (x_n hX).1, am_w1_i, am_w1_r, am_w1_x, am_w1_l, am_w1_w, va_rf_s, am_push_n, am_push_s, am_cs_0, am_cs_i, am_cs_l, am_cs_r, m_uI_K, m_uI_N, m_uI_R, m_uI_L, m_uI_I, m_uL_K, m_uL_N, m_uL_R, m_uL_I, m_uL_L, m_uR_K, m_uR_N, m_uR_I, m_uR_L, m_uR_R, true_and, and_true, true_implies, false_implies, not_true_eq_false, not_false_eq_true, if_true, if_false, false_and, and_false]
    first | rw [br_p (hle)] | rw [br_r (hle)] | rw [br_s (hle)]
    exact h0
  | succ m ih =>
    intro s hs M mo v4 v5 v6 j4 j5 j6 hM hMx hLv
    have hX := XR_172 hD hX0 hM
    have hA := AllS_g hD hA0 hX0.1.1 hX0.1.2.1 hM
    have hz := hX.1.2.2.1
    have hL := hX.1.1
    have hr := hX.1.2.2.2.1
    have hlt : ¬ nI (dN D) ≤ nI s := by rw [ni_le (by omega) (by omega)]; omega
    have h48 := dY_len hD s
    have hmc : dMc D s t ≤ 256 := cnt_le _ _
    have hsh := lsh hL hz (s := s) (by omega)
    have hw_ := lw_ hL (isSh_z (z := z) (s := s) hz (by omega))
    have hc := (x_ship hX (s := s) (by omega)).2.1.1
    have htr := ltr hL (show s < 8 by omega)
    have hst := lt_ hL (isTr_of (show s < 8 by omega))
    have ec := fun Q => x_countMay (D := D) (t := t) hL (show s < 8 by omega) ht (hA s (by omega)) d Q
    have ez : nI (dY D s).length = 0 ↔ (dY D s).length = 0 := by rw [show (0 : Int32) = nI 0 from rfl, ni_eq (by omega) (by omega)]
    have hmo := hMx.2.2
    have em := fun M Q => c_minI (d + 2) (nI (mo + 1)) 8 M Q
    have h8 : ¬ (8 : Int32) < nI (mo + 1) := by rw [show (8 : Int32) = nI 8 from rfl, ni_lt (by omega) (by omega)]; omega
    have skip : (∀ p, stK D (s + 1) t p = stK D s t p) → am_P am_P0 (d + 3) (am_look tX10_pileUp) 24 [.ref 0, .int (nI t), .int (nI mo), .int (nI (s + 1)), v4, v5, v6] [] M Q := fun he => ih (s + 1) (by omega) M mo v4 v5 v6 j4 j5 j6 hM ⟨fun p hp => by rw [he]; exact hMx.1 p hp, by
      rcases hMx.2.1 with q | ⟨p, p1, p2⟩
      · exact Or.inl q
      · exact Or.inr ⟨p, p1, by rw [he]; exact p2⟩, by omega⟩ (fun m' p a1 a2 => by rw [he]; exact hLv m' p a1 a2)
    rw [hX10_pileUp_24]
    simp +decide (disch := omega) only [qX10_pileUp_0, qX10_pileUp_1, qX10_pileUp_2, lx hL, lz hL hz, hr, (x_n hX).1, hsh, hw_, hc, htr, hst, ec, ez, em, h8, if_false, jk_w j4, jk_w j5, jk_w j6, ni_in_t, ni_tn, ni_add1, am_w1_i, am_w1_r, am_w1_x, am_w1_l, am_w1_w, va_rf_s, am_push_n, am_push_s, am_cs_0, am_cs_i, am_cs_l, am_cs_r, m_uI_K, m_uI_N, m_uI_R, m_uI_L, m_uI_I, m_uL_K, m_uL_N, m_uL_R, m_uL_I, m_uL_L, m_uR_K, m_uR_N, m_uR_I, m_uR_L, m_uR_R, true_and, and_true, true_implies, false_implies, not_true_eq_false, not_false_eq_true, if_true, if_false, false_and, and_false]
    first | rw [br_n (hlt)] | rw [br_q (hlt)] | rw [br_u (hlt)]
    by_cases c0 : (dY D s).length = 0
    · first | rw [br_p (c0)] | rw [br_r (c0)] | rw [br_s (c0)]
      exact skip (fun p => stK_f (fun q => by omega))
    · first | rw [br_n (c0)] | rw [br_q (c0)] | rw [br_u (c0)]
      rw [show (2 : Int32) = nI 2 from rfl, ni_le (by omega) (by omega)]
      by_cases c1 : 2 ≤ dMc D s t
      · first | rw [br_p (c1)] | rw [br_r (c1)] | rw [br_s (c1)]
        have hst1 : ∀ p, stK D s t p ≤ stK D (s + 1) t p ∧ stK D (s + 1) t p ≤ stK D s t p + 1 := fun p => by
          by_cases q : 0 < (dY D s).length ∧ 2 ≤ dMc D s t ∧ dMy D s t p
          · rw [stK_t q]; omega
          · rw [stK_f q]; omega
        refine l_x_pile2 (d + 2) z s t D M Q hD hX hA ht (by omega) ⟨by omega, c1⟩ mo hmo (fun M' mo' v4' v5' v6' g' j4' j5' j6' q1 q2 => ih (s + 1) (by omega) M' mo' v4' v5' v6' j4' j5' j6' (gF_trans hM g') ?_ (fun m' p a1 a2 => ?_)) (mo + 1) (Nat.le_refl _) M mo v5 v6 j5 j6 (gF_refl _ _ _) (fun m' p a1 a2 => ?_) (Or.inl ⟨rfl, fun p a1 a2 => by omega⟩)
        · rcases q2 with ⟨rfl, q⟩ | ⟨rfl, p, p1, p2⟩
          · refine ⟨fun p hp => ?_, ?_, by omega⟩
            · have := q p hp (by omega); omega
            · rcases hMx.2.1 with z | ⟨p, p1, p2⟩
              · exact Or.inl z
              · exact Or.inr ⟨p, p1, by have := q p p1 (by omega); have := hst1 p; omega⟩
          · refine ⟨fun p' hp' => by have := hMx.1 p' hp'; have := hst1 p'; omega, Or.inr ⟨p, p1, ?_⟩, by omega⟩
            have := hMx.1 p p1; have := hst1 p; omega
        · rw [q1 m' p a1 a2]
          by_cases e : 0 < m'
          · rw [if_pos (by omega)]
          · rw [if_neg (by omega)]; omega
        · rw [hLv m' p a1 a2]
          by_cases q : mo + 1 < m' ∨ (m' = mo + 1 ∧ p / 64 < 0)
          · rw [if_pos q]
            have := hMx.1 p a2; have := hst1 p; omega
          · rw [if_neg q]
      · first | rw [br_n (c1)] | rw [br_q (c1)] | rw [br_u (c1)]
        exact skip (fun p => stK_f (fun q => c1 q.2.1))
theorem x_pileUp {M : am_M} {z t : Nat} {D : Dat} (hD : dOK D) (hX : XR M z D) (hA : AllS M D) (ht : t < 48) (d : Nat) (Q : Option Value → am_M → Prop) (hQ : ∀ M' mo, gF s172 nT M M' → MxP D (dN D) t mo → LvP M' D (dN D) t → Q (some (.int (nI mo))) M') : am_E am_P0 (d + 3) 161 [.ref 0, .int (nI t)] M Q := by
  have hL := hX.1.1
  have n172 : mN M 172 = 36 := (ly_sh hL 172 rfl).2
  have k172 : mK M 172 = 1 := (ly_sh hL 172 rfl).1
  have ef := fun Q => c_fillJ (d + 2) 172 0 M Q k172 (by rw [n172]; omega)
  rw [n172] at ef
  obtain ⟨A, hA'⟩ : ∃ A, A = uB M 172 (fun j => if j < 36 then 0 else mL M 172 j) := ⟨_, rfl⟩
  have gA : gF s172 nT M A := by rw [hA']; exact gF_B _ (fun _ => rfl)
  have LA := gF_LayN gA hL
  have er := fun Q => c_fillR (d + 1) 172 (-1) A Q (ly_sh LA 172 rfl).1 (ly_sh LA 172 rfl).2
  obtain ⟨E, hE⟩ : ∃ E, E = uB A 172 (fun j => if j < 4 then -1 else mL A 172 j) := ⟨_, rfl⟩
  have gE : gF s172 nT M E := by rw [hE]; exact gF_trans gA (gF_B _ (fun _ => rfl))
  have LE := gF_LayN gE hL
  have em1 : ∀ i, i < 64 → sbit (-1 : Int64) i = true := by decide
  have h0 := l_x_pile1 d z t D M Q hD hX hA ht hQ (dN D) 0 (by omega) E 0 am_x am_x am_x (Or.inl rfl) (Or.inl rfl) (Or.inl rfl) gE ⟨fun p hp => Nat.le_refl _, Or.inl rfl, Nat.le_refl _⟩ (fun m p a1 a2 => by
    unfold lvB
    rw [hE, uB_L, if_pos rfl]
    show _ ↔ m ≤ 0
    by_cases c : m = 0
    · rw [if_pos (by omega), em1 _ (by omega)]
      exact ⟨fun _ => by omega, fun _ => rfl⟩
    · rw [if_neg (by omega), hA', uB_L, if_pos rfl, if_pos (by omega), sb_0]
      constructor
      · intro q; cases q
      · intro q; omega)
  rw [eX10_pileUp]
  simp +decide only [qX10_pileUp_0, qX10_pileUp_1, qX10_pileUp_2, lx hL, ef, ← hA', lx LA, er, ← hE, am_w1_i, am_w1_r, am_w1_x, am_w1_l, am_w1_w, va_rf_s, am_push_n, am_push_s, am_cs_0, am_cs_i, am_cs_l, am_cs_r, m_uI_K, m_uI_N, m_uI_R, m_uI_L, m_uI_I, m_uL_K, m_uL_N, m_uL_R, m_uL_I, m_uL_L, m_uR_K, m_uR_N, m_uR_I, m_uR_L, m_uR_R, true_and, and_true, true_implies, false_implies, not_true_eq_false, not_false_eq_true, if_true, if_false, false_and, and_false]
  exact h0
end
section
/-! the class: findLook, next -/
/-- the best of a set of looks, as it lies in the fields -/
def BsX (M : am_M) (D : Dat) (A : Nat → Nat → Prop) (lst : Int32) : Prop := (mI M 0 16 = 0 ∧ ∀ h p, A h p → stN D h p = 0) ∨ ∃ h0 p0, h0 < 48 ∧ p0 < 256 ∧ A h0 p0 ∧ 0 < stN D h0 p0 ∧ mI M 0 14 = nI h0 ∧ mI M 0 15 = nI p0 ∧ mI M 0 16 = nI (stN D h0 p0) ∧ lst = nI (dCs D p0) ∧ ∀ h p, A h p → dom D h0 p0 h p
def aH (t h p : Nat) : Prop := h < t ∧ p < 256
def aP (D : Dat) (t mo q h p : Nat) : Prop := (h < t ∧ p < 256) ∨ (h = t ∧ p < q ∧ stN D t p = mo)
def sFl (z a j : Nat) : Prop := sMm z a j ∨ a = 172 ∨ (a = 0 ∧ 14 ≤ j ∧ j ≤ 16)
theorem sFl_q {z a j : Nat} (h : sFl z a j) : sXq z a j := by unfold sFl sMm at h; unfold sXq sMm; omega
/-- while it is looked for -/
def LfX (M : am_M) (z : Nat) (D : Dat) : Prop := XR M z D ∧ AllS M D ∧ mI M 0 13 = 0
theorem LfX_z {M M' : am_M} {z : Nat} {D : Dat} (hD : dOK D) (h : LfX M z D) (hf : zF (sFl z) M M') (hq : SqX M' z (dDp D) (dCs D) (dQt D)) : LfX M' z D := by
  obtain ⟨hX, hA, h13⟩ := h
  have h0 := hX
  obtain ⟨⟨hL, hI, hz, r2, r3, hO⟩, ⟨c, hP⟩, hS1, hTk, hLk⟩ := h0
  have n8 := dN_8 hD
  have h13' : mI M' 0 13 = 0 := by rw [hf.2.2.2.1 _ _ (by omega) (fun s' q w => by omega) (fun w => by unfold sFl sMm at w; omega)]; exact h13
  refine ⟨XR_z (s0 := 0) hD hX hf (fun a j q => Or.inl (by unfold sFl sMm at q; unfold sQ1 sMm; omega)) (fun q => XTk_z hz (by omega) (hTk 0 q) hf (fun a j q w => by unfold sFl sMm at w; unfold sTc at q; omega) (fun a j q w => by unfold sFl sMm at w; omega)) hq (Or.inl h13'), fun s hs => SetX_z (by omega) (hA s hs) hf (fun a j q w => by unfold sFl sMm at w; omega), h13'⟩
theorem zF_fl {M M' : am_M} {z : Nat} (h : zF (sMm z) M M') : zF (sFl z) M M' := zF_up h (fun a j q => Or.inl q)
theorem l_x_look3 (d z t mo : Nat) (D : Dat) (M0 : am_M) (Q : Option Value → am_M → Prop) (hD : dOK D) (ht : t < 48) (hmo : 0 < mo) (hmo8 : mo ≤ 8) (hmx : ∀ p, p < 256 → stN D t p ≤ mo)
    (hN : ∀ M' lst v4 v5, zF (sFl z) M0 M' → LfX M' z D → jk v4 → jk v5 → BsX M' D (aP D t mo 256) lst → am_P am_P0 (d + 6) (am_look tX10_findLook) 155 [.ref 0, .int lst, .int (nI t), .int (nI mo), v4, v5] [] M' Q) :
    ∀ (m p : Nat), p + m = 256 → ∀ (M : am_M) (lst : Int32) (v5 : Value), jk v5 → zF (sFl z) M0 M → LfX M z D → (∀ q, q < 256 → (lvB M mo q ↔ mo ≤ stN D t q)) → (mI M 0 16).toInt ≤ mo → BsX M D (aP D t mo p) lst → am_P am_P0 (d + 6) (am_look tX10_findLook) 67 [.ref 0, .int lst, .int (nI t), .int (nI mo), .int (nI p), v5] [] M Q := by
  intro m
  induction m with
  | zero =>
    intro p hp M lst v5 j5 hM hF hlv h16 hB
    have ep : p = 256 := by omega
    subst ep
    have h0 := hN M lst (.int (nI 256)) v5 hM hF (Or.inr ⟨_, rfl⟩) j5 hB
    rw [hX10_findLook_67]
    simp +decide only [qX10_findLook_0, qX10_findLook_1, qX10_findLook_2, show nI 256 = (256 : Int32) from rfl, jk_w j5, am_w1_i, am_w1_r, am_w1_x, am_w1_l, am_w1_w, va_rf_s, am_push_n, am_push_s, am_cs_0, am_cs_i, am_cs_l, am_cs_r, m_uI_K, m_uI_N, m_uI_R, m_uI_L, m_uI_I, m_uL_K, m_uL_N, m_uL_R, m_uL_I, m_uL_L, m_uR_K, m_uR_N, m_uR_I, m_uR_L, m_uR_R, true_and, and_true, true_implies, false_implies, not_true_eq_false, not_false_eq_true, if_true, if_false, false_and, and_false] at h0 ⊢
    exact h0
  | succ m ih =>
    intro p hp M lst v5 j5 hM hF hlv h16 hB
    obtain ⟨hX, hA, h13⟩ := id hF
    have hz := hX.1.2.2.1
    have hL := hX.1.1
    have hr := hX.1.2.2.2.1
    have hlt : ¬ (256 : Int32) ≤ nI p := by rw [show (256 : Int32) = nI 256 from rfl, ni_le (by omega) (by omega)]; omega
    have e4 : nI mo * 4 + nI (p / 64) = nI (4 * mo + p / 64) := by rw [show (4 : Int32) = nI 4 from rfl, ni_mul, ni_add]; congr 1; omega
    have hbt := bt_test (mL M 172 (4 * mo + p / 64)) (i := p % 64) (by omega)
    have hlp := hlv p (by omega)
    unfold lvB at hlp
    rw [hX10_findLook_67]
    simp +decide (disch := omega) only [qX10_findLook_0, qX10_findLook_1, qX10_findLook_2, lx hL, sr6 p (by omega), an63 p (by omega), e4, lgc_0, hbt, jk_w j5, ni_in_t, ni_tn, ni_add1, Classical.not_not, am_w1_i, am_w1_r, am_w1_x, am_w1_l, am_w1_w, va_rf_s, am_push_n, am_push_s, am_cs_0, am_cs_i, am_cs_l, am_cs_r, m_uI_K, m_uI_N, m_uI_R, m_uI_L, m_uI_I, m_uL_K, m_uL_N, m_uL_R, m_uL_I, m_uL_L, m_uR_K, m_uR_N, m_uR_I, m_uR_L, m_uR_R, true_and, and_true, true_implies, false_implies, not_true_eq_false, not_false_eq_true, if_true, if_false, false_and, and_false]
    first | rw [br_n (hlt)] | rw [br_q (hlt)] | rw [br_u (hlt)]
    by_cases c : sbit (mL M 172 (4 * mo + p / 64)) (p % 64) = true
    · first | rw [br_p (c)] | rw [br_r (c)] | rw [br_s (c)]
      have hst : stN D t p = mo := by have := hlp.mp c; have := hmx p (by omega); omega
      simp +decide only [qX10_findLook_0, qX10_findLook_1, qX10_findLook_2, lx hL, lz hL hz, hr, am_w1_i, am_w1_r, am_w1_x, am_w1_l, am_w1_w, va_rf_s, am_push_n, am_push_s, am_cs_0, am_cs_i, am_cs_l, am_cs_r, m_uI_K, m_uI_N, m_uI_R, m_uI_L, m_uI_I, m_uL_K, m_uL_N, m_uL_R, m_uL_I, m_uL_L, m_uR_K, m_uR_N, m_uR_I, m_uR_L, m_uR_R, true_and, and_true, true_implies, false_implies, not_true_eq_false, not_false_eq_true, if_true, if_false, false_and, and_false]
      refine c_x_costAt (d + 0) z p (dDp D) (dCs D) (dQt D) M _ hL hX.1.2.1 hz (by omega) hX.2.2.1 (fun M1 f1 s1 => ?_)
      have F1 := LfX_z hD hF (zF_fl f1) s1
      have L1 := F1.1.1.1
      have k1 : ∀ j, 13 ≤ j → mI M1 0 j = mI M 0 j := fun j hj => f1.2.2.2.1 _ _ (by omega) (fun s' q w => by omega) (fun w => by unfold sMm at w; omega)
      have kl : ∀ j, mL M1 172 j = mL M 172 j := fun j => f1.2.2.2.2.1 _ _ (by omega) (fun w => by unfold sMm at w; omega)
      have hlv1 : ∀ q, q < 256 → (lvB M1 mo q ↔ mo ≤ stN D t q) := fun q hq => by unfold lvB; rw [kl]; exact hlv q hq
      have h99 := dCs_99 D p
      have B1 : BsX M1 D (aP D t mo p) lst := by unfold BsX; rw [k1 14 (by omega), k1 15 (by omega), k1 16 (by omega)]; exact hB
      -- taken
      obtain ⟨A, hA'⟩ : ∃ A, A = uI (uI (uI M1 0 16 (nI mo)) 0 14 (nI t)) 0 15 (nI p) := ⟨_, rfl⟩
      have gA : gF (sFl z) nT M1 A := by rw [hA']; exact gF_trans (gF_trans (gF_i _ (by unfold sFl; omega)) (gF_i _ (by unfold sFl; omega))) (gF_i _ (by unfold sFl; omega))
      have zA := zF_g L1 F1.1.1.2.1 gA (fun a j s' q w => by unfold sFl sMm at w; omega) (fun a j w => by unfold sFl sMm at w; omega)
      have take : (∀ h' p', aP D t mo p h' p' → dom D t p h' p') → am_P am_P0 (d + 6) (am_look tX10_findLook) 67 [.ref 0, .int (nI (dCs D p)), .int (nI t), .int (nI mo), .int (nI (p + 1)), .int (nI (dCs D p))] [] A Q := fun hd => by
        have SA : SqX A z (dDp D) (dCs D) (dQt D) := SqX_u s1 (fun a j q1 q2 q3 => by rw [hA', m_uI_I, if_neg (by omega), m_uI_I, if_neg (by omega), m_uI_I, if_neg (by omega)]) (fun a j _ => by rw [hA']; rfl)
        refine ih (p + 1) (by omega) A _ _ (Or.inr ⟨_, rfl⟩) (zF_trans hM (zF_trans (zF_fl f1) zA)) (LfX_z hD F1 zA SA) (fun q hq => by unfold lvB; rw [hA']; exact hlv1 q hq) (by rw [hA', m_uI_I, if_neg (by omega), m_uI_I, if_neg (by omega), m_uI_I, if_pos ⟨rfl, rfl⟩, ni_ti (by omega)]; omega) ?_
        refine Or.inr ⟨t, p, ht, by omega, Or.inr ⟨rfl, by omega, hst⟩, by omega, ?_, ?_, ?_, rfl, fun h' p' a1 => ?_⟩
        · rw [hA', m_uI_I, if_neg (by omega), m_uI_I, if_pos ⟨rfl, rfl⟩]
        · rw [hA', m_uI_I, if_pos ⟨rfl, rfl⟩]
        · rw [hA', m_uI_I, if_neg (by omega), m_uI_I, if_neg (by omega), m_uI_I, if_pos ⟨rfl, rfl⟩, hst]
        · by_cases e : h' = t ∧ p' = p
          · rw [e.1, e.2]; unfold dom; omega
          · exact hd h' p' (by unfold aP at a1 ⊢; omega)
      have keep : (∀ h0 p0, h0 < 48 → p0 < 256 → aP D t mo p h0 p0 → 0 < stN D h0 p0 → lst = nI (dCs D p0) → mI M 0 16 = nI (stN D h0 p0) → dom D h0 p0 t p) → ¬ (mI M 0 16 = 0 ∧ ∀ h p', aP D t mo p h p' → stN D h p' = 0) → am_P am_P0 (d + 6) (am_look tX10_findLook) 67 [.ref 0, .int lst, .int (nI t), .int (nI mo), .int (nI (p + 1)), .int (nI (dCs D p))] [] M1 Q := fun hd hno => by
        refine ih (p + 1) (by omega) M1 lst _ (Or.inr ⟨_, rfl⟩) (zF_trans hM (zF_fl f1)) F1 hlv1 (by rw [k1 16 (by omega)]; exact h16) ?_
        rcases hB with q | ⟨h0, p0, q1, q2, q3, q4, q5, q6, q7, q8, q9⟩
        · exact absurd q hno
        · refine Or.inr ⟨h0, p0, q1, q2, by unfold aP at q3 ⊢; omega, q4, by rw [k1 14 (by omega)]; exact q5, by rw [k1 15 (by omega)]; exact q6, by rw [k1 16 (by omega)]; exact q7, q8, fun h' p' a1 => ?_⟩
          by_cases e : h' = t ∧ p' = p
          · rw [e.1, e.2]; exact hd h0 p0 q1 q2 q3 q4 q8 q7
          · exact q9 h' p' (by unfold aP at a1 ⊢; omega)
      simp +decide (disch := omega) only [qX10_findLook_0, qX10_findLook_1, qX10_findLook_2, lx L1, k1 16 (by omega), am_w1_i, am_w1_r, am_w1_x, am_w1_l, am_w1_w, va_rf_s, am_push_n, am_push_s, am_cs_0, am_cs_i, am_cs_l, am_cs_r, m_uI_K, m_uI_N, m_uI_R, m_uI_L, m_uI_I, m_uL_K, m_uL_N, m_uL_R, m_uL_I, m_uL_L, m_uR_K, m_uR_N, m_uR_I, m_uR_L, m_uR_R, true_and, and_true, true_implies, false_implies, not_true_eq_false, not_false_eq_true, if_true, if_false, false_and, and_false, ← hA', ni_add1]
      by_cases c1 : mI M 0 16 < nI mo
      · first | rw [br_p (c1)] | rw [br_r (c1)] | rw [br_s (c1)]
        exact take (fun h' p' a1 => by
          rcases hB with ⟨q1, q2⟩ | ⟨h0, p0, q1, q2, q3, q4, q5, q6, q7, q8, q9⟩
          · have := q2 h' p' a1; unfold dom; omega
          · have := q9 h' p' a1
            rw [q7, ni_lt (by have := stN_8 hD h0 p0; omega) (by omega)] at c1
            unfold dom at this ⊢
            omega)
      · first | rw [br_n (c1)] | rw [br_q (c1)] | rw [br_u (c1)]
        rcases id hB with ⟨q1, q2⟩ | ⟨h0, p0, q1, q2, q3, q4, q5, q6, q7, q8, q9⟩
        · exfalso
          rw [q1, lt32, z32, ni_ti (by omega)] at c1
          omega
        · have h80 := stN_8 hD h0 p0
          have h990 := dCs_99 D p0
          have e16 : stN D h0 p0 = mo := by
            rw [q7, ni_lt (by omega) (by omega)] at c1
            rw [q7, ni_ti (by omega)] at h16
            omega
          have hno : ¬ (mI M 0 16 = 0 ∧ ∀ h p', aP D t mo p h p' → stN D h p' = 0) := fun q => by have := q.2 h0 p0 q3; omega
          rw [q8, ni_le (by omega) (by omega)]
          by_cases c2 : dCs D p0 ≤ dCs D p
          · first | rw [br_p (c2)] | rw [br_r (c2)] | rw [br_s (c2)]
            have hk := keep (fun h1 p1 a1 a2 a3 a4 a5 a6 => by
              have e1 : dCs D p1 = dCs D p0 := by
                rw [q8, ni_eq (by omega) (by have := dCs_99 D p1; omega)] at a5
                omega
              have e2 : stN D h1 p1 = mo := by
                rw [q7, ni_eq (by omega) (by have := stN_8 hD h1 p1; omega)] at a6
                omega
              unfold dom
              unfold aP at a3
              omega) hno
            rw [q8] at hk
            exact hk
          · first | rw [br_n (c2)] | rw [br_q (c2)] | rw [br_u (c2)]
            exact take (fun h' p' a1 => by have := q9 h' p' a1; unfold dom at this ⊢; omega)
    · first | rw [br_n (c)] | rw [br_q (c)] | rw [br_u (c)]
      have hst : ¬ stN D t p = mo := fun q => c (hlp.mpr (by omega))
      exact ih (p + 1) (by omega) M lst v5 j5 hM hF hlv h16 (by
        rcases hB with ⟨q1, q2⟩ | ⟨h0, p0, q1, q2, q3, q4, q5, q6, q7, q8, q9⟩
        · exact Or.inl ⟨q1, fun h' p' a1 => q2 h' p' (by
            unfold aP at a1 ⊢
            by_cases e : h' = t ∧ p' = p
            · obtain ⟨rfl, rfl⟩ := e; omega
            · omega)⟩
        · exact Or.inr ⟨h0, p0, q1, q2, by unfold aP at q3 ⊢; omega, q4, q5, q6, q7, q8, fun h' p' a1 => q9 h' p' (by
            unfold aP at a1 ⊢
            by_cases e : h' = t ∧ p' = p
            · obtain ⟨rfl, rfl⟩ := e; omega
            · omega)⟩)
theorem l_x_look2 (d z : Nat) (D : Dat) (M0 : am_M) (Q : Option Value → am_M → Prop) (hD : dOK D) (hQ : ∀ M' lst, zF (sFl z) M0 M' → LfX M' z D → BsX M' D (aH 48) lst → Q none M') :
    ∀ (m t : Nat), t + m = 48 → ∀ (M : am_M) (lst : Int32) (v3 v4 v5 : Value), jk v3 → jk v4 → jk v5 → zF (sFl z) M0 M → LfX M z D → BsX M D (aH t) lst → am_P am_P0 (d + 6) (am_look tX10_findLook) 37 [.ref 0, .int lst, .int (nI t), v3, v4, v5] [] M Q := by
  have n8 := dN_8 hD
  intro m
  induction m with
  | zero =>
    intro t ht M lst v3 v4 v5 j3 j4 j5 hM hF hB
    have et : t = 48 := by omega
    subst et
    have h0 := hQ M lst hM hF hB
    rw [hX10_findLook_37]
    simp +decide only [qX10_findLook_0, qX10_findLook_1, qX10_findLook_2, show nI 48 = (48 : Int32) from rfl, am_w1_i, am_w1_r, am_w1_x, am_w1_l, am_w1_w, va_rf_s, am_push_n, am_push_s, am_cs_0, am_cs_i, am_cs_l, am_cs_r, m_uI_K, m_uI_N, m_uI_R, m_uI_L, m_uI_I, m_uL_K, m_uL_N, m_uL_R, m_uL_I, m_uL_L, m_uR_K, m_uR_N, m_uR_I, m_uR_L, m_uR_R, true_and, and_true, true_implies, false_implies, not_true_eq_false, not_false_eq_true, if_true, if_false, false_and, and_false]
    exact h0
  | succ m ih =>
    intro t ht M lst v3 v4 v5 j3 j4 j5 hM hF hB
    obtain ⟨hX, hA, h13⟩ := id hF
    have hL := hX.1.1
    have hlt : ¬ (48 : Int32) ≤ nI t := by rw [show (48 : Int32) = nI 48 from rfl, ni_le (by omega) (by omega)]; omega
    rw [hX10_findLook_37]
    simp +decide (disch := omega) only [qX10_findLook_0, qX10_findLook_1, qX10_findLook_2, lx hL, jk_w j3, jk_w j4, jk_w j5, am_w1_i, am_w1_r, am_w1_x, am_w1_l, am_w1_w, va_rf_s, am_push_n, am_push_s, am_cs_0, am_cs_i, am_cs_l, am_cs_r, m_uI_K, m_uI_N, m_uI_R, m_uI_L, m_uI_I, m_uL_K, m_uL_N, m_uL_R, m_uL_I, m_uL_L, m_uR_K, m_uR_N, m_uR_I, m_uR_L, m_uR_R, true_and, and_true, true_implies, false_implies, not_true_eq_false, not_false_eq_true, if_true, if_false, false_and, and_false]
    first | rw [br_n (hlt)] | rw [br_q (hlt)] | rw [br_u (hlt)]
    refine x_pileUp hD hX hA (by omega) (d + 2) _ (fun M1 mo g1 mx lv => ?_)
    have f1 : zF (sFl z) M M1 := zF_g hL hX.1.2.1 (gF_up g1 (fun a j q => Or.inr (Or.inl q)) (fun _ _ q => q)) (fun a j s' q w => by unfold sFl sMm at w; have := hX.1.2.2.1; omega) (fun a j w => by unfold sFl sMm at w; have := hX.1.2.2.1; omega)
    have s1 : SqX M1 z (dDp D) (dCs D) (dQt D) := SqX_z hX.1.2.2.1 hX.2.2.1 (zF_g hL hX.1.2.1 g1 (fun a j s' q w => by unfold s172 at w; omega) (fun a j w => by unfold s172 at w; omega)) (fun a j q1 q2 q3 w => by unfold s172 at w; have := hX.1.2.2.1; omega)
    have F1 := LfX_z hD hF f1 s1
    have L1 := F1.1.1.1
    have k1 : ∀ j, mI M1 0 j = mI M 0 j := fun j => g1.1 _ _ (by unfold s172; omega)
    have B1 : BsX M1 D (aH t) lst := by unfold BsX; rw [k1, k1, k1]; exact hB
    have hmo : mo ≤ 8 := by have := mx.2.2; omega
    have ez : nI mo = 0 ↔ mo = 0 := by rw [show (0 : Int32) = nI 0 from rfl, ni_eq (by omega) (by omega)]
    -- an hour that brings nothing
    have skip : (∀ h0 p0, aH t h0 p0 → 0 < stN D h0 p0 → mI M 0 16 = nI (stN D h0 p0) → mo < stN D h0 p0 ∨ mo = 0) → (mI M 0 16 = 0 → mo = 0) → ∀ v3', jk v3' → am_P am_P0 (d + 6) (am_look tX10_findLook) 37 [.ref 0, .int lst, .int (nI (t + 1)), v3', v4, v5] [] M1 Q := fun h1 h2 v3' j3' => by
      refine ih (t + 1) (by omega) M1 lst v3' v4 v5 j3' j4 j5 (zF_trans hM f1) F1 ?_
      rcases B1 with ⟨q1, q2⟩ | ⟨h0, p0, q1, q2, q3, q4, q5, q6, q7, q8, q9⟩
      · refine Or.inl ⟨q1, fun h' p' a1 => ?_⟩
        by_cases e : h' = t
        · subst e
          have := mx.1 p' a1.2
          rw [stK_e] at this
          have := h2 (by rw [← k1]; exact q1)
          omega
        · exact q2 h' p' (by unfold aH at a1 ⊢; omega)
      · refine Or.inr ⟨h0, p0, q1, q2, by unfold aH at q3 ⊢; omega, q4, q5, q6, q7, q8, fun h' p' a1 => ?_⟩
        by_cases e : h' = t
        · subst e
          have := mx.1 p' a1.2
          rw [stK_e] at this
          have := h1 h0 p0 q3 q4 (by rw [← k1]; exact q7)
          unfold dom
          omega
        · exact q9 h' p' (by unfold aH at a1 ⊢; omega)
    simp +decide (disch := omega) only [qX10_findLook_0, qX10_findLook_1, qX10_findLook_2, lx L1, k1, ez, jk_w j4, jk_w j5, ni_add1, am_w1_i, am_w1_r, am_w1_x, am_w1_l, am_w1_w, va_rf_s, am_push_n, am_push_s, am_cs_0, am_cs_i, am_cs_l, am_cs_r, m_uI_K, m_uI_N, m_uI_R, m_uI_L, m_uI_I, m_uL_K, m_uL_N, m_uL_R, m_uL_I, m_uL_L, m_uR_K, m_uR_N, m_uR_I, m_uR_L, m_uR_R, true_and, and_true, true_implies, false_implies, not_true_eq_false, not_false_eq_true, if_true, if_false, false_and, and_false]
    by_cases c0 : mo = 0
    · first | rw [br_p (c0)] | rw [br_r (c0)] | rw [br_s (c0)]
      exact skip (fun _ _ _ _ _ => Or.inr c0) (fun _ => c0) _ (Or.inr ⟨_, rfl⟩)
    · first | rw [br_n (c0)] | rw [br_q (c0)] | rw [br_u (c0)]
      by_cases c1 : mI M 0 16 ≤ nI mo
      · first | rw [br_p (c1)] | rw [br_r (c1)] | rw [br_s (c1)]
        have h16 : (mI M1 0 16).toInt ≤ mo := by rw [k1]; rw [le32, ni_ti (by omega)] at c1; exact c1
        refine l_x_look3 d z t mo D M0 Q hD (by omega) (by omega) hmo (fun p hp => by have := mx.1 p hp; rw [stK_e] at this; exact this) (fun M' lst' v4' v5' a1 a2 a3 a4 a5 => ?_) 256 0 (by omega) M1 lst v5 j5 (zF_trans hM f1) F1 (fun q hq => by have := lv mo q hmo hq; rw [stK_e] at this; exact this) h16 ?_
        · have h0 := ih (t + 1) (by omega) M' lst' (.int (nI mo)) v4' v5' (Or.inr ⟨_, rfl⟩) a3 a4 a1 a2 (by
            obtain ⟨pm, pm1, pm2⟩ : ∃ p, p < 256 ∧ stN D t p = mo := by
              rcases mx.2.1 with q | ⟨p, p1, p2⟩
              · omega
              · exact ⟨p, p1, by rw [stK_e] at p2; exact p2⟩
            rcases a5 with ⟨q1, q2⟩ | ⟨h0, p0, q1, q2, q3, q4, q5, q6, q7, q8, q9⟩
            · have := q2 t pm (Or.inr ⟨rfl, pm1, pm2⟩)
              omega
            · refine Or.inr ⟨h0, p0, q1, q2, by unfold aP at q3; unfold aH; omega, q4, q5, q6, q7, q8, fun h' p' b1 => ?_⟩
              by_cases e : h' = t
              · subst e
                have hle := mx.1 p' b1.2
                rw [stK_e] at hle
                by_cases e2 : stN D h' p' = mo
                · exact q9 h' p' (Or.inr ⟨rfl, b1.2, e2⟩)
                · have := q9 h' pm (Or.inr ⟨rfl, pm1, pm2⟩)
                  unfold dom at this ⊢
                  omega
              · exact q9 h' p' (Or.inl ⟨by unfold aH at b1; omega, b1.2⟩))
          simp +decide only [qX10_findLook_0, qX10_findLook_1, qX10_findLook_2, ni_add1, jk_w a3, jk_w a4, am_w1_i, am_w1_r, am_w1_x, am_w1_l, am_w1_w, va_rf_s, am_push_n, am_push_s, am_cs_0, am_cs_i, am_cs_l, am_cs_r, m_uI_K, m_uI_N, m_uI_R, m_uI_L, m_uI_I, m_uL_K, m_uL_N, m_uL_R, m_uL_I, m_uL_L, m_uR_K, m_uR_N, m_uR_I, m_uR_L, m_uR_R, true_and, and_true, true_implies, false_implies, not_true_eq_false, not_false_eq_true, if_true, if_false, false_and, and_false]
          exact h0
        · rcases B1 with ⟨q1, q2⟩ | ⟨h0, p0, q1, q2, q3, q4, q5, q6, q7, q8, q9⟩
          · exact Or.inl ⟨q1, fun h' p' b1 => q2 h' p' (by unfold aP at b1; unfold aH; omega)⟩
          · exact Or.inr ⟨h0, p0, q1, q2, Or.inl q3, q4, q5, q6, q7, q8, fun h' p' b1 => q9 h' p' (by unfold aP at b1; unfold aH; omega)⟩
      · first | rw [br_n (c1)] | rw [br_q (c1)] | rw [br_u (c1)]
        refine skip (fun h0 p0 a1 a2 a3 => ?_) (fun a1 => ?_) _ (Or.inr ⟨_, rfl⟩)
        · rw [a3, ni_le (by have := stN_8 hD h0 p0; omega) (by omega)] at c1
          omega
        · rw [a1, le32, z32, ni_ti (by omega)] at c1
          omega
theorem l_x_look1 (d z : Nat) (D : Dat) (M0 : am_M) (Q : Option Value → am_M → Prop) (hD : dOK D) (hN : ∀ M', zF (sXq z) M0 M' → XR M' z D → AllS M' D → mI M' 0 13 = 0 → mI M' 0 16 = 0 → am_P am_P0 (d + 5) (am_look tX10_findLook) 37 [.ref 0, .int 0, .int 0, am_x, am_x, am_x] [] M' Q) :
    ∀ (m s : Nat), s + m = dN D → ∀ (M : am_M), zF (sXq z) M0 M → XR M z D → mI M 0 13 = 0 → mI M 0 16 = 0 → (∀ s', s' < s → dSX M D s') → am_P am_P0 (d + 5) (am_look tX10_findLook) 9 [.ref 0, .int 0, .int (nI s), am_x, am_x, am_x] [] M Q := by
  have n8 := dN_8 hD
  intro m
  induction m with
  | zero =>
    intro s hs M hM h h13 h16 hb
    have hz := h.1.2.2.1
    have hL := h.1.1
    have hr := h.1.2.2.2.1
    have hle : nI (dN D) ≤ nI s := (ni_le (by omega) (by omega)).mpr (by omega)
    have h0 := hN M hM h (fun s' hs' => hb s' (by omega)) h13 h16
    rw [hX10_findLook_9]
    simp +decide only [qX10_findLook_0, qX10_findLook_1, qX10_findLook_2, lx hL, lz hL hz, hr, (x_n h).1, am_w1_i, am_w1_r, am_w1_x, am_w1_l, am_w1_w, va_rf_s, am_push_n, am_push_s, am_cs_0, am_cs_i, am_cs_l, am_cs_r, m_uI_K, m_uI_N, m_uI_R, m_uI_L, m_uI_I, m_uL_K, m_uL_N, m_uL_R, m_uL_I, m_uL_L, m_uR_K, m_uR_N, m_uR_I, m_uR_L, m_uR_R, true_and, and_true, true_implies, false_implies, not_true_eq_false, not_false_eq_true, if_true, if_false, false_and, and_false]
    first | rw [br_p (hle)] | rw [br_r (hle)] | rw [br_s (hle)]
    exact h0
  | succ m ih =>
    intro s hs M hM h h13 h16 hb
    have hz := h.1.2.2.1
    have hL := h.1.1
    have hr := h.1.2.2.2.1
    have hlt : ¬ nI (dN D) ≤ nI s := by rw [ni_le (by omega) (by omega)]; omega
    have htr := ltr hL (show s < 8 by omega)
    have hst := lt_ hL (isTr_of (show s < 8 by omega))
    rw [hX10_findLook_9]
    simp +decide (disch := omega) only [qX10_findLook_0, qX10_findLook_1, qX10_findLook_2, lx hL, lz hL hz, hr, (x_n h).1, htr, hst, ni_in_t, ni_tn, am_w1_i, am_w1_r, am_w1_x, am_w1_l, am_w1_w, va_rf_s, am_push_n, am_push_s, am_cs_0, am_cs_i, am_cs_l, am_cs_r, m_uI_K, m_uI_N, m_uI_R, m_uI_L, m_uI_I, m_uL_K, m_uL_N, m_uL_R, m_uL_I, m_uL_L, m_uR_K, m_uR_N, m_uR_I, m_uR_L, m_uR_R, true_and, and_true, true_implies, false_implies, not_true_eq_false, not_false_eq_true, if_true, if_false, false_and, and_false]
    first | rw [br_n (hlt)] | rw [br_q (hlt)] | rw [br_u (hlt)]
    refine x_settledF hD h d (by omega) _ (fun M1 f1 X1 _ S1 => ?_)
    have k1 : ∀ j, mI M1 0 j = mI M 0 j := fun j => f1.2.2.2.1 _ _ (by omega) (fun s' q w => by omega) (fun w => by unfold sSt at w; omega)
    have h0 := ih (s + 1) (by omega) M1 (zF_trans hM (zF_up f1 (fun a j q => sSt_q (by omega) q))) X1 (by rw [k1]; exact h13) (by rw [k1]; exact h16) (fun s' hs' => by
      by_cases e : s' = s
      · subst e; exact S1
      · exact SetX_z (by omega) (hb s' (by omega)) f1 (fun a j q w => by unfold sSt at w; omega))
    simp +decide only [qX10_findLook_0, qX10_findLook_1, qX10_findLook_2, ni_add1, am_w1_i, am_w1_r, am_w1_x, am_w1_l, am_w1_w, va_rf_s, am_push_n, am_push_s, am_cs_0, am_cs_i, am_cs_l, am_cs_r, m_uI_K, m_uI_N, m_uI_R, m_uI_L, m_uI_I, m_uL_K, m_uL_N, m_uL_R, m_uL_I, m_uL_L, m_uR_K, m_uR_N, m_uR_I, m_uR_L, m_uR_R, true_and, and_true, true_implies, false_implies, not_true_eq_false, not_false_eq_true, if_true, if_false, false_and, and_false]
    exact h0
theorem x_findLook {M : am_M} {z : Nat} {D : Dat} (hD : dOK D) (h : XR M z D) (h13 : mI M 0 13 = 0) (d : Nat) (Q : Option Value → am_M → Prop) (hQ : ∀ M' lst, zF (sXq z) M M' → XR M' z D → BsX M' D (aH 48) lst → Q none M') : am_E am_P0 (d + 6) 160 [.ref 0] M Q := by
  have hL := h.1.1
  have hz := h.1.2.2.1
  obtain ⟨A, hA⟩ : ∃ A, A = uI M 0 16 0 := ⟨_, rfl⟩
  have gA : gF (sFl z) nT M A := by rw [hA]; exact gF_i _ (by unfold sFl; omega)
  have zA := zF_g hL h.1.2.1 gA (fun a j s' q w => by unfold sFl sMm at w; omega) (fun a j w => by unfold sFl sMm at w; omega)
  have h16 : mI A 0 16 = 0 := by rw [hA, m_uI_I, if_pos ⟨rfl, rfl⟩]
  have h13' : mI A 0 13 = 0 := by rw [hA, m_uI_I, if_neg (by omega)]; exact h13
  have h0 := h
  obtain ⟨⟨-, hI, -, r2, r3, hO⟩, ⟨c, hP⟩, hS1, hTk, hLk⟩ := h0
  have n8 := dN_8 hD
  have SA : SqX A z (dDp D) (dCs D) (dQt D) := SqX_u hS1 (fun a j q1 q2 q3 => by rw [hA, m_uI_I, if_neg (by omega)]) (fun a j _ => by rw [hA]; rfl)
  have XA : XR A z D := XR_z (s0 := 0) hD h zA (fun a j q => Or.inl (by unfold sFl sMm at q; unfold sQ1 sMm; omega)) (fun q => XTk_z hz (by omega) (hTk 0 q) zA (fun a j q w => by unfold sFl sMm at w; unfold sTc at q; omega) (fun a j q w => by unfold sFl sMm at w; omega)) SA (Or.inl h13')
  have h9 := l_x_look1 (d + 1) z D A Q hD (fun M1 f1 X1 A1 q13 q16 => by
    have h8 := l_x_look2 d z D M1 Q hD (fun M2 lst f2 F2 B2 => hQ M2 lst (zF_trans (zF_up zA (fun a j q => sFl_q q)) (zF_trans f1 (zF_up f2 (fun a j q => sFl_q q)))) F2.1 B2) 48 0 (by omega) M1 0 am_x am_x am_x (Or.inl rfl) (Or.inl rfl) (Or.inl rfl) (zF_refl X1.1.1 X1.1.2.1) ⟨X1, A1, q13⟩ (Or.inl ⟨q16, fun h' p' a1 => by have := a1.1; omega⟩)
    exact h8) (dN D) 0 (by omega) A (zF_refl XA.1.1 XA.1.2.1) XA h13' h16 (fun s' hs' => by omega)
  rw [eX10_findLook]
  simp +decide only [qX10_findLook_0, qX10_findLook_1, qX10_findLook_2, lx hL, ← hA, am_w1_i, am_w1_r, am_w1_x, am_w1_l, am_w1_w, va_rf_s, am_push_n, am_push_s, am_cs_0, am_cs_i, am_cs_l, am_cs_r, m_uI_K, m_uI_N, m_uI_R, m_uI_L, m_uI_I, m_uL_K, m_uL_N, m_uL_R, m_uL_I, m_uL_L, m_uR_K, m_uR_N, m_uR_I, m_uR_L, m_uR_R, true_and, and_true, true_implies, false_implies, not_true_eq_false, not_false_eq_true, if_true, if_false, false_and, and_false]
  exact h9
theorem x_next (w : Int32) : XqO 138 [.int w] (aNxt w) := by
  intro d M z D Q hD h hQ
  have hz := h.1.2.2.1
  have hL := h.1.1
  have hr := h.1.2.2.2.1
  have e2 : (2 : Int32).toInt = 2 := rfl
  unfold aNxt at hQ
  rw [eX10_next]
  simp +decide only [qX10_next, lx hL, Classical.not_not, am_w1_i, am_w1_r, am_w1_x, am_w1_l, am_w1_w, va_rf_s, am_push_n, am_push_s, am_cs_0, am_cs_i, am_cs_l, am_cs_r, m_uI_K, m_uI_N, m_uI_R, m_uI_L, m_uI_I, m_uL_K, m_uL_N, m_uL_R, m_uL_I, m_uL_L, m_uR_K, m_uR_N, m_uR_I, m_uR_L, m_uR_R, true_and, and_true, true_implies, false_implies, not_true_eq_false, not_false_eq_true, if_true, if_false, false_and, and_false]
  by_cases w0 : w < 0
  · have h0 := hQ M (XR_2 h) h
    rw [if_neg (fun q => by rw [lt32, z32] at w0; omega)] at h0
    first | rw [br_p (w0)] | rw [br_r (w0)] | rw [br_s (w0)]
    exact h0
  · first | rw [br_n (w0)] | rw [br_q (w0)] | rw [br_u (w0)]
    rw [lt32, z32] at w0
    by_cases w2 : w ≤ 2
    · first | rw [br_p (w2)] | rw [br_r (w2)] | rw [br_s (w2)]
      rw [le32, e2] at w2
      rw [if_pos ⟨by omega, by omega⟩] at hQ
      -- behind the search
      have key : ∀ M', zF (sXq z) M M' → XR M' z D → mI M' 0 13 = 1 → am_P am_P0 (d + 20) (am_look tX10_next) 27 [.ref 0, .int w] [] M' Q := fun M' f' X' h13 => by
        have L' := X'.1.1
        have hr' := X'.1.2.2.2.1
        have h0 := hQ M' f' X'
        rcases X'.2.2.2.2 with q | ⟨-, ⟨q1, q2⟩ | ⟨h1, p1, b1, k14, k15, k16⟩⟩
        · rw [h13] at q; exact absurd q (by decide)
        · rw [the_e nxQ_1 (Or.inr ⟨q2, rfl⟩)] at h0
          simp +decide only [qX10_next, lx L', q1, am_w1_i, am_w1_r, am_w1_x, am_w1_l, am_w1_w, va_rf_s, am_push_n, am_push_s, am_cs_0, am_cs_i, am_cs_l, am_cs_r, m_uI_K, m_uI_N, m_uI_R, m_uI_L, m_uI_I, m_uL_K, m_uL_N, m_uL_R, m_uL_I, m_uL_L, m_uR_K, m_uR_N, m_uR_I, m_uR_L, m_uR_R, true_and, and_true, true_implies, false_implies, not_true_eq_false, not_false_eq_true, if_true, if_false, false_and, and_false]
          exact h0
        · rw [the_e nxQ_1 (Or.inl ⟨h1, p1, b1, rfl⟩)] at h0
          unfold nxA at h0
          have h8 := stN_8 hD h1 p1
          have hne : ¬ nI (stN D h1 p1) = 0 := by
            rw [show (0 : Int32) = nI 0 from rfl, ni_eq (by omega) (by omega)]
            have := b1.2.2.1
            omega
          have en := fun Q => x_numberOf X' (d + 19) p1 Q b1.2.1
          simp +decide only [qX10_next, lx L', lz L' hz, hr', k14, k15, k16, en, Classical.not_not, am_w1_i, am_w1_r, am_w1_x, am_w1_l, am_w1_w, va_rf_s, am_push_n, am_push_s, am_cs_0, am_cs_i, am_cs_l, am_cs_r, m_uI_K, m_uI_N, m_uI_R, m_uI_L, m_uI_I, m_uL_K, m_uL_N, m_uL_R, m_uL_I, m_uL_L, m_uR_K, m_uR_N, m_uR_I, m_uR_L, m_uR_R, true_and, and_true, true_implies, false_implies, not_true_eq_false, not_false_eq_true, if_true, if_false, false_and, and_false]
          first | rw [br_n (hne)] | rw [br_q (hne)] | rw [br_u (hne)]
          by_cases c : w = 0
          · rw [if_pos (by rw [c]; rfl)] at h0
            first | rw [br_p (c)] | rw [br_r (c)] | rw [br_s (c)]
            exact h0
          · have c' : ¬ w.toInt = 0 := fun q => c (Int32.toInt_inj.mp q)
            rw [if_neg c'] at h0
            first | rw [br_n (c)] | rw [br_q (c)] | rw [br_u (c)]
            by_cases c1 : w = 1
            · rw [if_pos (by rw [c1]; rfl)] at h0
              first | rw [br_p (c1)] | rw [br_r (c1)] | rw [br_s (c1)]
              exact h0
            · have c1' : ¬ w.toInt = 1 := fun q => c1 (Int32.toInt_inj.mp q)
              rw [if_neg c1'] at h0
              first | rw [br_n (c1)] | rw [br_q (c1)] | rw [br_u (c1)]
              exact h0
      rcases h.2.2.2.2 with h13 | ⟨h13, -⟩
      · first | rw [br_p (h13)] | rw [br_r (h13)] | rw [br_s (h13)]
        refine x_findLook hD h h13 (d + 13) _ (fun M1 lst f1 X1 B1 => ?_)
        have L1 := X1.1.1
        obtain ⟨A, hA⟩ : ∃ A, A = uI M1 0 13 1 := ⟨_, rfl⟩
        have gA : gF (fun a j => a = 0 ∧ j = 13) nT M1 A := by rw [hA]; exact gF_i _ ⟨rfl, rfl⟩
        have zA := zF_g L1 X1.1.2.1 gA (fun a j s' q w => by omega) (fun a j w => by omega)
        have kA : ∀ j, ¬ j = 13 → mI A 0 j = mI M1 0 j := fun j hj => by rw [hA, m_uI_I, if_neg (by omega)]
        have h13A : mI A 0 13 = 1 := by rw [hA, m_uI_I, if_pos ⟨rfl, rfl⟩]
        have n8 := dN_8 hD
        have XA : XR A z D := XR_z (s0 := 0) hD X1 zA (fun a j q => Or.inl (by unfold sQ1; omega)) (fun q => XTk_z hz (by omega) (X1.2.2.2.1 0 q) zA (fun a j q w => by unfold sTc at q; omega) (fun a j q w => by omega)) (SqX_z hz X1.2.2.1 zA (fun a j q1 q2 q3 w => by omega)) (Or.inr ⟨h13A, by
          rw [kA 14 (by omega), kA 15 (by omega), kA 16 (by omega)]
          rcases B1 with ⟨q1, q2⟩ | ⟨h0, p0, q1, q2, q3, q4, q5, q6, q7, q8, q9⟩
          · exact Or.inl ⟨q1, fun h' p' a1 a2 => q2 h' p' ⟨a1, a2⟩⟩
          · exact Or.inr ⟨h0, p0, bst_i q1 q2 q4 (fun h' p' a1 a2 => q9 h' p' ⟨a1, a2⟩), q5, q6, q7⟩⟩)
        have h9 := key A (zF_trans f1 (zq_up (s := 0) (by omega) zA (fun a j q => by unfold sQ1; omega))) XA h13A
        have rA : mR A 0 2 = mR M1 0 2 := by rw [hA]; rfl
        simp +decide only [qX10_next, lx L1, lx XA.1.1, ← hA, kA 14 (by omega), kA 15 (by omega), kA 16 (by omega), rA, Classical.not_not, am_w1_i, am_w1_r, am_w1_x, am_w1_l, am_w1_w, va_rf_s, am_push_n, am_push_s, am_cs_0, am_cs_i, am_cs_l, am_cs_r, m_uI_K, m_uI_N, m_uI_R, m_uI_L, m_uI_I, m_uL_K, m_uL_N, m_uL_R, m_uL_I, m_uL_L, m_uR_K, m_uR_N, m_uR_I, m_uR_L, m_uR_R, true_and, and_true, true_implies, false_implies, not_true_eq_false, not_false_eq_true, if_true, if_false, false_and, and_false] at h9 ⊢
        exact h9
      · have hne : ¬ mI M 0 13 = 0 := by rw [h13]; decide
        have h9 := key M (XR_2 h) h h13
        first | rw [br_n (hne)] | rw [br_q (hne)] | rw [br_u (hne)]
        simp +decide only [qX10_next, lx hL, Classical.not_not, am_w1_i, am_w1_r, am_w1_x, am_w1_l, am_w1_w, va_rf_s, am_push_n, am_push_s, am_cs_0, am_cs_i, am_cs_l, am_cs_r, m_uI_K, m_uI_N, m_uI_R, m_uI_L, m_uI_I, m_uL_K, m_uL_N, m_uL_R, m_uL_I, m_uL_L, m_uR_K, m_uR_N, m_uR_I, m_uR_L, m_uR_R, true_and, and_true, true_implies, false_implies, not_true_eq_false, not_false_eq_true, if_true, if_false, false_and, and_false] at h9 ⊢
        exact h9
    · have h0 := hQ M (XR_2 h) h
      rw [if_neg (fun q => w2 (by rw [le32, e2]; omega))] at h0
      first | rw [br_n (w2)] | rw [br_q (w2)] | rw [br_u (w2)]
      exact h0
theorem op_next (w : Int32) : OpI 138 289 [.int w] isI := op_z (fun D => ⟨_, rfl⟩) (x_next w) (m_next w)
end
section
/-! feed, end, fault, octet, status -/
theorem an255 (x : Int32) : ∃ m, m < 256 ∧ x &&& 255 = nI m := by
  refine ⟨(x &&& 255).toBitVec.toNat, ?_, ?_⟩
  · have e : (x &&& 255).toBitVec.toNat = x.toBitVec.toNat &&& 255 := by
      show (x.toBitVec &&& (255 : Int32).toBitVec).toNat = _
      rw [BitVec.toNat_and]
      rfl
    rw [e, show (255 : Nat) = 2 ^ 8 - 1 from rfl, Nat.and_two_pow_sub_one_eq_mod]
    exact Nat.mod_lt _ (by decide)
  · apply Int32.toBitVec_inj.mp
    show _ = BitVec.ofNat 32 _
    rw [BitVec.ofNat_toNat]
    simp
theorem gF_put4 {S : Nat → Nat → Prop} (M : am_M) (t o f n : Nat) (v : Int32) (h1 : ∀ j, S t j) (h2 : S o f) : gF S nT M (put4 M t o f n v) := gF_trans (gF_trans (gF_trans (gF_trans (gF_i _ (h1 _)) (gF_i _ (h1 _))) (gF_i _ (h1 _))) (gF_i _ (h1 _))) (gF_i _ h2)
theorem gF_feed5 {S : Nat → Nat → Prop} (M : am_M) (t o f n : Nat) (a b c d e : Int32) (h1 : ∀ j, S t j) (h2 : S o f) : gF S nT M (feed5 M t o f n a b c d e) := gF_trans (gF_trans (gF_trans (gF_trans (gF_put4 M t o f n a h1 h2) (gF_put4 _ t o f _ b h1 h2)) (gF_put4 _ t o f _ c h1 h2)) (gF_put4 _ t o f _ d h1 h2)) (gF_put4 _ t o f _ e h1 h2)
/-- four bytes more on a row -/
def pt4 (f : Nat → Int32) (n : Nat) (v : Int32) (j : Nat) : Int32 := if j = n + 3 then v >>> 0 &&& 255 else if j = n + 2 then v >>> 8 &&& 255 else if j = n + 1 then v >>> 16 &&& 255 else if j = n then v >>> 24 &&& 255 else f j
theorem put4_t (M : am_M) (t o f n : Nat) (v : Int32) (hto : ¬ t = o) (j : Nat) : mI (put4 M t o f n v) t j = pt4 (fun j => mI M t j) n v j := by
  rw [put4_I, if_neg (by omega)]
  unfold pt4
  simp only [true_and]
theorem pt4_ext {f g : Nat → Int32} (h : ∀ j, j < 1800 → f j = g j) {n : Nat} {v : Int32} : ∀ j, j < 1800 → pt4 f n v j = pt4 g n v j := fun j hj => by
  unfold pt4
  rw [h j hj]
def byT (f : Nat → Int32) : Prop := ∀ j, j < 1800 → ∃ m, m < 256 ∧ f j = nI m
theorem pt4_by {f : Nat → Int32} (h : byT f) (n : Nat) (v : Int32) : byT (pt4 f n v) := fun j hj => by
  unfold pt4
  split
  · exact an255 _
  · split
    · exact an255 _
    · split
      · exact an255 _
      · split
        · exact an255 _
        · exact h j hj
def pt20 (f : Nat → Int32) (n : Nat) (a b c d e : Int32) : Nat → Int32 := pt4 (pt4 (pt4 (pt4 (pt4 f n a) (n + 4) b) (n + 8) c) (n + 12) d) (n + 16) e
theorem feed5_t (M : am_M) (t o f n : Nat) (a b c d e : Int32) (hto : ¬ t = o) (j : Nat) : mI (feed5 M t o f n a b c d e) t j = pt20 (fun j => mI M t j) n a b c d e j := by
  unfold feed5 pt20
  have e1 : (fun j => mI (put4 M t o f n a) t j) = pt4 (fun j => mI M t j) n a := funext fun j => put4_t _ _ _ _ _ _ hto j
  have e2 : (fun j => mI (put4 (put4 M t o f n a) t o f (n + 4) b) t j) = pt4 (pt4 (fun j => mI M t j) n a) (n + 4) b := by funext j; rw [put4_t _ _ _ _ _ _ hto, e1]
  have e3 : (fun j => mI (put4 (put4 (put4 M t o f n a) t o f (n + 4) b) t o f (n + 8) c) t j) = pt4 (pt4 (pt4 (fun j => mI M t j) n a) (n + 4) b) (n + 8) c := by funext j; rw [put4_t _ _ _ _ _ _ hto, e2]
  have e4 : (fun j => mI (put4 (put4 (put4 (put4 M t o f n a) t o f (n + 4) b) t o f (n + 8) c) t o f (n + 12) d) t j) = pt4 (pt4 (pt4 (pt4 (fun j => mI M t j) n a) (n + 4) b) (n + 8) c) (n + 12) d := by funext j; rw [put4_t _ _ _ _ _ _ hto, e3]
  rw [put4_t _ _ _ _ _ _ hto, e4]
theorem feed5_n (M : am_M) (t o f n : Nat) (a b c d e : Int32) : mI (feed5 M t o f n a b c d e) o f = nI (n + 20) := put4_n _ _ _ _ _ _
/-- the class's part and the model's part of what a call may change, D staying -/
def sXt (a j : Nat) : Prop := (a = 0 ∧ j < 13) ∨ a = 1 ∨ a = 169 ∨ a = 170
def sMt (a j : Nat) : Prop := (a = 277 ∧ (j = 1 ∨ j = 82)) ∨ a = 278 ∨ a = 312 ∨ a = 335
theorem Inv_t {M M1 M2 : am_M} {z b : Nat} {D : Dat} (hD : dOK D) (hX : XR M z D) (hM : MdM M b D) (g1 : gF sXt nT M M1) (g2 : gF sMt nT M1 M2) (h1 : TpI M2) (h2 : RfI M2) (h3 : FtI M2) (h4 : ImI M2) : Inv M2 := by
  have X1 := XR_t hD hX g1 (fun a j q => q)
  have m1 := MdM_g hM g1 (fun a j q w => by unfold tlM at q; unfold sXt at w; omega)
  exact ⟨z, b, D, hD, XR_m hD X1 g2 (fun a j q => by unfold sMt at q; omega), MdM_g m1 g2 (fun a j q w => by unfold tlM at q; unfold sMt at w; omega), h1, h2, h3, h4⟩
/-- the two calls both end; nothing is said of their answers but their kind -/
def OpU (y ym : Nat) (as : List Value) (K : Value → Prop) : Prop := ∀ (M : am_M), Inv M → ∀ d, 200 ≤ d → am_E am_P0 d y (.ref 0 :: as) M (fun r M1 => ∃ v, r = some v ∧ K v ∧ Lay M1 ∧ am_E am_P0 d ym (.ref 277 :: as) M1 (fun r2 M2 => ∃ v2, r2 = some v2 ∧ K v2 ∧ Inv M2))
theorem op_faultU (k : Int32) : OpU 112 207 [.int k] isI := by
  intro M hI d hd
  obtain ⟨z, b, D, hD, hX, hM, hT, hRf, hFt, hIm⟩ := id hI
  obtain ⟨e, rfl⟩ : ∃ e, d = e + 1 := ⟨d - 1, by omega⟩
  rw [c_x_fault _ _ _ _ hX.1.1]
  refine ⟨_, rfl, ⟨_, rfl⟩, hX.1.1, ?_⟩
  rw [c_m_fault _ _ _ _ hX.1.1]
  exact ⟨_, rfl, ⟨_, rfl⟩, hI⟩
/-- where the places are alike -/
theorem op_faultS (k : Int32) (M : am_M) (hI : Inv M) (h6 : mI M 0 6 = mI M 277 11) (d : Nat) (hd : 200 ≤ d) : am_E am_P0 d 112 (.ref 0 :: [.int k]) M (fun r M1 => ∃ v, r = some v ∧ isI v ∧ Lay M1 ∧ am_E am_P0 d 207 (.ref 277 :: [.int k]) M1 (fun r2 M2 => r2 = some v ∧ Inv M2)) := by
  obtain ⟨z, b, D, hD, hX, hM, hT, hRf, hFt, hIm⟩ := id hI
  obtain ⟨e, rfl⟩ : ∃ e, d = e + 1 := ⟨d - 1, by omega⟩
  rw [c_x_fault _ _ _ _ hX.1.1]
  refine ⟨_, rfl, ⟨_, rfl⟩, hX.1.1, ?_⟩
  rw [c_m_fault _ _ _ _ hX.1.1, hFt.1, h6]
  exact ⟨rfl, hI⟩
theorem op_status (k : Int32) : OpI 147 209 [.int k] isI := by
  intro M hI d hd
  obtain ⟨z, b, D, hD, hX, hM, hT, hRf, hFt, hIm⟩ := id hI
  obtain ⟨e, rfl⟩ : ∃ e, d = e + 1 := ⟨d - 1, by omega⟩
  rw [c_x_status _ _ _ _ hX.1.1]
  refine ⟨_, rfl, ⟨_, rfl⟩, hX.1.1, ?_⟩
  rw [c_m_status _ _ _ _ hX.1.1]
  refine ⟨?_, hI⟩
  by_cases c : 0 ≤ k ∧ k ≤ 4
  · have c4 : (4 : Int32).toInt = 4 := rfl
    have a1 := le32.mp c.1
    have a2 := le32.mp c.2
    rw [z32] at a1
    rw [c4] at a2
    rw [if_pos c, if_pos c, hRf _ (by omega)]
  · rw [if_neg c, if_neg c]
theorem op_octet (k : Int32) : OpI 145 300 [.int k] isI := by
  intro M hI d hd
  obtain ⟨z, b, D, hD, hX, hM, hT, hRf, hFt, ⟨n, n1, n2, n3, n4⟩⟩ := id hI
  rw [c_x_octet _ _ _ _ hX.1.1 n n2 n1]
  refine ⟨_, rfl, ⟨_, rfl⟩, hX.1.1, ?_⟩
  rw [c_m_octet _ _ _ _ hX.1.1 n n3 (by omega)]
  refine ⟨?_, hI⟩
  by_cases c : 0 ≤ k.toInt ∧ k.toInt < n
  · rw [if_pos c, if_pos c, n4 _ (by omega)]
  · rw [if_neg c, if_neg c]
theorem op_feed (a b c e f : Int32) : OpI 109 169 [.int a, .int b, .int c, .int e, .int f] isI := by
  intro M hI d hd
  obtain ⟨z, b', D, hD, hX, hM, ⟨T, n, t1, t2, t3, t4⟩, hRf, hFt, ⟨k, k1, k2, k3, k4⟩⟩ := id hI
  have hL := hX.1.1
  obtain ⟨d', rfl⟩ : ∃ d', d = d' + 1 := ⟨d - 1, by omega⟩
  rw [c_x_feed d' a b c e f M _ hL n t2 t1]
  by_cases cn : n + 20 ≤ 1800
  · rw [if_pos cn]
    refine ⟨_, rfl, ⟨_, rfl⟩, hX.1.1, ?_⟩
    have g1 : gF sXt nT M (feed5 M 1 0 1 n a b c e f) := gF_feed5 M 1 0 1 n a b c e f (fun j => by unfold sXt; omega) (by unfold sXt; omega)
    have g1' : gF (fun a j => a = 1 ∨ (a = 0 ∧ j = 1)) nT M (feed5 M 1 0 1 n a b c e f) := gF_feed5 M 1 0 1 n a b c e f (fun j => Or.inl rfl) (Or.inr ⟨rfl, rfl⟩)
    have L1 := gF_LayN g1 hL
    rw [c_m_feed d' a b c e f _ _ L1 n (by rw [g1'.1 _ _ (by omega)]; exact t3) t1, if_pos cn]
    obtain ⟨A, hA⟩ : ∃ A, A = feed5 M 1 0 1 n a b c e f := ⟨_, rfl⟩
    rw [← hA] at g1 g1' L1 ⊢
    have g2 : gF (fun a j => a = 278 ∨ (a = 277 ∧ j = 1)) nT A (feed5 A 278 277 1 n a b c e f) := gF_feed5 A 278 277 1 n a b c e f (fun j => Or.inl rfl) (Or.inr ⟨rfl, rfl⟩)
    have kp : ∀ a' j, ¬ (a' = 1 ∨ (a' = 0 ∧ j = 1)) → ¬ (a' = 278 ∨ (a' = 277 ∧ j = 1)) → mI (feed5 A 278 277 1 n a b c e f) a' j = mI M a' j := fun a' j q1 q2 => by rw [g2.1 _ _ q2, g1'.1 _ _ q1]
    refine ⟨rfl, Inv_t hD hX hM g1 (gF_up g2 (fun a' j q => by unfold sMt; omega) (fun _ _ q => q)) ?_ (fun j hj => ?_) ⟨?_, ?_⟩ ⟨k, k1, ?_, ?_, fun j hj => ?_⟩⟩
    · have hb : byT (pt20 (fun j => mI M 1 j) n a b c e f) := pt4_by (pt4_by (pt4_by (pt4_by (pt4_by (fun j hj => ⟨T j, (t4 j hj).1, (t4 j hj).2.1⟩) _ _) _ _) _ _) _ _) _ _
      have e1 : ∀ j, j < 1800 → mI (feed5 A 278 277 1 n a b c e f) 1 j = pt20 (fun j => mI M 1 j) n a b c e f j := fun j _ => by rw [g2.1 _ _ (by omega), hA, feed5_t _ _ _ _ _ _ _ _ _ _ (by omega)]
      have e2 : ∀ j, j < 1800 → mI (feed5 A 278 277 1 n a b c e f) 278 j = pt20 (fun j => mI M 1 j) n a b c e f j := fun j hj => by
        rw [feed5_t _ _ _ _ _ _ _ _ _ _ (by omega)]
        exact pt4_ext (pt4_ext (pt4_ext (pt4_ext (pt4_ext (fun j hj => by rw [g1'.1 _ _ (by omega), (t4 j hj).2.1, (t4 j hj).2.2]))))) j hj
      refine ⟨fun j => (pt20 (fun j => mI M 1 j) n a b c e f j).toInt.toNat, n + 20, cn, ?_, ?_, fun j hj => ?_⟩
      · rw [g2.1 _ _ (by omega), hA, feed5_n]
      · rw [feed5_n]
      · obtain ⟨m, m1, m2⟩ := hb j hj
        dsimp only
        rw [e1 j hj, e2 j hj, m2, ni_ti (by omega)]
        exact ⟨by omega, by congr 1, by congr 1⟩
    · rw [kp _ _ (by omega) (by omega), kp _ _ (by omega) (by omega)]; exact hRf j hj
    · rw [kp _ _ (by omega) (by omega), kp _ _ (by omega) (by omega)]; exact hFt.1
    · trivial
    · rw [kp _ _ (by omega) (by omega)]; exact k2
    · rw [kp _ _ (by omega) (by omega)]; exact k3
    · rw [kp _ _ (by omega) (by omega), kp _ _ (by omega) (by omega)]; exact k4 j hj
  · rw [if_neg cn]
    refine ⟨_, rfl, ⟨_, rfl⟩, hX.1.1, ?_⟩
    have g1 : gF (fun a j => a = 169 ∧ j = 0) nT M (uI M 169 0 (mI M 169 0 + 1)) := gF_i _ ⟨rfl, rfl⟩
    have L1 := gF_LayN g1 hL
    rw [c_m_feed d' a b c e f _ _ L1 n (by rw [g1.1 _ _ (by omega)]; exact t3) t1, if_neg cn]
    obtain ⟨A, hA⟩ : ∃ A, A = uI M 169 0 (mI M 169 0 + 1) := ⟨_, rfl⟩
    rw [← hA] at g1 L1 ⊢
    have g2 : gF (fun a j => a = 312 ∧ j = 0) nT A (uI A 312 0 (mI A 312 0 + 1)) := gF_i _ ⟨rfl, rfl⟩
    have kp : ∀ a' j, ¬ (a' = 169 ∧ j = 0) → ¬ (a' = 312 ∧ j = 0) → mI (uI A 312 0 (mI A 312 0 + 1)) a' j = mI M a' j := fun a' j q1 q2 => by rw [g2.1 _ _ q2, g1.1 _ _ q1]
    refine ⟨rfl, Inv_t hD hX hM (gF_up g1 (fun a' j q => by unfold sXt; omega) (fun _ _ q => q)) (gF_up g2 (fun a' j q => by unfold sMt; omega) (fun _ _ q => q)) ⟨T, n, t1, ?_, ?_, fun j hj => ⟨(t4 j hj).1, ?_, ?_⟩⟩ (fun j hj => ?_) ⟨?_, ?_⟩ ⟨k, k1, ?_, ?_, fun j hj => ?_⟩⟩
    · rw [kp _ _ (by omega) (by omega)]; exact t2
    · rw [kp _ _ (by omega) (by omega)]; exact t3
    · rw [kp _ _ (by omega) (by omega)]; exact (t4 j hj).2.1
    · rw [kp _ _ (by omega) (by omega)]; exact (t4 j hj).2.2
    · by_cases e0 : j = 0
      · rw [e0, g2.1 _ _ (by omega), m_uI_I, if_pos ⟨rfl, rfl⟩, hA, m_uI_I, if_pos ⟨rfl, rfl⟩, m_uI_I, if_neg (by omega), hRf 0 (by omega)]
      · rw [kp _ _ (by omega) (by omega), kp _ _ (by omega) (by omega)]; exact hRf j hj
    · rw [kp _ _ (by omega) (by omega), kp _ _ (by omega) (by omega)]; exact hFt.1
    · trivial
    · rw [kp _ _ (by omega) (by omega)]; exact k2
    · rw [kp _ _ (by omega) (by omega)]; exact k3
    · rw [kp _ _ (by omega) (by omega), kp _ _ (by omega) (by omega)]; exact k4 j hj
theorem op_end (x : Int32) : OpI 110 170 [.int x] isI := by
  intro M hI d hd
  obtain ⟨z, b', D, hD, hX, hM, ⟨T, n, t1, t2, t3, t4⟩, hRf, hFt, ⟨k, k1, k2, k3, k4⟩⟩ := id hI
  have hL := hX.1.1
  obtain ⟨d', rfl⟩ : ∃ d', d = d' + 1 := ⟨d - 1, by omega⟩
  rw [c_x_end _ x M _ hL n t2]
  by_cases cn : x < 0 ∨ nI n < x
  · rw [if_pos cn]
    refine ⟨_, rfl, ⟨_, rfl⟩, hX.1.1, ?_⟩
    have g1 : gF (fun a j => a = 169 ∧ j = 0) nT M (uI M 169 0 (mI M 169 0 + 1)) := gF_i _ ⟨rfl, rfl⟩
    have L1 := gF_LayN g1 hL
    rw [c_m_end d' x _ _ L1 n (by rw [g1.1 _ _ (by omega)]; exact t3), if_pos cn]
    obtain ⟨A, hA⟩ : ∃ A, A = uI M 169 0 (mI M 169 0 + 1) := ⟨_, rfl⟩
    rw [← hA] at g1 L1 ⊢
    have g2 : gF (fun a j => a = 312 ∧ j = 0) nT A (uI A 312 0 (mI A 312 0 + 1)) := gF_i _ ⟨rfl, rfl⟩
    have kp : ∀ a' j, ¬ (a' = 169 ∧ j = 0) → ¬ (a' = 312 ∧ j = 0) → mI (uI A 312 0 (mI A 312 0 + 1)) a' j = mI M a' j := fun a' j q1 q2 => by rw [g2.1 _ _ q2, g1.1 _ _ q1]
    refine ⟨rfl, Inv_t hD hX hM (gF_up g1 (fun a' j q => by unfold sXt; omega) (fun _ _ q => q)) (gF_up g2 (fun a' j q => by unfold sMt; omega) (fun _ _ q => q)) ⟨T, n, t1, ?_, ?_, fun j hj => ⟨(t4 j hj).1, ?_, ?_⟩⟩ (fun j hj => ?_) ⟨?_, ?_⟩ ⟨k, k1, ?_, ?_, fun j hj => ?_⟩⟩
    · rw [kp _ _ (by omega) (by omega)]; exact t2
    · rw [kp _ _ (by omega) (by omega)]; exact t3
    · rw [kp _ _ (by omega) (by omega)]; exact (t4 j hj).2.1
    · rw [kp _ _ (by omega) (by omega)]; exact (t4 j hj).2.2
    · by_cases e0 : j = 0
      · rw [e0, g2.1 _ _ (by omega), m_uI_I, if_pos ⟨rfl, rfl⟩, hA, m_uI_I, if_pos ⟨rfl, rfl⟩, m_uI_I, if_neg (by omega), hRf 0 (by omega)]
      · rw [kp _ _ (by omega) (by omega), kp _ _ (by omega) (by omega)]; exact hRf j hj
    · rw [kp _ _ (by omega) (by omega), kp _ _ (by omega) (by omega)]; exact hFt.1
    · trivial
    · rw [kp _ _ (by omega) (by omega)]; exact k2
    · rw [kp _ _ (by omega) (by omega)]; exact k3
    · rw [kp _ _ (by omega) (by omega), kp _ _ (by omega) (by omega)]; exact k4 j hj
  · rw [if_neg cn]
    refine ⟨_, rfl, ⟨_, rfl⟩, hX.1.1, ?_⟩
    have x0 : 0 ≤ x.toInt ∧ x.toInt ≤ n := by
      constructor
      · apply Classical.byContradiction
        intro q
        exact cn (Or.inl (by rw [lt32, z32]; omega))
      · apply Classical.byContradiction
        intro q
        exact cn (Or.inr (by rw [lt32, ni_ti (by omega)]; omega))
    have ex : x = nI x.toInt.toNat := i32_of (by omega) (by omega)
    have g1 : gF (fun a j => a = 0 ∧ j = 1) nT M (uI M 0 1 x) := gF_i _ ⟨rfl, rfl⟩
    have L1 := gF_LayN g1 hL
    rw [c_m_end d' x _ _ L1 n (by rw [g1.1 _ _ (by omega)]; exact t3), if_neg cn]
    obtain ⟨A, hA⟩ : ∃ A, A = uI M 0 1 x := ⟨_, rfl⟩
    rw [← hA] at g1 L1 ⊢
    have g2 : gF (fun a j => a = 277 ∧ j = 1) nT A (uI A 277 1 x) := gF_i _ ⟨rfl, rfl⟩
    have kp : ∀ a' j, ¬ (a' = 0 ∧ j = 1) → ¬ (a' = 277 ∧ j = 1) → mI (uI A 277 1 x) a' j = mI M a' j := fun a' j q1 q2 => by rw [g2.1 _ _ q2, g1.1 _ _ q1]
    refine ⟨rfl, Inv_t hD hX hM (gF_up g1 (fun a' j q => by unfold sXt; omega) (fun _ _ q => q)) (gF_up g2 (fun a' j q => by unfold sMt; omega) (fun _ _ q => q)) ⟨T, x.toInt.toNat, by omega, ?_, ?_, fun j hj => ⟨(t4 j hj).1, ?_, ?_⟩⟩ (fun j hj => ?_) ⟨?_, ?_⟩ ⟨k, k1, ?_, ?_, fun j hj => ?_⟩⟩
    · rw [g2.1 _ _ (by omega), hA, m_uI_I, if_pos ⟨rfl, rfl⟩]; exact ex
    · rw [m_uI_I, if_pos ⟨rfl, rfl⟩]; exact ex
    · rw [kp _ _ (by omega) (by omega)]; exact (t4 j hj).2.1
    · rw [kp _ _ (by omega) (by omega)]; exact (t4 j hj).2.2
    · rw [kp _ _ (by omega) (by omega), kp _ _ (by omega) (by omega)]; exact hRf j hj
    · rw [kp _ _ (by omega) (by omega), kp _ _ (by omega) (by omega)]; exact hFt.1
    · trivial
    · rw [kp _ _ (by omega) (by omega)]; exact k2
    · rw [kp _ _ (by omega) (by omega)]; exact k3
    · rw [kp _ _ (by omega) (by omega), kp _ _ (by omega) (by omega)]; exact k4 j hj
end
section
/-! spot, and what a refusal does -/
/-- cells of the tape, refusals, faults, the image -/
def tIm (a j : Nat) : Prop := (a = 0 ∧ (j = 1 ∨ j = 5 ∨ j = 6 ∨ j = 10)) ∨ a = 1 ∨ a = 169 ∨ a = 170 ∨ (a = 277 ∧ (j = 1 ∨ j = 10 ∨ j = 11 ∨ j = 82)) ∨ a = 278 ∨ a = 312 ∨ a = 335
def TI (M : am_M) : Prop := TpI M ∧ RfI M ∧ FtI M ∧ ImI M
theorem TI_k {M M' : am_M} (h : TI M) (k : ∀ a j, tIm a j → mI M' a j = mI M a j) : TI M' := by
  obtain ⟨⟨T, n, t1, t2, t3, t4⟩, hRf, hFt, ⟨m, k1, k2, k3, k4⟩⟩ := h
  refine ⟨⟨T, n, t1, ?_, ?_, fun j hj => ⟨(t4 j hj).1, ?_, ?_⟩⟩, fun j hj => ?_, ⟨?_, ?_⟩, ⟨m, k1, ?_, ?_, fun j hj => ?_⟩⟩
  · rw [k _ _ (by unfold tIm; omega)]; exact t2
  · rw [k _ _ (by unfold tIm; omega)]; exact t3
  · rw [k _ _ (by unfold tIm; omega)]; exact (t4 j hj).2.1
  · rw [k _ _ (by unfold tIm; omega)]; exact (t4 j hj).2.2
  · rw [k _ _ (by unfold tIm; omega), k _ _ (by unfold tIm; omega)]; exact hRf j hj
  · rw [k _ _ (by unfold tIm; omega), k _ _ (by unfold tIm; omega)]; exact hFt.1
  · trivial
  · rw [k _ _ (by unfold tIm; omega)]; exact k2
  · rw [k _ _ (by unfold tIm; omega)]; exact k3
  · rw [k _ _ (by unfold tIm; omega), k _ _ (by unfold tIm; omega)]; exact k4 j hj
/-- one refusal more -/
abbrev rfX (M : am_M) (k : Nat) : am_M := uI M 169 k (mI M 169 k + 1)
abbrev rfM (M : am_M) (k : Nat) : am_M := uI M 312 k (mI M 312 k + 1)
theorem rfX_X {M : am_M} {z b : Nat} {D : Dat} (k : Nat) (hD : dOK D) (hX : XR M z D) (hM : MdM M b D) : XR (rfX M k) z D ∧ MdM (rfX M k) b D := by
  have g1 : gF sXt nT M (rfX M k) := gF_i _ (by unfold sXt; omega)
  exact ⟨XR_t hD hX g1 (fun a j q => q), MdM_g hM g1 (fun a j q w => by unfold tlM at q; unfold sXt at w; omega)⟩
theorem Inv_rf {M : am_M} {z b : Nat} {D : Dat} (k : Nat) (hD : dOK D) (hX : XR M z D) (hM : MdM M b D) (h : TI M) : Inv (rfM (rfX M k) k) := by
  have g1 : gF (fun a j => a = 169 ∧ j = k) nT M (rfX M k) := gF_i _ ⟨rfl, rfl⟩
  have g2 : gF (fun a j => a = 312 ∧ j = k) nT (rfX M k) (rfM (rfX M k) k) := gF_i _ ⟨rfl, rfl⟩
  have kp : ∀ a' j, ¬ (a' = 169 ∧ j = k) → ¬ (a' = 312 ∧ j = k) → mI (rfM (rfX M k) k) a' j = mI M a' j := fun a' j q1 q2 => by rw [g2.1 _ _ q2, g1.1 _ _ q1]
  obtain ⟨⟨T, n, t1, t2, t3, t4⟩, hRf, hFt, ⟨m, k1, k2, k3, k4⟩⟩ := h
  refine Inv_t hD hX hM (gF_up g1 (fun a' j q => by unfold sXt; omega) (fun _ _ q => q)) (gF_up g2 (fun a' j q => by unfold sMt; omega) (fun _ _ q => q)) ⟨T, n, t1, ?_, ?_, fun j hj => ⟨(t4 j hj).1, ?_, ?_⟩⟩ (fun j hj => ?_) ⟨?_, ?_⟩ ⟨m, k1, ?_, ?_, fun j hj => ?_⟩
  · rw [kp _ _ (by omega) (by omega)]; exact t2
  · rw [kp _ _ (by omega) (by omega)]; exact t3
  · rw [kp _ _ (by omega) (by omega)]; exact (t4 j hj).2.1
  · rw [kp _ _ (by omega) (by omega)]; exact (t4 j hj).2.2
  · by_cases e0 : j = k
    · rw [e0, g2.1 _ _ (by omega), m_uI_I, if_pos ⟨rfl, rfl⟩, m_uI_I, if_pos ⟨rfl, rfl⟩, m_uI_I, if_neg (by omega), hRf k (by omega)]
    · rw [kp _ _ (by omega) (by omega), kp _ _ (by omega) (by omega)]; exact hRf j hj
  · rw [kp _ _ (by omega) (by omega), kp _ _ (by omega) (by omega)]; exact hFt.1
  · trivial
  · rw [kp _ _ (by omega) (by omega)]; exact k2
  · rw [kp _ _ (by omega) (by omega)]; exact k3
  · rw [kp _ _ (by omega) (by omega), kp _ _ (by omega) (by omega)]; exact k4 j hj
/-- cells that a change of sayings or sightings touches -/
def sCh (z a j : Nat) : Prop := (z + 2 ≤ a ∧ a ≤ z + 5) ∨ (∃ s, s < 8 ∧ sIn (z + 25 + 7 * s) a j) ∨ (∃ s, s < 8 ∧ a = 173 + 13 * s ∧ (j = 4 ∨ j = 5 ∨ j = 6)) ∨ (a = 0 ∧ j = 13)
theorem sCh_no {z a j : Nat} (hz : z = 2 ∨ z = 83) (h : sCh z a j) : a < 277 ∧ ¬ a = 1 ∧ ¬ (165 ≤ a ∧ a ≤ 172) ∧ (a = 0 → j = 13) ∧ ¬ a = z ∧ ¬ a = z + 1 ∧ ¬ (z + 6 ≤ a ∧ a ≤ z + 24) ∧ (∀ s, s < 8 → ¬ (a = z + 25 + 7 * s ∧ ¬ j = 5) ∧ ¬ (z + 29 + 7 * s ≤ a ∧ a ≤ z + 31 + 7 * s) ∧ ¬ (174 + 13 * s ≤ a ∧ a ≤ 185 + 13 * s) ∧ ¬ (a = 173 + 13 * s ∧ ¬ (j = 4 ∨ j = 5 ∨ j = 6))) := by
  rcases h with q | ⟨t, ht, q⟩ | ⟨t, ht, q⟩ | q
  · exact ⟨by omega, by omega, by omega, by omega, by omega, by omega, by omega, fun s hs => by omega⟩
  · unfold sIn at q
    exact ⟨by omega, by omega, by omega, by omega, by omega, by omega, by omega, fun s hs => by omega⟩
  · exact ⟨by omega, by omega, by omega, by omega, by omega, by omega, by omega, fun s hs => by omega⟩
  · exact ⟨by omega, by omega, by omega, by omega, by omega, by omega, by omega, fun s hs => by omega⟩
/-- what is told with other sayings and sightings -/
abbrev datY (D : Dat) (Ys : List (List Sy)) (Sg : List (Nat × Nat × Nat)) : Dat := (D.1, (dSh D, Ys, dBk D, Sg), D.2.2)
theorem XR_D {M M' : am_M} {z : Nat} {D : Dat} {Ys : List (List Sy)} {Sg : List (Nat × Nat × Nat)} (hD : dOK D) (h : XR M z D) (hg : gF (sCh z) nT M M') (hSg : SgX M' z Sg) (hSy : ∀ s, s < dN D → SyX M' (z + 25 + 7 * s) (dY (datY D Ys Sg) s))
    (hK : ∀ s, s < dN D → (mI M' (173 + 13 * s) 4 = 0 ∧ mI M' (173 + 13 * s) 5 = 0) ∨ (dY (datY D Ys Sg) s = dY D s ∧ mI M' (173 + 13 * s) 4 = mI M (173 + 13 * s) 4 ∧ mI M' (173 + 13 * s) 5 = mI M (173 + 13 * s) 5))
    (hK6 : ∀ s, s < dN D → mI M' (173 + 13 * s) 6 = 0 ∨ (kdI (datY D Ys Sg) s = kdI D s ∧ mI M' (173 + 13 * s) 6 = mI M (173 + 13 * s) 6)) (hl : LkX M' (datY D Ys Sg)) : XR M' z (datY D Ys Sg) := by
  obtain ⟨⟨hL, hI, hz, r2, r3, hO⟩, ⟨c, hP⟩, hS1, hTk, hLk⟩ := h
  have n8 := dN_8 hD
  have hno := fun a j => sCh_no (a := a) (j := j) hz
  have hf : zF (sCh z) M M' := zF_g hL hI hg (fun a j s' q w => by have := ((hno a j w).2.2.2.2.2.2.2 s' q).2.2.1; omega) (fun a j w => by have := (hno a j w).1; omega)
  have k1 : ∀ a j, (a = z ∨ (z + 6 ≤ a ∧ a ≤ z + 24)) → mI M' a j = mI M a j := fun a j q => hg.1 _ _ (fun w => by have := hno a j w; omega)
  have kg : ∀ s j, s < 8 → ¬ j = 5 → mI M' (z + 25 + 7 * s) j = mI M (z + 25 + 7 * s) j := fun s j hs hj => hg.1 _ _ (fun w => by have := ((hno _ _ w).2.2.2.2.2.2.2 s hs).1; omega)
  have kb : ∀ s a j, s < 8 → z + 29 + 7 * s ≤ a → a ≤ z + 31 + 7 * s → mI M' a j = mI M a j := fun s a j hs h1 h2 => hg.1 _ _ (fun w => by have := ((hno _ _ w).2.2.2.2.2.2.2 s hs).2.1; omega)
  have kB : ∀ s B, s < 8 → BkX M (z + 25 + 7 * s) B → BkX M' (z + 25 + 7 * s) B := fun s B hs q => by
    obtain ⟨b1, b2, b3⟩ := q
    refine ⟨by rw [kg s 9 hs (by omega)]; exact b1, b2, fun i f hi => ?_⟩
    obtain ⟨q1, q2, q3, q4⟩ := b3 i f hi
    exact ⟨q1, by rw [kb s _ _ hs (by omega) (by omega)]; exact q2, by rw [kb s _ _ hs (by omega) (by omega)]; exact q3, by rw [kb s _ _ hs (by omega) (by omega)]; exact q4⟩
  refine ⟨⟨hf.1, hf.2.1, hz, ?_, ?_, ?_⟩, ⟨c, ?_⟩, ?_, ?_, hl⟩
  · rw [hg.2.2.1 _ _ (fun w => w)]; exact r2
  · rw [hg.2.2.1 _ _ (fun w => w)]; exact r3
  · intro k hk
    rw [hg.1 _ _ (fun w => by have := (hno _ _ w).2.2.1; omega)]
    exact hO k hk
  · obtain ⟨⟨a1, a2, a3, a4⟩, b, sg, ⟨w1, w2, w3⟩, f⟩ := hP
    refine ⟨⟨by rw [k1 _ _ (by omega)]; exact a1, by rw [k1 _ _ (by omega)]; exact a2, by rw [k1 _ _ (by omega)]; exact a3, by rw [k1 _ _ (by omega)]; exact a4⟩, fun s sp hs => ?_, hSg, ⟨RlC_g w1 hg (fun a j q1 q2 w => by have := hno a j w; omega) (fun j hj w => by have := hno _ j w; omega), RlC_g w2 hg (fun a j q1 q2 w => by have := hno a j w; omega) (fun j hj w => by have := hno _ j w; omega), RlC_g w3 hg (fun a j q1 q2 w => by have := hno a j w; omega) (fun j hj w => by have := hno _ j w; omega)⟩, FmX_g f hg (fun w => by have := hno _ _ w; omega)⟩
    have hs' : s < dN D := (List.getElem?_eq_some_iff.mp hs).1
    obtain ⟨⟨e0, e1, e2, e3, e4⟩, -, hB⟩ := b s sp hs
    exact ⟨⟨by rw [kg s _ (by omega) (by omega)]; exact e0, by rw [kg s _ (by omega) (by omega)]; exact e1, by rw [kg s _ (by omega) (by omega)]; exact e2, by rw [kg s _ (by omega) (by omega)]; exact e3, by rw [kg s _ (by omega) (by omega)]; exact e4⟩, hSy s hs', kB s _ (by omega) hB⟩
  · exact SqX_u hS1 (fun a j q1 q2 q3 => k1 a j (by omega)) (fun a j q => hg.2.1 _ _ (fun w => by have := hno a j w; omega))
  · intro s hs0
    have hs : s < dN D := hs0
    clear hs0
    obtain ⟨⟨t0, ⟨p1, p2, p3, p4, p5, p6, p7⟩, tB, tY⟩, t2, t3, t4⟩ := hTk s hs
    have kt : ∀ j, 7 ≤ j → mI M' (173 + 13 * s) j = mI M (173 + 13 * s) j := fun j hj => hg.1 _ _ (fun w => by have := ((hno _ _ w).2.2.2.2.2.2.2 s (by omega)).2.2.2; omega)
    have kS : ∀ {v wt snd B Y}, SetX M s v wt snd B Y → SetX M' s v wt snd B Y := fun q => SetX_z (by omega) q hf (fun a j w w' => by have := ((hno _ _ w').2.2.2.2.2.2.2 s (by omega)).2.2; omega)
    refine ⟨⟨hf.2.2.2.2.2.2 s _ _ (by omega) t0, ⟨by rw [hg.2.2.1 _ _ (fun w => w)]; exact p1, by rw [hg.2.2.1 _ _ (fun w => w)]; exact p2, by rw [kg s _ (by omega) (by omega)]; exact p3, by rw [kg s _ (by omega) (by omega)]; exact p4, p5, p6, fun p hp => ⟨(p7 p hp).1, by rw [k1 _ _ (by omega)]; exact (p7 p hp).2⟩⟩, kB s _ (by omega) tB, hSy s hs⟩, ?_, ?_, ?_⟩
    · rcases hK s hs with q | ⟨q1, q2, q3⟩
      · exact Or.inl q.1
      · rw [q1]
        rcases t2 with u | u
        · exact Or.inl (by rw [q2]; exact u)
        · exact Or.inr ⟨by rw [q2]; exact u.1, kS u.2⟩
    · rcases hK s hs with q | ⟨q1, q2, q3⟩
      · exact Or.inl q.2
      · rw [q1]
        rcases t3 with u | u
        · exact Or.inl (by rw [q3]; exact u)
        · exact Or.inr ⟨by rw [q3]; exact u.1, by rw [q2]; exact u.2.1, kS u.2.2.1, by rw [kt 13 (by omega)]; exact u.2.2.2.1, by rw [kt 14 (by omega)]; exact u.2.2.2.2⟩
    · rcases hK6 s hs with q | ⟨q1, q2⟩
      · exact Or.inl q
      · rcases t4 with u | u
        · exact Or.inl (by rw [q2]; exact u)
        · exact Or.inr ⟨by rw [q2]; exact u.1, by rw [kt 7 (by omega), q1]; exact u.2⟩
/-- a sighting that may come -/
abbrev okSp (D : Dat) (l x y t : Int32) : Prop := (0 ≤ l.toInt ∧ l.toInt < 4) ∧ isCl D x y ∧ isHr t ∧ (dSg D).length < 40
abbrev spX (M : am_M) (z n : Nat) (l p t : Int32) : am_M := uI (uI (uI (uI M (z + 3) n l) (z + 4) n p) (z + 5) n t) (z + 2) 0 (nI (n + 1))
abbrev spM (M : am_M) (b n : Nat) (l c t : Int32) : am_M := uI (uI (uI (uI M 300 (40 * b + n) l) 301 (40 * b + n) c) 302 (40 * b + n) t) 299 b (nI (n + 1))
theorem x_spot {M : am_M} {z : Nat} {D : Dat} (hD : dOK D) (h : XR M z D) (d : Nat) (l x y t : Int32) (Q : Option Value → am_M → Prop) (hY : okSp D l x y t → Q (some (.int (nI ((dSg D).length + 1)))) (spX M z (dSg D).length l (nI (plI x y)) t)) (hN : ¬ okSp D l x y t → Q (some (.int (-1))) (rfX M 3)) : am_E am_P0 (d + 1) 143 [.ref 0, .int l, .int x, .int y, .int t] M Q := by
  have hz := h.1.2.2.1
  have hL := h.1.1
  have hr := h.1.2.2.2.1
  have eP := fun x y Q => x_place hD h d x y Q
  have s1 := (x_sg h).1
  have l40 := hD.1.2.2.2.2.2.2.2.1.1
  have hin : (3 : Int32).toInt.toNat = 3 := rfl
  have e4 : (4 : Int32).toInt = 4 := rfl
  rw [eX10_spot]
  simp +decide only [qX10_spot_0, qX10_spot_1, lx hL, lz hL hz, hr, eP, c_x_isHour, s1, hin, bI_0, Classical.not_not, am_w1_i, am_w1_r, am_w1_x, am_w1_l, am_w1_w, va_rf_s, am_push_n, am_push_s, am_cs_0, am_cs_i, am_cs_l, am_cs_r, m_uI_K, m_uI_N, m_uI_R, m_uI_L, m_uI_I, m_uL_K, m_uL_N, m_uL_R, m_uL_I, m_uL_L, m_uR_K, m_uR_N, m_uR_I, m_uR_L, m_uR_R, true_and, and_true, true_implies, false_implies, not_true_eq_false, not_false_eq_true, if_true, if_false, false_and, and_false]
  by_cases a1 : l < 0
  · first | rw [br_p (a1)] | rw [br_r (a1)] | rw [br_s (a1)]
    rw [lt32, z32] at a1
    exact hN (fun q => by have := q.1.1; omega)
  · first | rw [br_n (a1)] | rw [br_q (a1)] | rw [br_u (a1)]
    rw [lt32, z32] at a1
    by_cases a2 : (4 : Int32) ≤ l
    · first | rw [br_p (a2)] | rw [br_r (a2)] | rw [br_s (a2)]
      rw [le32, e4] at a2
      exact hN (fun q => by have := q.1.2; omega)
    · first | rw [br_n (a2)] | rw [br_q (a2)] | rw [br_u (a2)]
      rw [le32, e4] at a2
      by_cases hc : isCl D x y
      · obtain ⟨c1, c2, -⟩ := cl_of hD hc
        rw [if_pos hc]
        have hne : ¬ nI (plI x y) = -1 := nI_m1 (by omega)
        first | rw [br_n (hne)] | rw [br_q (hne)] | rw [br_u (hne)]
        by_cases ht : 0 ≤ t.toInt ∧ t.toInt < 48
        · first | rw [br_p (ht)] | rw [br_r (ht)] | rw [br_s (ht)]
          by_cases hn : nI (dSg D).length < 40
          · first | rw [br_p (hn)] | rw [br_r (hn)] | rw [br_s (hn)]
            rw [show (40 : Int32) = nI 40 from rfl, ni_lt (by omega) (by omega)] at hn
            have eA := fun Q => c_x_append d l (nI (plI x y)) t M Q hL z (dSg D).length hz s1 hn
            simp +decide (disch := omega) only [qX10_spot_0, qX10_spot_1, lx hL, lz hL hz, hr, eA, am_w1_i, am_w1_r, am_w1_x, am_w1_l, am_w1_w, va_rf_s, am_push_n, am_push_s, am_cs_0, am_cs_i, am_cs_l, am_cs_r, m_uI_K, m_uI_N, m_uI_R, m_uI_L, m_uI_I, m_uL_K, m_uL_N, m_uL_R, m_uL_I, m_uL_L, m_uR_K, m_uR_N, m_uR_I, m_uR_L, m_uR_R, true_and, and_true, true_implies, false_implies, not_true_eq_false, not_false_eq_true, if_true, if_false, false_and, and_false]
            exact hY ⟨⟨by omega, by omega⟩, hc, ht, hn⟩
          · first | rw [br_n (hn)] | rw [br_q (hn)] | rw [br_u (hn)]
            rw [show (40 : Int32) = nI 40 from rfl, ni_lt (by omega) (by omega)] at hn
            exact hN (fun q => hn q.2.2.2)
        · first | rw [br_n (ht)] | rw [br_q (ht)] | rw [br_u (ht)]
          exact hN (fun q => ht q.2.2.1)
      · rw [if_neg hc]
        simp +decide only [am_w1_i, am_w1_r, am_w1_x, am_w1_l, am_w1_w, va_rf_s, am_push_n, am_push_s, am_cs_0, am_cs_i, am_cs_l, am_cs_r, m_uI_K, m_uI_N, m_uI_R, m_uI_L, m_uI_I, m_uL_K, m_uL_N, m_uL_R, m_uL_I, m_uL_L, m_uR_K, m_uR_N, m_uR_I, m_uR_L, m_uR_R, true_and, and_true, true_implies, false_implies, not_true_eq_false, not_false_eq_true, if_true, if_false, false_and, and_false]
        exact hN (fun q => hc q.2.1)
theorem m_spot {M : am_M} {b : Nat} {D : Dat} (hD : dOK D) (hL : Lay M) (h : MdM M b D) (d : Nat) (l x y t : Int32) (Q : Option Value → am_M → Prop) (hY : okSp D l x y t → Q (some (.int (nI ((dSg D).length + 1)))) (spM M b (dSg D).length l (nI (cel (dC D) (plI x y))) t)) (hN : ¬ okSp D l x y t → Q (some (.int (-1))) (rfM M 3)) : am_E am_P0 (d + 2) 297 [.ref 277, .int l, .int x, .int y, .int t] M Q := by
  have hb := h.1.1
  have hb2 := h.1.2
  have s1 : mI M 299 b = nI (dSg D).length := h.2.2.2.2.2.2.1.1
  have l40 := hD.1.2.2.2.2.2.2.2.1.1
  have eC := fun x y Q => m_isCell hD hL h d x y Q
  have eH := fun x Q => c_m_isHour d x M Q
  have eR : ∀ Q, am_E am_P0 (d + 1) 208 [.ref 277, .int 3] M Q ↔ Q (some (.int (-1))) (rfM M 3) := fun Q => c_m_refuses (d + 1) 3 (by omega) M Q hL
  have e3 : (3 : Int32).toInt = 3 := rfl
  rw [eX11_spot]
  simp +decide (disch := omega) only [qX11_spot, lm hL, eC, eH, eR, c_m_is, hb, s1, bI_0, ni_in_t, ni_tn, Classical.not_not, am_w1_i, am_w1_r, am_w1_x, am_w1_l, am_w1_w, va_rf_s, am_push_n, am_push_s, am_cs_0, am_cs_i, am_cs_l, am_cs_r, m_uI_K, m_uI_N, m_uI_R, m_uI_L, m_uI_I, m_uL_K, m_uL_N, m_uL_R, m_uL_I, m_uL_L, m_uR_K, m_uR_N, m_uR_I, m_uR_L, m_uR_R, true_and, and_true, true_implies, false_implies, not_true_eq_false, not_false_eq_true, if_true, if_false, false_and, and_false]
  by_cases a1 : (0 : Int32) ≤ l ∧ l ≤ 3
  · first | rw [br_p (a1)] | rw [br_r (a1)] | rw [br_s (a1)]
    rw [le32, le32, z32, e3] at a1
    by_cases hc : (0 ≤ x.toInt ∧ x.toInt < dC D) ∧ (0 ≤ y.toInt ∧ y.toInt < dR D)
    · first | rw [br_p (hc)] | rw [br_r (hc)] | rw [br_s (hc)]
      by_cases ht : 0 ≤ t.toInt ∧ t.toInt < 48
      · first | rw [br_p (ht)] | rw [br_r (ht)] | rw [br_s (ht)]
        by_cases hn : nI (dSg D).length = 40
        · first | rw [br_p (hn)] | rw [br_r (hn)] | rw [br_s (hn)]
          rw [show (40 : Int32) = nI 40 from rfl, ni_eq (by omega) (by omega)] at hn
          exact hN (fun q => by have := q.2.2.2; omega)
        · first | rw [br_n (hn)] | rw [br_q (hn)] | rw [br_u (hn)]
          rw [show (40 : Int32) = nI 40 from rfl, ni_eq (by omega) (by omega)] at hn
          have eA := fun Q => m_atI hD hL h hc (d + 1) Q
          have eS := fun Q => c_m_spots (d + 1) l (nI (cel (dC D) (plI x y))) t M Q hL b (dSg D).length hb hb2 s1 (by omega)
          simp +decide (disch := omega) only [qX11_spot, lm hL, eA, eS, hb, ni_in_t, ni_tn, am_w1_i, am_w1_r, am_w1_x, am_w1_l, am_w1_w, va_rf_s, am_push_n, am_push_s, am_cs_0, am_cs_i, am_cs_l, am_cs_r, m_uI_K, m_uI_N, m_uI_R, m_uI_L, m_uI_I, m_uL_K, m_uL_N, m_uL_R, m_uL_I, m_uL_L, m_uR_K, m_uR_N, m_uR_I, m_uR_L, m_uR_R, true_and, and_true, true_implies, false_implies, not_true_eq_false, not_false_eq_true, if_true, if_false, false_and, and_false]
          exact hY ⟨⟨by omega, by omega⟩, hc, ht, by omega⟩
      · first | rw [br_n (ht)] | rw [br_q (ht)] | rw [br_u (ht)]
        exact hN (fun q => ht q.2.2.1)
    · first | rw [br_n (hc)] | rw [br_q (hc)] | rw [br_u (hc)]
      exact hN (fun q => hc q.2.1)
  · first | rw [br_n (a1)] | rw [br_q (a1)] | rw [br_u (a1)]
    rw [le32, le32, z32, e3] at a1
    exact hN (fun q => a1 ⟨by have := q.1; omega, by have := q.1; omega⟩)
theorem op_spot (l x y t : Int32) : OpI 143 297 [.int l, .int x, .int y, .int t] isI := by
  intro M hI d hd
  obtain ⟨z, b, D, hD, hX, hM, hT⟩ := id hI
  have hz := hX.1.2.2.1
  have hL := hX.1.1
  have hb2 := hM.1.2
  obtain ⟨d', rfl⟩ : ∃ d', d = d' + 2 := ⟨d - 2, by omega⟩
  refine x_spot hD hX (d' + 1) l x y t _ (fun hk => ?_) (fun hk => ?_)
  · refine ⟨_, rfl, ⟨_, rfl⟩, hX.1.1, ?_⟩
    obtain ⟨⟨l1, l2⟩, hc, ht, hn⟩ := id hk
    obtain ⟨c1, c2, -⟩ := cl_of hD hc
    obtain ⟨n, en⟩ : ∃ n, n = (dSg D).length := ⟨_, rfl⟩
    have el : l = nI l.toInt.toNat := i32_of (by omega) (by omega)
    have et : t = nI t.toInt.toNat := i32_of (by omega) (by have := ht.2; omega)
    have g1 : gF (fun a j => z + 2 ≤ a ∧ a ≤ z + 5) nT M (spX M z (dSg D).length l (nI (plI x y)) t) := gF_trans (gF_trans (gF_trans (gF_i _ (by omega)) (gF_i _ (by omega))) (gF_i _ (by omega))) (gF_i _ (by omega))
    have gc : gF (sCh z) nT M (spX M z (dSg D).length l (nI (plI x y)) t) := gF_up g1 (fun a j q => Or.inl q) (fun _ _ q => q)
    have hSg : SgX (spX M z (dSg D).length l (nI (plI x y)) t) z (dSg D ++ [(l.toInt.toNat, plI x y, t.toInt.toNat)]) := by
      refine ⟨by rw [m_uI_I, if_pos ⟨rfl, rfl⟩, List.length_append]; rfl, fun i g hi => ?_⟩
      by_cases e : i < (dSg D).length
      · rw [List.getElem?_append_left e] at hi
        obtain ⟨q1, q2, q3⟩ := (x_sg hX).2 i g hi
        refine ⟨?_, ?_, ?_⟩
        · rw [m_uI_I, if_neg (by omega), m_uI_I, if_neg (by omega), m_uI_I, if_neg (by omega), m_uI_I, if_neg (by omega)]; exact q1
        · rw [m_uI_I, if_neg (by omega), m_uI_I, if_neg (by omega), m_uI_I, if_neg (by omega), m_uI_I, if_neg (by omega)]; exact q2
        · rw [m_uI_I, if_neg (by omega), m_uI_I, if_neg (by omega), m_uI_I, if_neg (by omega), m_uI_I, if_neg (by omega)]; exact q3
      · rw [List.getElem?_append_right (by omega)] at hi
        have hl := (List.getElem?_eq_some_iff.mp hi).1
        have e1 : ([(l.toInt.toNat, plI x y, t.toInt.toNat)] : List (Nat × Nat × Nat)).length = 1 := rfl
        have e2 : i = (dSg D).length := by omega
        subst e2
        rw [Nat.sub_self] at hi
        cases hi
        refine ⟨?_, ?_, ?_⟩
        · rw [m_uI_I, if_neg (by omega), m_uI_I, if_neg (by omega), m_uI_I, if_neg (by omega), m_uI_I, if_pos ⟨rfl, rfl⟩]; exact el
        · rw [m_uI_I, if_neg (by omega), m_uI_I, if_neg (by omega), m_uI_I, if_pos ⟨rfl, rfl⟩]
        · rw [m_uI_I, if_neg (by omega), m_uI_I, if_pos ⟨rfl, rfl⟩]; exact et
    have hD' : dOK (datY D (dYs D) (dSg D ++ [(l.toInt.toNat, plI x y, t.toInt.toNat)])) := by
      obtain ⟨⟨o1, o2, o3, o4, o5, o6, o7, ⟨o8, o9⟩, o10⟩, hs⟩ := id hD
      refine ⟨⟨o1, o2, o3, o4, o5, o6, o7, ⟨by show (dSg D ++ [_]).length ≤ 40; rw [List.length_append]; show (dSg D).length + 1 ≤ 40; omega, fun g hg => ?_⟩, o10⟩, ?_⟩
      · rcases List.mem_append.mp hg with q | q
        · exact o9 g q
        · rw [List.mem_singleton] at q
          subst q
          exact ⟨by show l.toInt.toNat ≤ 3; omega, c1, by have := ht.2; show t.toInt.toNat < 48; omega⟩
      · rcases hs with q | q
        · exact Or.inl q
        · exfalso
          have := hc.1
          rw [q.1] at this
          omega
    have hX' : XR (spX M z (dSg D).length l (nI (plI x y)) t) z (datY D (dYs D) (dSg D ++ [(l.toInt.toNat, plI x y, t.toInt.toNat)])) := by
      refine XR_D hD hX gc hSg (fun s hs => ?_) (fun s hs => Or.inr ⟨rfl, g1.1 _ _ (by omega), g1.1 _ _ (by omega)⟩) (fun s hs => Or.inr ⟨rfl, g1.1 _ _ (by omega)⟩) ?_
      · exact (ShX_g (x_ship hX hs) g1 (fun a j q1 q2 q3 => by omega)).2.1
      · show LkX _ D
        have hLk := hX.2.2.2.2
        unfold LkX
        rw [g1.1 0 13 (by omega), g1.1 0 14 (by omega), g1.1 0 15 (by omega), g1.1 0 16 (by omega)]
        exact hLk
    obtain ⟨A, hA⟩ : ∃ A, A = spX M z (dSg D).length l (nI (plI x y)) t := ⟨_, rfl⟩
    rw [← hA] at hX' g1 ⊢
    have M1 := MdM_g hM g1 (fun a j q w => by unfold tlM at q; omega)
    have T1 := TI_k hT (fun a j q => g1.1 a j (fun w => by unfold tIm at q; omega))
    refine m_spot hD hX'.1.1 M1 d' l x y t _ (fun _ => ⟨rfl, ?_⟩) (fun q => absurd hk q)
    have g2 : gF (fun a j => (a = 299 ∧ j = b) ∨ ((300 ≤ a ∧ a ≤ 302) ∧ j = 40 * b + (dSg D).length)) nT A (spM A b (dSg D).length l (nI (cel (dC D) (plI x y))) t) := gF_trans (gF_trans (gF_trans (gF_i _ (by omega)) (gF_i _ (by omega))) (gF_i _ (by omega))) (gF_i _ (by omega))
    obtain ⟨h1, h2, h3, h4, h5, h6, h7, ⟨r1, r2, r3⟩, h8⟩ := id M1
    refine ⟨z, b, _, hD', XR_m hD' hX' g2 (fun a j q => by omega), ?_, TI_k T1 (fun a j q => g2.1 a j (fun w => by unfold tIm at q; omega))⟩
    have k : ∀ a j, tlM a j → ¬ (299 ≤ a ∧ a ≤ 302) → ¬ ((a = 299 ∧ j = b) ∨ ((300 ≤ a ∧ a ≤ 302) ∧ j = 40 * b + (dSg D).length)) := fun a j q1 q2 => by omega
    refine ⟨⟨by rw [g2.1 _ _ (by omega)]; exact h1.1, h1.2⟩, ⟨by rw [g2.1 _ _ (by omega)]; exact h2.1, by rw [g2.1 _ _ (by omega)]; exact h2.2⟩, by rw [g2.1 _ _ (by omega)]; exact h3, ShpM_g h4 g2 (by omega) (fun a j q1 q2 _ => by omega), SysM_g h5 g2 (by omega) (fun a j q => by omega), BkM_gF h6 g2 (by omega) (fun a j q1 q2 _ => by omega), ⟨?_, fun i g hi => ?_⟩, ⟨RaM_g r1 g2 (fun a j q w => by omega), RaM_g r2 g2 (fun a j q w => by omega), RaM_g r3 g2 (fun a j q w => by omega)⟩, fun p hp => ⟨by rw [g2.1 _ _ (by omega)]; exact (h8 p hp).1, by rw [g2.1 _ _ (by omega)]; exact (h8 p hp).2⟩⟩
    · rw [m_uI_I, if_pos ⟨rfl, rfl⟩]
      show nI ((dSg D).length + 1) = nI (dSg D ++ [_]).length
      rw [List.length_append]; rfl
    · have hi' : (dSg D ++ [(l.toInt.toNat, plI x y, t.toInt.toNat)])[i]? = some g := hi
      by_cases e : i < (dSg D).length
      · rw [List.getElem?_append_left e] at hi'
        obtain ⟨q1, q2, q3⟩ := h7.2 i g hi'
        refine ⟨?_, ?_, ?_⟩
        · rw [g2.1 _ _ (by omega)]; exact q1
        · rw [g2.1 _ _ (by omega)]; exact q2
        · rw [g2.1 _ _ (by omega)]; exact q3
      · rw [List.getElem?_append_right (by omega)] at hi'
        have hl := (List.getElem?_eq_some_iff.mp hi').1
        have e1 : ([(l.toInt.toNat, plI x y, t.toInt.toNat)] : List (Nat × Nat × Nat)).length = 1 := rfl
        have e2 : i = (dSg D).length := by omega
        subst e2
        rw [Nat.sub_self] at hi'
        cases hi'
        refine ⟨?_, ?_, ?_⟩
        · rw [m_uI_I, if_neg (by omega), m_uI_I, if_neg (by omega), m_uI_I, if_neg (by omega), m_uI_I, if_pos ⟨rfl, rfl⟩]; exact el
        · rw [m_uI_I, if_neg (by omega), m_uI_I, if_neg (by omega), m_uI_I, if_pos ⟨rfl, rfl⟩]; rfl
        · rw [m_uI_I, if_neg (by omega), m_uI_I, if_pos ⟨rfl, rfl⟩]; exact et
  · refine ⟨_, rfl, ⟨_, rfl⟩, hX.1.1, ?_⟩
    obtain ⟨X1, M1⟩ := rfX_X 3 hD hX hM
    refine m_spot hD X1.1.1 M1 d' l x y t _ (fun q => absurd q hk) (fun _ => ⟨rfl, Inv_rf 3 hD hX hM hT⟩)
end
section
/-! add, drop -/
def sFg (s a j : Nat) : Prop := (a = 173 + 13 * s ∧ (j = 4 ∨ j = 5)) ∨ (173 ≤ a ∧ a < 277 ∧ (a - 173) % 13 = 0 ∧ j = 6) ∨ (a = 0 ∧ j = 13)
theorem l_x_forget (d s n z : Nat) (x : Int32) (M0 : am_M) (Q : Option Value → am_M → Prop) (hL : Lay M0) (hz : z = 2 ∨ z = 83) (hs : s < 8) (hr : mR M0 0 2 = some z) (hn : mI M0 z 3 = nI n) (n8 : n ≤ 8)
    (hQ : ∀ M', gF (sFg s) nT M0 M' → (∀ t, t < n → mI M' (173 + 13 * t) 6 = 0) → (∀ a j, ¬ (a = 0 ∧ j = 13) → ¬ j = 6 → mI M' a j = mI M0 a j) → mI M' 0 13 = 0 → Q none M') : ∀ (m k : Nat), k + m = n → ∀ (M : am_M), gF (sFg s) nT M0 M → (∀ t, t < k → mI M (173 + 13 * t) 6 = 0) → (∀ a j, ¬ (a = 0 ∧ j = 13) → ¬ j = 6 → mI M a j = mI M0 a j) → am_P am_P0 d (am_look tX10_forget) 11 [.ref 0, .int x, .int (nI k)] [] M Q := by
  intro m
  induction m with
  | zero =>
    intro k hk M hM h6 h7
    have e : k = n := by omega
    subst e
    have LM := gF_LayN hM hL
    have hle : nI k ≤ nI k := (ni_le (by omega) (by omega)).mpr (Nat.le_refl _)
    have r1 : mR M 0 2 = some z := by rw [hM.2.2.1 _ _ (fun w => w)]; exact hr
    have n1 : mI M z 3 = nI k := by rw [hM.1 _ _ (by unfold sFg; omega)]; exact hn
    have h0 := hQ (uI M 0 13 0) (gF_trans hM (gF_i _ (Or.inr (Or.inr ⟨rfl, rfl⟩)))) (fun t ht => by rw [m_uI_I, if_neg (by omega)]; exact h6 t ht) (fun a j q1 q2 => by rw [m_uI_I, if_neg q1]; exact h7 a j q1 q2) (by rw [m_uI_I, if_pos ⟨rfl, rfl⟩])
    rw [hX10_forget_11]
    simp +decide (disch := omega) only [qX10_forget, lx LM, lz LM hz, r1, n1, ni_in_t, ni_tn, am_w1_i, am_w1_r, am_w1_x, am_w1_l, am_w1_w, va_rf_s, am_push_n, am_push_s, am_cs_0, am_cs_i, am_cs_l, am_cs_r, m_uI_K, m_uI_N, m_uI_R, m_uI_L, m_uI_I, m_uL_K, m_uL_N, m_uL_R, m_uL_I, m_uL_L, m_uR_K, m_uR_N, m_uR_I, m_uR_L, m_uR_R, true_and, and_true, true_implies, false_implies, not_true_eq_false, not_false_eq_true, if_true, if_false, false_and, and_false]
    rw [br_p hle]
    exact h0
  | succ m ih =>
    intro k hk M hM h6 h7
    have LM := gF_LayN hM hL
    have hlt : ¬ nI n ≤ nI k := by rw [ni_le (by omega) (by omega)]; omega
    have r1 : mR M 0 2 = some z := by rw [hM.2.2.1 _ _ (fun w => w)]; exact hr
    have n1 : mI M z 3 = nI n := by rw [hM.1 _ _ (by unfold sFg; omega)]; exact hn
    have hst := isTr_of (show k < 8 by omega)
    have h0 := ih (k + 1) (by omega) (uI M (173 + 13 * k) 6 0) (gF_trans hM (gF_i _ (Or.inr (Or.inl ⟨by omega, by omega, by omega, rfl⟩)))) (fun t ht => by
      by_cases e : t = k
      · rw [e, m_uI_I, if_pos ⟨rfl, rfl⟩]
      · rw [m_uI_I, if_neg (by omega)]; exact h6 t (by omega)) (fun a j q1 q2 => by rw [m_uI_I, if_neg (by omega)]; exact h7 a j q1 q2)
    rw [hX10_forget_11]
    simp +decide (disch := omega) only [qX10_forget, lx LM, lz LM hz, ltr LM (show k < 8 by omega), lt_ LM hst, r1, n1, ni_in_t, ni_tn, ni_add1, am_w1_i, am_w1_r, am_w1_x, am_w1_l, am_w1_w, va_rf_s, am_push_n, am_push_s, am_cs_0, am_cs_i, am_cs_l, am_cs_r, m_uI_K, m_uI_N, m_uI_R, m_uI_L, m_uI_I, m_uL_K, m_uL_N, m_uL_R, m_uL_I, m_uL_L, m_uR_K, m_uR_N, m_uR_I, m_uR_L, m_uR_R, true_and, and_true, true_implies, false_implies, not_true_eq_false, not_false_eq_true, if_true, if_false, false_and, and_false]
    rw [br_n hlt]
    exact h0
theorem c_x_forget (d s n z : Nat) (M : am_M) (Q : Option Value → am_M → Prop) (hL : Lay M) (hz : z = 2 ∨ z = 83) (hs : s < 8) (hr : mR M 0 2 = some z) (hn : mI M z 3 = nI n) (n8 : n ≤ 8)
    (hQ : ∀ M', gF (sFg s) nT M M' → mI M' (173 + 13 * s) 4 = 0 → mI M' (173 + 13 * s) 5 = 0 → (∀ t, t < n → mI M' (173 + 13 * t) 6 = 0) → mI M' 0 13 = 0 → Q none M') : am_E am_P0 (d + 1) 153 [.ref 0, .int (nI s)] M Q := by
  have hst := isTr_of hs
  have eF := fun Q => c_x_Tforget d s M Q hL hs
  obtain ⟨A, hA⟩ : ∃ A, A = uI (uI M (173 + 13 * s) 4 0) (173 + 13 * s) 5 0 := ⟨_, rfl⟩
  have gA : gF (sFg s) nT M A := by rw [hA]; exact gF_trans (gF_i _ (Or.inl ⟨rfl, by omega⟩)) (gF_i _ (Or.inl ⟨rfl, by omega⟩))
  have h0 := l_x_forget (d + 1) s n z (nI s) A Q (gF_LayN gA hL) hz hs (by rw [gA.2.2.1 _ _ (fun w => w)]; exact hr) (by rw [gA.1 _ _ (by unfold sFg; omega)]; exact hn) n8 (fun M' g' q1 q2 q3 => hQ M' (gF_trans gA g') (by rw [q2 _ _ (by omega) (by omega), hA, m_uI_I, if_neg (by omega), m_uI_I, if_pos ⟨rfl, rfl⟩]) (by rw [q2 _ _ (by omega) (by omega), hA, m_uI_I, if_pos ⟨rfl, rfl⟩]) q1 q3) n 0 (by omega) A (gF_refl _ _ _) (fun t ht => by omega) (fun a j _ _ => rfl)
  rw [eX10_forget]
  simp +decide (disch := omega) only [qX10_forget, lx hL, ltr hL hs, lt_ hL hst, eF, ni_in_t, ni_tn, am_w1_i, am_w1_r, am_w1_x, am_w1_l, am_w1_w, va_rf_s, am_push_n, am_push_s, am_cs_0, am_cs_i, am_cs_l, am_cs_r, m_uI_K, m_uI_N, m_uI_R, m_uI_L, m_uI_I, m_uL_K, m_uL_N, m_uL_R, m_uL_I, m_uL_L, m_uR_K, m_uR_N, m_uR_I, m_uR_L, m_uR_R, true_and, and_true, true_implies, false_implies, not_true_eq_false, not_false_eq_true, if_true, if_false, false_and, and_false, ← hA]
  exact h0
theorem SyX_gF {M M' : am_M} {g : Nat} {Y : List Sy} {S T' : Nat → Nat → Prop} (h : SyX M g Y) (hg : gF S T' M M') (hd : ∀ a j, g ≤ a → a ≤ g + 3 → ¬ S a j) : SyX M' g Y := by
  obtain ⟨b1, b2, b3⟩ := h
  refine ⟨by rw [hg.1 _ _ (hd _ _ (by omega) (by omega))]; exact b1, b2, fun i y hy => ?_⟩
  obtain ⟨q1, q2, q3, q4⟩ := b3 i y hy
  exact ⟨q1, by rw [hg.1 _ _ (hd _ _ (by omega) (by omega))]; exact q2, by rw [hg.1 _ _ (hd _ _ (by omega) (by omega))]; exact q3, by rw [hg.1 _ _ (hd _ _ (by omega) (by omega))]; exact q4⟩
theorem sFg_c {z s a j : Nat} (hs : s < 8) (h : sFg s a j) : sCh z a j := by
  rcases h with q | q | q
  · exact Or.inr (Or.inr (Or.inl ⟨s, hs, by omega, by omega⟩))
  · exact Or.inr (Or.inr (Or.inl ⟨(a - 173) / 13, by omega, by omega, by omega⟩))
  · exact Or.inr (Or.inr (Or.inr q))
/-- the sayings of one ship change, and what was known is forgotten -/
theorem XR_y {M M1 M2 : am_M} {z s : Nat} {D : Dat} {Y : List Sy} (hD : dOK D) (hX : XR M z D) (hs : s < dN D) (g1 : gF (sIn (z + 25 + 7 * s)) nT M M1) (hY : SyX M1 (z + 25 + 7 * s) Y) (g2 : gF (sFg s) nT M1 M2) (h4 : mI M2 (173 + 13 * s) 4 = 0) (h5 : mI M2 (173 + 13 * s) 5 = 0) (h6 : ∀ t, t < dN D → mI M2 (173 + 13 * t) 6 = 0) (h13 : mI M2 0 13 = 0) : gF (sCh z) nT M M2 ∧ XR M2 z (addY D s Y) := by
  have hz := hX.1.2.2.1
  have n8 := dN_8 hD
  have hyl : s < (dYs D).length := by rw [hD.1.2.2.1.2.1]; first | exact hs | exact s1
  have gc : gF (sCh z) nT M M2 := gF_trans (gF_up g1 (fun a j q => Or.inr (Or.inl ⟨s, by omega, q⟩)) (fun _ _ q => q)) (gF_up g2 (fun a j q => sFg_c (by omega) q) (fun _ _ q => q))
  have g12 : gF (fun a j => sIn (z + 25 + 7 * s) a j ∨ sFg s a j) nT M M2 := gF_trans (gF_up g1 (fun a j q => Or.inl q) (fun _ _ q => q)) (gF_up g2 (fun a j q => Or.inr q) (fun _ _ q => q))
  refine ⟨gc, XR_D (Ys := (dYs D).set s Y) (Sg := dSg D) hD hX gc (SgX_g (x_sg hX) g12 (fun a j q1 q2 w => by unfold sIn sFg at w; omega)) (fun s' hs' => ?_) (fun s' hs' => ?_) (fun s' hs' => Or.inl (h6 s' hs')) (Or.inl h13)⟩
  · have e := dY_set (D := D) (s := s) (Y := Y) hyl s'
    unfold addY at e
    rw [e]
    by_cases c : s' = s
    · rw [if_pos c, c]
      exact SyX_gF hY g2 (fun a j q1 q2 w => by unfold sFg at w; omega)
    · rw [if_neg c]
      exact SyX_gF (x_ship hX hs').2.1 g12 (fun a j q1 q2 w => by unfold sIn sFg at w; omega)
  · by_cases c : s' = s
    · rw [c]; exact Or.inl ⟨h4, h5⟩
    · have e := dY_set (D := D) (s := s) (Y := Y) hyl s'
      unfold addY at e
      rw [if_neg c] at e
      exact Or.inr ⟨e, g12.1 _ _ (fun w => by unfold sIn sFg at w; omega), g12.1 _ _ (fun w => by unfold sIn sFg at w; omega)⟩
theorem dOK_y {D : Dat} {s : Nat} {Y : List Sy} (hD : dOK D) (hs : s < dN D) (h1 : srtY Y) (h2 : ∀ y, y ∈ Y → y.1 < 48 ∧ vld (dC D) (dR D) y.2.1) (h3 : dTot (addY D s Y) ≤ 96) : dOK (addY D s Y) := ⟨DOK_y hD.1 hs h1 h2 h3, hD.2⟩
theorem MdM_y {M M' : am_M} {b s : Nat} {D : Dat} {Y : List Sy} {S : Nat → Nat → Prop} (hD : dOK D) (hs : s < dN D) (hM : MdM M b D) (hg : gF S nT M M') (hS : ∀ a j, S a j → (a = 291 ∧ j = b) ∨ ((a = 292 ∨ a = 293) ∧ 384 * b + 48 * s ≤ j ∧ j < 384 * b + 48 * s + 48)) (hn : mI M' 291 b = nI (dTot (addY D s Y))) (hY : SyM M' b (dC D) (dR D) s Y) : MdM M' b (addY D s Y) := by
  obtain ⟨h1, h2, h3, h4, h5, h6, h7, ⟨r1, r2, r3⟩, h8⟩ := hM
  have hyl : s < (dYs D).length := by rw [hD.1.2.2.1.2.1]; first | exact hs | exact s1
  have k : ∀ a j, ¬ (291 ≤ a ∧ a ≤ 293) → ¬ S a j := fun a j q w => by have := hS a j w; omega
  refine ⟨⟨by rw [hg.1 _ _ (k _ _ (by omega))]; exact h1.1, h1.2⟩, ⟨by rw [hg.1 _ _ (k _ _ (by omega))]; exact h2.1, by rw [hg.1 _ _ (k _ _ (by omega))]; exact h2.2⟩, by rw [hg.1 _ _ (k _ _ (by omega))]; exact h3, ShpM_g h4 hg (k _ _ (by omega)) (fun a j q1 q2 _ => k _ _ (by omega)), ⟨hn, fun s' hs' => ?_⟩, BkM_gF h6 hg (k _ _ (by omega)) (fun a j q1 q2 _ => k _ _ (by omega)), SgM_g h7 hg (k _ _ (by omega)) (fun a j q1 q2 _ => k _ _ (by omega)), ⟨RaM_g r1 hg (fun a j q => k _ _ (by omega)), RaM_g r2 hg (fun a j q => k _ _ (by omega)), RaM_g r3 hg (fun a j q => k _ _ (by omega))⟩, fun p hp => ⟨by rw [hg.1 _ _ (k _ _ (by omega))]; exact (h8 p hp).1, by rw [hg.1 _ _ (k _ _ (by omega))]; exact (h8 p hp).2⟩⟩
  rw [dY_set hyl]
  by_cases c : s' = s
  · rw [if_pos c, c]; exact hY
  · rw [if_neg c]
    exact SyM_gF (h5.2 s' hs') hg (fun a t q ht w => by have := hS _ _ w; omega)
end
section
/-! add, drop: the calls -/
theorem bef_in {Y : List Sy} {y0 : Sy} (hs : srtY Y) : (bef (inY Y y0) y0.1).length = (bef Y y0.1).length := by
  refine bef_cut (by rw [inY_len]; have := bef_le Y y0.1; omega) (fun k y hk hy => ?_) (fun k y hk hy => ?_)
  · rw [inY_at, if_pos hk] at hy
    exact (bef_lt hs hy).mp hk
  · rw [inY_at, if_neg (by omega)] at hy
    by_cases c : k = (bef Y y0.1).length
    · rw [if_pos c] at hy; cases hy; exact Nat.le_refl _
    · rw [if_neg c] at hy
      have : ¬ y.1 < y0.1 := fun q => by have := (bef_lt hs hy).mpr q; omega
      omega
abbrev okAd (D : Dat) (v t x y : Int32) : Prop := (0 ≤ v.toInt ∧ v.toInt < dN D) ∧ isHr t ∧ isCl D x y ∧ (∀ u, u ∈ dY D v.toInt.toNat → ¬ u.1 = t.toInt.toNat) ∧ dTot D < 96
theorem x_add {M : am_M} {z : Nat} {D : Dat} (hD : dOK D) (h : XR M z D) (d : Nat) (v t x y : Int32) (w : Bool) (Q : Option Value → am_M → Prop)
    (hY : okAd D v t x y → ∀ M', gF (sCh z) nT M M' → XR M' z (addY D v.toInt.toNat (inY (dY D v.toInt.toNat) (t.toInt.toNat, plI x y, w))) → Q (some (.int (nI (bef (dY D v.toInt.toNat) t.toInt.toNat).length))) M') (hN : ¬ okAd D v t x y → Q (some (.int (-1))) (rfX M 2)) : am_E am_P0 (d + 2) 141 [.ref 0, .int v, .int t, .int x, .int y, .int (b01 w)] M Q := by
  have hz := h.1.2.2.1
  have hL := h.1.1
  have hr := h.1.2.2.2.1
  have n8 := dN_8 hD
  have eP := fun x y Q => x_place hD h (d + 1) x y Q
  have eS := fun v Q => x_isShip hD h (d + 1) v Q
  have hin : (2 : Int32).toInt.toNat = 2 := rfl
  have t96 : dTot D ≤ 96 := hD.1.2.2.2.2.2.1
  rw [eX10_add]
  simp +decide only [qX10_add_0, qX10_add_1, lx hL, lz hL hz, hr, eP, eS, c_x_isHour, hin, bI_0, Classical.not_not, am_w1_i, am_w1_r, am_w1_x, am_w1_l, am_w1_w, va_rf_s, am_push_n, am_push_s, am_cs_0, am_cs_i, am_cs_l, am_cs_r, m_uI_K, m_uI_N, m_uI_R, m_uI_L, m_uI_I, m_uL_K, m_uL_N, m_uL_R, m_uL_I, m_uL_L, m_uR_K, m_uR_N, m_uR_I, m_uR_L, m_uR_R, true_and, and_true, true_implies, false_implies, not_true_eq_false, not_false_eq_true, if_true, if_false, false_and, and_false]
  by_cases hv : 0 ≤ v.toInt ∧ v.toInt < dN D
  · first | rw [br_p (hv)] | rw [br_r (hv)] | rw [br_s (hv)]
    by_cases ht : 0 ≤ t.toInt ∧ t.toInt < 48
    · first | rw [br_p (ht)] | rw [br_r (ht)] | rw [br_s (ht)]
      by_cases hc : isCl D x y
      · obtain ⟨c1, c2, -⟩ := cl_of hD hc
        rw [if_pos hc]
        have hne : ¬ nI (plI x y) = -1 := nI_m1 (by omega)
        first | rw [br_n (hne)] | rw [br_q (hne)] | rw [br_u (hne)]
        obtain ⟨s, s1, s2, s3⟩ := sh_of (by omega) hv
        have et : t = nI t.toInt.toNat := i32_of (by omega) (by omega)
        obtain ⟨T, hT⟩ : ∃ T, T = t.toInt.toNat := ⟨_, rfl⟩
        have hT48 : T < 48 := by omega
        rw [s3, ← hT] at hY
        rw [← hT] at et
        rw [s2, et]
        have hg := isSh_z (z := z) (s := s) hz (by omega)
        have hsh := lsh hL hz (s := s) (by omega)
        obtain ⟨-, hSy, -⟩ := x_ship h s1
        have h48 := dY_len hD s
        obtain ⟨c, hP⟩ := h.2.1
        have eH := fun Q => c_x_hasSaid (d + 1) (nI T) M Q hL (z + 25 + 7 * s) (dY D s).length hg hSy.1 h48
        have eT := fun Q => c_x_tot (d + 1) z c D M Q hL hz hP hD.1
        have hsr := hD.1.2.2.2.2.1 s
        have hall := hD.1.2.2.2.1 s
        simp +decide (disch := omega) only [qX10_add_0, qX10_add_1, lx hL, lz hL hz, lw_ hL hg, hr, hsh, eH, eT, hin, ni_in_t, ni_tn, am_w1_i, am_w1_r, am_w1_x, am_w1_l, am_w1_w, va_rf_s, am_push_n, am_push_s, am_cs_0, am_cs_i, am_cs_l, am_cs_r, m_uI_K, m_uI_N, m_uI_R, m_uI_L, m_uI_I, m_uL_K, m_uL_N, m_uL_R, m_uL_I, m_uL_L, m_uR_K, m_uR_N, m_uR_I, m_uR_L, m_uR_R, true_and, and_true, true_implies, false_implies, not_true_eq_false, not_false_eq_true, if_true, if_false, false_and, and_false]
        by_cases hs : ∃ u, u ∈ dY D s ∧ u.1 = T
        · rw [if_pos ((hasF_Y hSy (by omega)).mpr hs)]
          simp +decide only [am_w1_i, am_w1_r, am_w1_x, am_w1_l, am_w1_w, va_rf_s, am_push_n, am_push_s, am_cs_0, am_cs_i, am_cs_l, am_cs_r, m_uI_K, m_uI_N, m_uI_R, m_uI_L, m_uI_I, m_uL_K, m_uL_N, m_uL_R, m_uL_I, m_uL_L, m_uR_K, m_uR_N, m_uR_I, m_uR_L, m_uR_R, true_and, and_true, true_implies, false_implies, not_true_eq_false, not_false_eq_true, if_true, if_false, false_and, and_false]
          refine hN (fun q => ?_)
          obtain ⟨u, u1, u2⟩ := hs
          have := q.2.2.2.1 u (by rw [s3]; exact u1)
          omega
        · rw [if_neg (fun q => hs ((hasF_Y hSy (by omega)).mp q))]
          simp +decide only [am_w1_i, am_w1_r, am_w1_x, am_w1_l, am_w1_w, va_rf_s, am_push_n, am_push_s, am_cs_0, am_cs_i, am_cs_l, am_cs_r, m_uI_K, m_uI_N, m_uI_R, m_uI_L, m_uI_I, m_uL_K, m_uL_N, m_uL_R, m_uL_I, m_uL_L, m_uR_K, m_uR_N, m_uR_I, m_uR_L, m_uR_R, true_and, and_true, true_implies, false_implies, not_true_eq_false, not_false_eq_true, if_true, if_false, false_and, and_false]
          have hno : ∀ u, u ∈ dY D s → ¬ u.1 = T := fun u hu q => hs ⟨u, hu, q⟩
          by_cases hn : nI (dTot D) < 96
          · first | rw [br_p (hn)] | rw [br_r (hn)] | rw [br_s (hn)]
            rw [show (96 : Int32) = nI 96 from rfl, ni_lt (by omega) (by omega)] at hn
            have hall' : ∀ u, u ∈ inY (dY D s) (T, plI x y, w) → u.1 < 48 := fun u hu => by
              rcases inY_mem.mp hu with rfl | q
              · exact hT48
              · exact (hall u q).1
            have hl48 := len_48 (inY_srt (y0 := (T, plI x y, w)) hsr hno) hall'
            rw [inY_len] at hl48
            refine c_x_insert (d + 1) (z + 25 + 7 * s) (dY D s) (T, plI x y, w) M _ hL hg hSy (by omega) hT48 c2 hsr hno (fun M1 g1 y1 => ?_)
            have L1 := gF_LayN g1 hL
            have r1 : mR M1 0 2 = some z := by rw [g1.2.2.1 _ _ (fun w => w)]; exact hr
            have n1 : mI M1 z 3 = nI (dN D) := by rw [g1.1 _ _ (by unfold sIn; omega)]; exact (x_n h).1
            simp +decide (disch := omega) only [qX10_add_0, qX10_add_1, lx L1, am_w1_i, am_w1_r, am_w1_x, am_w1_l, am_w1_w, va_rf_s, am_push_n, am_push_s, am_cs_0, am_cs_i, am_cs_l, am_cs_r, m_uI_K, m_uI_N, m_uI_R, m_uI_L, m_uI_I, m_uL_K, m_uL_N, m_uL_R, m_uL_I, m_uL_L, m_uR_K, m_uR_N, m_uR_I, m_uR_L, m_uR_R, true_and, and_true, true_implies, false_implies, not_true_eq_false, not_false_eq_true, if_true, if_false, false_and, and_false]
            refine c_x_forget d s (dN D) z M1 _ L1 hz (by omega) r1 n1 n8 (fun M2 g2 k4 k5 k6 k13 => ?_)
            obtain ⟨gc, X2⟩ := XR_y hD h s1 g1 y1 g2 k4 k5 k6 k13
            have h0 := hY ⟨hv, ht, hc, fun u hu => by rw [s3] at hu; rw [← hT]; exact hno u hu, hn⟩ M2 gc X2
            simp +decide (disch := omega) only [qX10_add_0, qX10_add_1, am_w1_i, am_w1_r, am_w1_x, am_w1_l, am_w1_w, va_rf_s, am_push_n, am_push_s, am_cs_0, am_cs_i, am_cs_l, am_cs_r, m_uI_K, m_uI_N, m_uI_R, m_uI_L, m_uI_I, m_uL_K, m_uL_N, m_uL_R, m_uL_I, m_uL_L, m_uR_K, m_uR_N, m_uR_I, m_uR_L, m_uR_R, true_and, and_true, true_implies, false_implies, not_true_eq_false, not_false_eq_true, if_true, if_false, false_and, and_false]
            exact h0
          · first | rw [br_n (hn)] | rw [br_q (hn)] | rw [br_u (hn)]
            rw [show (96 : Int32) = nI 96 from rfl, ni_lt (by omega) (by omega)] at hn
            exact hN (fun q => hn q.2.2.2.2)
      · rw [if_neg hc]
        simp +decide only [am_w1_i, am_w1_r, am_w1_x, am_w1_l, am_w1_w, va_rf_s, am_push_n, am_push_s, am_cs_0, am_cs_i, am_cs_l, am_cs_r, m_uI_K, m_uI_N, m_uI_R, m_uI_L, m_uI_I, m_uL_K, m_uL_N, m_uL_R, m_uL_I, m_uL_L, m_uR_K, m_uR_N, m_uR_I, m_uR_L, m_uR_R, true_and, and_true, true_implies, false_implies, not_true_eq_false, not_false_eq_true, if_true, if_false, false_and, and_false]
        exact hN (fun q => hc q.2.2.1)
    · first | rw [br_n (ht)] | rw [br_q (ht)] | rw [br_u (ht)]
      exact hN (fun q => ht q.2.1)
  · first | rw [br_n (hv)] | rw [br_q (hv)] | rw [br_u (hv)]
    exact hN (fun q => hv q.1)
theorem b01_c (w : Bool) : b01 w = 0 ∨ b01 w = 1 := by cases w <;> decide
theorem said_no {M : am_M} {b s T : Nat} {D : Dat} (hD : dOK D) (h : MdM M b D) (hs : s < 8) (hT : T < 48) : mI M 292 (384 * b + 48 * s + T) = -1 ↔ ∀ u, u ∈ dY D s → ¬ u.1 = T := by
  rcases (h.2.2.2.2.1.2 s hs).2.2 T hT with ⟨y, q1, q2, q3, -⟩ | ⟨q1, q2⟩
  · have hv := (hD.1.2.2.2.1 s y q1).2
    have := (cel_lt hD.1.1.1 hD.1.1.2 hv).2.1
    exact ⟨fun w => absurd (q3.symm.trans w) (nI_m1 (by omega)), fun w => absurd q2 (w y q1)⟩
  · exact ⟨fun _ => q1, fun _ => q2⟩
theorem tot_in {D : Dat} {s : Nat} {y0 : Sy} (hD : dOK D) (hs : s < dN D) : dTot (addY D s (inY (dY D s) y0)) = dTot D + 1 := by
  have hyl : s < (dYs D).length := by rw [hD.1.2.2.1.2.1]; first | exact hs | exact s1
  have hYs := dY_set (D := D) (s := s) (Y := inY (dY D s) y0) hyl
  have := sumF_one (f := fun i => (dY D i).length) (g := fun i => (dY (addY D s (inY (dY D s) y0)) i).length) (s := s) (by rw [hYs, if_pos rfl, inY_len]) (fun i hi => by rw [hYs, if_neg hi]) (dSh D).length
  rw [if_pos hs] at this
  exact this
theorem m_addC {M : am_M} {b : Nat} {D : Dat} (hD : dOK D) (hL : Lay M) (h : MdM M b D) (d : Nat) (v t x y : Int32) (w : Bool) (Q : Option Value → am_M → Prop)
    (hY : okAd D v t x y → ∀ M', gF (fun a j => (a = 291 ∧ j = b) ∨ a = 292 ∨ a = 293) nT M M' → MdM M' b (addY D v.toInt.toNat (inY (dY D v.toInt.toNat) (t.toInt.toNat, plI x y, w))) → Q (some (.int (nI (bef (dY D v.toInt.toNat) t.toInt.toNat).length))) M') (hN : ¬ okAd D v t x y → Q (some (.int (-1))) (rfM M 2)) : am_E am_P0 (d + 2) 294 [.ref 277, .int v, .int t, .int x, .int y, .int (b01 w)] M Q := by
  have hb := h.1.1
  have hb2 := h.1.2
  have n8 := dN_8 hD
  have t96 : dTot D ≤ 96 := hD.1.2.2.2.2.2.1
  have s1' : mI M 291 b = nI (dTot D) := h.2.2.2.2.1.1
  have eS := fun v Q => m_isShip hD hL h d v Q
  have eC := fun x y Q => m_isCell hD hL h d x y Q
  have eH := fun x Q => c_m_isHour d x M Q
  have eR : ∀ Q, am_E am_P0 (d + 1) 208 [.ref 277, .int 2] M Q ↔ Q (some (.int (-1))) (rfM M 2) := fun Q => c_m_refuses (d + 1) 2 (by omega) M Q hL
  rw [eX11_add_]
  simp +decide (disch := omega) only [qX11_add__0, qX11_add__1, lm hL, eS, eC, eH, eR, hb, s1', bI_0, ni_in_t, ni_tn, Classical.not_not, am_w1_i, am_w1_r, am_w1_x, am_w1_l, am_w1_w, va_rf_s, am_push_n, am_push_s, am_cs_0, am_cs_i, am_cs_l, am_cs_r, m_uI_K, m_uI_N, m_uI_R, m_uI_L, m_uI_I, m_uL_K, m_uL_N, m_uL_R, m_uL_I, m_uL_L, m_uR_K, m_uR_N, m_uR_I, m_uR_L, m_uR_R, true_and, and_true, true_implies, false_implies, not_true_eq_false, not_false_eq_true, if_true, if_false, false_and, and_false]
  by_cases hv : 0 ≤ v.toInt ∧ v.toInt < dN D
  · first | rw [br_p (hv)] | rw [br_r (hv)] | rw [br_s (hv)]
    by_cases ht : 0 ≤ t.toInt ∧ t.toInt < 48
    · first | rw [br_p (ht)] | rw [br_r (ht)] | rw [br_s (ht)]
      by_cases hc : (0 ≤ x.toInt ∧ x.toInt < dC D) ∧ (0 ≤ y.toInt ∧ y.toInt < dR D)
      · obtain ⟨c1, c2, -⟩ := cl_of hD hc
        first | rw [br_p (hc)] | rw [br_r (hc)] | rw [br_s (hc)]
        obtain ⟨s, s1, s2, s3⟩ := sh_of (by omega) hv
        have et : t = nI t.toInt.toNat := i32_of (by omega) (by omega)
        obtain ⟨T, hT⟩ : ∃ T, T = t.toInt.toNat := ⟨_, rfl⟩
        have hT48 : T < 48 := by omega
        rw [s3, ← hT] at hY
        rw [← hT] at et
        rw [s2, et]
        have eD := fun Q => c_m_said (d + 1) s T M Q hL b hb hb2 (by omega) hT48
        have hsd := said_no hD h (s := s) (T := T) (by omega) hT48
        have hsr := hD.1.2.2.2.2.1 s
        have hall := hD.1.2.2.2.1 s
        simp +decide (disch := omega) only [qX11_add__0, qX11_add__1, lm hL, eD, eR, hb, s1', ni_in_t, ni_tn, Classical.not_not, am_w1_i, am_w1_r, am_w1_x, am_w1_l, am_w1_w, va_rf_s, am_push_n, am_push_s, am_cs_0, am_cs_i, am_cs_l, am_cs_r, m_uI_K, m_uI_N, m_uI_R, m_uI_L, m_uI_I, m_uL_K, m_uL_N, m_uL_R, m_uL_I, m_uL_L, m_uR_K, m_uR_N, m_uR_I, m_uR_L, m_uR_R, true_and, and_true, true_implies, false_implies, not_true_eq_false, not_false_eq_true, if_true, if_false, false_and, and_false]
        by_cases hs : mI M 292 (384 * b + 48 * s + T) = -1
        · first | rw [br_p (hs)] | rw [br_r (hs)] | rw [br_s (hs)]
          have hno := hsd.mp hs
          by_cases hn : nI (dTot D) = 96
          · first | rw [br_p (hn)] | rw [br_r (hn)] | rw [br_s (hn)]
            rw [show (96 : Int32) = nI 96 from rfl, ni_eq (by omega) (by omega)] at hn
            exact hN (fun q => by have := q.2.2.2.2; omega)
          · first | rw [br_n (hn)] | rw [br_q (hn)] | rw [br_u (hn)]
            rw [show (96 : Int32) = nI 96 from rfl, ni_eq (by omega) (by omega)] at hn
            have eA := fun Q => m_atI hD hL h hc (d + 1) Q
            have eW := fun Q => c_m_says (d + 1) s T (nI (cel (dC D) (plI x y))) (b01 w) M Q hL b (dTot D) hb hb2 (by omega) hT48 s1' (b01_c w)
            obtain ⟨A, hA⟩ : ∃ A, A = uI (uI (uI M 292 (384 * b + 48 * s + T) (nI (cel (dC D) (plI x y)))) 293 (384 * b + 48 * s + T) (b01 w)) 291 b (nI (dTot D + 1)) := ⟨_, rfl⟩
            have gA : gF (fun a j => (a = 291 ∧ j = b) ∨ ((a = 292 ∨ a = 293) ∧ j = 384 * b + 48 * s + T)) nT M A := by rw [hA]; exact gF_trans (gF_i _ (by omega)) (gF_trans (gF_i _ (by omega)) (gF_i _ (by omega)))
            have LA := gF_LayN gA hL
            have hin2 : ∀ u, u ∈ inY (dY D s) (T, plI x y, w) → u.1 < 48 ∧ vld (dC D) (dR D) u.2.1 := fun u hu => by
              rcases inY_mem.mp hu with rfl | q
              · exact ⟨hT48, c1⟩
              · exact hall u q
            have hSy : SyM A b (dC D) (dR D) s (inY (dY D s) (T, plI x y, w)) := by
              refine ⟨inY_srt hsr hno, hin2, fun τ hτ => ?_⟩
              by_cases e : τ = T
              · subst e
                refine Or.inl ⟨_, inY_mem.mpr (Or.inl rfl), rfl, ?_, ?_⟩
                · rw [hA, m_uI_I, if_neg (by omega), m_uI_I, if_neg (by omega), m_uI_I, if_pos ⟨rfl, rfl⟩]
                · rw [hA, m_uI_I, if_neg (by omega), m_uI_I, if_pos ⟨rfl, rfl⟩]
              · rcases (h.2.2.2.2.1.2 s (by omega)).2.2 τ hτ with ⟨u, q1, q2, q3, q4⟩ | ⟨q1, q2⟩
                · exact Or.inl ⟨u, inY_mem.mpr (Or.inr q1), q2, by rw [gA.1 _ _ (by omega)]; exact q3, by rw [gA.1 _ _ (by omega)]; exact q4⟩
                · refine Or.inr ⟨fun u hu => ?_, by rw [gA.1 _ _ (by omega)]; exact q2⟩
                  rcases inY_mem.mp hu with rfl | q
                  · exact fun q => e q.symm
                  · exact q1 u q
            have hMA : MdM A b (addY D s (inY (dY D s) (T, plI x y, w))) := MdM_y hD s1 h gA (fun a j q => by omega) (by rw [tot_in hD s1, hA, m_uI_I, if_pos ⟨rfl, rfl⟩]) hSy
            have eN := fun Q => c_m_numberOf d s T A Q LA b hMA.1.1 hb2 (by omega) (by omega)
            have enn : nSaid (mSaid A b s) T = (bef (dY D s) T).length := by rw [nSaid_Y hSy hD.1.1.1 hD.1.1.2 T (by omega)]; exact bef_in (y0 := (T, plI x y, w)) hsr
            rw [enn] at eN
            have h0 := hY ⟨hv, ht, hc, fun u hu => by rw [s3] at hu; rw [← hT]; exact hno u hu, by omega⟩ A (gF_up gA (fun a j q => by omega) (fun _ _ q => q)) hMA
            simp +decide (disch := omega) only [qX11_add__0, qX11_add__1, lm hL, eA, eW, am_w1_i, am_w1_r, am_w1_x, am_w1_l, am_w1_w, va_rf_s, am_push_n, am_push_s, am_cs_0, am_cs_i, am_cs_l, am_cs_r, m_uI_K, m_uI_N, m_uI_R, m_uI_L, m_uI_I, m_uL_K, m_uL_N, m_uL_R, m_uL_I, m_uL_L, m_uR_K, m_uR_N, m_uR_I, m_uR_L, m_uR_R, true_and, and_true, true_implies, false_implies, not_true_eq_false, not_false_eq_true, if_true, if_false, false_and, and_false, ← hA, lm LA, eN]
            exact h0
        · first | rw [br_n (hs)] | rw [br_q (hs)] | rw [br_u (hs)]
          refine hN (fun q => hs (hsd.mpr (fun u hu => ?_)))
          have := q.2.2.2.1 u (by rw [s3]; exact hu)
          rw [← hT] at this
          exact this
      · first | rw [br_n (hc)] | rw [br_q (hc)] | rw [br_u (hc)]
        exact hN (fun q => hc q.2.2.1)
    · first | rw [br_n (ht)] | rw [br_q (ht)] | rw [br_u (ht)]
      exact hN (fun q => ht q.2.1)
  · first | rw [br_n (hv)] | rw [br_q (hv)] | rw [br_u (hv)]
    exact hN (fun q => hv q.1)
end
section
/-! add, drop: together -/
theorem TI_c {M M' : am_M} {z : Nat} (hz : z = 2 ∨ z = 83) (h : TI M) (g : gF (sCh z) nT M M') : TI M' := TI_k h (fun a j q => g.1 a j (fun w => by have := sCh_no hz w; unfold tIm at q; omega))
theorem MdM_c {M M' : am_M} {z b : Nat} {D : Dat} (hz : z = 2 ∨ z = 83) (h : MdM M b D) (g : gF (sCh z) nT M M') : MdM M' b D := MdM_g h g (fun a j q w => by have := sCh_no hz w; unfold tlM at q; omega)
theorem op_add (v t x y : Int32) (w : Bool) : OpI 141 294 [.int v, .int t, .int x, .int y, .int (b01 w)] isI := by
  intro M hI d hd
  obtain ⟨z, b, D, hD, hX, hM, hT⟩ := id hI
  have hz := hX.1.2.2.1
  obtain ⟨d', rfl⟩ : ∃ d', d = d' + 2 := ⟨d - 2, by omega⟩
  refine x_add hD hX d' v t x y w _ (fun hk M1 g1 X1 => ?_) (fun hk => ?_)
  · refine ⟨_, rfl, ⟨_, rfl⟩, X1.1.1, ?_⟩
    refine m_addC hD X1.1.1 (MdM_c hz hM g1) d' v t x y w _ (fun _ M2 g2 m2 => ⟨rfl, ?_⟩) (fun q => absurd hk q)
    obtain ⟨hv, ht, hc, hno, hn⟩ := hk
    obtain ⟨s, s1, s2, s3⟩ := sh_of (by have := dN_8 hD; omega) hv
    have hD' : dOK (addY D v.toInt.toNat (inY (dY D v.toInt.toNat) (t.toInt.toNat, plI x y, w))) := by
      rw [s3] at hno ⊢
      refine dOK_y hD s1 (inY_srt (hD.1.2.2.2.2.1 s) hno) (fun u hu => ?_) (by rw [tot_in hD s1]; omega)
      rcases inY_mem.mp hu with rfl | q
      · exact ⟨by have := ht.2; show t.toInt.toNat < 48; omega, (cl_of hD hc).1⟩
      · exact hD.1.2.2.2.1 s u q
    exact ⟨z, b, _, hD', XR_m hD' X1 g2 (fun a j q => by omega), m2, TI_k (TI_c hz hT g1) (fun a j q => g2.1 a j (fun w => by unfold tIm at q; omega))⟩
  · refine ⟨_, rfl, ⟨_, rfl⟩, hX.1.1, ?_⟩
    obtain ⟨X1, M1⟩ := rfX_X 2 hD hX hM
    exact m_addC hD X1.1.1 M1 d' v t x y w _ (fun q => absurd q hk) (fun _ => ⟨rfl, Inv_rf 2 hD hX hM hT⟩)
theorem x_drop {M : am_M} {z : Nat} {D : Dat} (hD : dOK D) (h : XR M z D) (d : Nat) (v i : Int32) (Q : Option Value → am_M → Prop)
    (hY : isSy D v i → ∀ M', gF (sCh z) nT M M' → XR M' z (addY D v.toInt.toNat ((dY D v.toInt.toNat).eraseIdx i.toInt.toNat)) → Q (some (.int (nI ((dY D v.toInt.toNat).eraseIdx i.toInt.toNat).length))) M') (hN : ¬ isSy D v i → Q (some (.int (-1))) (rfX M 2)) : am_E am_P0 (d + 2) 142 [.ref 0, .int v, .int i] M Q := by
  have hz := h.1.2.2.1
  have hL := h.1.1
  have hr := h.1.2.2.2.1
  have n8 := dN_8 hD
  have eS := fun v i Q => x_isSaying hD h d v i Q
  have hin : (2 : Int32).toInt.toNat = 2 := rfl
  rw [eX10_drop]
  simp +decide only [qX10_drop, lx hL, lz hL hz, hr, eS, hin, bI_0, Classical.not_not, am_w1_i, am_w1_r, am_w1_x, am_w1_l, am_w1_w, va_rf_s, am_push_n, am_push_s, am_cs_0, am_cs_i, am_cs_l, am_cs_r, m_uI_K, m_uI_N, m_uI_R, m_uI_L, m_uI_I, m_uL_K, m_uL_N, m_uL_R, m_uL_I, m_uL_L, m_uR_K, m_uR_N, m_uR_I, m_uR_L, m_uR_R, true_and, and_true, true_implies, false_implies, not_true_eq_false, not_false_eq_true, if_true, if_false, false_and, and_false]
  by_cases hk : isSy D v i
  · first | rw [br_p (hk)] | rw [br_r (hk)] | rw [br_s (hk)]
    obtain ⟨hv, hi⟩ := id hk
    obtain ⟨s, s1, s2, s3⟩ := sh_of (by omega) hv
    rw [s3] at hi hY
    obtain ⟨k, y, k1, k2, k3, k4, -⟩ := sy_of hD hi
    rw [k3] at hY
    rw [s2, k2]
    have hkl := (List.getElem?_eq_some_iff.mp k4).1
    have hg := isSh_z (z := z) (s := s) hz (by omega)
    have hsh := lsh hL hz (s := s) (by omega)
    obtain ⟨-, hSy, -⟩ := x_ship h s1
    simp +decide (disch := omega) only [qX10_drop, lx hL, lz hL hz, lw_ hL hg, hr, hsh, ni_in_t, ni_tn, am_w1_i, am_w1_r, am_w1_x, am_w1_l, am_w1_w, va_rf_s, am_push_n, am_push_s, am_cs_0, am_cs_i, am_cs_l, am_cs_r, m_uI_K, m_uI_N, m_uI_R, m_uI_L, m_uI_I, m_uL_K, m_uL_N, m_uL_R, m_uL_I, m_uL_L, m_uR_K, m_uR_N, m_uR_I, m_uR_L, m_uR_R, true_and, and_true, true_implies, false_implies, not_true_eq_false, not_false_eq_true, if_true, if_false, false_and, and_false]
    refine c_x_remove (d + 1) (z + 25 + 7 * s) k (dY D s) M _ hL hg hSy hkl (fun M1 g1 y1 => ?_)
    have L1 := gF_LayN g1 hL
    have r1 : mR M1 0 2 = some z := by rw [g1.2.2.1 _ _ (fun w => w)]; exact hr
    have n1 : mI M1 z 3 = nI (dN D) := by rw [g1.1 _ _ (by unfold sIn; omega)]; exact (x_n h).1
    simp +decide (disch := omega) only [qX10_drop, lx L1, am_w1_i, am_w1_r, am_w1_x, am_w1_l, am_w1_w, va_rf_s, am_push_n, am_push_s, am_cs_0, am_cs_i, am_cs_l, am_cs_r, m_uI_K, m_uI_N, m_uI_R, m_uI_L, m_uI_I, m_uL_K, m_uL_N, m_uL_R, m_uL_I, m_uL_L, m_uR_K, m_uR_N, m_uR_I, m_uR_L, m_uR_R, true_and, and_true, true_implies, false_implies, not_true_eq_false, not_false_eq_true, if_true, if_false, false_and, and_false]
    refine c_x_forget d s (dN D) z M1 _ L1 hz (by omega) r1 n1 n8 (fun M2 g2 k4 k5 k6 k13 => ?_)
    obtain ⟨gc, X2⟩ := XR_y hD h s1 g1 y1 g2 k4 k5 k6 k13
    have h0 := hY hk M2 gc X2
    have L2 := X2.1.1
    have r2 := X2.1.2.2.2.1
    have hw_ := lw_ L2 hg
    have hsh2 := lsh L2 hz (s := s) (by omega)
    have e5 : mI M2 (z + 25 + 7 * s) 5 = nI ((dY D s).eraseIdx k).length := by rw [g2.1 _ _ (by unfold sFg; omega)]; exact y1.1
    simp +decide (disch := omega) only [qX10_drop, lx L2, lz L2 hz, r2, hsh2, hw_, e5, ni_in_t, ni_tn, am_w1_i, am_w1_r, am_w1_x, am_w1_l, am_w1_w, va_rf_s, am_push_n, am_push_s, am_cs_0, am_cs_i, am_cs_l, am_cs_r, m_uI_K, m_uI_N, m_uI_R, m_uI_L, m_uI_I, m_uL_K, m_uL_N, m_uL_R, m_uL_I, m_uL_L, m_uR_K, m_uR_N, m_uR_I, m_uR_L, m_uR_R, true_and, and_true, true_implies, false_implies, not_true_eq_false, not_false_eq_true, if_true, if_false, false_and, and_false]
    exact h0
  · first | rw [br_n (hk)] | rw [br_q (hk)] | rw [br_u (hk)]
    exact hN hk
theorem er_mem {Y : List Sy} {k : Nat} {y u : Sy} (hs : srtY Y) (hk : Y[k]? = some y) : u ∈ Y.eraseIdx k ↔ u ∈ Y ∧ ¬ u.1 = y.1 := by
  rw [List.mem_eraseIdx_iff_getElem?]
  constructor
  · rintro ⟨i, h1, h2⟩
    refine ⟨List.mem_of_getElem? h2, fun q => ?_⟩
    rcases Nat.lt_or_gt_of_ne h1 with c | c
    · have := srtY_lt hs h2 hk c; omega
    · have := srtY_lt hs hk h2 c; omega
  · rintro ⟨h1, h2⟩
    obtain ⟨i, hi⟩ := List.mem_iff_getElem?.mp h1
    exact ⟨i, fun q => by subst q; cases hk.symm.trans hi; exact h2 rfl, hi⟩
theorem tot_er {D : Dat} {s k : Nat} (hD : dOK D) (hs : s < dN D) (hk : k < (dY D s).length) : dTot D = dTot (addY D s ((dY D s).eraseIdx k)) + 1 := by
  have hyl : s < (dYs D).length := by rw [hD.1.2.2.1.2.1]; first | exact hs | exact s1
  have hYs := dY_set (D := D) (s := s) (Y := (dY D s).eraseIdx k) hyl
  have := sumF_one (g := fun i => (dY D i).length) (f := fun i => (dY (addY D s ((dY D s).eraseIdx k)) i).length) (s := s) (by rw [hYs, if_pos rfl, List.length_eraseIdx_of_lt hk]; omega) (fun i hi => by rw [hYs, if_neg hi]) (dSh D).length
  rw [if_pos hs] at this
  exact this
theorem m_drop {M : am_M} {b : Nat} {D : Dat} (hD : dOK D) (hL : Lay M) (h : MdM M b D) (d : Nat) (v i : Int32) (Q : Option Value → am_M → Prop)
    (hY : isSy D v i → ∀ M', gF (fun a j => (a = 291 ∧ j = b) ∨ a = 292 ∨ a = 293) nT M M' → MdM M' b (addY D v.toInt.toNat ((dY D v.toInt.toNat).eraseIdx i.toInt.toNat)) → dOK (addY D v.toInt.toNat ((dY D v.toInt.toNat).eraseIdx i.toInt.toNat)) → Q (some (.int (nI ((dY D v.toInt.toNat).eraseIdx i.toInt.toNat).length))) M') (hN : ¬ isSy D v i → Q (some (.int (-1))) (rfM M 2)) : am_E am_P0 (d + 2) 295 [.ref 277, .int v, .int i] M Q := by
  have hb := h.1.1
  have hb2 := h.1.2
  have n8 := dN_8 hD
  have t96 : dTot D ≤ 96 := hD.1.2.2.2.2.2.1
  have s1' : mI M 291 b = nI (dTot D) := h.2.2.2.2.1.1
  have eS := fun v Q => m_isShip hD hL h d v Q
  have eR : ∀ Q, am_E am_P0 (d + 1) 208 [.ref 277, .int 2] M Q ↔ Q (some (.int (-1))) (rfM M 2) := fun Q => c_m_refuses (d + 1) 2 (by omega) M Q hL
  rw [eX11_drop]
  simp +decide (disch := omega) only [qX11_drop_0, qX11_drop_1, lm hL, eS, eR, bI_0, Classical.not_not, am_w1_i, am_w1_r, am_w1_x, am_w1_l, am_w1_w, va_rf_s, am_push_n, am_push_s, am_cs_0, am_cs_i, am_cs_l, am_cs_r, m_uI_K, m_uI_N, m_uI_R, m_uI_L, m_uI_I, m_uL_K, m_uL_N, m_uL_R, m_uL_I, m_uL_L, m_uR_K, m_uR_N, m_uR_I, m_uR_L, m_uR_R, true_and, and_true, true_implies, false_implies, not_true_eq_false, not_false_eq_true, if_true, if_false, false_and, and_false]
  by_cases hv : 0 ≤ v.toInt ∧ v.toInt < dN D
  · first | rw [br_p (hv)] | rw [br_r (hv)] | rw [br_s (hv)]
    obtain ⟨s, s1, s2, s3⟩ := sh_of (by omega) hv
    have eH := fun i Q => m_hourOf hD hL h (s := s) (by omega) d i Q
    rw [s2]
    simp +decide (disch := omega) only [qX11_drop_0, qX11_drop_1, lm hL, eH, am_w1_i, am_w1_r, am_w1_x, am_w1_l, am_w1_w, va_rf_s, am_push_n, am_push_s, am_cs_0, am_cs_i, am_cs_l, am_cs_r, m_uI_K, m_uI_N, m_uI_R, m_uI_L, m_uI_I, m_uL_K, m_uL_N, m_uL_R, m_uL_I, m_uL_L, m_uR_K, m_uR_N, m_uR_I, m_uR_L, m_uR_R, true_and, and_true, true_implies, false_implies, not_true_eq_false, not_false_eq_true, if_true, if_false, false_and, and_false]
    by_cases hi : 0 ≤ i.toInt ∧ i.toInt < (dY D s).length
    · obtain ⟨k, y, k1, k2, k3, k4, y48, yv, y256, ym⟩ := sy_of hD hi
      have hkl := (List.getElem?_eq_some_iff.mp k4).1
      rw [s3, k3] at hY
      rw [hrI_t k2 (by omega) k4]
      have hne : ¬ nI y.1 = -1 := nI_m1 (by omega)
      first | rw [br_n (hne)] | rw [br_q (hne)] | rw [br_u (hne)]
      have hsr := hD.1.2.2.2.2.1 s
      have hall := hD.1.2.2.2.1 s
      have tot := tot_er (k := k) hD s1 hkl
      obtain ⟨J, hJ⟩ : ∃ J, J = 384 * b + 48 * s + y.1 := ⟨_, rfl⟩
      have eJ : (384 : Int32) * nI b + 48 * nI s + nI y.1 = nI J := by
        rw [show (384 : Int32) = nI 384 from rfl, show (48 : Int32) = nI 48 from rfl, ni_mul, ni_mul, ni_add, ni_add, hJ]
      have em : nI (dTot D) - 1 = nI (dTot D - 1) := by rw [show (1 : Int32) = nI 1 from rfl, ni_sub (by omega)]
      obtain ⟨A, hA⟩ : ∃ A, A = uI (uI M 292 J (-1)) 291 b (nI (dTot D - 1)) := ⟨_, rfl⟩
      have gA : gF (fun a j => (a = 291 ∧ j = b) ∨ (a = 292 ∧ j = J)) nT M A := by rw [hA]; exact gF_trans (gF_i _ (by omega)) (gF_i _ (by omega))
      have LA := gF_LayN gA hL
      have hSy : SyM A b (dC D) (dR D) s ((dY D s).eraseIdx k) := by
        refine ⟨erY_srt hsr, fun u hu => hall u ((er_mem hsr k4).mp hu).1, fun τ hτ => ?_⟩
        by_cases e : τ = y.1
        · refine Or.inr ⟨fun u hu => by rw [e]; exact ((er_mem hsr k4).mp hu).2, ?_⟩
          rw [hA, m_uI_I, if_neg (by omega), m_uI_I, if_pos ⟨rfl, by rw [hJ, e]⟩]
        · rcases (h.2.2.2.2.1.2 s (by omega)).2.2 τ hτ with ⟨u, q1, q2, q3, q4⟩ | ⟨q1, q2⟩
          · exact Or.inl ⟨u, (er_mem hsr k4).mpr ⟨q1, by rw [q2]; exact e⟩, q2, by rw [gA.1 _ _ (by omega)]; exact q3, by rw [gA.1 _ _ (by omega)]; exact q4⟩
          · exact Or.inr ⟨fun u hu => q1 u ((er_mem hsr k4).mp hu).1, by rw [gA.1 _ _ (by omega)]; exact q2⟩
      have hMA : MdM A b (addY D s ((dY D s).eraseIdx k)) := MdM_y hD s1 h gA (fun a j q => by omega) (by rw [hA, m_uI_I, if_pos ⟨rfl, rfl⟩, tot]; rfl) hSy
      have hD' : dOK (addY D s ((dY D s).eraseIdx k)) := dOK_y hD s1 (erY_srt hsr) (fun u hu => hall u ((er_mem hsr k4).mp hu).1) (by omega)
      have eN := fun Q => m_sayN hD' LA hMA (s := s) (by omega) d Q
      have hyl : s < (dYs D).length := by rw [hD.1.2.2.1.2.1]; first | exact hs | exact s1
      rw [dY_set hyl, if_pos rfl] at eN
      have h0 := hY ⟨hv, by rw [s3]; exact hi⟩ A (gF_up gA (fun a j q => by omega) (fun _ _ q => q)) hMA hD'
      simp +decide (disch := omega) only [qX11_drop_0, qX11_drop_1, lm hL, hb, s1', eJ, em, ni_in_t, ni_tn, am_w1_i, am_w1_r, am_w1_x, am_w1_l, am_w1_w, va_rf_s, am_push_n, am_push_s, am_cs_0, am_cs_i, am_cs_l, am_cs_r, m_uI_K, m_uI_N, m_uI_R, m_uI_L, m_uI_I, m_uL_K, m_uL_N, m_uL_R, m_uL_I, m_uL_L, m_uR_K, m_uR_N, m_uR_I, m_uR_L, m_uR_R, true_and, and_true, true_implies, false_implies, not_true_eq_false, not_false_eq_true, if_true, if_false, false_and, and_false, ← hA, lm LA, eN]
      exact h0
    · rw [hrI_f hi]
      simp +decide only [qX11_drop_0, qX11_drop_1, eR, am_w1_i, am_w1_r, am_w1_x, am_w1_l, am_w1_w, va_rf_s, am_push_n, am_push_s, am_cs_0, am_cs_i, am_cs_l, am_cs_r, m_uI_K, m_uI_N, m_uI_R, m_uI_L, m_uI_I, m_uL_K, m_uL_N, m_uL_R, m_uL_I, m_uL_L, m_uR_K, m_uR_N, m_uR_I, m_uR_L, m_uR_R, true_and, and_true, true_implies, false_implies, not_true_eq_false, not_false_eq_true, if_true, if_false, false_and, and_false]
      exact hN (fun q => hi (by have := q.2; rw [s3] at this; exact this))
  · first | rw [br_n (hv)] | rw [br_q (hv)] | rw [br_u (hv)]
    exact hN (fun q => hv q.1)
theorem op_drop (v i : Int32) : OpI 142 295 [.int v, .int i] isI := by
  intro M hI d hd
  obtain ⟨z, b, D, hD, hX, hM, hT⟩ := id hI
  have hz := hX.1.2.2.1
  obtain ⟨d', rfl⟩ : ∃ d', d = d' + 2 := ⟨d - 2, by omega⟩
  refine x_drop hD hX d' v i _ (fun hk M1 g1 X1 => ?_) (fun hk => ?_)
  · refine ⟨_, rfl, ⟨_, rfl⟩, X1.1.1, ?_⟩
    refine m_drop hD X1.1.1 (MdM_c hz hM g1) d' v i _ (fun _ M2 g2 m2 hD' => ⟨rfl, ?_⟩) (fun q => absurd hk q)
    exact ⟨z, b, _, hD', XR_m hD' X1 g2 (fun a j q => by omega), m2, TI_k (TI_c hz hT g1) (fun a j q => g2.1 a j (fun w => by unfold tIm at q; omega))⟩
  · refine ⟨_, rfl, ⟨_, rfl⟩, hX.1.1, ?_⟩
    obtain ⟨X1, M1⟩ := rfX_X 2 hD hX hM
    exact m_drop hD X1.1.1 M1 d' v i _ (fun q => absurd q hk) (fun _ => ⟨rfl, Inv_rf 2 hD hX hM hT⟩)
end
