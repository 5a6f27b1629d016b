/-! the model: changes, met -/
def bfK (K : Nat → Prop) (i : Nat) (x : Int32) : Prop := (x = -1 ∧ ∀ k, k < i → ¬ K k) ∨ ∃ l, l < i ∧ x = nI l ∧ K l ∧ ∀ k, l < k → k < i → ¬ K k
theorem l_m_chg (d b s t : Nat) (tl : Bool) (D : Dat) (M : am_M) (Q : Option Value → am_M → Prop) (hD : dOK D) (hL : Lay M) (h : MdM M b D) (hs : s < dN D) (ht : t < 48) (hK : KpM (dWt D s) (dV D s) (dSn D s) (dBs D s) (dY D s) M) (hQ : Q (some (.int (tI (chD D s (!tl) t)))) M) :
    ∀ (m i : Nat), i + m = (dY D s).length → ∀ x, bfK (kpP D s) i x → (∀ k y, k < i → kpP D s k → (dY D s)[k]? = some y → y.1 < t) → am_P am_P0 (d + 1) (am_look tX11_changes) 6 [.ref 277, .int (nI s), .int (nI t), .int (b01 tl), .int x, .int (nI i)] [] M Q := by
  have n8 := dN_8 hD
  have h48 := dY_len hD s
  have hsr := hD.1.2.2.2.2.1 s
  intro m
  induction m with
  | zero =>
    intro i hi x hx hb
    have hle : nI (dY D s).length ≤ nI i := (ni_le (by omega) (by omega)).mpr (by omega)
    rw [tI_f (fun q => by
      obtain ⟨i', j', y, y', q1, q2, q3, q4, q5, q6, q7, q8, q9, q10⟩ := q
      have := hb j' y' (by omega) q4 q7
      omega)] at hQ
    rw [hX11_changes_6]
    simp +decide only [qX11_changes_0, qX11_changes_1, lm hL, hK.1.1.1, am_w1_i, am_w1_r, am_w1_x, am_w1_l, am_w1_w, va_rf_s, am_push_n, am_push_s, am_cs_0, am_cs_i, am_cs_l, am_cs_r, m_uI_K, m_uI_N, m_uI_R, m_uI_L, m_uI_I, m_uL_K, m_uL_N, m_uL_R, m_uL_I, m_uL_L, m_uR_K, m_uR_N, m_uR_I, m_uR_L, m_uR_R, true_and, and_true, true_implies, false_implies, not_true_eq_false, not_false_eq_true, if_true, if_false, false_and, and_false]
    first | rw [br_p (hle)] | rw [br_r (hle)] | rw [br_s (hle)]
    exact hQ
  | succ m ih =>
    intro i hi x hx hb
    have hlt : ¬ nI (dY D s).length ≤ nI i := by rw [ni_le (by omega) (by omega)]; omega
    obtain ⟨y, hy⟩ : ∃ y, (dY D s)[i]? = some y := ⟨(dY D s)[i]'(by omega), List.getElem?_eq_getElem (by omega)⟩
    have ym := List.mem_of_getElem? hy
    have y48 := (hD.1.2.2.2.1 s y ym).1
    have hk := hK.2.2.2.2 i (by omega)
    have hhr := hK.1.1.2 i y hy
    have eld := fun Q => (m_said hL h (s := s) (by omega) ym y48 d Q).2
    have hk' : mI M 324 i = tI (kpP D s i) := hk
    rw [hX11_changes_6]
    simp +decide (disch := omega) only [qX11_changes_0, qX11_changes_1, lm hL, hK.1.1.1, hk', hhr, eld, tI_01, tI_0, ni_in_t, ni_tn, ni_add1, Classical.not_not, am_w1_i, am_w1_r, am_w1_x, am_w1_l, am_w1_w, va_rf_s, am_push_n, am_push_s, am_cs_0, am_cs_i, am_cs_l, am_cs_r, m_uI_K, m_uI_N, m_uI_R, m_uI_L, m_uI_I, m_uL_K, m_uL_N, m_uL_R, m_uL_I, m_uL_L, m_uR_K, m_uR_N, m_uR_I, m_uR_L, m_uR_R, true_and, and_true, true_implies, false_implies, not_true_eq_false, not_false_eq_true, if_true, if_false, false_and, and_false]
    first | rw [br_n (hlt)] | rw [br_q (hlt)] | rw [br_u (hlt)]
    by_cases ck : kpP D s i
    · first | rw [br_p (ck)] | rw [br_r (ck)] | rw [br_s (ck)]
      rw [ni_le (by omega) (by omega), ni_eq (by omega) (by omega), ni_le (by omega) (by omega)]
      by_cases c1 : t ≤ y.1
      · first | rw [br_p (c1)] | rw [br_r (c1)] | rw [br_s (c1)]
        by_cases c2 : y.1 = t
        · rw [tI_f (fun q => by
            obtain ⟨i', j', z, z', q1, q2, q3, q4, q5, q6, q7, q8, q9, q10⟩ := q
            by_cases a1 : i' < i
            · by_cases a2 : i < j'
              · exact q5 i a1 a2 ck
              · by_cases a3 : j' = i
                · subst a3; rw [hy] at q7; cases q7; omega
                · have := hb j' z' (by omega) q4 q7; omega
            · by_cases a3 : i' = i
              · subst a3; rw [hy] at q6; cases q6; omega
              · have := srtY_lt hsr hy q6 (by omega); omega)] at hQ
          first | rw [br_p (c2)] | rw [br_r (c2)] | rw [br_s (c2)]
          exact hQ
        · first | rw [br_n (c2)] | rw [br_q (c2)] | rw [br_u (c2)]
          have c3 : ¬ y.1 ≤ t := by omega
          first | rw [br_n (c3)] | rw [br_q (c3)] | rw [br_u (c3)]
          rcases hx with ⟨rfl, hx2⟩ | ⟨l, l1, rfl, l3, l4⟩
          · rw [tI_f (fun q => by
              obtain ⟨i', j', z, z', q1, q2, q3, q4, q5, q6, q7, q8, q9, q10⟩ := q
              by_cases a1 : i' < i
              · exact hx2 i' a1 q3
              · by_cases a3 : i' = i
                · subst a3; rw [hy] at q6; cases q6; omega
                · have := srtY_lt hsr hy q6 (by omega); omega)] at hQ
            simp +decide only [am_w1_i, am_w1_r, am_w1_x, am_w1_l, am_w1_w, va_rf_s, am_push_n, am_push_s, am_cs_0, am_cs_i, am_cs_l, am_cs_r, m_uI_K, m_uI_N, m_uI_R, m_uI_L, m_uI_I, m_uL_K, m_uL_N, m_uL_R, m_uL_I, m_uL_L, m_uR_K, m_uR_N, m_uR_I, m_uR_L, m_uR_R, true_and, and_true, true_implies, false_implies, not_true_eq_false, not_false_eq_true, if_true, if_false, false_and, and_false]
            exact hQ
          · have hne : ¬ nI l = -1 := nI_m1 (by omega)
            obtain ⟨yl, hyl⟩ : ∃ y, (dY D s)[l]? = some y := ⟨(dY D s)[l]'(by omega), List.getElem?_eq_getElem (by omega)⟩
            have ylm := List.mem_of_getElem? hyl
            have yl48 := (hD.1.2.2.2.1 s yl ylm).1
            have hhl := hK.1.1.2 l yl hyl
            have ell := fun Q => (m_said hL h (s := s) (by omega) ylm yl48 d Q).2
            have hyl' := hb l yl (by omega) l3 hyl
            have hch : chD D s (!tl) t ↔ (yl.2.2 = !tl ∧ ¬ y.2.2 = !tl) := by
              constructor
              · rintro ⟨i', j', z, z', q1, q2, q3, q4, q5, q6, q7, q8, q9, q10⟩
                have e1 : i' = l := by
                  rcases Nat.lt_trichotomy i' l with a | a | a
                  · exfalso
                    by_cases b1 : l < j'
                    · exact q5 l a b1 l3
                    · have b2 : z'.1 ≤ yl.1 := by
                        by_cases b3 : j' = l
                        · subst b3; rw [hyl] at q7; cases q7; exact Nat.le_refl _
                        · have := srtY_lt hsr q7 hyl (by omega); omega
                      omega
                  · exact a
                  · exfalso
                    by_cases b1 : i' < i
                    · exact l4 i' a b1 q3
                    · have b2 : y.1 ≤ z.1 := by
                        by_cases b3 : i' = i
                        · subst b3; rw [hy] at q6; cases q6; exact Nat.le_refl _
                        · have := srtY_lt hsr hy q6 (by omega); omega
                      omega
                have e2 : j' = i := by
                  rcases Nat.lt_trichotomy j' i with a | a | a
                  · exfalso
                    have := hb j' z' a q4 q7
                    omega
                  · exact a
                  · exact absurd ck (q5 i (by omega) a)
                subst e1 e2
                rw [hyl] at q6
                rw [hy] at q7
                cases q6
                cases q7
                exact q10
              · rintro ⟨a1, a2⟩
                exact ⟨l, i, yl, y, l1, by omega, l3, ck, fun k k1 k2 => l4 k k1 k2, hyl, hy, hyl', by omega, a1, a2⟩
            rw [tI_i hch] at hQ
            simp +decide (disch := omega) only [qX11_changes_0, qX11_changes_1, lm hL, hhl, ell, eld, hhr, b01_eq, ni_in_t, ni_tn, Classical.not_not, am_w1_i, am_w1_r, am_w1_x, am_w1_l, am_w1_w, va_rf_s, am_push_n, am_push_s, am_cs_0, am_cs_i, am_cs_l, am_cs_r, m_uI_K, m_uI_N, m_uI_R, m_uI_L, m_uI_I, m_uL_K, m_uL_N, m_uL_R, m_uL_I, m_uL_L, m_uR_K, m_uR_N, m_uR_I, m_uR_L, m_uR_R, true_and, and_true, true_implies, false_implies, not_true_eq_false, not_false_eq_true, if_true, if_false, false_and, and_false]
            first | rw [br_n (hne)] | rw [br_q (hne)] | rw [br_u (hne)]
            cases h1 : yl.2.2 <;> cases h2 : y.2.2 <;> cases h3 : tl <;> rw [h1, h2, h3] at hQ <;> simp +decide only [am_w1_i, am_w1_r, am_w1_x, am_w1_l, am_w1_w, va_rf_s, am_push_n, am_push_s, am_cs_0, am_cs_i, am_cs_l, am_cs_r, m_uI_K, m_uI_N, m_uI_R, m_uI_L, m_uI_I, m_uL_K, m_uL_N, m_uL_R, m_uL_I, m_uL_L, m_uR_K, m_uR_N, m_uR_I, m_uR_L, m_uR_R, true_and, and_true, true_implies, false_implies, not_true_eq_false, not_false_eq_true, if_true, if_false, false_and, and_false] <;> first | (rw [tI_t (by decide)] at hQ; exact hQ) | (rw [tI_f (by decide)] at hQ; exact hQ)
      · first | rw [br_n (c1)] | rw [br_q (c1)] | rw [br_u (c1)]
        have c2 : ¬ y.1 = t := by omega
        have c3 : y.1 ≤ t := by omega
        first | rw [br_n (c2)] | rw [br_q (c2)] | rw [br_u (c2)]
        first | rw [br_p (c3)] | rw [br_r (c3)] | rw [br_s (c3)]
        exact ih (i + 1) (by omega) (nI i) (Or.inr ⟨i, by omega, rfl, ck, fun k k1 k2 => by omega⟩) (fun k y' k1 k2 k3 => by
          by_cases e : k = i
          · subst e; rw [hy] at k3; cases k3; omega
          · exact hb k y' (by omega) k2 k3)
    · first | rw [br_n (ck)] | rw [br_q (ck)] | rw [br_u (ck)]
      refine ih (i + 1) (by omega) x ?_ (fun k y' k1 k2 k3 => by
        by_cases e : k = i
        · subst e; exact absurd k2 ck
        · exact hb k y' (by omega) k2 k3)
      rcases hx with ⟨rfl, hx2⟩ | ⟨l, l1, rfl, l3, l4⟩
      · exact Or.inl ⟨rfl, fun k hk => by
          by_cases e : k = i
          · subst e; exact ck
          · exact hx2 k (by omega)⟩
      · exact Or.inr ⟨l, by omega, rfl, l3, fun k k1 k2 => by
          by_cases e : k = i
          · subst e; exact ck
          · exact l4 k k1 (by omega)⟩
theorem m_changes {M : am_M} {b s t : Nat} {D : Dat} (hD : dOK D) (hL : Lay M) (h : MdM M b D) (hs : s < dN D) (ht : t < 48) (tl : Bool) (hK : KpM (dWt D s) (dV D s) (dSn D s) (dBs D s) (dY D s) M) (d : Nat) (Q : Option Value → am_M → Prop) (hQ : Q (some (.int (tI (chD D s (!tl) t)))) M) : am_E am_P0 (d + 1) 277 [.ref 277, .int (nI s), .int (nI t), .int (b01 tl)] M Q := by
  have h0 := l_m_chg d b s t tl D M Q hD hL h hs ht hK hQ (dY D s).length 0 (by omega) (-1) (Or.inl ⟨rfl, fun k hk => by omega⟩) (fun k y hk => by omega)
  rw [eX11_changes]
  simp +decide only [qX11_changes_0, qX11_changes_1, am_w1_i, am_w1_r, am_w1_x, am_w1_l, am_w1_w, va_rf_s, am_push_n, am_push_s, am_cs_0, am_cs_i, am_cs_l, am_cs_r, m_uI_K, m_uI_N, m_uI_R, m_uI_L, m_uI_I, m_uL_K, m_uL_N, m_uL_R, m_uL_I, m_uL_L, m_uR_K, m_uR_N, m_uR_I, m_uR_L, m_uR_R, true_and, and_true, true_implies, false_implies, not_true_eq_false, not_false_eq_true, if_true, if_false, false_and, and_false]
  exact h0
def s330 (a _j : Nat) : Prop := a = 330 ∨ a = 331
theorem LyM_3 {M M' : am_M} {C R : Nat} {w : Nat → Prop} {v : Nat} {snd : Nat → Bool → Prop} {B : List Fct} {Y : List Sy} (h : LyM M C R w v snd B Y) (hg : gF s330 nT M M') : LyM M' C R w v snd B Y := LyM_g h hg (fun a j q z => by unfold s330 at z; unfold sY sK sP sFG sF sG at q; omega)
theorem MdM_3 {M M' : am_M} {b : Nat} {D : Dat} (h : MdM M b D) (hg : gF s330 nT M M') : MdM M' b D := MdM_g h hg (fun a j q z => by unfold s330 at z; unfold tlM at q; omega)
/-- where the first may be while it changes -/
def FmP (M : am_M) (D : Dat) (s n : Nat) : Prop := ∀ t, t < n → mI M 331 t = tI (chD D s true t) ∧ ∀ c, c < dC D * dR D → mI M 330 (256 * t + c) = tI (chD D s true t ∧ dMy D s t (plc (dC D) c))
section
variable (d b s o : Nat) (D : Dat) (M0 : am_M) (Q : Option Value → am_M → Prop) (x3 : Int32)
theorem l_m_met2 (hD : dOK D) (hL0 : Lay M0) (h0' : MdM M0 b D) (hs : s < dN D) (hY0 : LyM M0 (dC D) (dR D) (dWt D s) (dV D s) (dSn D s) (dBs D s) (dY D s)) (t : Nat) (ht : t < 48) (v6 v7 v8 v9 : Value) (j6 : jk v6) (j7 : jk v7) (j8 : jk v8) (j9 : jk v9)
    (hN : ∀ M' v5, gF s330 nT M0 M' → jk v5 → FmP M' D s (t + 1) → am_P am_P0 (d + 2) (am_look tX11_met) 40 [.ref 277, .int (nI s), .int (nI o), .int x3, .int (nI (t + 1)), v5, v6, v7, v8, v9] [] M' Q) :
    ∀ (m c : Nat), c + m = dC D * dR D → ∀ (M : am_M), gF s330 nT M0 M → FmP M D s t → mI M 331 t = tI (chD D s true t) → (∀ k, k < c → mI M 330 (256 * t + k) = tI (chD D s true t ∧ dMy D s t (plc (dC D) k))) → am_P am_P0 (d + 2) (am_look tX11_met) 65 [.ref 277, .int (nI s), .int (nI o), .int x3, .int (nI t), .int (nI c), v6, v7, v8, v9] [] M Q := by
  have n8 := dN_8 hD
  have hCR : dC D * dR D ≤ 16 * 16 := Nat.mul_le_mul hD.1.1.1 hD.1.1.2
  have hC1 := dOK_1 hD hs
  intro m
  induction m with
  | zero =>
    intro c hc M hM hF h1 hb
    have hL := gF_LayN hM hL0
    have h := MdM_3 h0' hM
    have ec := fun Q => c_m_cells (d + 1) M Q hL b (dC D) (dR D) h.1.1 h.1.2 h.2.1.1 h.2.1.2
    have hle : nI (dC D * dR D) ≤ nI c := (ni_le (by omega) (by omega)).mpr (by omega)
    have h0 := hN M (.int (nI c)) hM (Or.inr ⟨_, rfl⟩) (fun t' ht' => by
      by_cases e : t' = t
      · subst e; exact ⟨h1, fun k hk => hb k (by omega)⟩
      · exact hF t' (by omega))
    rw [hX11_met_65]
    simp +decide only [qX11_met_0, qX11_met_1, qX11_met_2, qX11_met_3, lm hL, ec, ni_add1, jk_w j6, jk_w j7, jk_w j8, jk_w j9, am_w1_i, am_w1_r, am_w1_x, am_w1_l, am_w1_w, va_rf_s, am_push_n, am_push_s, am_cs_0, am_cs_i, am_cs_l, am_cs_r, m_uI_K, m_uI_N, m_uI_R, m_uI_L, m_uI_I, m_uL_K, m_uL_N, m_uL_R, m_uL_I, m_uL_L, m_uR_K, m_uR_N, m_uR_I, m_uR_L, m_uR_R, true_and, and_true, true_implies, false_implies, not_true_eq_false, not_false_eq_true, if_true, if_false, false_and, and_false] at h0 ⊢
    first | rw [br_p (hle)] | rw [br_r (hle)] | rw [br_s (hle)]
    exact h0
  | succ m ih =>
    intro c hc M hM hF h1 hb
    have hL := gF_LayN hM hL0
    have h := MdM_3 h0' hM
    have hY := LyM_3 hY0 hM
    have ec := fun Q => c_m_cells (d + 1) M Q hL b (dC D) (dR D) h.1.1 h.1.2 h.2.1.1 h.2.1.2
    have hlt : ¬ nI (dC D * dR D) ≤ nI c := by rw [ni_le (by omega) (by omega)]; omega
    have hcl : c < dC D * dR D := by omega
    have hp := plc_v hD.1.1.1 hC1.1 hcl
    have em := fun Q => m_mayBe hD hL h hs d Q hY hp.1 ht
    rw [hp.2] at em
    have e256 : (256 : Int32) * nI t + nI c = nI (256 * t + c) := by rw [show (256 : Int32) = nI 256 from rfl, ni_mul, ni_add]
    have put : ∀ p : Prop, (p ↔ (chD D s true t ∧ dMy D s t (plc (dC D) c))) → am_P am_P0 (d + 2) (am_look tX11_met) 65 [.ref 277, .int (nI s), .int (nI o), .int x3, .int (nI t), .int (nI (c + 1)), v6, v7, v8, v9] [] (uI M 330 (256 * t + c) (tI p)) Q := fun p hp2 => by
      have w1 : gF s330 nT M (uI M 330 (256 * t + c) (tI p)) := gF_i _ (Or.inl rfl)
      refine ih (c + 1) (by omega) _ (gF_trans hM w1) (fun t' ht' => ?_) ?_ (fun k hk => ?_)
      · obtain ⟨a1, a2⟩ := hF t' ht'
        exact ⟨by rw [m_uI_I, if_neg (by omega)]; exact a1, fun k hk => by rw [m_uI_I, if_neg (by omega)]; exact a2 k hk⟩
      · rw [m_uI_I, if_neg (by omega)]; exact h1
      · rw [m_uI_I]
        by_cases e : k = c
        · subst e; rw [if_pos ⟨rfl, rfl⟩, tI_i hp2]
        · rw [if_neg (by omega)]; exact hb k (by omega)
    rw [hX11_met_65]
    simp +decide (disch := omega) only [qX11_met_0, qX11_met_1, qX11_met_2, qX11_met_3, lm hL, ec, h1, em, e256, tI_01, tI_0, ni_in_t, ni_tn, ni_add1, jk_w j6, jk_w j7, jk_w j8, jk_w j9, am_w1_i, am_w1_r, am_w1_x, am_w1_l, am_w1_w, va_rf_s, am_push_n, am_push_s, am_cs_0, am_cs_i, am_cs_l, am_cs_r, m_uI_K, m_uI_N, m_uI_R, m_uI_L, m_uI_I, m_uL_K, m_uL_N, m_uL_R, m_uL_I, m_uL_L, m_uR_K, m_uR_N, m_uR_I, m_uR_L, m_uR_R, true_and, and_true, true_implies, false_implies, not_true_eq_false, not_false_eq_true, if_true, if_false, false_and, and_false]
    first | rw [br_n (hlt)] | rw [br_q (hlt)] | rw [br_u (hlt)]
    by_cases c1 : chD D s true t
    · first | rw [br_p (c1)] | rw [br_r (c1)] | rw [br_s (c1)]
      by_cases c2 : dMy D s t (plc (dC D) c)
      · first | rw [br_p (c2)] | rw [br_r (c2)] | rw [br_s (c2)]
        have h0 := put True ⟨fun _ => ⟨c1, c2⟩, fun _ => trivial⟩
        rw [tI_t trivial] at h0
        exact h0
      · first | rw [br_n (c2)] | rw [br_q (c2)] | rw [br_u (c2)]
        have h0 := put False ⟨fun q => q.elim, fun q => c2 q.2⟩
        rw [tI_f (fun q => q)] at h0
        exact h0
    · first | rw [br_n (c1)] | rw [br_q (c1)] | rw [br_u (c1)]
      have h0 := put False ⟨fun q => q.elim, fun q => c1 q.1⟩
      rw [tI_f (fun q => q)] at h0
      exact h0
theorem l_m_met1 (hD : dOK D) (hL0 : Lay M0) (h0' : MdM M0 b D) (hs : s < dN D) (hY0 : LyM M0 (dC D) (dR D) (dWt D s) (dV D s) (dSn D s) (dBs D s) (dY D s)) (v6 v7 v8 v9 : Value) (j6 : jk v6) (j7 : jk v7) (j8 : jk v8) (j9 : jk v9)
    (hN : ∀ M' v5, gF s330 nT M0 M' → jk v5 → FmP M' D s 48 → am_P am_P0 (d + 2) (am_look tX11_met) 127 [.ref 277, .int (nI s), .int (nI o), .int x3, .int 48, v5, v6, v7, v8, v9] [] M' Q) :
    ∀ (m t : Nat), t + m = 48 → ∀ (M : am_M) (v5 : Value), jk v5 → gF s330 nT M0 M → FmP M D s t → am_P am_P0 (d + 2) (am_look tX11_met) 40 [.ref 277, .int (nI s), .int (nI o), .int x3, .int (nI t), v5, v6, v7, v8, v9] [] M Q := by
  intro m
  induction m with
  | zero =>
    intro t ht M v5 hv5 hM hF
    have et : t = 48 := by omega
    subst et
    have h0 := hN M v5 hM hv5 hF
    rw [hX11_met_40]
    simp +decide only [qX11_met_0, qX11_met_1, qX11_met_2, qX11_met_3, show nI 48 = (48 : Int32) from rfl, jk_w hv5, jk_w j6, jk_w j7, jk_w j8, jk_w j9, am_w1_i, am_w1_r, am_w1_x, am_w1_l, am_w1_w, va_rf_s, am_push_n, am_push_s, am_cs_0, am_cs_i, am_cs_l, am_cs_r, m_uI_K, m_uI_N, m_uI_R, m_uI_L, m_uI_I, m_uL_K, m_uL_N, m_uL_R, m_uL_I, m_uL_L, m_uR_K, m_uR_N, m_uR_I, m_uR_L, m_uR_R, true_and, and_true, true_implies, false_implies, not_true_eq_false, not_false_eq_true, if_true, if_false, false_and, and_false] at h0 ⊢
    exact h0
  | succ m ih =>
    intro t ht M v5 hv5 hM hF
    have hL := gF_LayN hM hL0
    have h := MdM_3 h0' hM
    have hY := LyM_3 hY0 hM
    have hlt : ¬ (48 : Int32) ≤ nI t := by rw [show (48 : Int32) = nI 48 from rfl, ni_le (by omega) (by omega)]; omega
    rw [hX11_met_40]
    simp +decide (disch := omega) only [qX11_met_0, qX11_met_1, qX11_met_2, qX11_met_3, lm hL, jk_w hv5, jk_w j6, jk_w j7, jk_w j8, jk_w j9, am_w1_i, am_w1_r, am_w1_x, am_w1_l, am_w1_w, va_rf_s, am_push_n, am_push_s, am_cs_0, am_cs_i, am_cs_l, am_cs_r, m_uI_K, m_uI_N, m_uI_R, m_uI_L, m_uI_I, m_uL_K, m_uL_N, m_uL_R, m_uL_I, m_uL_L, m_uR_K, m_uR_N, m_uR_I, m_uR_L, m_uR_R, true_and, and_true, true_implies, false_implies, not_true_eq_false, not_false_eq_true, if_true, if_false, false_and, and_false]
    first | rw [br_n (hlt)] | rw [br_q (hlt)] | rw [br_u (hlt)]
    refine m_changes hD hL h hs (by omega) false hY.1 d _ ?_
    have w1 : gF s330 nT M (uI M 331 t (tI (chD D s true t))) := gF_i _ (Or.inr rfl)
    have h9 := l_m_met2 d b s o D M0 Q x3 hD hL0 h0' hs hY0 t (by omega) v6 v7 v8 v9 j6 j7 j8 j9 (fun M' v5' g' j5' F' => ih (t + 1) (by omega) M' v5' j5' g' F') (dC D * dR D) 0 (by omega) (uI M 331 t (tI (chD D s true t))) (gF_trans hM w1) (fun t' ht' => by
      obtain ⟨a1, a2⟩ := hF t' ht'
      exact ⟨by rw [m_uI_I, if_neg (by omega)]; exact a1, fun k hk => by rw [m_uI_I, if_neg (by omega)]; exact a2 k hk⟩) (by rw [m_uI_I, if_pos ⟨rfl, rfl⟩]) (fun k hk => by omega)
    rw [show (!false) = true from rfl]
    simp +decide (disch := omega) only [qX11_met_0, qX11_met_1, qX11_met_2, qX11_met_3, lm hL, tI_01, ni_in_t, ni_tn, jk_w j6, jk_w j7, jk_w j8, jk_w j9, am_w1_i, am_w1_r, am_w1_x, am_w1_l, am_w1_w, va_rf_s, am_push_n, am_push_s, am_cs_0, am_cs_i, am_cs_l, am_cs_r, m_uI_K, m_uI_N, m_uI_R, m_uI_L, m_uI_I, m_uL_K, m_uL_N, m_uL_R, m_uL_I, m_uL_L, m_uR_K, m_uR_N, m_uR_I, m_uR_L, m_uR_R, true_and, and_true, true_implies, false_implies, not_true_eq_false, not_false_eq_true, if_true, if_false, false_and, and_false]
    exact h9
end
