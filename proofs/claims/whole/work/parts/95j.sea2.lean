/-! the class: all statements of a text -/
section
variable {T : Nat → Nat} {n z : Nat}
theorem bR_inr {β : Type} {r : Rt} {k : Tok → Sum (Nat × Nat) β} {q : β} (h : bR r k = .inr q) : ∃ t, r = .inr t ∧ k t = .inr q := by
  cases r with
  | inl e => cases h
  | inr t => exact ⟨t, rfl, h⟩
theorem spSt_C {D : Dat} {t : Tok} {q : Tok × Dat} (h : spSt T n D t = .inr q) : dC q.2 = dC D ∧ dR q.2 = dR D := by
  unfold spSt at h
  split at h
  · unfold spDepth at h
    rw [spSum_r] at h
    cases hr : spRl T n true (decide (12 ≤ (dRd D).length)) t with
    | inl e => rw [hr] at h; cases h
    | inr p => rw [hr] at h; cases h; exact ⟨rfl, rfl⟩
  · split at h
    · unfold spCost at h
      rw [spSum_r] at h
      cases hr : spRl T n true (decide (12 ≤ (dRc D).length)) t with
      | inl e => rw [hr] at h; cases h
      | inr p => rw [hr] at h; cases h; exact ⟨rfl, rfl⟩
    · split at h
      · unfold spQuiet at h
        rw [spTest_r] at h
        cases hr : spRl T n false (decide (6 ≤ (dRq D).length)) t with
        | inl e => rw [hr] at h; cases h
        | inr p => rw [hr] at h; cases h; exact ⟨rfl, rfl⟩
      · split at h
        · unfold spShip at h
          split at h
          · cases h
          · obtain ⟨t1, -, h1⟩ := bR_inr h
            split at h1
            · cases h1
            · obtain ⟨t2, -, h2⟩ := bR_inr h1
              cases h2; exact ⟨rfl, rfl⟩
        · split at h
          · unfold spSay at h
            split at h
            · cases h
            · obtain ⟨t1, -, h1⟩ := bR_inr h
              obtain ⟨t2, -, h2⟩ := bR_inr h1
              split at h2
              · cases h2
              · obtain ⟨t3, -, h3⟩ := bR_inr h2
                cases h3; exact ⟨rfl, rfl⟩
          · split at h
            · unfold spBook at h
              split at h
              · cases h
              · obtain ⟨t1, -, h1⟩ := bR_inr h
                cases h1; exact ⟨rfl, rfl⟩
            · split at h
              · unfold spSeen at h
                split at h
                · cases h
                · obtain ⟨t1, -, h1⟩ := bR_inr h
                  cases h1; exact ⟨rfl, rfl⟩
              · split at h
                · unfold spLuck at h
                  obtain ⟨t1, -, h1⟩ := bR_inr h
                  cases h1; exact ⟨rfl, rfl⟩
                · cases h
theorem sgn_lt {t t' : Tok} (hG : tkG T n t) (h : signR T n 59 (.inr t) = .inr t') : tS t < tS t' := by
  have e : signR T n 59 (.inr t) = if isS t 59 = true then advR T n t else .inl (1, tS t) := rfl
  rw [e] at h
  by_cases c : isS t 59 = true
  · rw [if_pos c] at h
    exact AfR_lt hG (by have := isS_1 c; omega) (by rw [← h]; exact AfR_1 hG.1)
  · rw [if_neg c] at h; cases h
theorem GdX_r {M M' : am_M} {D : Dat} {c : Nat} {t t' : Tok} (hz : z = 2 ∨ z = 83) (hG : GdX T n z M D c t) (hg : gF sRd nT M M') (hR : RdX M' T n t') (hc : c ≤ tS t') : GdX T n z M' D c t' := by
  obtain ⟨hL, hp, hR', hP, hD, hc'⟩ := hG
  obtain ⟨P1, p1⟩ := PsX_p hz hD hp hP hg
  exact ⟨gF_LayN hg hL, p1, hR, P1, hD, hc⟩
/-- the sign behind a statement -/
def sgT (T : Nat → Nat) (n : Nat) : Rq → Rq
  | .inl e => .inl e
  | .inr q => bR (signR T n 59 (.inr q.1)) (fun t' => .inr (t', q.2))
/-- behind a statement: its sign, and the end of the turn -/
theorem l_x_sea49 (hz : z = 2 ∨ z = 83) (hn : n ≤ 1800) (d k : Nat) (v2 v3 : Value) (t : Tok) (M M1 : am_M) (Q : Option Value → am_M → Prop) (res : Rq) (hE : EdX T n z t M M1 res) (hL1 : Lay M1) (hkt : k ≤ tS t)
    (hF : ∀ M' e x, sgT T n res = .inl e → gF (sSea z) nT M M' → Lay M' → FaX M' z T n e → am_P am_P0 (d + 122) (am_look tX10_sea) 72 [.ref 0, .int x, v2, v3] [] M' Q)
    (hN : ∀ M' D' c' t', sgT T n res = .inr (t', D') → gF (sSea z) nT M M' → GdX T n z M' D' c' t' → k + 1 ≤ tS t' → tS t < tS t' → am_P am_P0 (d + 122) (am_look tX10_sea) (if t'.1 = 0 then 72 else 21) [.ref 0, .int (nI (k + 1)), v2, v3] [] M' Q) : am_P am_P0 (d + 122) (am_look tX10_sea) 37 [.ref 0, .int (nI k), v2, v3] [] M1 Q := by
  have faultEnd : ∀ M' e, sgT T n res = .inl e → gF (sSea z) nT M M' → Lay M' → FaX M' z T n e → am_P am_P0 (d + 122) (am_look tX10_sea) 49 [.ref 0, .int (nI k), v2, v3] [] M' Q := fun M' e he g L' F' => by
    have h4 : mI M' 165 4 = 0 := F'.1.2.2.2.2.2.1
    have h0 := hF M' e (nI (k + 1)) he g L' F'
    simp +decide only [qX10_sea_0, qX10_sea_1, qX10_sea_2, lx L', h4, ni_add1, am_w1_i, am_w1_r, am_w1_x, am_w1_l, am_w1_w, va_rf_s, am_push_n, am_push_s, am_cs_0, am_cs_i, am_cs_l, am_cs_r, m_uI_K, m_uI_N, m_uI_R, m_uI_L, m_uI_I, m_uL_K, m_uL_N, m_uL_R, m_uL_I, m_uL_L, m_uR_K, m_uR_N, m_uR_I, m_uR_L, m_uR_R, true_and, and_true, true_implies, false_implies, not_true_eq_false, not_false_eq_true, if_true, if_false, false_and, and_false] at h0 ⊢
    exact h0
  simp +decide only [qX10_sea_0, qX10_sea_1, qX10_sea_2, lx hL1, am_w1_i, am_w1_r, am_w1_x, am_w1_l, am_w1_w, va_rf_s, am_push_n, am_push_s, am_cs_0, am_cs_i, am_cs_l, am_cs_r, m_uI_K, m_uI_N, m_uI_R, m_uI_L, m_uI_I, m_uL_K, m_uL_N, m_uL_R, m_uL_I, m_uL_L, m_uR_K, m_uR_N, m_uR_I, m_uR_L, m_uR_R, true_and, and_true, true_implies, false_implies, not_true_eq_false, not_false_eq_true, if_true, if_false, false_and, and_false]
  rw [show (59 : Int32) = nI 59 from rfl]
  cases res with
  | inl e =>
    obtain ⟨g1, F1⟩ : gF (sSea z) nT M M1 ∧ FaX M1 z T n e := hE
    refine f_sign (d + 119) 59 e M1 _ hL1 hz (by omega) F1 (fun M2 g2 F2 => ?_)
    have h0 := faultEnd M2 e rfl (gF_trans g1 (sFz_S g2)) (gF_LayN g2 hL1) F2
    simp +decide only [qX10_sea_0, qX10_sea_1, qX10_sea_2, lx (gF_LayN g2 hL1), ni_add1, am_w1_i, am_w1_r, am_w1_x, am_w1_l, am_w1_w, va_rf_s, am_push_n, am_push_s, am_cs_0, am_cs_i, am_cs_l, am_cs_r, m_uI_K, m_uI_N, m_uI_R, m_uI_L, m_uI_I, m_uL_K, m_uL_N, m_uL_R, m_uL_I, m_uL_L, m_uR_K, m_uR_N, m_uR_I, m_uR_L, m_uR_R, true_and, and_true, true_implies, false_implies, not_true_eq_false, not_false_eq_true, if_true, if_false, false_and, and_false] at h0 ⊢
    exact h0
  | inr q =>
    obtain ⟨g1, ⟨c1, G1⟩, ht1⟩ : gF (sSea z) nT M M1 ∧ (∃ c', GdX T n z M1 q.2 c' q.1) ∧ tS t < tS q.1 := hE
    refine c_x_takeSign (d + 119) n 59 T (.inr q.1) M1 _ hL1 (by omega) G1.2.2.1 (fun M2 g2 h2 => ?_)
    have L2 := gF_LayN g2 hL1
    cases hs : signR T n 59 (.inr q.1) with
    | inl e =>
      rw [hs] at h2
      have F2 : FaX M2 z T n e := ⟨h2, by rw [g2.2.2.1 _ _ (fun w => w)]; exact G1.2.1, c1, FmX_g G1.2.2.2.1.2.2.2.2 g2 (fun w => by unfold sRd at w; omega)⟩
      have h0 := faultEnd M2 e (by show bR (signR T n 59 (.inr q.1)) _ = _; rw [hs]; rfl) (gF_trans g1 (sRd_S g2)) L2 F2
      simp +decide only [qX10_sea_0, qX10_sea_1, qX10_sea_2, lx L2, ni_add1, am_w1_i, am_w1_r, am_w1_x, am_w1_l, am_w1_w, va_rf_s, am_push_n, am_push_s, am_cs_0, am_cs_i, am_cs_l, am_cs_r, m_uI_K, m_uI_N, m_uI_R, m_uI_L, m_uI_I, m_uL_K, m_uL_N, m_uL_R, m_uL_I, m_uL_L, m_uR_K, m_uR_N, m_uR_I, m_uR_L, m_uR_R, true_and, and_true, true_implies, false_implies, not_true_eq_false, not_false_eq_true, if_true, if_false, false_and, and_false] at h0 ⊢
      exact h0
    | inr t' =>
      rw [hs] at h2
      have hlt := sgn_lt (GdX_t G1) hs
      have h2' : RdX M2 T n t' := h2
      have hG2 : GdX T n z M2 q.2 c1 t' := GdX_r hz G1 g2 h2' (by have := G1.2.2.2.2.2; omega)
      have h0 := hN M2 q.2 c1 t' (by show bR (signR T n 59 (.inr q.1)) _ = _; rw [hs]; rfl) (gF_trans g1 (sRd_S g2)) hG2 (by omega) (by omega)
      have h4 := h2'.2.2.2.2.1
      have hGt := GdX_t hG2
      by_cases c0 : t'.1 = 0
      · rw [if_pos c0] at h0
        have e4 : nI t'.1 = 0 := by rw [c0]; rfl
        simp +decide only [qX10_sea_0, qX10_sea_1, qX10_sea_2, lx L2, h4, e4, ni_add1, am_w1_i, am_w1_r, am_w1_x, am_w1_l, am_w1_w, va_rf_s, am_push_n, am_push_s, am_cs_0, am_cs_i, am_cs_l, am_cs_r, m_uI_K, m_uI_N, m_uI_R, m_uI_L, m_uI_I, m_uL_K, m_uL_N, m_uL_R, m_uL_I, m_uL_L, m_uR_K, m_uR_N, m_uR_I, m_uR_L, m_uR_R, true_and, and_true, true_implies, false_implies, not_true_eq_false, not_false_eq_true, if_true, if_false, false_and, and_false] at h0 ⊢
        exact h0
      · rw [if_neg c0] at h0
        have n4 : ¬ nI t'.1 = 0 := fun w => c0 ((ni_eq (b := 0) (by have := hGt.2.2.1; omega) (by omega)).mp w)
        have hz0 := tkG_0 hGt c0
        have hlt8 : nI (k + 1) < 1800 := by rw [show (1800 : Int32) = nI 1800 from rfl, ni_lt (by omega) (by omega)]; omega
        simp +decide only [qX10_sea_0, qX10_sea_1, qX10_sea_2, lx L2, h4, ni_add1, am_w1_i, am_w1_r, am_w1_x, am_w1_l, am_w1_w, va_rf_s, am_push_n, am_push_s, am_cs_0, am_cs_i, am_cs_l, am_cs_r, m_uI_K, m_uI_N, m_uI_R, m_uI_L, m_uI_I, m_uL_K, m_uL_N, m_uL_R, m_uL_I, m_uL_L, m_uR_K, m_uR_N, m_uR_I, m_uR_L, m_uR_R, true_and, and_true, true_implies, false_implies, not_true_eq_false, not_false_eq_true, if_true, if_false, false_and, and_false]
        rw [br_n n4, br_p hlt8]
        exact h0
/-- the rest of a text -/
theorem l_x_seaL (hz : z = 2 ∨ z = 83) (hn : n ≤ 1800) (d : Nat) (v2 v3 : Value) (M0 : am_M) (Q : Option Value → am_M → Prop) :
    ∀ (f k : Nat) (D : Dat) (c : Nat) (t : Tok) (M : am_M), n + 1 ≤ f + tS t → 1 ≤ k → k ≤ tS t → ¬ t.1 = 0 → 1 ≤ dC D → 1 ≤ dR D → gF (sSea z) nT M0 M → GdX T n z M D c t →
    (∀ M' e x, spR T n f k D t = some (.inl e) → gF (sSea z) nT M0 M' → Lay M' → FaX M' z T n e → am_P am_P0 (d + 122) (am_look tX10_sea) 72 [.ref 0, .int x, v2, v3] [] M' Q) →
    (∀ M' k' D' c' t', spR T n f k D t = some (.inr (k', D')) → k' ≤ 1800 → 1 ≤ dC D' → 1 ≤ dR D' → gF (sSea z) nT M0 M' → GdX T n z M' D' c' t' → am_P am_P0 (d + 122) (am_look tX10_sea) 72 [.ref 0, .int (nI k'), v2, v3] [] M' Q) →
    am_P am_P0 (d + 122) (am_look tX10_sea) 21 [.ref 0, .int (nI k), v2, v3] [] M Q := by
  intro f
  induction f with
  | zero =>
    intro k D c t M hf hk hkt h0 hC hR hg hG hF hN
    have := GdX_t hG
    have h1 := this.1
    have h2 := this.2.1
    omega
  | succ f ih =>
    intro k D c t M hf hk hkt h0 hC hR hg hG hF hN
    have hL := hG.1
    have hz0 := tkG_0 (GdX_t hG) h0
    have es : spR T n (f + 1) k D t = match spS1 T n D t with
      | .inl e => some (.inl e)
      | .inr q => spR T n f (k + 1) q.2 q.1 := by
      show (if t.1 = 0 then _ else _) = _
      rw [if_neg h0]
      all_goals (cases spS1 T n D t <;> rfl)
    have hk0 : ¬ nI k = 0 := fun w => by rw [show (0 : Int32) = nI 0 from rfl, ni_eq (by omega) (by omega)] at w; omega
    rw [hX10_sea_21]
    simp +decide only [qX10_sea_0, qX10_sea_1, qX10_sea_2, lx hL, am_w1_i, am_w1_r, am_w1_x, am_w1_l, am_w1_w, va_rf_s, am_push_n, am_push_s, am_cs_0, am_cs_i, am_cs_l, am_cs_r, m_uI_K, m_uI_N, m_uI_R, m_uI_L, m_uI_I, m_uL_K, m_uL_N, m_uL_R, m_uL_I, m_uL_L, m_uR_K, m_uR_N, m_uR_I, m_uR_L, m_uR_R, true_and, and_true, true_implies, false_implies, not_true_eq_false, not_false_eq_true, if_true, if_false, false_and, and_false]
    rw [br_p hk0]
    refine b_stmt hz hn d c D t M _ hG hC hR h0 (fun M1 E1 => ?_)
    have L1 : Lay M1 := by
      cases hr : spSt T n D t with
      | inl e => rw [hr] at E1; exact gF_LayN E1.1 hL
      | inr q => rw [hr] at E1; exact gF_LayN E1.1 hL
    have es1 : spS1 T n D t = sgT T n (spSt T n D t) := by
      unfold spS1 sgT
      cases spSt T n D t <;> rfl
    have h9 := l_x_sea49 hz hn d k v2 v3 t M M1 Q (spSt T n D t) E1 L1 hkt (fun M' e x he g L' F' => hF M' e x (by rw [es, es1, he]) (gF_trans hg g) L' F') (fun M' D' c' t' he g G' hk' htt => ?_)
    · simp +decide only [qX10_sea_0, qX10_sea_1, qX10_sea_2, lx L1, am_w1_i, am_w1_r, am_w1_x, am_w1_l, am_w1_w, va_rf_s, am_push_n, am_push_s, am_cs_0, am_cs_i, am_cs_l, am_cs_r, m_uI_K, m_uI_N, m_uI_R, m_uI_L, m_uI_I, m_uL_K, m_uL_N, m_uL_R, m_uL_I, m_uL_L, m_uR_K, m_uR_N, m_uR_I, m_uR_L, m_uR_R, true_and, and_true, true_implies, false_implies, not_true_eq_false, not_false_eq_true, if_true, if_false, false_and, and_false] at h9 ⊢
      exact h9
    · have hCC : dC D' = dC D ∧ dR D' = dR D := by
        cases hr : spSt T n D t with
        | inl e => rw [hr] at he; cases he
        | inr q =>
          rw [hr] at he
          obtain ⟨t1, -, h2⟩ := bR_inr he
          cases h2
          exact spSt_C hr
      have hGt := GdX_t G'
      by_cases c0 : t'.1 = 0
      · rw [if_pos c0]
        have h1 := hGt.1
        have h2 := hGt.2.1
        refine hN M' (k + 1) D' c' t' ?_ (by omega) (by omega) (by omega) (gF_trans hg g) G'
        rw [es, es1, he]
        cases f with
        | zero => have := hGt.1; have := hGt.2.1; omega
        | succ f => show (if t'.1 = 0 then _ else _) = _; rw [if_pos c0]
      · rw [if_neg c0]
        have hz1 := tkG_0 hGt c0
        refine ih (k + 1) D' c' t' M' (by omega) (by omega) hk' c0 (by omega) (by omega) (gF_trans hg g) G' (fun M'' e x h1 g1 L1 F1 => hF M'' e x (by rw [es, es1, he]; exact h1) g1 L1 F1) (fun M'' k' D'' c'' t'' h1 hk1 h2 h3 g1 G1 => hN M'' k' D'' c'' t'' (by rw [es, es1, he]; exact h1) hk1 h2 h3 g1 G1)
end
