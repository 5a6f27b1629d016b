/-! the model's statements: sizes, luck, sightings, books -/
theorem PdM_w {M M' : am_M} {z c : Nat} {D : Dat} {S T' : Nat → Nat → Prop} (h : PdM M z D c) (hD : DOK D) (hg : gF S T' M M') (h0 : ∀ a, a = 279 ∨ a = 280 ∨ a = 285 ∨ a = 291 ∨ a = 294 ∨ a = 299 ∨ a = 303 → ¬ S a z) (h1 : ∀ j, 3 * z ≤ j → j < 3 * z + 3 → ¬ S 281 j) (h2 : ∀ a k j, 282 ≤ a → a ≤ 284 → (k = 0 ∧ j < (dRd D).length) ∨ (k = 1 ∧ j < (dRc D).length) ∨ (k = 2 ∧ j < (dRq D).length) → ¬ S a (30 * z + 12 * k + j)) (h3 : ∀ a j, 286 ≤ a → a ≤ 290 → j < (dSh D).length → ¬ S a (8 * z + j)) (h4 : ∀ a j, a = 292 ∨ a = 293 → ¬ S a j) (h5 : ∀ a j, 295 ≤ a → a ≤ 298 → j < (dBk D).length → ¬ S a (12 * z + j)) (h6 : ∀ a j, 300 ≤ a → a ≤ 302 → j < (dSg D).length → ¬ S a (40 * z + j)) (h7 : ∀ a j, a = 304 ∨ a = 305 → 1800 * z ≤ j → j < 1800 * z + c → ¬ S a j) (h8 : ∀ j, j = 40 ∨ j = 41 → ¬ S 277 j) : PdM M' z D c := by
  obtain ⟨⟨a1, a2⟩, b1, b2, b3, b4, b5, ⟨r1, r2, r3⟩, f⟩ := h
  have l1 := hD.2.2.2.2.2.2.2.2.1.1
  have l2 := hD.2.2.2.2.2.2.2.2.2.1.1
  have l3 := hD.2.2.2.2.2.2.2.2.2.2.1
  exact ⟨⟨by rw [hg.1 _ _ (h0 _ (by omega))]; exact a1, by rw [hg.1 _ _ (h0 _ (by omega))]; exact a2⟩, by rw [hg.1 _ _ (h0 _ (by omega))]; exact b1, ShpM_g b2 hg (h0 _ (by omega)) h3, SysM_g b3 hg (h0 _ (by omega)) h4, BkM_gF b4 hg (h0 _ (by omega)) h5, SgM_g b5 hg (h0 _ (by omega)) h6, ⟨RlM_g r1 l1 hg (h1 _ (by omega) (by omega)) (fun a j q1 q2 q3 => h2 a 0 j q1 q2 (by omega)) h7, RlM_g r2 l2 hg (h1 _ (by omega) (by omega)) (fun a j q1 q2 q3 => h2 a 1 j q1 q2 (by omega)) h7, RlM_g r3 (by omega) hg (h1 _ (by omega) (by omega)) (fun a j q1 q2 q3 => h2 a 2 j q1 q2 (by omega)) h7⟩, FmM_g f hg h8⟩
theorem getA {α : Type} {L : List α} {x g : α} {i : Nat} (h : (L ++ [x])[i]? = some g) : (i < L.length ∧ L[i]? = some g) ∨ (i = L.length ∧ g = x) := by
  by_cases e : i < L.length
  · rw [List.getElem?_append_left e] at h; exact Or.inl ⟨e, h⟩
  · rw [List.getElem?_append_right (by omega)] at h
    have hl := (List.getElem?_eq_some_iff.mp h).1
    have e2 : i = L.length := by
      simp only [List.length_cons, List.length_nil] at hl
      omega
    rw [e2, Nat.sub_self] at h
    cases h
    exact Or.inr ⟨e2, rfl⟩
section
variable {T : Nat → Nat} {n z : Nat}
theorem StM_0 {M : am_M} {r : Rt} (h : StM M T n r) : (∀ e, r = .inl e → ¬ mI M 277 8 = 0) ∧ (∀ t, r = .inr t → mI M 277 8 = 0) := by
  constructor
  · intro e he
    rw [he] at h
    exact (FtM_pos h).2.1
  · intro t ht
    rw [ht] at h
    exact h.2.1
theorem GdM_t {M : am_M} {D : Dat} {c : Nat} {t : Tok} (h : GdM T n z M D c t) : tkG T n t := h.2.1.2.2.2.2.2.2.2.2
theorem k_luck (d c : Nat) (D : Dat) (t : Tok) (M : am_M) (Q : Option Value → am_M → Prop) (hG : GdM T n z M D c t) (h0 : ¬ t.1 = 0) (hQ : ∀ M', EdM T n z t M M' (spLuck T n D t) → Q none M') : am_E am_P0 (d + 3) 204 [.ref 277] M Q := by
  obtain ⟨hL, hR, hP, hD, hc⟩ := id hG
  have hEn := (GdM_t hG).1
  have hz := hP.2.2.2.2.2.2.2.2.2.2
  rw [eX11_lucks]
  simp +decide only [qX11_lucks, lm hL, am_w1_i, am_w1_r, am_w1_x, am_w1_l, am_w1_w, va_rf_s, am_push_n, am_push_s, am_cs_0, am_cs_i, am_cs_l, am_cs_r, m_uI_K, m_uI_N, m_uI_R, m_uI_L, m_uI_I, m_uL_K, m_uL_N, m_uL_R, m_uL_I, m_uL_L, m_uR_K, m_uR_N, m_uR_I, m_uR_L, m_uR_R, true_and, and_true, true_implies, false_implies, not_true_eq_false, not_false_eq_true, if_true, if_false, false_and, and_false]
  refine m_counts d false t M _ hL hR (fun M1 x1 g1 s1 f1 o1 => ?_)
  rw [if_neg (by decide)] at s1 f1 o1
  have L1 := gF_LayN g1 hL
  have P1 := PdM_R hP hD g1
  unfold spLuck at hQ
  cases hr1 : advR T n t with
  | inl e =>
    rw [hr1] at s1 hQ
    have h9 := hQ M1 ⟨sRm_S g1, s1⟩
    simp +decide only [qX11_lucks, f1 e hr1, am_w1_i, am_w1_r, am_w1_x, am_w1_l, am_w1_w, va_rf_s, am_push_n, am_push_s, am_cs_0, am_cs_i, am_cs_l, am_cs_r, m_uI_K, m_uI_N, m_uI_R, m_uI_L, m_uI_I, m_uL_K, m_uL_N, m_uL_R, m_uL_I, m_uL_L, m_uR_K, m_uR_N, m_uR_I, m_uR_L, m_uR_R, true_and, and_true, true_implies, false_implies, not_true_eq_false, not_false_eq_true, if_true, if_false, false_and, and_false]
    exact h9
  | inr t1 =>
    have i1 := P1.2.2.2.2.2.2.2.2.2.1
    simp +decide (disch := omega) only [qX11_lucks, o1 t1 hr1, lm L1, i1, am_w1_i, am_w1_r, am_w1_x, am_w1_l, am_w1_w, va_rf_s, am_push_n, am_push_s, am_cs_0, am_cs_i, am_cs_l, am_cs_r, m_uI_K, m_uI_N, m_uI_R, m_uI_L, m_uI_I, m_uL_K, m_uL_N, m_uL_R, m_uL_I, m_uL_L, m_uR_K, m_uR_N, m_uR_I, m_uR_L, m_uR_R, true_and, and_true, true_implies, false_implies, not_true_eq_false, not_false_eq_true, if_true, if_false, false_and, and_false]
    rw [show (0 : Int32) = nI 0 from rfl, show (100 : Int32) = nI 100 from rfl]
    refine m_num d 0 100 _ M1 _ L1 (by omega) (by omega) s1 (fun M2 x2 g2 s2 e2 => ?_)
    have L2 := gF_LayN g2 L1
    have P2 := PdM_R P1 hD g2
    simp +decide (disch := omega) only [qX11_lucks, lm L2, ni_in_t, ni_tn, am_w1_i, am_w1_r, am_w1_x, am_w1_l, am_w1_w, va_rf_s, am_push_n, am_push_s, am_cs_0, am_cs_i, am_cs_l, am_cs_r, m_uI_K, m_uI_N, m_uI_R, m_uI_L, m_uI_I, m_uL_K, m_uL_N, m_uL_R, m_uL_I, m_uL_L, m_uR_K, m_uR_N, m_uR_I, m_uR_L, m_uR_R, true_and, and_true, true_implies, false_implies, not_true_eq_false, not_false_eq_true, if_true, if_false, false_and, and_false]
    have g3 : gF (fun a j => a = 303 ∧ j = z) nT M2 (uI M2 303 z x2) := gF_i _ ⟨rfl, rfl⟩
    have s3 := StM_g s2 g3 (fun a j q w => by omega)
    have G := gF_trans (sRm_S (z := z) g1) (gF_trans (sRm_S g2) (gF_up g3 (fun a j q => sS_1 (by omega)) (fun _ _ q => q)))
    refine hQ _ ?_
    unfold bR
    cases hr : (numR T n 0 100 (advR T n t)).1 with
    | inl e => rw [hr] at s3; exact ⟨G, s3⟩
    | inr t' =>
      rw [hr] at s3
      have haf : AfR T n t (.inr t') := by rw [← hr]; exact AfR_n _ _ (AfR_1 hEn)
      have hlt := AfR_lt (GdM_t hG) h0 haf
      have hv := numR_v hr
      have hx := e2 t' hr
      refine ⟨G, ⟨c, L2, s3, ?_, ?_, by show c ≤ tS t'; omega⟩, hlt⟩
      · obtain ⟨⟨a1, a2⟩, b1, b2, b3, b4, b5, ⟨r1, r2, r3⟩, f⟩ := P2
        have l1 := hD.2.2.2.2.2.2.2.2.1.1
        have l2 := hD.2.2.2.2.2.2.2.2.2.1.1
        have l3 := hD.2.2.2.2.2.2.2.2.2.2.1
        exact ⟨⟨by rw [g3.1 _ _ (by omega)]; exact a1, by rw [g3.1 _ _ (by omega)]; exact a2⟩, by rw [m_uI_I, if_pos ⟨rfl, rfl⟩, hx]; rfl, ShpM_g b2 g3 (by omega) (fun a j q1 q2 q3 w => by omega), SysM_g b3 g3 (by omega) (fun a j q w => by omega), BkM_gF b4 g3 (by omega) (fun a j q1 q2 q3 w => by omega), SgM_g b5 g3 (by omega) (fun a j q1 q2 q3 w => by omega), ⟨RlM_g r1 l1 g3 (by omega) (fun a j q1 q2 q3 w => by omega) (fun a j q1 q2 q3 w => by omega), RlM_g r2 l2 g3 (by omega) (fun a j q1 q2 q3 w => by omega) (fun a j q1 q2 q3 w => by omega), RlM_g r3 (Nat.le_trans l3 (by decide)) g3 (by omega) (fun a j q1 q2 q3 w => by omega) (fun a j q1 q2 q3 w => by omega)⟩, FmM_g f g3 (fun j q w => by omega)⟩
      · obtain ⟨d1, d2, d3⟩ := hD
        exact ⟨d1, hv.2, d3⟩
theorem k_seen (d c : Nat) (D : Dat) (t : Tok) (M : am_M) (Q : Option Value → am_M → Prop) (hG : GdM T n z M D c t) (hC : 1 ≤ dC D) (hRr : 1 ≤ dR D) (h0 : ¬ t.1 = 0) (hQ : ∀ M', EdM T n z t M M' (spSeen T n D t) → Q none M') : am_E am_P0 (d + 4) 203 [.ref 277] M Q := by
  obtain ⟨hL, hR, hP, hD, hc⟩ := id hG
  have hEn := (GdM_t hG).1
  have hz := hP.2.2.2.2.2.2.2.2.2.2
  have h40 := hD.2.2.2.2.2.2.2.1.1
  have hCR := hD.1
  obtain ⟨N, hN⟩ : ∃ N, N = (dSg D).length := ⟨_, rfl⟩
  rw [← hN] at h40
  have hn40 : nI N = 40 ↔ N = 40 := by rw [show (40 : Int32) = nI 40 from rfl, ni_eq (by omega) (by omega)]
  have idx : (40 : Int32) * nI z + nI N = nI (40 * z + N) := by rw [show (40 : Int32) = nI 40 from rfl, ni_mul, ni_add]
  -- what is written beside
  have sc : ∀ (M' : am_M), gF (fun a j => sRm a j ∨ (300 ≤ a ∧ a ≤ 302 ∧ j = 40 * z + N)) nT M M' → PdM M' z D c ∧ Lay M' ∧ mI M' 277 41 = nI z ∧ mI M' 299 z = nI N ∧ gF (sSm z) nT M M' ∨ 40 ≤ N := fun M' g => by
    by_cases cN : 40 ≤ N
    · exact Or.inr cN
    · have P := PdM_w hP hD g (fun a q w => by unfold sRm at w; omega) (fun j q1 q2 w => by unfold sRm at w; omega) (fun a k j q1 q2 q3 w => by unfold sRm at w; omega) (fun a j q1 q2 q3 w => by unfold sRm at w; omega) (fun a j q w => by unfold sRm at w; omega) (fun a j q1 q2 q3 w => by unfold sRm at w; omega) (fun a j q1 q2 q3 w => by unfold sRm at w; omega) (fun a j q1 q2 q3 w => by unfold sRm at w; omega) (fun j q w => by unfold sRm at w; omega)
      refine Or.inl ⟨P, gF_LayN g hL, P.2.2.2.2.2.2.2.2.2.1, by rw [hN]; exact P.2.2.2.2.2.1.1, gF_up g (fun a j q => ?_) (fun _ _ q => q)⟩
      rcases q with q | q
      · exact sS_0 (by unfold sRm at q; omega)
      · exact sS_7 (by omega)
  have main : am_E am_P0 (d + 3) 193 [.ref 277, .int (b01 (decide (40 ≤ N)))] M (fun r M2 => am_P am_P0 (d + 4) (am_look tX11_seen) 23 [.ref 277, am_x] (am_push r []) M2 Q) := by
    refine m_counts (d + 1) (decide (40 ≤ N)) t M _ hL hR (fun M1 x1 g1 s1 f1 o1 => ?_)
    by_cases cf : 40 ≤ N
    · rw [if_pos (decide_eq_true cf)] at s1 f1
      have h9 := hQ M1 (by unfold spSeen; rw [if_pos (by omega)]; exact ⟨sRm_S g1, s1⟩)
      simp +decide only [qX11_seen_0, qX11_seen_1, f1 _ rfl, am_w1_i, am_w1_r, am_w1_x, am_w1_l, am_w1_w, va_rf_s, am_push_n, am_push_s, am_cs_0, am_cs_i, am_cs_l, am_cs_r, m_uI_K, m_uI_N, m_uI_R, m_uI_L, m_uI_I, m_uL_K, m_uL_N, m_uL_R, m_uL_I, m_uL_L, m_uR_K, m_uR_N, m_uR_I, m_uR_L, m_uR_R, true_and, and_true, true_implies, false_implies, not_true_eq_false, not_false_eq_true, if_true, if_false, false_and, and_false]
      exact h9
    · rw [if_neg (by rw [decide_eq_false cf]; decide)] at s1 f1 o1
      unfold spSeen at hQ
      rw [if_neg (by omega)] at hQ
      have up1 : ∀ {A B : am_M}, gF sRm nT A B → gF (fun a j => sRm a j ∨ (300 ≤ a ∧ a ≤ 302 ∧ j = 40 * z + N)) nT A B := fun h => gF_up h (fun a j q => Or.inl q) (fun _ _ q => q)
      cases hr1 : advR T n t with
      | inl e =>
        rw [hr1] at s1 hQ
        have h9 := hQ M1 ⟨sRm_S g1, s1⟩
        simp +decide only [qX11_seen_0, qX11_seen_1, f1 e hr1, am_w1_i, am_w1_r, am_w1_x, am_w1_l, am_w1_w, va_rf_s, am_push_n, am_push_s, am_cs_0, am_cs_i, am_cs_l, am_cs_r, m_uI_K, m_uI_N, m_uI_R, m_uI_L, m_uI_I, m_uL_K, m_uL_N, m_uL_R, m_uL_I, m_uL_L, m_uR_K, m_uR_N, m_uR_I, m_uR_L, m_uR_R, true_and, and_true, true_implies, false_implies, not_true_eq_false, not_false_eq_true, if_true, if_false, false_and, and_false]
        exact h9
      | inr t1 =>
        have G1 := up1 g1
        obtain ⟨P1, L1, i1, n1, S1⟩ := (sc M1 G1).resolve_right (by omega)
        simp +decide (disch := omega) only [qX11_seen_0, qX11_seen_1, o1 t1 hr1, lm L1, i1, n1, idx, ni_in_t, ni_tn, am_w1_i, am_w1_r, am_w1_x, am_w1_l, am_w1_w, va_rf_s, am_push_n, am_push_s, am_cs_0, am_cs_i, am_cs_l, am_cs_r, m_uI_K, m_uI_N, m_uI_R, m_uI_L, m_uI_I, m_uL_K, m_uL_N, m_uL_R, m_uL_I, m_uL_L, m_uR_K, m_uR_N, m_uR_I, m_uR_L, m_uR_R, true_and, and_true, true_implies, false_implies, not_true_eq_false, not_false_eq_true, if_true, if_false, false_and, and_false]
        rw [show (0 : Int32) = nI 0 from rfl, show (3 : Int32) = nI 3 from rfl]
        refine m_num (d + 1) 0 3 _ M1 _ L1 (by omega) (by omega) s1 (fun M2 x2 g2 s2 e2 => ?_)
        have L2 := gF_LayN g2 L1
        have w2 : gF (fun a j => a = 300 ∧ j = 40 * z + N) nT M2 (uI M2 300 (40 * z + N) x2) := gF_i _ ⟨rfl, rfl⟩
        have G2 := gF_trans G1 (gF_trans (up1 g2) (gF_up w2 (fun a j q => Or.inr (by omega)) (fun _ _ q => q)))
        have s2' := StM_g s2 w2 (fun a j q w => by omega)
        simp +decide (disch := omega) only [qX11_seen_0, qX11_seen_1, lm L2, ni_in_t, ni_tn, am_w1_i, am_w1_r, am_w1_x, am_w1_l, am_w1_w, va_rf_s, am_push_n, am_push_s, am_cs_0, am_cs_i, am_cs_l, am_cs_r, m_uI_K, m_uI_N, m_uI_R, m_uI_L, m_uI_I, m_uL_K, m_uL_N, m_uL_R, m_uL_I, m_uL_L, m_uR_K, m_uR_N, m_uR_I, m_uR_L, m_uR_R, true_and, and_true, true_implies, false_implies, not_true_eq_false, not_false_eq_true, if_true, if_false, false_and, and_false]
        obtain ⟨A2, hA2⟩ : ∃ A2, A2 = uI M2 300 (40 * z + N) x2 := ⟨_, rfl⟩
        have v2 : mI A2 300 (40 * z + N) = x2 := by rw [hA2, m_uI_I, if_pos ⟨rfl, rfl⟩]
        rw [← hA2] at G2 s2' ⊢
        obtain ⟨P2, LA2, i2, n2, S2⟩ := (sc A2 G2).resolve_right (by omega)
        refine m_here d z (dC D) (dR D) _ A2 _ LA2 hz i2 P2.1.1 P2.1.2 (by omega) (by omega) s2' (fun M3 x3 g3 s3 e3 => ?_)
        have L3 := gF_LayN g3 LA2
        have w3 : gF (fun a j => a = 301 ∧ j = 40 * z + N) nT M3 (uI M3 301 (40 * z + N) x3) := gF_i _ ⟨rfl, rfl⟩
        have G3 := gF_trans G2 (gF_trans (up1 g3) (gF_up w3 (fun a j q => Or.inr (by omega)) (fun _ _ q => q)))
        have s3' := StM_g s3 w3 (fun a j q w => by omega)
        simp +decide (disch := omega) only [qX11_seen_0, qX11_seen_1, lm L3, ni_in_t, ni_tn, am_w1_i, am_w1_r, am_w1_x, am_w1_l, am_w1_w, va_rf_s, am_push_n, am_push_s, am_cs_0, am_cs_i, am_cs_l, am_cs_r, m_uI_K, m_uI_N, m_uI_R, m_uI_L, m_uI_I, m_uL_K, m_uL_N, m_uL_R, m_uL_I, m_uL_L, m_uR_K, m_uR_N, m_uR_I, m_uR_L, m_uR_R, true_and, and_true, true_implies, false_implies, not_true_eq_false, not_false_eq_true, if_true, if_false, false_and, and_false]
        obtain ⟨A3, hA3⟩ : ∃ A3, A3 = uI M3 301 (40 * z + N) x3 := ⟨_, rfl⟩
        have v3 : mI A3 301 (40 * z + N) = x3 := by rw [hA3, m_uI_I, if_pos ⟨rfl, rfl⟩]
        have v2' : mI A3 300 (40 * z + N) = x2 := by rw [hA3, m_uI_I, if_neg (by omega), g3.1 _ _ (fun w => by unfold sRm at w; omega)]; exact v2
        rw [← hA3] at G3 s3' ⊢
        obtain ⟨P3, LA3, i3, n3, S3⟩ := (sc A3 G3).resolve_right (by omega)
        refine m_word2 (d + 1) 16 1752135026 _ A3 _ LA3 (by omega) (by decide) s3' (fun M4 g4 s4 => ?_)
        have L4 := gF_LayN g4 LA3
        simp +decide (disch := omega) only [qX11_seen_0, qX11_seen_1, lm L4, ni_in_t, ni_tn, am_w1_i, am_w1_r, am_w1_x, am_w1_l, am_w1_w, va_rf_s, am_push_n, am_push_s, am_cs_0, am_cs_i, am_cs_l, am_cs_r, m_uI_K, m_uI_N, m_uI_R, m_uI_L, m_uI_I, m_uL_K, m_uL_N, m_uL_R, m_uL_I, m_uL_L, m_uR_K, m_uR_N, m_uR_I, m_uR_L, m_uR_R, true_and, and_true, true_implies, false_implies, not_true_eq_false, not_false_eq_true, if_true, if_false, false_and, and_false]
        rw [show (0 : Int32) = nI 0 from rfl, show (47 : Int32) = nI 47 from rfl]
        refine m_num (d + 1) 0 47 _ M4 _ L4 (by omega) (by omega) s4 (fun M5 x5 g5 s5 e5 => ?_)
        have L5 := gF_LayN g5 L4
        have w5 : gF (fun a j => a = 302 ∧ j = 40 * z + N) nT M5 (uI M5 302 (40 * z + N) x5) := gF_i _ ⟨rfl, rfl⟩
        have G5 := gF_trans G3 (gF_trans (up1 g4) (gF_trans (up1 g5) (gF_up w5 (fun a j q => Or.inr (by omega)) (fun _ _ q => q))))
        have s5' := StM_g s5 w5 (fun a j q w => by omega)
        simp +decide (disch := omega) only [qX11_seen_0, qX11_seen_1, lm L5, ni_in_t, ni_tn, am_w1_i, am_w1_r, am_w1_x, am_w1_l, am_w1_w, va_rf_s, am_push_n, am_push_s, am_cs_0, am_cs_i, am_cs_l, am_cs_r, m_uI_K, m_uI_N, m_uI_R, m_uI_L, m_uI_I, m_uL_K, m_uL_N, m_uL_R, m_uL_I, m_uL_L, m_uR_K, m_uR_N, m_uR_I, m_uR_L, m_uR_R, true_and, and_true, true_implies, false_implies, not_true_eq_false, not_false_eq_true, if_true, if_false, false_and, and_false]
        obtain ⟨A5, hA5⟩ : ∃ A5, A5 = uI M5 302 (40 * z + N) x5 := ⟨_, rfl⟩
        have v5 : mI A5 302 (40 * z + N) = x5 := by rw [hA5, m_uI_I, if_pos ⟨rfl, rfl⟩]
        have v3' : mI A5 301 (40 * z + N) = x3 := by rw [hA5, m_uI_I, if_neg (by omega), g5.1 _ _ (fun w => by unfold sRm at w; omega), g4.1 _ _ (fun w => by unfold sRm at w; omega)]; exact v3
        have v2'' : mI A5 300 (40 * z + N) = x2 := by rw [hA5, m_uI_I, if_neg (by omega), g5.1 _ _ (fun w => by unfold sRm at w; omega), g4.1 _ _ (fun w => by unfold sRm at w; omega)]; exact v2'
        have e8 : mI M5 277 8 = mI A5 277 8 := (w5.1 _ _ (by omega)).symm.trans (by rw [hA5])
        have i5' : mI M5 277 41 = mI A5 277 41 := (w5.1 _ _ (by omega)).symm.trans (by rw [hA5])
        have n5' : mI M5 299 z = mI A5 299 z := (w5.1 _ _ (by omega)).symm.trans (by rw [hA5])
        rw [← hA5] at G5 s5' ⊢
        rw [e8, i5']
        obtain ⟨P5, LA5, i5, n5, S5⟩ := (sc A5 G5).resolve_right (by omega)
        have hf := StM_0 s5'
        have hres : (numR T n 0 47 (wordR T n 16 (plcR T n (dC D) (dR D) (numR T n 0 3 (advR T n t)).1).1)).1 = (aftR T n 16 0 47 (plcR T n (dC D) (dR D) (numR T n 0 3 (advR T n t)).1).1).1 := rfl
        rw [hres] at s5' hf
        cases hr : (aftR T n 16 0 47 (plcR T n (dC D) (dR D) (numR T n 0 3 (advR T n t)).1).1).1 with
        | inl e =>
          rw [hr] at s5' hQ
          have h9 := hQ A5 ⟨S5, s5'⟩
          rw [br_p (hf.1 e hr)]
          exact h9
        | inr t' =>
          have hv := numR_v hr
          have hx5 := e5 t' hr
          obtain ⟨t3, ht3⟩ := aft_i hr
          have hpv := plR_v hD hC hRr ht3
          have hx3 := e3 t3 ht3
          obtain ⟨t2, ht2⟩ := plR_i ht3
          have hlk := numR_v ht2
          have hx2 := e2 t2 ht2
          have haf : AfR T n t (.inr t') := by rw [← hr]; exact AfR_f _ _ _ (AfR_p _ _ (AfR_n _ _ (AfR_1 hEn)))
          have hlt := AfR_lt (GdM_t hG) h0 haf
          rw [br_n (fun w => w (hf.2 t' hr))]
          simp +decide (disch := omega) only [i5, n5', n5, ni_in_t, ni_tn, ni_add1, am_w1_i, am_w1_r, am_w1_x, am_w1_l, am_w1_w, va_rf_s, am_push_n, am_push_s, am_cs_0, am_cs_i, am_cs_l, am_cs_r, m_uI_K, m_uI_N, m_uI_R, m_uI_L, m_uI_I, m_uL_K, m_uL_N, m_uL_R, m_uL_I, m_uL_L, m_uR_K, m_uR_N, m_uR_I, m_uR_L, m_uR_R, true_and, and_true, true_implies, false_implies, not_true_eq_false, not_false_eq_true, if_true, if_false, false_and, and_false]
          have w6 : gF (fun a j => a = 299 ∧ j = z) nT A5 (uI A5 299 z (nI (N + 1))) := gF_i _ ⟨rfl, rfl⟩
          rw [hr] at s5' hQ
          have s6 := StM_g s5' w6 (fun a j q w => by omega)
          refine hQ _ ⟨gF_trans S5 (gF_up w6 (fun a j q => sS_1 (by omega)) (fun _ _ q => q)), ⟨c, LA5, s6, ?_, DOK_sg hD (by omega) ⟨hlk.2, hpv.1, by show (aftR T n 16 0 47 (plcR T n (dC D) (dR D) (numR T n 0 3 (advR T n t)).1).1).2 < 48; have := hv.2; unfold aftR; omega⟩, by show c ≤ tS t'; omega⟩, hlt⟩
          obtain ⟨⟨a1, a2⟩, b1, b2, b3, b4, b5, ⟨r1, r2, r3⟩, f⟩ := P5
          have l1 := hD.2.2.2.2.2.2.2.2.1.1
          have l2 := hD.2.2.2.2.2.2.2.2.2.1.1
          have l3 := hD.2.2.2.2.2.2.2.2.2.2.1
          refine ⟨⟨by rw [w6.1 _ _ (by omega)]; exact a1, by rw [w6.1 _ _ (by omega)]; exact a2⟩, by rw [w6.1 _ _ (by omega)]; exact b1, ShpM_g b2 w6 (by omega) (fun a j q1 q2 q3 w => by omega), SysM_g b3 w6 (by omega) (fun a j q w => by omega), BkM_gF b4 w6 (by omega) (fun a j q1 q2 q3 w => by omega), ⟨?_, fun i g hi => ?_⟩, ⟨RlM_g r1 l1 w6 (by omega) (fun a j q1 q2 q3 w => by omega) (fun a j q1 q2 q3 w => by omega), RlM_g r2 l2 w6 (by omega) (fun a j q1 q2 q3 w => by omega) (fun a j q1 q2 q3 w => by omega), RlM_g r3 (Nat.le_trans l3 (by decide)) w6 (by omega) (fun a j q1 q2 q3 w => by omega) (fun a j q1 q2 q3 w => by omega)⟩, FmM_g f w6 (fun j q w => by omega)⟩
          · rw [m_uI_I, if_pos ⟨rfl, rfl⟩]
            show _ = nI (dSg D ++ [_]).length
            rw [List.length_append, hN]; rfl
          · rw [w6.1 _ _ (by omega), w6.1 _ _ (by omega), w6.1 _ _ (by omega)]
            rcases getA (L := dSg D) hi with ⟨q1, q2⟩ | ⟨q1, q2⟩
            · exact b5.2 i g q2
            · rw [q1, ← hN, q2, v2'', v3', v5]
              exact ⟨hx2, hx3, hx5⟩
  rw [eX11_seen]
  have i0 := hP.2.2.2.2.2.2.2.2.2.1
  have n0 := hP.2.2.2.2.2.1.1
  rw [← hN] at n0
  simp +decide (disch := omega) only [qX11_seen_0, qX11_seen_1, lm hL, i0, n0, hn40, ni_in_t, ni_tn, am_w1_i, am_w1_r, am_w1_x, am_w1_l, am_w1_w, va_rf_s, am_push_n, am_push_s, am_cs_0, am_cs_i, am_cs_l, am_cs_r, m_uI_K, m_uI_N, m_uI_R, m_uI_L, m_uI_I, m_uL_K, m_uL_N, m_uL_R, m_uL_I, m_uL_L, m_uR_K, m_uR_N, m_uR_I, m_uR_L, m_uR_R, true_and, and_true, true_implies, false_implies, not_true_eq_false, not_false_eq_true, if_true, if_false, false_and, and_false]
  by_cases cf : 40 ≤ N
  · rw [decide_eq_true cf] at main
    rw [br_r (by omega)]
    exact main
  · rw [decide_eq_false cf] at main
    rw [br_q (by omega)]
    exact main
end
