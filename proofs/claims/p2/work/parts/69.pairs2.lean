/-! the model: sayings by twos, the loops -/
section
variable (w : Nat → Prop) (v : Nat) (snd : Nat → Bool → Prop) (B : List Fct) (Y : List Sy)
/-- what pairs leaves -/
def PrM (M : am_M) (n : Nat) : Prop := HrM M Y ∧ (∀ k y, k < n → Y[k]? = some y → mI M 323 k = tI (goodY w v snd B y)) ∧ ∀ k j y y', k < n → Y[k]? = some y → Y[j]? = some y' → mI M 325 (48 * k + j) = tI (gowY w v y y')
end
theorem hd_I {a b : Nat} (ha : a < 48) (hb : b < 48) : (if nI a < nI b then nI b - nI a else nI a - nI b) = nI (hd_ a b) := by
  unfold hd_
  by_cases c : a < b
  · rw [if_pos ((ni_lt (by omega) (by omega)).mpr c), if_pos c, ni_sub (by omega)]
  · rw [if_neg (fun z => c ((ni_lt (by omega) (by omega)).mp z)), if_neg c, ni_sub (by omega)]
theorem hd_lt {a b : Nat} (ha : a < 48) (hb : b < 48) : hd_ a b < 48 := by
  unfold hd_
  split <;> omega
theorem SyM_at {M : am_M} {b C R s : Nat} {Y : List Sy} (h : SyM M b C R s Y) {y : Sy} (hy : y ∈ Y) : y.1 < 48 ∧ vld C R y.2.1 ∧ mI M 292 (384 * b + 48 * s + y.1) = nI (cel C y.2.1) ∧ mI M 293 (384 * b + 48 * s + y.1) = b01 y.2.2 := by
  obtain ⟨h1, h2, h3⟩ := h
  obtain ⟨q1, q2⟩ := h2 y hy
  rcases h3 y.1 q1 with ⟨y', a1, a2, a3, a4⟩ | ⟨a1, -⟩
  · have e : y' = y := by
      have key : ∀ (Z : List Sy), srtY Z → y ∈ Z → y' ∈ Z → y' = y := by
        intro Z
        induction Z with
        | nil => intro _ h _; cases h
        | cons a r ih =>
          intro hs m1 m2
          have hs' := List.pairwise_cons.mp hs
          rcases List.mem_cons.mp m1 with e1 | n1 <;> rcases List.mem_cons.mp m2 with e2 | n2
          · rw [e1, e2]
          · have := hs'.1 y' n2; rw [← e1] at this; omega
          · have := hs'.1 y n1; rw [← e2] at this; omega
          · exact ih hs'.2 n1 n2
      exact key Y h1 hy a1
    subst e
    exact ⟨q1, q2, a3, a4⟩
  · exact absurd rfl (a1 y hy)
theorem l_m_pairs3 (d s b C R v i : Nat) (w : Nat → Prop) (snd : Nat → Bool → Prop) (B : List Fct) (Y : List Sy) (y : Sy) (M0 : am_M) (Q : Option Value → am_M → Prop) (x3 : Int32) (hL : Lay M0) (hB : MB M0 b C R) (hs : s < 8) (hv : mI M0 288 (8 * b + s) = nI v) (hv1 : 1 ≤ v) (hv2 : v ≤ 4) (hY : SyM M0 b C R s Y) (hl : Y.length ≤ 48) (hy : Y[i]? = some y)
    (hQ : ∀ M' v4, oS sP M0 M' → PrM w v snd B Y M' (i + 1) → am_P am_P0 (d + 1) (am_look tX11_pairs) 54 [.ref 277, .int (nI s), .int (nI i + 1), .int x3, .int v4] [] M' Q) :
    ∀ (m j : Nat), j + m = Y.length → ∀ (M : am_M), oS sP M0 M → GoesP M C R w y.2.1 → PrM w v snd B Y M i → mI M 323 i = tI (goodY w v snd B y) → (∀ j' y', j' < j → Y[j']? = some y' → mI M 325 (48 * i + j') = tI (gowY w v y y')) → am_P am_P0 (d + 1) (am_look tX11_pairs) 129 [.ref 277, .int (nI s), .int (nI i), .int x3, .int (nI j)] [] M Q := by
  have hil := (List.getElem?_eq_some_iff.mp hy).1
  obtain ⟨y1, y2, y3, y4⟩ := SyM_at hY (List.mem_of_getElem? hy)
  intro m
  induction m with
  | zero =>
    intro j hj M hM hG hP hg hall
    have e : j = Y.length := by omega
    subst e
    have hle : nI Y.length ≤ nI Y.length := (ni_le (by omega) (by omega)).mpr (Nat.le_refl _)
    rw [hX11_pairs_129]
    simp +decide only [qX11_pairs_0, qX11_pairs_1, qX11_pairs_2, qX11_pairs_3, lm (oS_Lay hM hL), hP.1.1, am_w1_i, am_w1_r, am_w1_x, am_w1_l, am_w1_w, va_rf_s, am_push_n, am_push_s, am_cs_0, am_cs_i, am_cs_l, am_cs_r, m_uI_K, m_uI_N, m_uI_R, m_uI_L, m_uI_I, m_uL_K, m_uL_N, m_uL_R, m_uL_I, m_uL_L, m_uR_K, m_uR_N, m_uR_I, m_uR_L, m_uR_R, true_and, and_true]
    rw [br_p hle]
    refine hQ M _ hM ⟨hP.1, fun k z hk hz => ?_, fun k j' z z' hk hz hz' => ?_⟩
    · by_cases ek : k = i
      · subst ek
        cases hy.symm.trans hz
        exact hg
      · exact hP.2.1 k z (by omega) hz
    · by_cases ek : k = i
      · subst ek
        cases hy.symm.trans hz
        exact hall j' z' (List.getElem?_eq_some_iff.mp hz').1 hz'
      · exact hP.2.2 k j' z z' (by omega) hz hz'
  | succ m ih =>
    intro j hj M hM hG hP hg hall
    have hLM := oS_Lay hM hL
    have hBM := MB_T hB hM tld_P
    have hYM := SyM_S hY hM (fun a j q => tld_P a j (by unfold tld; omega))
    have hvM : mI M 288 (8 * b + s) = nI v := by rw [hM.1 _ _ (tld_P _ _ (by unfold tld; omega))]; exact hv
    obtain ⟨z, hz⟩ : ∃ z, Y[j]? = some z := ⟨Y[j]'(by omega), List.getElem?_eq_getElem (by omega)⟩
    obtain ⟨z1, z2, z3, z4⟩ := SyM_at hYM (List.mem_of_getElem? hz)
    have hzl := cel_lt hBM.2.2.2.2.2.1 hBM.2.2.2.2.2.2.2 z2
    have hlt : ¬ nI Y.length ≤ nI j := by rw [ni_le (by omega) (by omega)]; omega
    have hsa := fun Q => c_m_said d s z.1 M Q hLM b hBM.1 hBM.2.1 hs z1
    have hh := fun Q => c_m_hoursTo d s b v (cel C z.2.1) M Q hLM hBM.1 hBM.2.1 hs hvM hv1 hv2 hzl.2.1
    have hw := hrT_wit (w := w) (v := v) (p := y.2.1) (q := z.2.1) (h := hd_ y.1 z.1) (x := mI M 317 (cel C z.2.1)) hv1 hv2 (by have := hd_lt y1 z1; omega) (hG z.2.1 z2)
    have hH := hP.1.2
    have e48 : 48 * nI i + nI j = nI (48 * i + j) := by rw [show (48 : Int32) = nI 48 from rfl, ni_mul, ni_add]
    rw [hX11_pairs_129]
    simp +decide (disch := omega) only [qX11_pairs_0, qX11_pairs_1, qX11_pairs_2, qX11_pairs_3, lm hLM, hP.1.1, hH i y hy, hH j z hz, hsa, z3, hh, e48, ni_in_t, ni_tn, ni_add1, am_w1_i, am_w1_r, am_w1_x, am_w1_l, am_w1_w, va_rf_s, am_push_n, am_push_s, am_cs_0, am_cs_i, am_cs_l, am_cs_r, m_uI_K, m_uI_N, m_uI_R, m_uI_L, m_uI_I, m_uL_K, m_uL_N, m_uL_R, m_uL_I, m_uL_L, m_uR_K, m_uR_N, m_uR_I, m_uR_L, m_uR_R, true_and, and_true]
    rw [br_n hlt]
    have fin : ∀ x, x = tI (gowY w v y z) → am_P am_P0 (d + 1) (am_look tX11_pairs) 129 [.ref 277, .int (nI s), .int (nI i), .int x3, .int (nI (j + 1))] [] (uI M 325 (48 * i + j) x) Q := by
      intro x hx
      have g1 : oS sP M (uI M 325 (48 * i + j) x) := ⟨fun a k h => by rw [m_uI_I, if_neg (fun q => h (Or.inr (Or.inr (Or.inr (Or.inl q.1)))))], fun _ _ => rfl, fun _ _ => rfl, rfl⟩
      have r1 : ∀ a k, ¬ a = 325 → mI (uI M 325 (48 * i + j) x) a k = mI M a k := fun a k h => by rw [m_uI_I, if_neg (fun q => h q.1)]
      refine ih (j + 1) (by omega) _ (oS_trans hM g1) (fun q hq => by rw [r1 _ _ (by decide)]; exact hG q hq) ⟨⟨by rw [r1 _ _ (by decide)]; exact hP.1.1, fun k y' hk => by rw [r1 _ _ (by decide)]; exact hH k y' hk⟩, fun k y' hk hy' => by rw [r1 _ _ (by decide)]; exact hP.2.1 k y' hk hy', fun k j' y' y'' hk hy' hy'' => ?_⟩ (by rw [r1 _ _ (by decide)]; exact hg) (fun j' y' hj' hy' => ?_)
      · have hj'l := (List.getElem?_eq_some_iff.mp hy'').1
        rw [m_uI_I, if_neg (by omega)]
        exact hP.2.2 k j' y' y'' hk hy' hy''
      · rw [m_uI_I]
        by_cases ej : j' = j
        · subst ej
          cases hz.symm.trans hy'
          rw [if_pos ⟨rfl, rfl⟩]
          exact hx
        · rw [if_neg (by omega)]
          exact hall j' y' (by omega) hy'
    have hdi := hd_I y1 z1
    by_cases c : nI z.1 ≤ nI y.1
    · rw [br_p c]
      rw [if_neg (Int32.not_lt.mpr c)] at hdi
      rw [hdi]
      by_cases cw : wit w v y.2.1 z.2.1 (hd_ y.1 z.1)
      · rw [br_n (Int32.not_lt.mpr (hw.mpr cw))]
        exact fin 1 (tI_t cw).symm
      · rw [br_p (Int32.not_le.mp (fun q => cw (hw.mp q)))]
        exact fin 0 (tI_f cw).symm
    · rw [br_n c]
      rw [if_pos (Int32.not_le.mp c)] at hdi
      rw [hdi]
      by_cases cw : wit w v y.2.1 z.2.1 (hd_ y.1 z.1)
      · rw [br_n (Int32.not_lt.mpr (hw.mpr cw))]
        exact fin 1 (tI_t cw).symm
      · rw [br_p (Int32.not_le.mp (fun q => cw (hw.mp q)))]
        exact fin 0 (tI_f cw).symm
theorem l_m_pairs2 (d s b C R v : Nat) (dep : Nat → Nat) (dr ld : Nat) (L : List Bk) (Y : List Sy) (M0 : am_M) (Q : Option Value → am_M → Prop) (hL : Lay M0) (hB : MB M0 b C R) (hs : s < 8) (hS : ShM M0 b C R s v dep dr ld Y) (hK : BkM M0 b C L) (hO : bkOK C R L) (hl : Y.length ≤ 48)
    (hQ : ∀ M', oS sP M0 M' → PrM (mW_ M0 b C R s) v (sndP dep dr ld) (bkOf L s) Y M' Y.length → Q none M') :
    ∀ (m i : Nat), i + m = Y.length → ∀ (M : am_M) (v3 v4 : Value), oS sP M0 M → PrM (mW_ M0 b C R s) v (sndP dep dr ld) (bkOf L s) Y M i → am_P am_P0 (d + 5) (am_look tX11_pairs) 54 [.ref 277, .int (nI s), .int (nI i), v3, v4] [] M Q := by
  intro m
  induction m with
  | zero =>
    intro i hi M v3 v4 hM hP
    have e : i = Y.length := by omega
    subst e
    have hle : nI Y.length ≤ nI Y.length := (ni_le (by omega) (by omega)).mpr (Nat.le_refl _)
    rw [hX11_pairs_54]
    simp +decide only [qX11_pairs_0, qX11_pairs_1, qX11_pairs_2, qX11_pairs_3, lm (oS_Lay hM hL), hP.1.1, am_w1_i, am_w1_r, am_w1_x, am_w1_l, am_w1_w, va_rf_s, am_push_n, am_push_s, am_cs_0, am_cs_i, am_cs_l, am_cs_r, m_uI_K, m_uI_N, m_uI_R, m_uI_L, m_uI_I, m_uL_K, m_uL_N, m_uL_R, m_uL_I, m_uL_L, m_uR_K, m_uR_N, m_uR_I, m_uR_L, m_uR_R, true_and, and_true]
    rw [br_p hle]
    exact hQ M hM hP
  | succ m ih =>
    intro i hi M v3 v4 hM hP
    have hLM := oS_Lay hM hL
    have hBM := MB_T hB hM tld_P
    have hSM := ShM_S hS hM tld_P
    have hKM := BkM_T hK hM tld_P
    obtain ⟨y, hy⟩ : ∃ y, Y[i]? = some y := ⟨Y[i]'(by omega), List.getElem?_eq_getElem (by omega)⟩
    obtain ⟨y1, y2, y3, y4⟩ := SyM_at hSM.2.2.2.2 (List.mem_of_getElem? hy)
    have hyl := cel_lt hBM.2.2.2.2.2.1 hBM.2.2.2.2.2.2.2 y2
    have hlt : ¬ nI Y.length ≤ nI i := by rw [ni_le (by omega) (by omega)]; omega
    have hsa := fun Q => c_m_said (d + 4) s y.1 M Q hLM b hBM.1 hBM.2.1 hs y1
    have hla := fun Q => c_m_laden (d + 4) s y.1 M Q hLM b hBM.1 hBM.2.1 hs y1 (by rw [y4]; cases y.2.2 <;> decide)
    have hsn := fun Q => c_m_isSound (d + 4) s (cel C y.2.1) (b01 y.2.2) M Q hLM b hBM.1 hBM.2.1 hs hyl.2.1
    have hsnd := bI_tI (m_snd hSM.2.2.2.1 y2 y.2.2)
    have hH := hP.1.2
    have hwM := mW_T (b := b) (C := C) (R := R) (s := s) hM tld_P
    -- from the store on
    have key : ∀ (x : Int32) (M1 : am_M), oS sG M M1 → x = tI (goodY (mW_ M0 b C R s) v (sndP dep dr ld) (bkOf L s) y) → am_P am_P0 (d + 5) (am_look tX11_pairs) 119 [.ref 277, .int (nI s), .int (nI i), .int (nI (cel C y.2.1)), am_w1 v4] [.int x, .int (nI i), .ref 323] M1 Q := by
      intro x M1 g1 hx
      have hM1 := oS_trans hM (oS_up g1 (fun a j h => Or.inl (Or.inr h)))
      have L1 := oS_Lay hM1 hL
      have hx01 : x = 0 ∨ x = 1 := by rw [hx]; exact tI_01 _
      have g2 : oS sP M1 (uI M1 323 i x) := ⟨fun a k h => by rw [m_uI_I, if_neg (fun q => h (Or.inr (Or.inr (Or.inl q.1))))], fun _ _ => rfl, fun _ _ => rfl, rfl⟩
      have hM2 := oS_trans hM1 g2
      have L2 := oS_Lay hM2 hL
      simp +decide (disch := omega) only [qX11_pairs_0, qX11_pairs_1, qX11_pairs_2, qX11_pairs_3, lm L1, ni_in_t, ni_tn, am_w1_i, am_w1_r, am_w1_x, am_w1_l, am_w1_w, va_rf_s, am_push_n, am_push_s, am_cs_0, am_cs_i, am_cs_l, am_cs_r, m_uI_K, m_uI_N, m_uI_R, m_uI_L, m_uI_I, m_uL_K, m_uL_N, m_uL_R, m_uL_I, m_uL_L, m_uR_K, m_uR_N, m_uR_I, m_uR_L, m_uR_R, true_and, and_true]
      refine ⟨hx01, ?_⟩
      refine c_m_goes (d + 1) s b C R y.2.1 (uI M1 323 i x) _ L2 (MB_T hB hM2 tld_P) hs y2 (fun M3 g3 h3 => ?_)
      rw [mW_T hM2 tld_P] at h3
      have G3 := onlyG_S g3
      have hM3 := oS_trans hM2 (oS_up G3 (fun a j h => Or.inl (Or.inr h)))
      simp +decide only [qX11_pairs_0, qX11_pairs_1, qX11_pairs_2, qX11_pairs_3, am_w1_i, am_w1_r, am_w1_x, am_w1_l, am_w1_w, va_rf_s, am_push_n, am_push_s, am_cs_0, am_cs_i, am_cs_l, am_cs_r, m_uI_K, m_uI_N, m_uI_R, m_uI_L, m_uI_I, m_uL_K, m_uL_N, m_uL_R, m_uL_I, m_uL_L, m_uR_K, m_uR_N, m_uR_I, m_uR_L, m_uR_R, true_and, and_true]
      have r3 : ∀ a k, ¬ sG a k → ¬ (a = 323 ∧ k = i) → mI M3 a k = mI M a k := fun a k q1 q2 => by
        rw [G3.1 _ _ q1, m_uI_I, if_neg q2, g1.1 _ _ q1]
      have sg : ∀ a k, 322 ≤ a ∨ (a = 277 ∧ k = 65) → ¬ sG a k := fun a k h z => by unfold sG at z; omega
      have hP3 : PrM (mW_ M0 b C R s) v (sndP dep dr ld) (bkOf L s) Y M3 i := ⟨⟨by rw [r3 _ _ (sg _ _ (Or.inr ⟨rfl, rfl⟩)) (by omega)]; exact hP.1.1, fun k y' hk => by rw [r3 _ _ (sg _ _ (Or.inl (by omega))) (by omega)]; exact hH k y' hk⟩, fun k y' hk hy' => by rw [r3 _ _ (sg _ _ (Or.inl (by omega))) (by omega)]; exact hP.2.1 k y' hk hy', fun k j' y' y'' hk hy' hy'' => by rw [r3 _ _ (sg _ _ (Or.inl (by omega))) (by omega)]; exact hP.2.2 k j' y' y'' hk hy' hy''⟩
      refine l_m_pairs3 (d + 4) s b C R v i (mW_ M0 b C R s) (sndP dep dr ld) (bkOf L s) Y y M0 Q (nI (cel C y.2.1)) hL hB hs hS.1 hS.2.1 hS.2.2.1 hS.2.2.2.2 hl hy (fun M4 v4' g4 h4 => ?_) Y.length 0 (by omega) M3 hM3 h3 hP3 ?_ (fun j' y' hj' => by omega)
      · rw [ni_add1]
        exact ih (i + 1) (by omega) M4 _ _ g4 h4
      · rw [G3.1 _ _ (sg _ _ (Or.inl (by omega))), m_uI_I, if_pos ⟨rfl, rfl⟩]
        exact hx
    rw [hX11_pairs_54]
    simp +decide (disch := omega) only [qX11_pairs_0, qX11_pairs_1, qX11_pairs_2, qX11_pairs_3, lm hLM, hP.1.1, hH i y hy, hsa, y3, hla, y4, hsn, hsnd, ni_in_t, ni_tn, am_w1_i, am_w1_r, am_w1_x, am_w1_l, am_w1_w, va_rf_s, am_push_n, am_push_s, am_cs_0, am_cs_i, am_cs_l, am_cs_r, m_uI_K, m_uI_N, m_uI_R, m_uI_L, m_uI_I, m_uL_K, m_uL_N, m_uL_R, m_uL_I, m_uL_L, m_uR_K, m_uR_N, m_uR_I, m_uR_L, m_uR_R, true_and, and_true]
    rw [br_n hlt]
    by_cases c1 : sndP dep dr ld y.2.1 y.2.2
    · rw [tI_t c1, br_n (by decide)]
      refine c_m_withBooks d s b C R v y.2.1 y.1 L M _ hLM hBM hs hSM.1 hSM.2.1 hSM.2.2.1 y2 y1 hKM hO (fun M1 g1 => ?_)
      rw [hwM]
      by_cases c2 : wbP (mW_ M0 b C R s) v (bkOf L s) y.2.1 y.1
      · have hk := key 1 M1 (onlyG_S g1) (tI_t ⟨c1, c2⟩).symm
        simp +decide only [qX11_pairs_0, qX11_pairs_1, qX11_pairs_2, qX11_pairs_3, lm (oS_Lay (onlyG_S g1) hLM), tI_t c2, am_w1_i, am_w1_r, am_w1_x, am_w1_l, am_w1_w, va_rf_s, am_push_n, am_push_s, am_cs_0, am_cs_i, am_cs_l, am_cs_r, m_uI_K, m_uI_N, m_uI_R, m_uI_L, m_uI_I, m_uL_K, m_uL_N, m_uL_R, m_uL_I, m_uL_L, m_uR_K, m_uR_N, m_uR_I, m_uR_L, m_uR_R, true_and, and_true, true_implies, false_implies] at hk ⊢
        exact hk
      · have hk := key 0 M1 (onlyG_S g1) (tI_f (fun z => c2 z.2)).symm
        simp +decide only [qX11_pairs_0, qX11_pairs_1, qX11_pairs_2, qX11_pairs_3, lm (oS_Lay (onlyG_S g1) hLM), tI_f c2, am_w1_i, am_w1_r, am_w1_x, am_w1_l, am_w1_w, va_rf_s, am_push_n, am_push_s, am_cs_0, am_cs_i, am_cs_l, am_cs_r, m_uI_K, m_uI_N, m_uI_R, m_uI_L, m_uI_I, m_uL_K, m_uL_N, m_uL_R, m_uL_I, m_uL_L, m_uR_K, m_uR_N, m_uR_I, m_uR_L, m_uR_R, true_and, and_true, true_implies, false_implies] at hk ⊢
        exact hk
    · rw [tI_f c1, br_p rfl]
      have hk := key 0 M (oS_refl _ _) (tI_f (fun z => c1 z.1)).symm
      simp +decide (disch := omega) only [qX11_pairs_0, qX11_pairs_1, qX11_pairs_2, qX11_pairs_3, lm hLM, ni_in_t, ni_tn, am_w1_i, am_w1_r, am_w1_x, am_w1_l, am_w1_w, va_rf_s, am_push_n, am_push_s, am_cs_0, am_cs_i, am_cs_l, am_cs_r, m_uI_K, m_uI_N, m_uI_R, m_uI_L, m_uI_I, m_uL_K, m_uL_N, m_uL_R, m_uL_I, m_uL_L, m_uR_K, m_uR_N, m_uR_I, m_uR_L, m_uR_R, true_and, and_true, true_implies, false_implies] at hk ⊢
      exact hk
theorem c_m_pairs (d s b C R v : Nat) (dep : Nat → Nat) (dr ld : Nat) (L : List Bk) (Y : List Sy) (M : am_M) (Q : Option Value → am_M → Prop) (hL : Lay M) (hB : MB M b C R) (hs : s < 8) (hS : ShM M b C R s v dep dr ld Y) (hK : BkM M b C L) (hO : bkOK C R L) (hl : Y.length ≤ 48)
    (hQ : ∀ M', oS sP M M' → PrM (mW_ M b C R s) v (sndP dep dr ld) (bkOf L s) Y M' Y.length → Q none M') : am_E am_P0 (d + 5) 247 [.ref 277, .int (nI s)] M Q := by
  rw [eX11_pairs]
  simp +decide only [qX11_pairs_0, qX11_pairs_1, qX11_pairs_2, qX11_pairs_3, lm hL, am_w1_i, am_w1_r, am_w1_x, am_w1_l, am_w1_w, va_rf_s, am_push_n, am_push_s, am_cs_0, am_cs_i, am_cs_l, am_cs_r, m_uI_K, m_uI_N, m_uI_R, m_uI_L, m_uI_I, m_uL_K, m_uL_N, m_uL_R, m_uL_I, m_uL_L, m_uR_K, m_uR_N, m_uR_I, m_uR_L, m_uR_R, true_and, and_true]
  rw [show (0 : Int32) = nI 0 from rfl]
  have g0 : oS sP M (uI M 277 65 (nI 0)) := ⟨fun a j h => by rw [m_uI_I, if_neg (fun z => h (Or.inr (Or.inr (Or.inr (Or.inr z)))))], fun _ _ => rfl, fun _ _ => rfl, rfl⟩
  refine l_m_pairs1 (d + 4) s b C R Y M Q hL hB.1 hB.2.1 hB.2.2.2.2.2.1 hB.2.2.2.2.2.2.2 hs hS.2.2.2.2 am_x am_x (fun M1 g1 h1 => ?_) 48 0 (by omega) _ g0 ⟨by rw [m_uI_I, if_pos ⟨rfl, rfl⟩, bef_0]; rfl, fun i y h => by rw [bef_0] at h; cases h⟩
  have h0 := l_m_pairs2 d s b C R v dep dr ld L Y M Q hL hB hs hS hK hO hl hQ Y.length 0 (by omega) M1 am_x am_x g1 ⟨h1, fun k y hk => by omega, fun k j y y' hk => by omega⟩
  simp +decide only [qX11_pairs_0, qX11_pairs_1, qX11_pairs_2, qX11_pairs_3, am_w1_i, am_w1_r, am_w1_x, am_w1_l, am_w1_w, va_rf_s, am_push_n, am_push_s, am_cs_0, am_cs_i, am_cs_l, am_cs_r, m_uI_K, m_uI_N, m_uI_R, m_uI_L, m_uI_I, m_uL_K, m_uL_N, m_uL_R, m_uL_I, m_uL_L, m_uR_K, m_uR_N, m_uR_I, m_uR_L, m_uR_R, true_and, and_true]
  rw [show (0 : Int32) = nI 0 from rfl]
  exact h0
