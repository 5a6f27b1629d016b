/-! the class: a saying comes, goes; a book comes -/
def rwX (M : am_M) (g k : Nat) (y : Sy) : Prop := mI M (g + 1) k = nI y.1 ∧ mI M (g + 2) k = nI y.2.1 ∧ mI M (g + 3) k = b01 y.2.2
def sIn (g a j : Nat) : Prop := (a = g ∧ j = 5) ∨ a = g + 1 ∨ a = g + 2 ∨ a = g + 3
/-- with one saying more -/
def inY (Y : List Sy) (y0 : Sy) : List Sy := Y.insertIdx (bef Y y0.1).length y0
theorem bef_cut {Y : List Sy} {h i : Nat} (hi : i ≤ Y.length) (h1 : ∀ k y, k < i → Y[k]? = some y → y.1 < h) (h2 : ∀ k y, i ≤ k → Y[k]? = some y → h ≤ y.1) : (bef Y h).length = i := by
  have e : bef Y h = Y.take i := by
    unfold bef
    rw [← List.take_append_drop i Y, List.filter_append]
    have e1 : (Y.take i).filter (fun y => decide (y.1 < h)) = Y.take i := by
      rw [List.filter_eq_self]
      intro y hy
      obtain ⟨k, hk⟩ := List.mem_iff_getElem?.mp hy
      have hkl := (List.getElem?_eq_some_iff.mp hk).1
      rw [List.length_take] at hkl
      rw [List.getElem?_take_of_lt (by omega)] at hk
      simpa using h1 k y (by omega) hk
    have e2 : (Y.drop i).filter (fun y => decide (y.1 < h)) = [] := by
      rw [List.filter_eq_nil_iff]
      intro y hy
      obtain ⟨k, hk⟩ := List.mem_iff_getElem?.mp hy
      rw [List.getElem?_drop] at hk
      have := h2 (i + k) y (by omega) hk
      simp; omega
    rw [e1, e2, List.append_nil, List.take_append_drop]
  rw [e, List.length_take]
  omega
theorem bef_lt {Y : List Sy} (hs : srtY Y) {h k : Nat} {y : Sy} (hy : Y[k]? = some y) : k < (bef Y h).length ↔ y.1 < h := by
  induction Y generalizing k with
  | nil => simp at hy
  | cons a r ih =>
    have hs' := List.pairwise_cons.mp hs
    unfold bef at ih ⊢
    by_cases c : a.1 < h
    · rw [List.filter_cons_of_pos (by simpa using c), List.length_cons]
      cases k with
      | zero => simp at hy; subst hy; exact ⟨fun _ => c, fun _ => by omega⟩
      | succ k =>
        rw [List.getElem?_cons_succ] at hy
        rw [Nat.add_lt_add_iff_right]
        exact ih hs'.2 hy
    · have e2 : r.filter (fun y => decide (y.1 < h)) = [] := by
        rw [List.filter_eq_nil_iff]
        intro x hx
        have := hs'.1 x hx
        simp; omega
      rw [List.filter_cons_of_neg (by simpa using c), e2]
      refine ⟨fun q => by simp at q, fun q => absurd q ?_⟩
      cases k with
      | zero => simp at hy; subst hy; exact c
      | succ k =>
        rw [List.getElem?_cons_succ] at hy
        have := hs'.1 y (List.mem_of_getElem? hy)
        omega
theorem bef_le (Y : List Sy) (h : Nat) : (bef Y h).length ≤ Y.length := List.length_filter_le _ _
theorem inY_mem {Y : List Sy} {y0 y : Sy} : y ∈ inY Y y0 ↔ y = y0 ∨ y ∈ Y := by
  unfold inY
  rw [List.mem_insertIdx (bef_le _ _)]
theorem inY_len {Y : List Sy} {y0 : Sy} : (inY Y y0).length = Y.length + 1 := by
  unfold inY
  rw [List.length_insertIdx_of_le_length (bef_le _ _)]
theorem srtY_of {Y : List Sy} (h : ∀ (i j : Nat) (y y' : Sy), i < j → Y[i]? = some y → Y[j]? = some y' → y.1 < y'.1) : srtY Y := by
  unfold srtY
  rw [List.pairwise_iff_getElem]
  intro i j hi hj hij
  exact h i j _ _ hij (List.getElem?_eq_getElem hi) (List.getElem?_eq_getElem hj)
theorem inY_at {Y : List Sy} {y0 : Sy} (k : Nat) : (inY Y y0)[k]? = if k < (bef Y y0.1).length then Y[k]? else if k = (bef Y y0.1).length then some y0 else Y[k - 1]? := by
  unfold inY
  by_cases c : k < (bef Y y0.1).length
  · rw [if_pos c, List.getElem?_insertIdx_of_lt c]
  · rw [if_neg c]
    by_cases c2 : k = (bef Y y0.1).length
    · rw [if_pos c2, c2, List.getElem?_insertIdx_self, if_pos (bef_le _ _)]
    · rw [if_neg c2, List.getElem?_insertIdx_of_gt (by omega)]
theorem inY_srt {Y : List Sy} {y0 : Sy} (hs : srtY Y) (hn : ∀ y, y ∈ Y → ¬ y.1 = y0.1) : srtY (inY Y y0) := by
  refine srtY_of (fun i j y y' hij hy hy' => ?_)
  rw [inY_at] at hy hy'
  by_cases ci : i < (bef Y y0.1).length
  · rw [if_pos ci] at hy
    have h1 := (bef_lt hs hy).mp ci
    by_cases cj : j < (bef Y y0.1).length
    · rw [if_pos cj] at hy'
      exact srtY_lt hs hy hy' hij
    · rw [if_neg cj] at hy'
      by_cases cj2 : j = (bef Y y0.1).length
      · rw [if_pos cj2] at hy'; cases hy'; exact h1
      · rw [if_neg cj2] at hy'
        exact srtY_lt hs hy hy' (by omega)
  · rw [if_neg ci] at hy
    rw [if_neg (by omega), if_neg (by omega)] at hy'
    by_cases ci2 : i = (bef Y y0.1).length
    · rw [if_pos ci2] at hy
      cases hy
      have h1 : ¬ y'.1 < y0.1 := fun q => by have := (bef_lt hs hy').mpr q; omega
      have := hn y' (List.mem_of_getElem? hy')
      omega
    · rw [if_neg ci2] at hy
      exact srtY_lt hs hy hy' (by omega)
theorem erY_srt {Y : List Sy} {i : Nat} (hs : srtY Y) : srtY (Y.eraseIdx i) := List.Pairwise.sublist (List.eraseIdx_sublist _ _) hs
theorem l_x_insert (d g : Nat) (Y : List Sy) (y0 : Sy) (M0 : am_M) (Q : Option Value → am_M → Prop) (hL : Lay M0) (hg : isSh g) (hn : Y.length < 48) (h5 : mI M0 g 5 = nI Y.length) (hh : y0.1 < 48) (hs : srtY Y) (hno : ∀ y, y ∈ Y → ¬ y.1 = y0.1) (hyl : ∀ y, y ∈ Y → y.1 < 48)
    (hQ : ∀ M', gF (sIn g) nT M0 M' → mI M' g 5 = nI (Y.length + 1) → (∀ k y, (inY Y y0)[k]? = some y → rwX M' g k y) → Q (some (.int (nI (bef Y y0.1).length))) M') :
    ∀ (i : Nat), i ≤ Y.length → ∀ (M : am_M), gF (sIn g) nT M0 M → mI M g 5 = nI Y.length → (∀ k y, k < i → Y[k]? = some y → rwX M g k y) → (∀ k y, i ≤ k → Y[k]? = some y → rwX M g (k + 1) y ∧ y0.1 < y.1) → am_P am_P0 d (am_look tX6_insert) 17 [.ref g, .int (nI y0.1), .int (nI y0.2.1), .int (b01 y0.2.2), .int (nI i)] [] M Q := by
  have b01c : ∀ l : Bool, b01 l = 0 ∨ b01 l = 1 := fun l => by cases l <;> decide
  have fin : ∀ i, i ≤ Y.length → ∀ (M : am_M), gF (sIn g) nT M0 M → mI M g 5 = nI Y.length → (∀ k y, k < i → Y[k]? = some y → rwX M g k y ∧ y.1 < y0.1) → (∀ k y, i ≤ k → Y[k]? = some y → rwX M g (k + 1) y ∧ y0.1 < y.1) → am_P am_P0 d (am_look tX6_insert) 89 [.ref g, .int (nI y0.1), .int (nI y0.2.1), .int (b01 y0.2.2), .int (nI i)] [] M Q := by
    intro i hi M hM h5M h1 h2
    have hLM := gF_LayN hM hL
    have hcut : (bef Y y0.1).length = i := bef_cut hi (fun k y q1 q2 => (h1 k y q1 q2).2) (fun k y q1 q2 => Nat.le_of_lt (h2 k y q1 q2).2)
    have n1 : ¬ (g = g + 1) := by omega
    have n2 : ¬ (g = g + 2) := by omega
    have n3 : ¬ (g = g + 3) := by omega
    simp +decide (disch := omega) only [qX6_insert_0, qX6_insert_1, lw_ hLM hg, h5M, b01c, n1, n2, n3, ni_in_t, ni_tn, ni_add1, am_w1_i, am_w1_r, am_w1_x, am_w1_l, am_w1_w, va_rf_s, am_push_n, am_push_s, am_cs_0, am_cs_i, am_cs_l, am_cs_r, m_uI_K, m_uI_N, m_uI_R, m_uI_L, m_uI_I, m_uL_K, m_uL_N, m_uL_R, m_uL_I, m_uL_L, m_uR_K, m_uR_N, m_uR_I, m_uR_L, m_uR_R, true_and, and_true, true_implies, false_implies, not_true_eq_false, not_false_eq_true, if_true, if_false, false_and, and_false]
    have G : gF (sIn g) nT M (uI (uI (uI (uI M (g + 1) i (nI y0.1)) (g + 2) i (nI y0.2.1)) (g + 3) i (b01 y0.2.2)) g 5 (nI (Y.length + 1))) := gF_trans (gF_i _ (Or.inr (Or.inl rfl))) (gF_trans (gF_i _ (Or.inr (Or.inr (Or.inl rfl)))) (gF_trans (gF_i _ (Or.inr (Or.inr (Or.inr rfl)))) (gF_i _ (Or.inl ⟨rfl, rfl⟩))))
    have h0 := hQ _ (gF_trans hM G) (by rw [m_uI_I, if_pos ⟨rfl, rfl⟩]) (fun k y hy => by
      have key : ∀ k', ¬ k' = i → rwX M g k' y → rwX (uI (uI (uI (uI M (g + 1) i (nI y0.1)) (g + 2) i (nI y0.2.1)) (g + 3) i (b01 y0.2.2)) g 5 (nI (Y.length + 1))) g k' y := fun k' hk' q => by
        obtain ⟨q1, q2, q3⟩ := q
        refine ⟨?_, ?_, ?_⟩
        · rw [m_uI_I, if_neg (by omega), m_uI_I, if_neg (by omega), m_uI_I, if_neg (by omega), m_uI_I, if_neg (by omega)]; exact q1
        · rw [m_uI_I, if_neg (by omega), m_uI_I, if_neg (by omega), m_uI_I, if_neg (by omega), m_uI_I, if_neg (by omega)]; exact q2
        · rw [m_uI_I, if_neg (by omega), m_uI_I, if_neg (by omega), m_uI_I, if_neg (by omega), m_uI_I, if_neg (by omega)]; exact q3
      rw [inY_at, hcut] at hy
      by_cases c : k < i
      · rw [if_pos c] at hy
        exact key k (by omega) (h1 k y c hy).1
      · rw [if_neg c] at hy
        by_cases c2 : k = i
        · rw [if_pos c2] at hy
          cases hy
          subst c2
          refine ⟨?_, ?_, ?_⟩
          · rw [m_uI_I, if_neg (by omega), m_uI_I, if_neg (by omega), m_uI_I, if_neg (by omega), m_uI_I, if_pos ⟨rfl, rfl⟩]
          · rw [m_uI_I, if_neg (by omega), m_uI_I, if_neg (by omega), m_uI_I, if_pos ⟨rfl, rfl⟩]
          · rw [m_uI_I, if_neg (by omega), m_uI_I, if_pos ⟨rfl, rfl⟩]
        · rw [if_neg c2] at hy
          have := (h2 (k - 1) y (by omega) hy).1
          rw [show k - 1 + 1 = k by omega] at this
          exact key k c2 this)
    rw [hcut] at h0
    exact h0
  intro i
  induction i with
  | zero =>
    intro hi M hM h5M h1 h2
    have h0 := fin 0 hi M hM h5M (fun k y hk => by omega) h2
    rw [hX6_insert_17]
    simp +decide only [qX6_insert_0, qX6_insert_1, lw_ (gF_LayN hM hL) hg, h5M, am_w1_i, am_w1_r, am_w1_x, am_w1_l, am_w1_w, va_rf_s, am_push_n, am_push_s, am_cs_0, am_cs_i, am_cs_l, am_cs_r, m_uI_K, m_uI_N, m_uI_R, m_uI_L, m_uI_I, m_uL_K, m_uL_N, m_uL_R, m_uL_I, m_uL_L, m_uR_K, m_uR_N, m_uR_I, m_uR_L, m_uR_R, true_and, and_true, true_implies, false_implies, not_true_eq_false, not_false_eq_true, if_true, if_false, false_and, and_false] at h0 ⊢
    exact h0
  | succ i ih =>
    intro hi M hM h5M h1 h2
    have hLM := gF_LayN hM hL
    obtain ⟨y, hy⟩ : ∃ y, Y[i]? = some y := ⟨Y[i]'(by omega), List.getElem?_eq_getElem (by omega)⟩
    obtain ⟨r1, r2, r3⟩ := h1 i y (by omega) hy
    have hy48 := hyl y (List.mem_of_getElem? hy)
    have hi0 : ¬ nI (i + 1) ≤ 0 := by rw [show (0 : Int32) = nI 0 from rfl, ni_le (by omega) (by omega)]; omega
    by_cases c : y0.1 < y.1
    · have n1 : ¬ (g = g + 1) := by omega
      have h0 := ih (by omega) (uI (uI (uI M (g + 1) (i + 1) (nI y.1)) (g + 2) (i + 1) (nI y.2.1)) (g + 3) (i + 1) (b01 y.2.2)) (gF_trans hM (gF_trans (gF_i _ (Or.inr (Or.inl rfl))) (gF_trans (gF_i _ (Or.inr (Or.inr (Or.inl rfl)))) (gF_i _ (Or.inr (Or.inr (Or.inr rfl))))))) (by rw [m_uI_I, if_neg (by omega), m_uI_I, if_neg (by omega), m_uI_I, if_neg (by omega)]; exact h5M) (fun k u hk hu => ?_) (fun k u hk hu => ?_)
      · rw [hX6_insert_17]
        have hb := b01c y.2.2
        simp +decide (disch := omega) only [qX6_insert_0, qX6_insert_1, lw_ hLM hg, h5M, ni_sub1, ni_dec, r1, r2, r3, hb, Nat.add_left_cancel_iff, ni_in_t, ni_tn, ni_add1, am_w1_i, am_w1_r, am_w1_x, am_w1_l, am_w1_w, va_rf_s, am_push_n, am_push_s, am_cs_0, am_cs_i, am_cs_l, am_cs_r, m_uI_K, m_uI_N, m_uI_R, m_uI_L, m_uI_I, m_uL_K, m_uL_N, m_uL_R, m_uL_I, m_uL_L, m_uR_K, m_uR_N, m_uR_I, m_uR_L, m_uR_R, true_and, and_true, true_implies, false_implies, not_true_eq_false, not_false_eq_true, if_true, if_false, false_and, and_false]
        rw [br_n hi0, br_n (by rw [ni_le (by omega) (by omega)]; omega)]
        exact h0
      · obtain ⟨q1, q2, q3⟩ := h1 k u (by omega) hu
        refine ⟨?_, ?_, ?_⟩
        · rw [m_uI_I, if_neg (by omega), m_uI_I, if_neg (by omega), m_uI_I, if_neg (by omega)]; exact q1
        · rw [m_uI_I, if_neg (by omega), m_uI_I, if_neg (by omega), m_uI_I, if_neg (by omega)]; exact q2
        · rw [m_uI_I, if_neg (by omega), m_uI_I, if_neg (by omega), m_uI_I, if_neg (by omega)]; exact q3
      · by_cases e : k = i
        · subst e
          cases hy.symm.trans hu
          refine ⟨⟨?_, ?_, ?_⟩, c⟩
          · rw [m_uI_I, if_neg (by omega), m_uI_I, if_neg (by omega), m_uI_I, if_pos ⟨rfl, rfl⟩]
          · rw [m_uI_I, if_neg (by omega), m_uI_I, if_pos ⟨rfl, rfl⟩]
          · rw [m_uI_I, if_pos ⟨rfl, rfl⟩]
        · obtain ⟨⟨q1, q2, q3⟩, q4⟩ := h2 k u (by omega) hu
          refine ⟨⟨?_, ?_, ?_⟩, q4⟩
          · rw [m_uI_I, if_neg (by omega), m_uI_I, if_neg (by omega), m_uI_I, if_neg (by omega)]; exact q1
          · rw [m_uI_I, if_neg (by omega), m_uI_I, if_neg (by omega), m_uI_I, if_neg (by omega)]; exact q2
          · rw [m_uI_I, if_neg (by omega), m_uI_I, if_neg (by omega), m_uI_I, if_neg (by omega)]; exact q3
    · have hne := hno y (List.mem_of_getElem? hy)
      have h0 := fin (i + 1) hi M hM h5M (fun k u hk hu => ⟨h1 k u hk hu, by
        by_cases e : k = i
        · subst e; cases hy.symm.trans hu; omega
        · have := srtY_lt hs hu hy (by omega); omega⟩) h2
      rw [hX6_insert_17]
      simp +decide (disch := omega) only [qX6_insert_0, qX6_insert_1, lw_ hLM hg, h5M, ni_sub1, r1, ni_in_t, ni_tn, ni_add1, am_w1_i, am_w1_r, am_w1_x, am_w1_l, am_w1_w, va_rf_s, am_push_n, am_push_s, am_cs_0, am_cs_i, am_cs_l, am_cs_r, m_uI_K, m_uI_N, m_uI_R, m_uI_L, m_uI_I, m_uL_K, m_uL_N, m_uL_R, m_uL_I, m_uL_L, m_uR_K, m_uR_N, m_uR_I, m_uR_L, m_uR_R, true_and, and_true, true_implies, false_implies, not_true_eq_false, not_false_eq_true, if_true, if_false, false_and, and_false] at h0 ⊢
      rw [br_n hi0, br_p (by rw [ni_le (by omega) (by omega)]; omega)]
      exact h0
theorem c_x_insert (d g : Nat) (Y : List Sy) (y0 : Sy) (M : am_M) (Q : Option Value → am_M → Prop) (hL : Lay M) (hg : isSh g) (hS : SyX M g Y) (hn : Y.length < 48) (hh : y0.1 < 48) (hp : y0.2.1 < 256) (hs : srtY Y) (hno : ∀ y, y ∈ Y → ¬ y.1 = y0.1)
    (hQ : ∀ M', gF (sIn g) nT M M' → SyX M' g (inY Y y0) → Q (some (.int (nI (bef Y y0.1).length))) M') : am_E am_P0 d 66 [.ref g, .int (nI y0.1), .int (nI y0.2.1), .int (b01 y0.2.2)] M Q := by
  obtain ⟨h5, h48, h3⟩ := hS
  have hlt : nI Y.length < 48 := by rw [show (48 : Int32) = nI 48 from rfl, ni_lt (by omega) (by omega)]; exact hn
  have hall : ∀ y, y ∈ Y → y.1 < 48 ∧ y.2.1 < 256 := fun y hy => by
    obtain ⟨k, hk⟩ := List.mem_iff_getElem?.mp hy
    exact (h3 k y hk).1
  have h0 := l_x_insert d g Y y0 M Q hL hg hn h5 hh hs hno (fun y hy => (hall y hy).1) (fun M' g1 g2 g3 => hQ M' g1 ⟨by rw [inY_len]; exact g2, by rw [inY_len]; omega, fun k y hy => ⟨by
    rcases inY_mem.mp (List.mem_of_getElem? hy) with rfl | q
    · exact ⟨hh, hp⟩
    · exact hall y q, g3 k y hy⟩⟩) Y.length (Nat.le_refl _) M (gF_refl _ _ _) h5 (fun k y hk hy => (h3 k y hy).2) (fun k y hk hy => by have := (List.getElem?_eq_some_iff.mp hy).1; omega)
  rw [eX6_insert]
  simp +decide only [qX6_insert_0, qX6_insert_1, lw_ hL hg, h5, am_w1_i, am_w1_r, am_w1_x, am_w1_l, am_w1_w, va_rf_s, am_push_n, am_push_s, am_cs_0, am_cs_i, am_cs_l, am_cs_r, m_uI_K, m_uI_N, m_uI_R, m_uI_L, m_uI_I, m_uL_K, m_uL_N, m_uL_R, m_uL_I, m_uL_L, m_uR_K, m_uR_N, m_uR_I, m_uR_L, m_uR_R, true_and, and_true, true_implies, false_implies, not_true_eq_false, not_false_eq_true, if_true, if_false, false_and, and_false]
  rw [br_p hlt]
  exact h0
theorem l_x_remove (d g i : Nat) (Y : List Sy) (M0 : am_M) (Q : Option Value → am_M → Prop) (x1 : Int32) (hL : Lay M0) (hg : isSh g) (hi : i < Y.length) (h48 : Y.length ≤ 48)
    (hQ : ∀ M', gF (sIn g) nT M0 M' → mI M' g 5 = nI (Y.length - 1) → (∀ k y, (Y.eraseIdx i)[k]? = some y → rwX M' g k y) → Q none M') :
    ∀ (r k : Nat), k + 1 + r = Y.length → i ≤ k → ∀ (M : am_M), gF (sIn g) nT M0 M → mI M g 5 = nI Y.length → (∀ j y, j < k → (Y.eraseIdx i)[j]? = some y → rwX M g j y) → (∀ j y, k < j → Y[j]? = some y → rwX M g j y) → am_P am_P0 d (am_look tX6_remove) 2 [.ref g, .int x1, .int (nI k)] [] M Q := by
  have b01c : ∀ l : Bool, b01 l = 0 ∨ b01 l = 1 := fun l => by cases l <;> decide
  intro r
  induction r with
  | zero =>
    intro k hk hik M hM h5M h1 h2
    have hLM := gF_LayN hM hL
    have hle : nI Y.length ≤ nI (k + 1) := (ni_le (by omega) (by omega)).mpr (by omega)
    have e1 : nI Y.length - 1 = nI (Y.length - 1) := by rw [show (1 : Int32) = nI 1 from rfl, ni_sub (by omega)]
    have h0 := hQ (uI M g 5 (nI (Y.length - 1))) (gF_trans hM (gF_i _ (Or.inl ⟨rfl, rfl⟩))) (by rw [m_uI_I, if_pos ⟨rfl, rfl⟩]) (fun j y hy => by
      have hjl := (List.getElem?_eq_some_iff.mp hy).1
      rw [List.length_eraseIdx_of_lt hi] at hjl
      obtain ⟨q1, q2, q3⟩ := h1 j y (by omega) hy
      exact ⟨by rw [m_uI_I, if_neg (by omega)]; exact q1, by rw [m_uI_I, if_neg (by omega)]; exact q2, by rw [m_uI_I, if_neg (by omega)]; exact q3⟩)
    rw [hX6_remove_2]
    simp +decide only [qX6_remove_0, qX6_remove_1, lw_ hLM hg, h5M, e1, ni_add1, am_w1_i, am_w1_r, am_w1_x, am_w1_l, am_w1_w, va_rf_s, am_push_n, am_push_s, am_cs_0, am_cs_i, am_cs_l, am_cs_r, m_uI_K, m_uI_N, m_uI_R, m_uI_L, m_uI_I, m_uL_K, m_uL_N, m_uL_R, m_uL_I, m_uL_L, m_uR_K, m_uR_N, m_uR_I, m_uR_L, m_uR_R, true_and, and_true, true_implies, false_implies, not_true_eq_false, not_false_eq_true, if_true, if_false, false_and, and_false]
    rw [br_p hle]
    exact h0
  | succ r ih =>
    intro k hk hik M hM h5M h1 h2
    have hLM := gF_LayN hM hL
    have hlt : ¬ nI Y.length ≤ nI (k + 1) := by rw [ni_le (by omega) (by omega)]; omega
    obtain ⟨y, hy⟩ : ∃ y, Y[k + 1]? = some y := ⟨Y[k + 1]'(by omega), List.getElem?_eq_getElem (by omega)⟩
    obtain ⟨r1, r2, r3⟩ := h2 (k + 1) y (by omega) hy
    have hb := b01c y.2.2
    have h0 := ih (k + 1) (by omega) (by omega) (uI (uI (uI M (g + 1) k (nI y.1)) (g + 2) k (nI y.2.1)) (g + 3) k (b01 y.2.2)) (gF_trans hM (gF_trans (gF_i _ (Or.inr (Or.inl rfl))) (gF_trans (gF_i _ (Or.inr (Or.inr (Or.inl rfl)))) (gF_i _ (Or.inr (Or.inr (Or.inr rfl))))))) (by rw [m_uI_I, if_neg (by omega), m_uI_I, if_neg (by omega), m_uI_I, if_neg (by omega)]; exact h5M) (fun j u hj hu => ?_) (fun j u hj hu => ?_)
    · rw [hX6_remove_2]
      simp +decide (disch := omega) only [qX6_remove_0, qX6_remove_1, lw_ hLM hg, h5M, r1, r2, r3, hb, Nat.add_left_cancel_iff, ni_in_t, ni_tn, ni_add1, am_w1_i, am_w1_r, am_w1_x, am_w1_l, am_w1_w, va_rf_s, am_push_n, am_push_s, am_cs_0, am_cs_i, am_cs_l, am_cs_r, m_uI_K, m_uI_N, m_uI_R, m_uI_L, m_uI_I, m_uL_K, m_uL_N, m_uL_R, m_uL_I, m_uL_L, m_uR_K, m_uR_N, m_uR_I, m_uR_L, m_uR_R, true_and, and_true, true_implies, false_implies, not_true_eq_false, not_false_eq_true, if_true, if_false, false_and, and_false]
      rw [br_n hlt]
      exact h0
    · by_cases e : j = k
      · subst e
        rw [List.getElem?_eraseIdx_of_ge hik] at hu
        cases hy.symm.trans hu
        refine ⟨?_, ?_, ?_⟩
        · rw [m_uI_I, if_neg (by omega), m_uI_I, if_neg (by omega), m_uI_I, if_pos ⟨rfl, rfl⟩]
        · rw [m_uI_I, if_neg (by omega), m_uI_I, if_pos ⟨rfl, rfl⟩]
        · rw [m_uI_I, if_pos ⟨rfl, rfl⟩]
      · obtain ⟨q1, q2, q3⟩ := h1 j u (by omega) hu
        refine ⟨?_, ?_, ?_⟩
        · rw [m_uI_I, if_neg (by omega), m_uI_I, if_neg (by omega), m_uI_I, if_neg (by omega)]; exact q1
        · rw [m_uI_I, if_neg (by omega), m_uI_I, if_neg (by omega), m_uI_I, if_neg (by omega)]; exact q2
        · rw [m_uI_I, if_neg (by omega), m_uI_I, if_neg (by omega), m_uI_I, if_neg (by omega)]; exact q3
    · obtain ⟨q1, q2, q3⟩ := h2 j u (by omega) hu
      refine ⟨?_, ?_, ?_⟩
      · rw [m_uI_I, if_neg (by omega), m_uI_I, if_neg (by omega), m_uI_I, if_neg (by omega)]; exact q1
      · rw [m_uI_I, if_neg (by omega), m_uI_I, if_neg (by omega), m_uI_I, if_neg (by omega)]; exact q2
      · rw [m_uI_I, if_neg (by omega), m_uI_I, if_neg (by omega), m_uI_I, if_neg (by omega)]; exact q3
theorem c_x_remove (d g i : Nat) (Y : List Sy) (M : am_M) (Q : Option Value → am_M → Prop) (hL : Lay M) (hg : isSh g) (hS : SyX M g Y) (hi : i < Y.length)
    (hQ : ∀ M', gF (sIn g) nT M M' → SyX M' g (Y.eraseIdx i) → Q none M') : am_E am_P0 d 67 [.ref g, .int (nI i)] M Q := by
  obtain ⟨h5, h48, h3⟩ := hS
  have hall : ∀ y, y ∈ Y → y.1 < 48 ∧ y.2.1 < 256 := fun y hy => by
    obtain ⟨k, hk⟩ := List.mem_iff_getElem?.mp hy
    exact (h3 k y hk).1
  have h0 := l_x_remove d g i Y M Q (nI i) hL hg hi h48 (fun M' g1 g2 g3 => hQ M' g1 ⟨by rw [List.length_eraseIdx_of_lt hi]; exact g2, by rw [List.length_eraseIdx_of_lt hi]; omega, fun k y hy => ⟨hall y ((List.eraseIdx_sublist _ _).subset (List.mem_of_getElem? hy)), g3 k y hy⟩⟩) (Y.length - (i + 1)) i (by omega) (Nat.le_refl _) M (gF_refl _ _ _) h5 (fun j y hj hy => by
    rw [List.getElem?_eraseIdx_of_lt hj] at hy
    exact (h3 j y hy).2) (fun j y hj hy => (h3 j y hy).2)
  rw [eX6_remove]
  simp +decide only [qX6_remove_0, qX6_remove_1, am_w1_i, am_w1_r, am_w1_x, am_w1_l, am_w1_w, va_rf_s, am_push_n, am_push_s, am_cs_0, am_cs_i, am_cs_l, am_cs_r, m_uI_K, m_uI_N, m_uI_R, m_uI_L, m_uI_I, m_uL_K, m_uL_N, m_uL_R, m_uL_I, m_uL_L, m_uR_K, m_uR_N, m_uR_I, m_uR_L, m_uR_R, true_and, and_true, true_implies, false_implies, not_true_eq_false, not_false_eq_true, if_true, if_false, false_and, and_false]
  exact h0
def sEb (g a j : Nat) : Prop := (a = g ∧ j = 9) ∨ a = g + 4 ∨ a = g + 5 ∨ a = g + 6
theorem c_x_enterBook (d g : Nat) (B : List Fct) (f : Fct) (M : am_M) (Q : Option Value → am_M → Prop) (hL : Lay M) (hg : isSh g) (hB : BkX M g B) (hn : B.length < 12) (hf : f.1 < 256 ∧ f.2.1 ≤ f.2.2 ∧ f.2.2 < 48)
    (hQ : ∀ M', gF (sEb g) nT M M' → BkX M' g (B ++ [f]) → Q none M') : am_E am_P0 d 68 [.ref g, .int (nI f.1), .int (nI f.2.1), .int (nI f.2.2)] M Q := by
  obtain ⟨h9, h12, h3⟩ := hB
  have hlt : ¬ (12 : Int32) ≤ nI B.length := by rw [show (12 : Int32) = nI 12 from rfl, ni_le (by omega) (by omega)]; omega
  have n1 : ¬ (g = g + 4) := by omega
  have n2 : ¬ (g = g + 5) := by omega
  have n3 : ¬ (g = g + 6) := by omega
  have G : gF (sEb g) nT M (uI (uI (uI (uI M (g + 4) B.length (nI f.1)) (g + 5) B.length (nI f.2.1)) (g + 6) B.length (nI f.2.2)) g 9 (nI (B.length + 1))) := gF_trans (gF_i _ (Or.inr (Or.inl rfl))) (gF_trans (gF_i _ (Or.inr (Or.inr (Or.inl rfl)))) (gF_trans (gF_i _ (Or.inr (Or.inr (Or.inr rfl)))) (gF_i _ (Or.inl ⟨rfl, rfl⟩))))
  have h0 := hQ _ G ⟨by rw [m_uI_I, if_pos ⟨rfl, rfl⟩, List.length_append]; rfl, by rw [List.length_append]; show B.length + 1 ≤ 12; omega, fun i u hu => by
    by_cases e : i < B.length
    · rw [List.getElem?_append_left e] at hu
      obtain ⟨q1, q2, q3, q4⟩ := h3 i u hu
      refine ⟨q1, ?_, ?_, ?_⟩
      · rw [m_uI_I, if_neg (by omega), m_uI_I, if_neg (by omega), m_uI_I, if_neg (by omega), m_uI_I, if_neg (by omega)]; exact q2
      · rw [m_uI_I, if_neg (by omega), m_uI_I, if_neg (by omega), m_uI_I, if_neg (by omega), m_uI_I, if_neg (by omega)]; exact q3
      · rw [m_uI_I, if_neg (by omega), m_uI_I, if_neg (by omega), m_uI_I, if_neg (by omega), m_uI_I, if_neg (by omega)]; exact q4
    · rw [List.getElem?_append_right (by omega)] at hu
      have hl := (List.getElem?_eq_some_iff.mp hu).1
      have e2 : i = B.length := by
        have : ([f] : List Fct).length = 1 := rfl
        omega
      subst e2
      rw [Nat.sub_self] at hu
      cases hu
      refine ⟨hf, ?_, ?_, ?_⟩
      · rw [m_uI_I, if_neg (by omega), m_uI_I, if_neg (by omega), m_uI_I, if_neg (by omega), m_uI_I, if_pos ⟨rfl, rfl⟩]
      · rw [m_uI_I, if_neg (by omega), m_uI_I, if_neg (by omega), m_uI_I, if_pos ⟨rfl, rfl⟩]
      · rw [m_uI_I, if_neg (by omega), m_uI_I, if_pos ⟨rfl, rfl⟩]⟩
  rw [eX6_enterBook]
  simp +decide (disch := omega) only [qX6_enterBook, lw_ hL hg, h9, n1, n2, n3, ni_in_t, ni_tn, ni_add1, am_w1_i, am_w1_r, am_w1_x, am_w1_l, am_w1_w, va_rf_s, am_push_n, am_push_s, am_cs_0, am_cs_i, am_cs_l, am_cs_r, m_uI_K, m_uI_N, m_uI_R, m_uI_L, m_uI_I, m_uL_K, m_uL_N, m_uL_R, m_uL_I, m_uL_L, m_uR_K, m_uR_N, m_uR_I, m_uR_L, m_uR_R, true_and, and_true, true_implies, false_implies, not_true_eq_false, not_false_eq_true, if_true, if_false, false_and, and_false]
  rw [br_n hlt]
  exact h0
