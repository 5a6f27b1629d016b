/-! on: what an image tells -/
def onR (C : Nat) (T : Nat → Nat) (i : Nat) : Sy := (T (1 + 4 * i + 1), plc C (T (1 + 4 * i + 2)), T (1 + 4 * i + 3) == 1)
def onY (C : Nat) (T : Nat → Nat) : Nat → Nat → List Sy
  | 0, _ => []
  | i + 1, s => if T (1 + 4 * i) = s then inY (onY C T i s) (onR C T i) else onY C T i s
def onG (C : Nat) (T : Nat → Nat) (k : Nat) : Nat → List (Nat × Nat × Nat)
  | 0 => []
  | j + 1 => onG C T k j ++ [(T (k + 1 + 3 * j), plc C (T (k + 1 + 3 * j + 1)), T (k + 1 + 3 * j + 2))]
theorem onY_t {C : Nat} {T : Nat → Nat} {i s : Nat} (h : T (1 + 4 * i) = s) : onY C T (i + 1) s = inY (onY C T i s) (onR C T i) := by
  show (if T (1 + 4 * i) = s then _ else _) = _
  rw [if_pos h]
theorem onY_f {C : Nat} {T : Nat → Nat} {i s : Nat} (h : ¬ T (1 + 4 * i) = s) : onY C T (i + 1) s = onY C T i s := by
  show (if T (1 + 4 * i) = s then _ else _) = _
  rw [if_neg h]
theorem onY_mem {C : Nat} {T : Nat → Nat} {s : Nat} : ∀ (i : Nat) (y : Sy), y ∈ onY C T i s → ∃ j, j < i ∧ T (1 + 4 * j) = s ∧ y = onR C T j := by
  intro i
  induction i with
  | zero => intro y hy; cases hy
  | succ i ih =>
    intro y hy
    by_cases c : T (1 + 4 * i) = s
    · rw [onY_t c] at hy
      rcases inY_mem.mp hy with q | q
      · exact ⟨i, by omega, c, q⟩
      · obtain ⟨j, h1, h2⟩ := ih y q
        exact ⟨j, by omega, h2⟩
    · rw [onY_f c] at hy
      obtain ⟨j, h1, h2⟩ := ih y hy
      exact ⟨j, by omega, h2⟩
theorem ord_mono {N CR n : Nat} {T : Nat → Nat} (h : ∀ i, i < n → rowOK N CR T i) : ∀ (i j : Nat), j < i → i < n → ordT T j < ordT T i := by
  intro i
  induction i with
  | zero => intro j hj; omega
  | succ i ih =>
    intro j hj hi
    have h1 := (h (i + 1) hi).2.2.2.2
    have h2 : ordT T i < ordT T (i + 1) := by
      rcases h1 with q | q
      · omega
      · exact q
    by_cases e : j = i
    · rw [e]; exact h2
    · have := ih j (by omega) (by omega); omega
theorem onY_no {N CR n C : Nat} {T : Nat → Nat} (h : ∀ i, i < n → rowOK N CR T i) {i : Nat} (hi : i < n) : ∀ y, y ∈ onY C T i (T (1 + 4 * i)) → ¬ y.1 = (onR C T i).1 := by
  intro y hy q
  obtain ⟨j, h1, h2, h3⟩ := onY_mem i y hy
  have := ord_mono h i j h1 hi
  subst h3
  have e1 : (onR C T j).1 = T (1 + 4 * j + 1) := rfl
  have e2 : (onR C T i).1 = T (1 + 4 * i + 1) := rfl
  rw [e1, e2] at q
  unfold ordT at this
  rw [h2, q] at this
  omega
theorem onY_srt {N CR n C : Nat} {T : Nat → Nat} (h : ∀ i, i < n → rowOK N CR T i) (s : Nat) : ∀ (i : Nat), i ≤ n → srtY (onY C T i s) := by
  intro i
  induction i with
  | zero => intro _; exact List.Pairwise.nil
  | succ i ih =>
    intro hi
    by_cases c : T (1 + 4 * i) = s
    · rw [onY_t c]
      exact inY_srt (ih (by omega)) (by rw [← c]; exact onY_no h (by omega))
    · rw [onY_f c]; exact ih (by omega)
theorem onY_ok {n : Nat} {D : Dat} {T : Nat → Nat} (hD : dOK D) (h : ∀ i, i < n → rowOK (dN D) (dC D * dR D) T i) {i s : Nat} (hi : i ≤ n) : ∀ y, y ∈ onY (dC D) T i s → y.1 < 48 ∧ vld (dC D) (dR D) y.2.1 := by
  intro y hy
  obtain ⟨j, h1, h2, h3⟩ := onY_mem i y hy
  have hr := h j (by omega)
  subst h3
  exact ⟨hr.2.1, (pl_n1 hD hr.2.2.1).2.1⟩
theorem onY_out {N CR n C : Nat} {T : Nat → Nat} (h : ∀ i, i < n → rowOK N CR T i) {s : Nat} (hs : N ≤ s) : ∀ (i : Nat), i ≤ n → onY C T i s = [] := by
  intro i
  induction i with
  | zero => intro _; rfl
  | succ i ih =>
    intro hi
    have := (h i (by omega)).1
    rw [onY_f (by omega)]
    exact ih (by omega)
theorem sumF_0 (N : Nat) : sumF (fun _ => 0) N = 0 := by
  induction N with
  | zero => rfl
  | succ N ih => show sumF _ N + 0 = 0; rw [ih]
theorem onY_tot {N CR n C : Nat} {T : Nat → Nat} (h : ∀ i, i < n → rowOK N CR T i) : ∀ (i : Nat), i ≤ n → sumF (fun s => (onY C T i s).length) N = i := by
  intro i
  induction i with
  | zero => intro _; exact sumF_0 N
  | succ i ih =>
    intro hi
    have hN := (h i (by omega)).1
    have := sumF_one (f := fun s => (onY C T i s).length) (g := fun s => (onY C T (i + 1) s).length) (s := T (1 + 4 * i)) (by rw [onY_t rfl, inY_len]) (fun s hs => by rw [onY_f (fun q => hs q.symm)]) N
    rw [this, ih (by omega), if_pos hN]
theorem onG_len (C : Nat) (T : Nat → Nat) (k : Nat) : ∀ j, (onG C T k j).length = j := by
  intro j
  induction j with
  | zero => rfl
  | succ j ih => show (onG C T k j ++ [_]).length = j + 1; rw [List.length_append, ih]; rfl
theorem onG_ok {D : Dat} {T : Nat → Nat} {k n : Nat} (hD : dOK D) (h : ∀ j, j < n → sgrOK (dC D * dR D) T k j) : ∀ j, j ≤ n → ∀ g, g ∈ onG (dC D) T k j → g.1 ≤ 3 ∧ vld (dC D) (dR D) g.2.1 ∧ g.2.2 < 48 := by
  intro j
  induction j with
  | zero => intro _ g hg; cases hg
  | succ j ih =>
    intro hj g hg
    have hg' : g ∈ onG (dC D) T k j ++ [(T (k + 1 + 3 * j), plc (dC D) (T (k + 1 + 3 * j + 1)), T (k + 1 + 3 * j + 2))] := hg
    rcases List.mem_append.mp hg' with q | q
    · exact ih (by omega) g q
    · rw [List.mem_singleton] at q
      subst q
      have := h j (by omega)
      exact ⟨this.1, (pl_n1 hD this.2.1).2.1, this.2.2⟩
abbrev datOn (D : Dat) (T : Nat → Nat) : Dat := datY D ((List.range (dN D)).map (onY (dC D) T (T 0))) (onG (dC D) T (1 + 4 * T 0) (T (1 + 4 * T 0)))
theorem dY_on {D : Dat} {T : Nat → Nat} (h : ∀ i, i < T 0 → rowOK (dN D) (dC D * dR D) T i) (s : Nat) : dY (datOn D T) s = onY (dC D) T (T 0) s := by
  show ((List.range (dN D)).map (onY (dC D) T (T 0))).getD s [] = _
  rw [List.getD_eq_getElem?_getD, List.getElem?_map]
  by_cases c : s < dN D
  · rw [List.getElem?_range c]; rfl
  · rw [List.getElem?_eq_none (by rw [List.length_range]; omega), onY_out h (by omega) (T 0) (Nat.le_refl _)]; rfl
theorem tot_on {D : Dat} {T : Nat → Nat} (h : ∀ i, i < T 0 → rowOK (dN D) (dC D * dR D) T i) : dTot (datOn D T) = T 0 := by
  unfold dTot
  rw [sumF_ext (g := fun s => (onY (dC D) T (T 0) s).length) _ (fun i _ => by rw [dY_on h])]
  exact onY_tot h (T 0) (Nat.le_refl _)
theorem dOK_on {D : Dat} {T : Nat → Nat} {n : Nat} (hD : dOK D) (h : imOK (dN D) (dC D * dR D) T n) : dOK (datOn D T) := by
  obtain ⟨⟨o1, o2, ⟨o3, o3', o3''⟩, o4, o5, o6, o7, ⟨o8, o9⟩, o10⟩, hs⟩ := id hD
  obtain ⟨⟨h1, h2⟩, ⟨h3, h4, h5⟩, h6, h7, h8⟩ := h
  refine ⟨⟨o1, o2, ⟨o3, ?_, o3''⟩, fun s y hy => ?_, fun s => ?_, ?_, o7, ⟨?_, fun g hg => ?_⟩, o10⟩, ?_⟩
  · show ((List.range (dN D)).map _).length = (dSh D).length
    rw [List.length_map, List.length_range]
  · rw [dY_on h7] at hy
    exact onY_ok hD h7 (Nat.le_refl _) y hy
  · rw [dY_on h7]
    exact onY_srt h7 s _ (Nat.le_refl _)
  · rw [tot_on h7]; exact h2
  · show (onG _ _ _ _).length ≤ 40
    rw [onG_len]; exact h4
  · exact onG_ok hD h8 _ (Nat.le_refl _) g hg
  · rcases hs with q | q
    · exact Or.inl q
    · refine Or.inr ⟨q.1, q.2.1, q.2.2.1, ?_⟩
      show onG (dC D) T (1 + 4 * T 0) (T (1 + 4 * T 0)) = []
      have hT0 : T (1 + 4 * T 0) = 0 := by
        apply Classical.byContradiction
        intro w
        have := (h8 0 (by omega)).2.1
        rw [q.1, Nat.zero_mul] at this
        omega
      rw [hT0]; rfl
theorem SgX_app {M : am_M} {z a p t : Nat} {L : List (Nat × Nat × Nat)} (h : SgX M z L) : SgX (spX M z L.length (nI a) (nI p) (nI t)) z (L ++ [(a, p, t)]) := by
  refine ⟨by rw [m_uI_I, if_pos ⟨rfl, rfl⟩, List.length_append]; rfl, fun i g hi => ?_⟩
  by_cases e : i < L.length
  · rw [List.getElem?_append_left e] at hi
    obtain ⟨q1, q2, q3⟩ := h.2 i g hi
    refine ⟨?_, ?_, ?_⟩
    · rw [m_uI_I, if_neg (by omega), m_uI_I, if_neg (by omega), m_uI_I, if_neg (by omega), m_uI_I, if_neg (by omega)]; exact q1
    · rw [m_uI_I, if_neg (by omega), m_uI_I, if_neg (by omega), m_uI_I, if_neg (by omega), m_uI_I, if_neg (by omega)]; exact q2
    · rw [m_uI_I, if_neg (by omega), m_uI_I, if_neg (by omega), m_uI_I, if_neg (by omega), m_uI_I, if_neg (by omega)]; exact q3
  · rw [List.getElem?_append_right (by omega)] at hi
    have hl := (List.getElem?_eq_some_iff.mp hi).1
    have e1 : ([(a, p, t)] : List (Nat × Nat × Nat)).length = 1 := rfl
    have e2 : i = L.length := by omega
    subst e2
    rw [Nat.sub_self] at hi
    cases hi
    refine ⟨?_, ?_, ?_⟩
    · rw [m_uI_I, if_neg (by omega), m_uI_I, if_neg (by omega), m_uI_I, if_neg (by omega), m_uI_I, if_pos ⟨rfl, rfl⟩]
    · rw [m_uI_I, if_neg (by omega), m_uI_I, if_neg (by omega), m_uI_I, if_pos ⟨rfl, rfl⟩]
    · rw [m_uI_I, if_neg (by omega), m_uI_I, if_pos ⟨rfl, rfl⟩]
theorem SgM_app {M : am_M} {b C a p t : Nat} {L : List (Nat × Nat × Nat)} (h : SgM M b C L) : SgM (spM M b L.length (nI a) (nI (cel C p)) (nI t)) b C (L ++ [(a, p, t)]) := by
  refine ⟨by rw [m_uI_I, if_pos ⟨rfl, rfl⟩, List.length_append]; rfl, fun i g hi => ?_⟩
  by_cases e : i < L.length
  · rw [List.getElem?_append_left e] at hi
    obtain ⟨q1, q2, q3⟩ := h.2 i g hi
    refine ⟨?_, ?_, ?_⟩
    · rw [m_uI_I, if_neg (by omega), m_uI_I, if_neg (by omega), m_uI_I, if_neg (by omega), m_uI_I, if_neg (by omega)]; exact q1
    · rw [m_uI_I, if_neg (by omega), m_uI_I, if_neg (by omega), m_uI_I, if_neg (by omega), m_uI_I, if_neg (by omega)]; exact q2
    · rw [m_uI_I, if_neg (by omega), m_uI_I, if_neg (by omega), m_uI_I, if_neg (by omega), m_uI_I, if_neg (by omega)]; exact q3
  · rw [List.getElem?_append_right (by omega)] at hi
    have hl := (List.getElem?_eq_some_iff.mp hi).1
    have e1 : ([(a, p, t)] : List (Nat × Nat × Nat)).length = 1 := rfl
    have e2 : i = L.length := by omega
    subst e2
    rw [Nat.sub_self] at hi
    cases hi
    refine ⟨?_, ?_, ?_⟩
    · rw [m_uI_I, if_neg (by omega), m_uI_I, if_neg (by omega), m_uI_I, if_neg (by omega), m_uI_I, if_pos ⟨rfl, rfl⟩]
    · rw [m_uI_I, if_neg (by omega), m_uI_I, if_neg (by omega), m_uI_I, if_pos ⟨rfl, rfl⟩]
    · rw [m_uI_I, if_neg (by omega), m_uI_I, if_pos ⟨rfl, rfl⟩]
