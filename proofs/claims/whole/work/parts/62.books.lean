/-! the model's books as facts -/
/-- ship, place, from, to -/
abbrev Bk := Nat × Nat × Nat × Nat
def bkOf (L : List Bk) (s : Nat) : List Fct := (L.filter (fun k => k.1 == s)).map (fun k => k.2)
def bkOK (C R : Nat) (L : List Bk) : Prop := L.length ≤ 12 ∧ ∀ k, k ∈ L → k.1 < 8 ∧ vld C R k.2.1 ∧ k.2.2.1 ≤ k.2.2.2 ∧ k.2.2.2 < 48
/-- the books as they lie in the model's rows -/
def BkM (M : am_M) (b C : Nat) (L : List Bk) : Prop := mI M 294 b = nI L.length ∧ ∀ i k, L[i]? = some k → mI M 295 (12 * b + i) = nI k.1 ∧ mI M 296 (12 * b + i) = nI (cel C k.2.1) ∧ mI M 297 (12 * b + i) = nI k.2.2.1 ∧ mI M 298 (12 * b + i) = nI k.2.2.2
theorem BkM_S {M M' : am_M} {b C : Nat} {L : List Bk} {S : Nat → Nat → Prop} (h : BkM M b C L) (hS : oS S M M') (hd : ∀ a j, 294 ≤ a → a ≤ 298 → ¬ S a j) : BkM M' b C L := by
  refine ⟨by rw [hS.1 _ _ (hd _ _ (by omega) (by omega))]; exact h.1, fun i k hk => ?_⟩
  obtain ⟨q1, q2, q3, q4⟩ := h.2 i k hk
  exact ⟨by rw [hS.1 _ _ (hd _ _ (by omega) (by omega))]; exact q1, by rw [hS.1 _ _ (hd _ _ (by omega) (by omega))]; exact q2, by rw [hS.1 _ _ (hd _ _ (by omega) (by omega))]; exact q3, by rw [hS.1 _ _ (hd _ _ (by omega) (by omega))]; exact q4⟩
theorem bkOf_take {L : List Bk} {s i : Nat} {k : Bk} (h : L[i]? = some k) : bkOf (L.take (i + 1)) s = if k.1 = s then bkOf (L.take i) s ++ [k.2] else bkOf (L.take i) s := by
  have e : L.take (i + 1) = L.take i ++ [k] := by
    rw [List.take_add_one, h]
    rfl
  unfold bkOf
  rw [e, List.filter_append, List.map_append]
  by_cases c : k.1 = s
  · rw [if_pos c]
    simp [c]
  · rw [if_neg c]
    simp [c]
theorem bkOf_len (L : List Bk) (s : Nat) : (bkOf L s).length ≤ L.length := by
  unfold bkOf
  rw [List.length_map]
  exact List.length_filter_le _ _
/-- one more fact -/
theorem FcM_put {M : am_M} {C R : Nat} {F : List Fct} {f : Fct} (h : FcM M C R F) (hl : F.length < 120) (hf : vld C R f.1 ∧ f.2.1 ≤ f.2.2 ∧ f.2.2 < 48) : FcM (uI (uI (uI (uI M 319 F.length (nI (cel C f.1))) 320 F.length (nI f.2.1)) 321 F.length (nI f.2.2)) 277 60 (nI (F.length + 1))) C R (F ++ [f]) ∧ oS sF M (uI (uI (uI (uI M 319 F.length (nI (cel C f.1))) 320 F.length (nI f.2.1)) 321 F.length (nI f.2.2)) 277 60 (nI (F.length + 1))) := by
  obtain ⟨h1, h2, h3⟩ := h
  refine ⟨⟨?_, by rw [List.length_append]; exact hl, fun i g hg => ?_⟩, fun a j hS => ?_, fun _ _ _ => rfl, fun _ _ => rfl, rfl⟩
  · rw [m_uI_I, if_pos ⟨rfl, rfl⟩, List.length_append]
    rfl
  · have hil := (List.getElem?_eq_some_iff.mp hg).1
    rw [List.length_append] at hil
    simp only [m_uI_I]
    rw [if_neg (fun z => absurd z.1 (by decide)), if_neg (fun z => absurd z.1 (by decide)), if_neg (fun z => absurd z.1 (by decide)), if_neg (fun z => absurd z.1 (by decide)), if_neg (fun z => absurd z.1 (by decide)), if_neg (fun z => absurd z.1 (by decide))]
    sorry
  · sorry
