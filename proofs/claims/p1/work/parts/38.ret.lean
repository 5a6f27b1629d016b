/-! where the law answers (by program: wip/whole/tools/gen_ret.py) -/
def am_Rt (q : Nat × am_Act) : Prop := ∀ (lv st : List Value) (M : am_M) (v : Option Value) (M' : am_M), q.2 lv st M = some (.inr (.inl (v, M'))) → decode code q.1 = .ok (.ireturn, 1) ∧ ∃ x, st = [.int x] ∧ v = some (.int x)
theorem rt_nx {pc : Nat} {f : am_F} : am_Rt (pc, k_nx f) := by
  intro lv st M v M' h
  have h : k_nx f lv st M = some (.inr (.inl (v, M'))) := h
  unfold k_nx at h
  cases e : f lv st M with
  | none => rw [e] at h; cases h
  | some x => rw [e] at h; cases h
theorem rt_cv {pc y ci n mx nx : Nat} : am_Rt (pc, k_cv y ci n mx nx) := by
  intro lv st M v M' h
  have h : k_cv y ci n mx nx lv st M = some (.inr (.inl (v, M'))) := h
  unfold k_cv at h
  split at h
  · split at h <;> cases h
  · cases h
theorem rt_z {pc : Nat} (hd : decode code pc = .ok (.ireturn, 1)) : am_Rt (pc, k_zret) := by
  intro lv st M v M' h
  have h : k_zret lv st M = some (.inr (.inl (v, M'))) := h
  unfold k_zret at h
  split at h
  · split at h
    · cases h
      exact ⟨hd, _, rfl, rfl⟩
    · cases h
  · cases h
theorem rtL_0 (xs : Nat → Int32) (L : Nat) : ∀ q ∈ tL_0 xs L, am_Rt q := by
  unfold tL_0
  refine List.forall_mem_cons.mpr ⟨rt_nx, ?_⟩
  refine List.forall_mem_cons.mpr ⟨rt_nx, ?_⟩
  refine List.forall_mem_cons.mpr ⟨rt_cv, ?_⟩
  refine List.forall_mem_cons.mpr ⟨rt_nx, ?_⟩
  refine List.forall_mem_cons.mpr ⟨rt_nx, ?_⟩
  refine List.forall_mem_cons.mpr ⟨rt_nx, ?_⟩
  refine List.forall_mem_cons.mpr ⟨rt_cv, ?_⟩
  refine List.forall_mem_cons.mpr ⟨rt_nx, ?_⟩
  refine List.forall_mem_cons.mpr ⟨rt_nx, ?_⟩
  refine List.forall_mem_cons.mpr ⟨rt_nx, ?_⟩
  refine List.forall_mem_cons.mpr ⟨rt_nx, ?_⟩
  refine List.forall_mem_cons.mpr ⟨rt_nx, ?_⟩
  refine List.forall_mem_cons.mpr ⟨rt_nx, ?_⟩
  refine List.forall_mem_cons.mpr ⟨rt_nx, ?_⟩
  refine List.forall_mem_cons.mpr ⟨rt_nx, ?_⟩
  refine List.forall_mem_cons.mpr ⟨rt_nx, ?_⟩
  refine List.forall_mem_cons.mpr ⟨rt_nx, ?_⟩
  refine List.forall_mem_cons.mpr ⟨rt_nx, ?_⟩
  refine List.forall_mem_cons.mpr ⟨rt_nx, ?_⟩
  refine List.forall_mem_cons.mpr ⟨rt_nx, ?_⟩
  refine List.forall_mem_cons.mpr ⟨rt_nx, ?_⟩
  refine List.forall_mem_cons.mpr ⟨rt_nx, ?_⟩
  refine List.forall_mem_cons.mpr ⟨rt_nx, ?_⟩
  refine List.forall_mem_cons.mpr ⟨rt_nx, ?_⟩
  refine List.forall_mem_cons.mpr ⟨rt_nx, ?_⟩
  refine List.forall_mem_cons.mpr ⟨rt_nx, ?_⟩
  refine List.forall_mem_cons.mpr ⟨rt_nx, ?_⟩
  refine List.forall_mem_cons.mpr ⟨rt_nx, ?_⟩
  refine List.forall_mem_cons.mpr ⟨rt_nx, ?_⟩
  refine List.forall_mem_cons.mpr ⟨rt_nx, ?_⟩
  refine List.forall_mem_cons.mpr ⟨rt_nx, ?_⟩
  refine List.forall_mem_cons.mpr ⟨rt_nx, ?_⟩
  refine List.forall_mem_cons.mpr ⟨rt_nx, ?_⟩
  refine List.forall_mem_cons.mpr ⟨rt_nx, ?_⟩
  refine List.forall_mem_cons.mpr ⟨rt_nx, ?_⟩
  refine List.forall_mem_cons.mpr ⟨rt_nx, ?_⟩
  refine List.forall_mem_cons.mpr ⟨rt_nx, ?_⟩
  refine List.forall_mem_cons.mpr ⟨rt_nx, ?_⟩
  refine List.forall_mem_cons.mpr ⟨rt_nx, ?_⟩
  refine List.forall_mem_cons.mpr ⟨rt_nx, ?_⟩
  refine List.forall_mem_cons.mpr ⟨rt_nx, ?_⟩
  refine List.forall_mem_cons.mpr ⟨rt_nx, ?_⟩
  refine List.forall_mem_cons.mpr ⟨rt_nx, ?_⟩
  refine List.forall_mem_cons.mpr ⟨rt_nx, ?_⟩
  refine List.forall_mem_cons.mpr ⟨rt_nx, ?_⟩
  refine List.forall_mem_cons.mpr ⟨rt_nx, ?_⟩
  refine List.forall_mem_cons.mpr ⟨rt_nx, ?_⟩
  refine List.forall_mem_cons.mpr ⟨rt_nx, ?_⟩
  refine List.forall_mem_cons.mpr ⟨rt_cv, ?_⟩
  refine List.forall_mem_cons.mpr ⟨rt_nx, ?_⟩
  refine List.forall_mem_cons.mpr ⟨rt_nx, ?_⟩
  refine List.forall_mem_cons.mpr ⟨rt_nx, ?_⟩
  refine List.forall_mem_cons.mpr ⟨rt_nx, ?_⟩
  refine List.forall_mem_cons.mpr ⟨rt_nx, ?_⟩
  refine List.forall_mem_cons.mpr ⟨rt_nx, ?_⟩
  refine List.forall_mem_cons.mpr ⟨rt_nx, ?_⟩
  refine List.forall_mem_cons.mpr ⟨rt_nx, ?_⟩
  refine List.forall_mem_cons.mpr ⟨rt_nx, ?_⟩
  refine List.forall_mem_cons.mpr ⟨rt_nx, ?_⟩
  refine List.forall_mem_cons.mpr ⟨rt_nx, ?_⟩
  exact fun _ h => absurd h List.not_mem_nil
theorem rtL_1 (xs : Nat → Int32) (L : Nat) : ∀ q ∈ tL_1 xs L, am_Rt q := by
  unfold tL_1
  refine List.forall_mem_cons.mpr ⟨rt_nx, ?_⟩
  refine List.forall_mem_cons.mpr ⟨rt_nx, ?_⟩
  refine List.forall_mem_cons.mpr ⟨rt_nx, ?_⟩
  refine List.forall_mem_cons.mpr ⟨rt_nx, ?_⟩
  refine List.forall_mem_cons.mpr ⟨rt_nx, ?_⟩
  refine List.forall_mem_cons.mpr ⟨rt_nx, ?_⟩
  refine List.forall_mem_cons.mpr ⟨rt_nx, ?_⟩
  refine List.forall_mem_cons.mpr ⟨rt_nx, ?_⟩
  refine List.forall_mem_cons.mpr ⟨rt_nx, ?_⟩
  refine List.forall_mem_cons.mpr ⟨rt_nx, ?_⟩
  refine List.forall_mem_cons.mpr ⟨rt_nx, ?_⟩
  refine List.forall_mem_cons.mpr ⟨rt_nx, ?_⟩
  refine List.forall_mem_cons.mpr ⟨rt_nx, ?_⟩
  refine List.forall_mem_cons.mpr ⟨rt_nx, ?_⟩
  refine List.forall_mem_cons.mpr ⟨rt_nx, ?_⟩
  refine List.forall_mem_cons.mpr ⟨rt_cv, ?_⟩
  refine List.forall_mem_cons.mpr ⟨rt_nx, ?_⟩
  refine List.forall_mem_cons.mpr ⟨rt_nx, ?_⟩
  refine List.forall_mem_cons.mpr ⟨rt_z (by decide +kernel), ?_⟩
  refine List.forall_mem_cons.mpr ⟨rt_nx, ?_⟩
  refine List.forall_mem_cons.mpr ⟨rt_nx, ?_⟩
  refine List.forall_mem_cons.mpr ⟨rt_nx, ?_⟩
  refine List.forall_mem_cons.mpr ⟨rt_nx, ?_⟩
  refine List.forall_mem_cons.mpr ⟨rt_nx, ?_⟩
  refine List.forall_mem_cons.mpr ⟨rt_nx, ?_⟩
  refine List.forall_mem_cons.mpr ⟨rt_cv, ?_⟩
  refine List.forall_mem_cons.mpr ⟨rt_nx, ?_⟩
  refine List.forall_mem_cons.mpr ⟨rt_nx, ?_⟩
  refine List.forall_mem_cons.mpr ⟨rt_nx, ?_⟩
  refine List.forall_mem_cons.mpr ⟨rt_nx, ?_⟩
  refine List.forall_mem_cons.mpr ⟨rt_nx, ?_⟩
  refine List.forall_mem_cons.mpr ⟨rt_nx, ?_⟩
  refine List.forall_mem_cons.mpr ⟨rt_cv, ?_⟩
  refine List.forall_mem_cons.mpr ⟨rt_nx, ?_⟩
  refine List.forall_mem_cons.mpr ⟨rt_nx, ?_⟩
  refine List.forall_mem_cons.mpr ⟨rt_z (by decide +kernel), ?_⟩
  refine List.forall_mem_cons.mpr ⟨rt_nx, ?_⟩
  refine List.forall_mem_cons.mpr ⟨rt_cv, ?_⟩
  refine List.forall_mem_cons.mpr ⟨rt_nx, ?_⟩
  refine List.forall_mem_cons.mpr ⟨rt_cv, ?_⟩
  refine List.forall_mem_cons.mpr ⟨rt_nx, ?_⟩
  refine List.forall_mem_cons.mpr ⟨rt_nx, ?_⟩
  refine List.forall_mem_cons.mpr ⟨rt_z (by decide +kernel), ?_⟩
  refine List.forall_mem_cons.mpr ⟨rt_nx, ?_⟩
  refine List.forall_mem_cons.mpr ⟨rt_nx, ?_⟩
  refine List.forall_mem_cons.mpr ⟨rt_nx, ?_⟩
  refine List.forall_mem_cons.mpr ⟨rt_nx, ?_⟩
  refine List.forall_mem_cons.mpr ⟨rt_nx, ?_⟩
  refine List.forall_mem_cons.mpr ⟨rt_nx, ?_⟩
  refine List.forall_mem_cons.mpr ⟨rt_cv, ?_⟩
  refine List.forall_mem_cons.mpr ⟨rt_nx, ?_⟩
  refine List.forall_mem_cons.mpr ⟨rt_nx, ?_⟩
  refine List.forall_mem_cons.mpr ⟨rt_nx, ?_⟩
  refine List.forall_mem_cons.mpr ⟨rt_nx, ?_⟩
  refine List.forall_mem_cons.mpr ⟨rt_nx, ?_⟩
  refine List.forall_mem_cons.mpr ⟨rt_nx, ?_⟩
  refine List.forall_mem_cons.mpr ⟨rt_cv, ?_⟩
  refine List.forall_mem_cons.mpr ⟨rt_nx, ?_⟩
  refine List.forall_mem_cons.mpr ⟨rt_nx, ?_⟩
  refine List.forall_mem_cons.mpr ⟨rt_z (by decide +kernel), ?_⟩
  exact fun _ h => absurd h List.not_mem_nil
theorem rtL_2 (xs : Nat → Int32) (L : Nat) : ∀ q ∈ tL_2 xs L, am_Rt q := by
  unfold tL_2
  refine List.forall_mem_cons.mpr ⟨rt_nx, ?_⟩
  refine List.forall_mem_cons.mpr ⟨rt_nx, ?_⟩
  refine List.forall_mem_cons.mpr ⟨rt_nx, ?_⟩
  refine List.forall_mem_cons.mpr ⟨rt_nx, ?_⟩
  refine List.forall_mem_cons.mpr ⟨rt_nx, ?_⟩
  refine List.forall_mem_cons.mpr ⟨rt_nx, ?_⟩
  refine List.forall_mem_cons.mpr ⟨rt_cv, ?_⟩
  refine List.forall_mem_cons.mpr ⟨rt_nx, ?_⟩
  refine List.forall_mem_cons.mpr ⟨rt_nx, ?_⟩
  refine List.forall_mem_cons.mpr ⟨rt_nx, ?_⟩
  refine List.forall_mem_cons.mpr ⟨rt_nx, ?_⟩
  refine List.forall_mem_cons.mpr ⟨rt_nx, ?_⟩
  refine List.forall_mem_cons.mpr ⟨rt_nx, ?_⟩
  refine List.forall_mem_cons.mpr ⟨rt_cv, ?_⟩
  refine List.forall_mem_cons.mpr ⟨rt_nx, ?_⟩
  refine List.forall_mem_cons.mpr ⟨rt_nx, ?_⟩
  refine List.forall_mem_cons.mpr ⟨rt_z (by decide +kernel), ?_⟩
  refine List.forall_mem_cons.mpr ⟨rt_nx, ?_⟩
  refine List.forall_mem_cons.mpr ⟨rt_nx, ?_⟩
  refine List.forall_mem_cons.mpr ⟨rt_nx, ?_⟩
  refine List.forall_mem_cons.mpr ⟨rt_nx, ?_⟩
  refine List.forall_mem_cons.mpr ⟨rt_nx, ?_⟩
  refine List.forall_mem_cons.mpr ⟨rt_nx, ?_⟩
  refine List.forall_mem_cons.mpr ⟨rt_nx, ?_⟩
  refine List.forall_mem_cons.mpr ⟨rt_nx, ?_⟩
  refine List.forall_mem_cons.mpr ⟨rt_nx, ?_⟩
  refine List.forall_mem_cons.mpr ⟨rt_nx, ?_⟩
  refine List.forall_mem_cons.mpr ⟨rt_nx, ?_⟩
  refine List.forall_mem_cons.mpr ⟨rt_cv, ?_⟩
  refine List.forall_mem_cons.mpr ⟨rt_nx, ?_⟩
  refine List.forall_mem_cons.mpr ⟨rt_nx, ?_⟩
  refine List.forall_mem_cons.mpr ⟨rt_nx, ?_⟩
  refine List.forall_mem_cons.mpr ⟨rt_nx, ?_⟩
  refine List.forall_mem_cons.mpr ⟨rt_nx, ?_⟩
  refine List.forall_mem_cons.mpr ⟨rt_nx, ?_⟩
  refine List.forall_mem_cons.mpr ⟨rt_nx, ?_⟩
  refine List.forall_mem_cons.mpr ⟨rt_nx, ?_⟩
  refine List.forall_mem_cons.mpr ⟨rt_nx, ?_⟩
  refine List.forall_mem_cons.mpr ⟨rt_nx, ?_⟩
  refine List.forall_mem_cons.mpr ⟨rt_nx, ?_⟩
  refine List.forall_mem_cons.mpr ⟨rt_cv, ?_⟩
  refine List.forall_mem_cons.mpr ⟨rt_nx, ?_⟩
  refine List.forall_mem_cons.mpr ⟨rt_nx, ?_⟩
  refine List.forall_mem_cons.mpr ⟨rt_z (by decide +kernel), ?_⟩
  refine List.forall_mem_cons.mpr ⟨rt_nx, ?_⟩
  refine List.forall_mem_cons.mpr ⟨rt_nx, ?_⟩
  refine List.forall_mem_cons.mpr ⟨rt_nx, ?_⟩
  refine List.forall_mem_cons.mpr ⟨rt_nx, ?_⟩
  refine List.forall_mem_cons.mpr ⟨rt_nx, ?_⟩
  refine List.forall_mem_cons.mpr ⟨rt_nx, ?_⟩
  refine List.forall_mem_cons.mpr ⟨rt_nx, ?_⟩
  refine List.forall_mem_cons.mpr ⟨rt_nx, ?_⟩
  refine List.forall_mem_cons.mpr ⟨rt_nx, ?_⟩
  refine List.forall_mem_cons.mpr ⟨rt_nx, ?_⟩
  refine List.forall_mem_cons.mpr ⟨rt_nx, ?_⟩
  refine List.forall_mem_cons.mpr ⟨rt_cv, ?_⟩
  refine List.forall_mem_cons.mpr ⟨rt_nx, ?_⟩
  refine List.forall_mem_cons.mpr ⟨rt_nx, ?_⟩
  refine List.forall_mem_cons.mpr ⟨rt_nx, ?_⟩
  refine List.forall_mem_cons.mpr ⟨rt_nx, ?_⟩
  exact fun _ h => absurd h List.not_mem_nil
theorem rtL_3 (xs : Nat → Int32) (L : Nat) : ∀ q ∈ tL_3 xs L, am_Rt q := by
  unfold tL_3
  refine List.forall_mem_cons.mpr ⟨rt_nx, ?_⟩
  refine List.forall_mem_cons.mpr ⟨rt_nx, ?_⟩
  refine List.forall_mem_cons.mpr ⟨rt_nx, ?_⟩
  refine List.forall_mem_cons.mpr ⟨rt_nx, ?_⟩
  refine List.forall_mem_cons.mpr ⟨rt_nx, ?_⟩
  refine List.forall_mem_cons.mpr ⟨rt_nx, ?_⟩
  refine List.forall_mem_cons.mpr ⟨rt_nx, ?_⟩
  refine List.forall_mem_cons.mpr ⟨rt_cv, ?_⟩
  refine List.forall_mem_cons.mpr ⟨rt_nx, ?_⟩
  refine List.forall_mem_cons.mpr ⟨rt_nx, ?_⟩
  refine List.forall_mem_cons.mpr ⟨rt_z (by decide +kernel), ?_⟩
  refine List.forall_mem_cons.mpr ⟨rt_nx, ?_⟩
  refine List.forall_mem_cons.mpr ⟨rt_nx, ?_⟩
  refine List.forall_mem_cons.mpr ⟨rt_nx, ?_⟩
  refine List.forall_mem_cons.mpr ⟨rt_nx, ?_⟩
  refine List.forall_mem_cons.mpr ⟨rt_nx, ?_⟩
  refine List.forall_mem_cons.mpr ⟨rt_nx, ?_⟩
  refine List.forall_mem_cons.mpr ⟨rt_nx, ?_⟩
  refine List.forall_mem_cons.mpr ⟨rt_nx, ?_⟩
  refine List.forall_mem_cons.mpr ⟨rt_nx, ?_⟩
  refine List.forall_mem_cons.mpr ⟨rt_nx, ?_⟩
  refine List.forall_mem_cons.mpr ⟨rt_nx, ?_⟩
  refine List.forall_mem_cons.mpr ⟨rt_nx, ?_⟩
  refine List.forall_mem_cons.mpr ⟨rt_nx, ?_⟩
  refine List.forall_mem_cons.mpr ⟨rt_nx, ?_⟩
  refine List.forall_mem_cons.mpr ⟨rt_nx, ?_⟩
  refine List.forall_mem_cons.mpr ⟨rt_nx, ?_⟩
  refine List.forall_mem_cons.mpr ⟨rt_cv, ?_⟩
  refine List.forall_mem_cons.mpr ⟨rt_nx, ?_⟩
  refine List.forall_mem_cons.mpr ⟨rt_nx, ?_⟩
  refine List.forall_mem_cons.mpr ⟨rt_nx, ?_⟩
  refine List.forall_mem_cons.mpr ⟨rt_nx, ?_⟩
  refine List.forall_mem_cons.mpr ⟨rt_nx, ?_⟩
  refine List.forall_mem_cons.mpr ⟨rt_nx, ?_⟩
  refine List.forall_mem_cons.mpr ⟨rt_nx, ?_⟩
  refine List.forall_mem_cons.mpr ⟨rt_nx, ?_⟩
  refine List.forall_mem_cons.mpr ⟨rt_nx, ?_⟩
  refine List.forall_mem_cons.mpr ⟨rt_nx, ?_⟩
  refine List.forall_mem_cons.mpr ⟨rt_nx, ?_⟩
  refine List.forall_mem_cons.mpr ⟨rt_nx, ?_⟩
  refine List.forall_mem_cons.mpr ⟨rt_nx, ?_⟩
  refine List.forall_mem_cons.mpr ⟨rt_nx, ?_⟩
  refine List.forall_mem_cons.mpr ⟨rt_nx, ?_⟩
  refine List.forall_mem_cons.mpr ⟨rt_nx, ?_⟩
  refine List.forall_mem_cons.mpr ⟨rt_cv, ?_⟩
  refine List.forall_mem_cons.mpr ⟨rt_nx, ?_⟩
  refine List.forall_mem_cons.mpr ⟨rt_nx, ?_⟩
  refine List.forall_mem_cons.mpr ⟨rt_z (by decide +kernel), ?_⟩
  refine List.forall_mem_cons.mpr ⟨rt_nx, ?_⟩
  refine List.forall_mem_cons.mpr ⟨rt_nx, ?_⟩
  refine List.forall_mem_cons.mpr ⟨rt_nx, ?_⟩
  refine List.forall_mem_cons.mpr ⟨rt_nx, ?_⟩
  refine List.forall_mem_cons.mpr ⟨rt_nx, ?_⟩
  refine List.forall_mem_cons.mpr ⟨rt_nx, ?_⟩
  refine List.forall_mem_cons.mpr ⟨rt_nx, ?_⟩
  refine List.forall_mem_cons.mpr ⟨rt_nx, ?_⟩
  refine List.forall_mem_cons.mpr ⟨rt_nx, ?_⟩
  refine List.forall_mem_cons.mpr ⟨rt_nx, ?_⟩
  refine List.forall_mem_cons.mpr ⟨rt_nx, ?_⟩
  refine List.forall_mem_cons.mpr ⟨rt_nx, ?_⟩
  exact fun _ h => absurd h List.not_mem_nil
theorem rtL_4 (xs : Nat → Int32) (L : Nat) : ∀ q ∈ tL_4 xs L, am_Rt q := by
  unfold tL_4
  refine List.forall_mem_cons.mpr ⟨rt_nx, ?_⟩
  refine List.forall_mem_cons.mpr ⟨rt_nx, ?_⟩
  refine List.forall_mem_cons.mpr ⟨rt_nx, ?_⟩
  refine List.forall_mem_cons.mpr ⟨rt_nx, ?_⟩
  refine List.forall_mem_cons.mpr ⟨rt_nx, ?_⟩
  refine List.forall_mem_cons.mpr ⟨rt_nx, ?_⟩
  refine List.forall_mem_cons.mpr ⟨rt_nx, ?_⟩
  refine List.forall_mem_cons.mpr ⟨rt_nx, ?_⟩
  refine List.forall_mem_cons.mpr ⟨rt_nx, ?_⟩
  refine List.forall_mem_cons.mpr ⟨rt_cv, ?_⟩
  refine List.forall_mem_cons.mpr ⟨rt_nx, ?_⟩
  refine List.forall_mem_cons.mpr ⟨rt_nx, ?_⟩
  refine List.forall_mem_cons.mpr ⟨rt_nx, ?_⟩
  refine List.forall_mem_cons.mpr ⟨rt_nx, ?_⟩
  refine List.forall_mem_cons.mpr ⟨rt_nx, ?_⟩
  refine List.forall_mem_cons.mpr ⟨rt_nx, ?_⟩
  refine List.forall_mem_cons.mpr ⟨rt_nx, ?_⟩
  refine List.forall_mem_cons.mpr ⟨rt_nx, ?_⟩
  refine List.forall_mem_cons.mpr ⟨rt_nx, ?_⟩
  refine List.forall_mem_cons.mpr ⟨rt_nx, ?_⟩
  refine List.forall_mem_cons.mpr ⟨rt_nx, ?_⟩
  refine List.forall_mem_cons.mpr ⟨rt_nx, ?_⟩
  refine List.forall_mem_cons.mpr ⟨rt_nx, ?_⟩
  refine List.forall_mem_cons.mpr ⟨rt_nx, ?_⟩
  refine List.forall_mem_cons.mpr ⟨rt_nx, ?_⟩
  refine List.forall_mem_cons.mpr ⟨rt_nx, ?_⟩
  refine List.forall_mem_cons.mpr ⟨rt_nx, ?_⟩
  refine List.forall_mem_cons.mpr ⟨rt_nx, ?_⟩
  refine List.forall_mem_cons.mpr ⟨rt_nx, ?_⟩
  refine List.forall_mem_cons.mpr ⟨rt_nx, ?_⟩
  refine List.forall_mem_cons.mpr ⟨rt_nx, ?_⟩
  refine List.forall_mem_cons.mpr ⟨rt_cv, ?_⟩
  refine List.forall_mem_cons.mpr ⟨rt_nx, ?_⟩
  refine List.forall_mem_cons.mpr ⟨rt_nx, ?_⟩
  refine List.forall_mem_cons.mpr ⟨rt_z (by decide +kernel), ?_⟩
  refine List.forall_mem_cons.mpr ⟨rt_nx, ?_⟩
  refine List.forall_mem_cons.mpr ⟨rt_nx, ?_⟩
  refine List.forall_mem_cons.mpr ⟨rt_nx, ?_⟩
  refine List.forall_mem_cons.mpr ⟨rt_nx, ?_⟩
  refine List.forall_mem_cons.mpr ⟨rt_nx, ?_⟩
  refine List.forall_mem_cons.mpr ⟨rt_nx, ?_⟩
  refine List.forall_mem_cons.mpr ⟨rt_nx, ?_⟩
  refine List.forall_mem_cons.mpr ⟨rt_nx, ?_⟩
  refine List.forall_mem_cons.mpr ⟨rt_nx, ?_⟩
  refine List.forall_mem_cons.mpr ⟨rt_nx, ?_⟩
  refine List.forall_mem_cons.mpr ⟨rt_nx, ?_⟩
  refine List.forall_mem_cons.mpr ⟨rt_nx, ?_⟩
  refine List.forall_mem_cons.mpr ⟨rt_nx, ?_⟩
  refine List.forall_mem_cons.mpr ⟨rt_nx, ?_⟩
  refine List.forall_mem_cons.mpr ⟨rt_nx, ?_⟩
  refine List.forall_mem_cons.mpr ⟨rt_nx, ?_⟩
  refine List.forall_mem_cons.mpr ⟨rt_nx, ?_⟩
  refine List.forall_mem_cons.mpr ⟨rt_nx, ?_⟩
  refine List.forall_mem_cons.mpr ⟨rt_nx, ?_⟩
  refine List.forall_mem_cons.mpr ⟨rt_nx, ?_⟩
  refine List.forall_mem_cons.mpr ⟨rt_nx, ?_⟩
  refine List.forall_mem_cons.mpr ⟨rt_nx, ?_⟩
  refine List.forall_mem_cons.mpr ⟨rt_nx, ?_⟩
  refine List.forall_mem_cons.mpr ⟨rt_nx, ?_⟩
  refine List.forall_mem_cons.mpr ⟨rt_nx, ?_⟩
  exact fun _ h => absurd h List.not_mem_nil
theorem rtL_5 (xs : Nat → Int32) (L : Nat) : ∀ q ∈ tL_5 xs L, am_Rt q := by
  unfold tL_5
  refine List.forall_mem_cons.mpr ⟨rt_nx, ?_⟩
  refine List.forall_mem_cons.mpr ⟨rt_cv, ?_⟩
  refine List.forall_mem_cons.mpr ⟨rt_nx, ?_⟩
  refine List.forall_mem_cons.mpr ⟨rt_nx, ?_⟩
  refine List.forall_mem_cons.mpr ⟨rt_nx, ?_⟩
  refine List.forall_mem_cons.mpr ⟨rt_nx, ?_⟩
  refine List.forall_mem_cons.mpr ⟨rt_nx, ?_⟩
  refine List.forall_mem_cons.mpr ⟨rt_nx, ?_⟩
  refine List.forall_mem_cons.mpr ⟨rt_nx, ?_⟩
  refine List.forall_mem_cons.mpr ⟨rt_nx, ?_⟩
  refine List.forall_mem_cons.mpr ⟨rt_nx, ?_⟩
  refine List.forall_mem_cons.mpr ⟨rt_nx, ?_⟩
  refine List.forall_mem_cons.mpr ⟨rt_nx, ?_⟩
  refine List.forall_mem_cons.mpr ⟨rt_nx, ?_⟩
  refine List.forall_mem_cons.mpr ⟨rt_nx, ?_⟩
  refine List.forall_mem_cons.mpr ⟨rt_nx, ?_⟩
  refine List.forall_mem_cons.mpr ⟨rt_nx, ?_⟩
  refine List.forall_mem_cons.mpr ⟨rt_nx, ?_⟩
  refine List.forall_mem_cons.mpr ⟨rt_nx, ?_⟩
  refine List.forall_mem_cons.mpr ⟨rt_nx, ?_⟩
  refine List.forall_mem_cons.mpr ⟨rt_nx, ?_⟩
  refine List.forall_mem_cons.mpr ⟨rt_nx, ?_⟩
  refine List.forall_mem_cons.mpr ⟨rt_nx, ?_⟩
  refine List.forall_mem_cons.mpr ⟨rt_nx, ?_⟩
  refine List.forall_mem_cons.mpr ⟨rt_nx, ?_⟩
  refine List.forall_mem_cons.mpr ⟨rt_nx, ?_⟩
  refine List.forall_mem_cons.mpr ⟨rt_nx, ?_⟩
  refine List.forall_mem_cons.mpr ⟨rt_nx, ?_⟩
  refine List.forall_mem_cons.mpr ⟨rt_cv, ?_⟩
  refine List.forall_mem_cons.mpr ⟨rt_nx, ?_⟩
  refine List.forall_mem_cons.mpr ⟨rt_nx, ?_⟩
  refine List.forall_mem_cons.mpr ⟨rt_z (by decide +kernel), ?_⟩
  refine List.forall_mem_cons.mpr ⟨rt_nx, ?_⟩
  refine List.forall_mem_cons.mpr ⟨rt_nx, ?_⟩
  refine List.forall_mem_cons.mpr ⟨rt_nx, ?_⟩
  refine List.forall_mem_cons.mpr ⟨rt_nx, ?_⟩
  refine List.forall_mem_cons.mpr ⟨rt_nx, ?_⟩
  refine List.forall_mem_cons.mpr ⟨rt_nx, ?_⟩
  refine List.forall_mem_cons.mpr ⟨rt_nx, ?_⟩
  refine List.forall_mem_cons.mpr ⟨rt_nx, ?_⟩
  refine List.forall_mem_cons.mpr ⟨rt_nx, ?_⟩
  refine List.forall_mem_cons.mpr ⟨rt_nx, ?_⟩
  refine List.forall_mem_cons.mpr ⟨rt_nx, ?_⟩
  refine List.forall_mem_cons.mpr ⟨rt_nx, ?_⟩
  refine List.forall_mem_cons.mpr ⟨rt_nx, ?_⟩
  refine List.forall_mem_cons.mpr ⟨rt_nx, ?_⟩
  refine List.forall_mem_cons.mpr ⟨rt_nx, ?_⟩
  refine List.forall_mem_cons.mpr ⟨rt_nx, ?_⟩
  refine List.forall_mem_cons.mpr ⟨rt_cv, ?_⟩
  refine List.forall_mem_cons.mpr ⟨rt_nx, ?_⟩
  refine List.forall_mem_cons.mpr ⟨rt_nx, ?_⟩
  refine List.forall_mem_cons.mpr ⟨rt_nx, ?_⟩
  refine List.forall_mem_cons.mpr ⟨rt_nx, ?_⟩
  refine List.forall_mem_cons.mpr ⟨rt_nx, ?_⟩
  refine List.forall_mem_cons.mpr ⟨rt_nx, ?_⟩
  refine List.forall_mem_cons.mpr ⟨rt_nx, ?_⟩
  refine List.forall_mem_cons.mpr ⟨rt_nx, ?_⟩
  refine List.forall_mem_cons.mpr ⟨rt_nx, ?_⟩
  refine List.forall_mem_cons.mpr ⟨rt_nx, ?_⟩
  refine List.forall_mem_cons.mpr ⟨rt_nx, ?_⟩
  exact fun _ h => absurd h List.not_mem_nil
theorem rtL_6 (xs : Nat → Int32) (L : Nat) : ∀ q ∈ tL_6 xs L, am_Rt q := by
  unfold tL_6
  refine List.forall_mem_cons.mpr ⟨rt_nx, ?_⟩
  refine List.forall_mem_cons.mpr ⟨rt_nx, ?_⟩
  refine List.forall_mem_cons.mpr ⟨rt_nx, ?_⟩
  refine List.forall_mem_cons.mpr ⟨rt_nx, ?_⟩
  refine List.forall_mem_cons.mpr ⟨rt_nx, ?_⟩
  refine List.forall_mem_cons.mpr ⟨rt_cv, ?_⟩
  refine List.forall_mem_cons.mpr ⟨rt_nx, ?_⟩
  refine List.forall_mem_cons.mpr ⟨rt_nx, ?_⟩
  refine List.forall_mem_cons.mpr ⟨rt_z (by decide +kernel), ?_⟩
  refine List.forall_mem_cons.mpr ⟨rt_nx, ?_⟩
  refine List.forall_mem_cons.mpr ⟨rt_nx, ?_⟩
  refine List.forall_mem_cons.mpr ⟨rt_nx, ?_⟩
  refine List.forall_mem_cons.mpr ⟨rt_nx, ?_⟩
  refine List.forall_mem_cons.mpr ⟨rt_nx, ?_⟩
  refine List.forall_mem_cons.mpr ⟨rt_nx, ?_⟩
  refine List.forall_mem_cons.mpr ⟨rt_nx, ?_⟩
  refine List.forall_mem_cons.mpr ⟨rt_nx, ?_⟩
  refine List.forall_mem_cons.mpr ⟨rt_nx, ?_⟩
  refine List.forall_mem_cons.mpr ⟨rt_nx, ?_⟩
  refine List.forall_mem_cons.mpr ⟨rt_nx, ?_⟩
  refine List.forall_mem_cons.mpr ⟨rt_nx, ?_⟩
  refine List.forall_mem_cons.mpr ⟨rt_nx, ?_⟩
  refine List.forall_mem_cons.mpr ⟨rt_nx, ?_⟩
  refine List.forall_mem_cons.mpr ⟨rt_nx, ?_⟩
  refine List.forall_mem_cons.mpr ⟨rt_nx, ?_⟩
  refine List.forall_mem_cons.mpr ⟨rt_cv, ?_⟩
  refine List.forall_mem_cons.mpr ⟨rt_nx, ?_⟩
  refine List.forall_mem_cons.mpr ⟨rt_nx, ?_⟩
  refine List.forall_mem_cons.mpr ⟨rt_nx, ?_⟩
  refine List.forall_mem_cons.mpr ⟨rt_nx, ?_⟩
  refine List.forall_mem_cons.mpr ⟨rt_nx, ?_⟩
  refine List.forall_mem_cons.mpr ⟨rt_nx, ?_⟩
  refine List.forall_mem_cons.mpr ⟨rt_nx, ?_⟩
  refine List.forall_mem_cons.mpr ⟨rt_nx, ?_⟩
  refine List.forall_mem_cons.mpr ⟨rt_nx, ?_⟩
  refine List.forall_mem_cons.mpr ⟨rt_nx, ?_⟩
  refine List.forall_mem_cons.mpr ⟨rt_nx, ?_⟩
  refine List.forall_mem_cons.mpr ⟨rt_nx, ?_⟩
  refine List.forall_mem_cons.mpr ⟨rt_nx, ?_⟩
  refine List.forall_mem_cons.mpr ⟨rt_nx, ?_⟩
  refine List.forall_mem_cons.mpr ⟨rt_nx, ?_⟩
  refine List.forall_mem_cons.mpr ⟨rt_nx, ?_⟩
  refine List.forall_mem_cons.mpr ⟨rt_cv, ?_⟩
  refine List.forall_mem_cons.mpr ⟨rt_nx, ?_⟩
  refine List.forall_mem_cons.mpr ⟨rt_nx, ?_⟩
  refine List.forall_mem_cons.mpr ⟨rt_z (by decide +kernel), ?_⟩
  refine List.forall_mem_cons.mpr ⟨rt_nx, ?_⟩
  refine List.forall_mem_cons.mpr ⟨rt_nx, ?_⟩
  refine List.forall_mem_cons.mpr ⟨rt_nx, ?_⟩
  refine List.forall_mem_cons.mpr ⟨rt_nx, ?_⟩
  refine List.forall_mem_cons.mpr ⟨rt_nx, ?_⟩
  refine List.forall_mem_cons.mpr ⟨rt_nx, ?_⟩
  refine List.forall_mem_cons.mpr ⟨rt_nx, ?_⟩
  refine List.forall_mem_cons.mpr ⟨rt_nx, ?_⟩
  refine List.forall_mem_cons.mpr ⟨rt_nx, ?_⟩
  refine List.forall_mem_cons.mpr ⟨rt_nx, ?_⟩
  refine List.forall_mem_cons.mpr ⟨rt_nx, ?_⟩
  refine List.forall_mem_cons.mpr ⟨rt_nx, ?_⟩
  refine List.forall_mem_cons.mpr ⟨rt_nx, ?_⟩
  refine List.forall_mem_cons.mpr ⟨rt_nx, ?_⟩
  exact fun _ h => absurd h List.not_mem_nil
theorem rtL_7 (xs : Nat → Int32) (L : Nat) : ∀ q ∈ tL_7 xs L, am_Rt q := by
  unfold tL_7
  refine List.forall_mem_cons.mpr ⟨rt_nx, ?_⟩
  refine List.forall_mem_cons.mpr ⟨rt_nx, ?_⟩
  refine List.forall_mem_cons.mpr ⟨rt_nx, ?_⟩
  refine List.forall_mem_cons.mpr ⟨rt_nx, ?_⟩
  refine List.forall_mem_cons.mpr ⟨rt_nx, ?_⟩
  refine List.forall_mem_cons.mpr ⟨rt_nx, ?_⟩
  refine List.forall_mem_cons.mpr ⟨rt_nx, ?_⟩
  refine List.forall_mem_cons.mpr ⟨rt_cv, ?_⟩
  refine List.forall_mem_cons.mpr ⟨rt_nx, ?_⟩
  refine List.forall_mem_cons.mpr ⟨rt_nx, ?_⟩
  refine List.forall_mem_cons.mpr ⟨rt_nx, ?_⟩
  refine List.forall_mem_cons.mpr ⟨rt_nx, ?_⟩
  refine List.forall_mem_cons.mpr ⟨rt_nx, ?_⟩
  refine List.forall_mem_cons.mpr ⟨rt_nx, ?_⟩
  refine List.forall_mem_cons.mpr ⟨rt_nx, ?_⟩
  refine List.forall_mem_cons.mpr ⟨rt_nx, ?_⟩
  refine List.forall_mem_cons.mpr ⟨rt_nx, ?_⟩
  refine List.forall_mem_cons.mpr ⟨rt_nx, ?_⟩
  refine List.forall_mem_cons.mpr ⟨rt_nx, ?_⟩
  refine List.forall_mem_cons.mpr ⟨rt_nx, ?_⟩
  refine List.forall_mem_cons.mpr ⟨rt_nx, ?_⟩
  refine List.forall_mem_cons.mpr ⟨rt_nx, ?_⟩
  refine List.forall_mem_cons.mpr ⟨rt_nx, ?_⟩
  refine List.forall_mem_cons.mpr ⟨rt_nx, ?_⟩
  refine List.forall_mem_cons.mpr ⟨rt_nx, ?_⟩
  refine List.forall_mem_cons.mpr ⟨rt_nx, ?_⟩
  refine List.forall_mem_cons.mpr ⟨rt_nx, ?_⟩
  refine List.forall_mem_cons.mpr ⟨rt_nx, ?_⟩
  refine List.forall_mem_cons.mpr ⟨rt_nx, ?_⟩
  refine List.forall_mem_cons.mpr ⟨rt_cv, ?_⟩
  refine List.forall_mem_cons.mpr ⟨rt_nx, ?_⟩
  refine List.forall_mem_cons.mpr ⟨rt_nx, ?_⟩
  refine List.forall_mem_cons.mpr ⟨rt_z (by decide +kernel), ?_⟩
  refine List.forall_mem_cons.mpr ⟨rt_nx, ?_⟩
  refine List.forall_mem_cons.mpr ⟨rt_nx, ?_⟩
  refine List.forall_mem_cons.mpr ⟨rt_nx, ?_⟩
  refine List.forall_mem_cons.mpr ⟨rt_nx, ?_⟩
  refine List.forall_mem_cons.mpr ⟨rt_nx, ?_⟩
  refine List.forall_mem_cons.mpr ⟨rt_nx, ?_⟩
  refine List.forall_mem_cons.mpr ⟨rt_nx, ?_⟩
  refine List.forall_mem_cons.mpr ⟨rt_nx, ?_⟩
  refine List.forall_mem_cons.mpr ⟨rt_nx, ?_⟩
  refine List.forall_mem_cons.mpr ⟨rt_nx, ?_⟩
  refine List.forall_mem_cons.mpr ⟨rt_nx, ?_⟩
  refine List.forall_mem_cons.mpr ⟨rt_cv, ?_⟩
  refine List.forall_mem_cons.mpr ⟨rt_nx, ?_⟩
  refine List.forall_mem_cons.mpr ⟨rt_nx, ?_⟩
  refine List.forall_mem_cons.mpr ⟨rt_nx, ?_⟩
  refine List.forall_mem_cons.mpr ⟨rt_nx, ?_⟩
  refine List.forall_mem_cons.mpr ⟨rt_nx, ?_⟩
  refine List.forall_mem_cons.mpr ⟨rt_nx, ?_⟩
  refine List.forall_mem_cons.mpr ⟨rt_nx, ?_⟩
  refine List.forall_mem_cons.mpr ⟨rt_nx, ?_⟩
  refine List.forall_mem_cons.mpr ⟨rt_nx, ?_⟩
  refine List.forall_mem_cons.mpr ⟨rt_nx, ?_⟩
  refine List.forall_mem_cons.mpr ⟨rt_nx, ?_⟩
  refine List.forall_mem_cons.mpr ⟨rt_cv, ?_⟩
  refine List.forall_mem_cons.mpr ⟨rt_nx, ?_⟩
  refine List.forall_mem_cons.mpr ⟨rt_nx, ?_⟩
  refine List.forall_mem_cons.mpr ⟨rt_z (by decide +kernel), ?_⟩
  exact fun _ h => absurd h List.not_mem_nil
theorem rtL_8 (xs : Nat → Int32) (L : Nat) : ∀ q ∈ tL_8 xs L, am_Rt q := by
  unfold tL_8
  refine List.forall_mem_cons.mpr ⟨rt_nx, ?_⟩
  refine List.forall_mem_cons.mpr ⟨rt_nx, ?_⟩
  refine List.forall_mem_cons.mpr ⟨rt_nx, ?_⟩
  refine List.forall_mem_cons.mpr ⟨rt_nx, ?_⟩
  refine List.forall_mem_cons.mpr ⟨rt_nx, ?_⟩
  refine List.forall_mem_cons.mpr ⟨rt_nx, ?_⟩
  refine List.forall_mem_cons.mpr ⟨rt_nx, ?_⟩
  refine List.forall_mem_cons.mpr ⟨rt_nx, ?_⟩
  refine List.forall_mem_cons.mpr ⟨rt_nx, ?_⟩
  refine List.forall_mem_cons.mpr ⟨rt_nx, ?_⟩
  refine List.forall_mem_cons.mpr ⟨rt_nx, ?_⟩
  refine List.forall_mem_cons.mpr ⟨rt_cv, ?_⟩
  refine List.forall_mem_cons.mpr ⟨rt_nx, ?_⟩
  refine List.forall_mem_cons.mpr ⟨rt_nx, ?_⟩
  refine List.forall_mem_cons.mpr ⟨rt_nx, ?_⟩
  refine List.forall_mem_cons.mpr ⟨rt_nx, ?_⟩
  refine List.forall_mem_cons.mpr ⟨rt_nx, ?_⟩
  refine List.forall_mem_cons.mpr ⟨rt_nx, ?_⟩
  refine List.forall_mem_cons.mpr ⟨rt_nx, ?_⟩
  refine List.forall_mem_cons.mpr ⟨rt_nx, ?_⟩
  refine List.forall_mem_cons.mpr ⟨rt_nx, ?_⟩
  refine List.forall_mem_cons.mpr ⟨rt_nx, ?_⟩
  refine List.forall_mem_cons.mpr ⟨rt_nx, ?_⟩
  refine List.forall_mem_cons.mpr ⟨rt_cv, ?_⟩
  refine List.forall_mem_cons.mpr ⟨rt_nx, ?_⟩
  refine List.forall_mem_cons.mpr ⟨rt_nx, ?_⟩
  refine List.forall_mem_cons.mpr ⟨rt_z (by decide +kernel), ?_⟩
  refine List.forall_mem_cons.mpr ⟨rt_nx, ?_⟩
  refine List.forall_mem_cons.mpr ⟨rt_nx, ?_⟩
  refine List.forall_mem_cons.mpr ⟨rt_nx, ?_⟩
  refine List.forall_mem_cons.mpr ⟨rt_nx, ?_⟩
  refine List.forall_mem_cons.mpr ⟨rt_nx, ?_⟩
  refine List.forall_mem_cons.mpr ⟨rt_nx, ?_⟩
  refine List.forall_mem_cons.mpr ⟨rt_cv, ?_⟩
  refine List.forall_mem_cons.mpr ⟨rt_nx, ?_⟩
  refine List.forall_mem_cons.mpr ⟨rt_nx, ?_⟩
  refine List.forall_mem_cons.mpr ⟨rt_nx, ?_⟩
  refine List.forall_mem_cons.mpr ⟨rt_nx, ?_⟩
  refine List.forall_mem_cons.mpr ⟨rt_nx, ?_⟩
  refine List.forall_mem_cons.mpr ⟨rt_nx, ?_⟩
  refine List.forall_mem_cons.mpr ⟨rt_cv, ?_⟩
  refine List.forall_mem_cons.mpr ⟨rt_nx, ?_⟩
  refine List.forall_mem_cons.mpr ⟨rt_nx, ?_⟩
  refine List.forall_mem_cons.mpr ⟨rt_z (by decide +kernel), ?_⟩
  refine List.forall_mem_cons.mpr ⟨rt_nx, ?_⟩
  refine List.forall_mem_cons.mpr ⟨rt_nx, ?_⟩
  refine List.forall_mem_cons.mpr ⟨rt_nx, ?_⟩
  refine List.forall_mem_cons.mpr ⟨rt_nx, ?_⟩
  refine List.forall_mem_cons.mpr ⟨rt_nx, ?_⟩
  refine List.forall_mem_cons.mpr ⟨rt_nx, ?_⟩
  refine List.forall_mem_cons.mpr ⟨rt_nx, ?_⟩
  refine List.forall_mem_cons.mpr ⟨rt_nx, ?_⟩
  refine List.forall_mem_cons.mpr ⟨rt_nx, ?_⟩
  refine List.forall_mem_cons.mpr ⟨rt_nx, ?_⟩
  refine List.forall_mem_cons.mpr ⟨rt_nx, ?_⟩
  refine List.forall_mem_cons.mpr ⟨rt_cv, ?_⟩
  refine List.forall_mem_cons.mpr ⟨rt_nx, ?_⟩
  refine List.forall_mem_cons.mpr ⟨rt_nx, ?_⟩
  refine List.forall_mem_cons.mpr ⟨rt_nx, ?_⟩
  refine List.forall_mem_cons.mpr ⟨rt_nx, ?_⟩
  exact fun _ h => absurd h List.not_mem_nil
theorem rtL_9 (xs : Nat → Int32) (L : Nat) : ∀ q ∈ tL_9 xs L, am_Rt q := by
  unfold tL_9
  refine List.forall_mem_cons.mpr ⟨rt_nx, ?_⟩
  refine List.forall_mem_cons.mpr ⟨rt_nx, ?_⟩
  refine List.forall_mem_cons.mpr ⟨rt_nx, ?_⟩
  refine List.forall_mem_cons.mpr ⟨rt_nx, ?_⟩
  refine List.forall_mem_cons.mpr ⟨rt_nx, ?_⟩
  refine List.forall_mem_cons.mpr ⟨rt_nx, ?_⟩
  refine List.forall_mem_cons.mpr ⟨rt_nx, ?_⟩
  refine List.forall_mem_cons.mpr ⟨rt_cv, ?_⟩
  refine List.forall_mem_cons.mpr ⟨rt_nx, ?_⟩
  refine List.forall_mem_cons.mpr ⟨rt_nx, ?_⟩
  refine List.forall_mem_cons.mpr ⟨rt_z (by decide +kernel), ?_⟩
  refine List.forall_mem_cons.mpr ⟨rt_nx, ?_⟩
  refine List.forall_mem_cons.mpr ⟨rt_nx, ?_⟩
  refine List.forall_mem_cons.mpr ⟨rt_nx, ?_⟩
  refine List.forall_mem_cons.mpr ⟨rt_nx, ?_⟩
  refine List.forall_mem_cons.mpr ⟨rt_nx, ?_⟩
  refine List.forall_mem_cons.mpr ⟨rt_nx, ?_⟩
  refine List.forall_mem_cons.mpr ⟨rt_cv, ?_⟩
  refine List.forall_mem_cons.mpr ⟨rt_nx, ?_⟩
  refine List.forall_mem_cons.mpr ⟨rt_nx, ?_⟩
  refine List.forall_mem_cons.mpr ⟨rt_nx, ?_⟩
  refine List.forall_mem_cons.mpr ⟨rt_nx, ?_⟩
  refine List.forall_mem_cons.mpr ⟨rt_nx, ?_⟩
  refine List.forall_mem_cons.mpr ⟨rt_nx, ?_⟩
  refine List.forall_mem_cons.mpr ⟨rt_cv, ?_⟩
  refine List.forall_mem_cons.mpr ⟨rt_nx, ?_⟩
  refine List.forall_mem_cons.mpr ⟨rt_nx, ?_⟩
  refine List.forall_mem_cons.mpr ⟨rt_z (by decide +kernel), ?_⟩
  refine List.forall_mem_cons.mpr ⟨rt_nx, ?_⟩
  refine List.forall_mem_cons.mpr ⟨rt_nx, ?_⟩
  refine List.forall_mem_cons.mpr ⟨rt_nx, ?_⟩
  refine List.forall_mem_cons.mpr ⟨rt_nx, ?_⟩
  refine List.forall_mem_cons.mpr ⟨rt_nx, ?_⟩
  refine List.forall_mem_cons.mpr ⟨rt_nx, ?_⟩
  refine List.forall_mem_cons.mpr ⟨rt_nx, ?_⟩
  refine List.forall_mem_cons.mpr ⟨rt_nx, ?_⟩
  refine List.forall_mem_cons.mpr ⟨rt_nx, ?_⟩
  refine List.forall_mem_cons.mpr ⟨rt_nx, ?_⟩
  refine List.forall_mem_cons.mpr ⟨rt_nx, ?_⟩
  refine List.forall_mem_cons.mpr ⟨rt_cv, ?_⟩
  refine List.forall_mem_cons.mpr ⟨rt_nx, ?_⟩
  refine List.forall_mem_cons.mpr ⟨rt_nx, ?_⟩
  refine List.forall_mem_cons.mpr ⟨rt_nx, ?_⟩
  refine List.forall_mem_cons.mpr ⟨rt_nx, ?_⟩
  refine List.forall_mem_cons.mpr ⟨rt_nx, ?_⟩
  refine List.forall_mem_cons.mpr ⟨rt_nx, ?_⟩
  refine List.forall_mem_cons.mpr ⟨rt_nx, ?_⟩
  refine List.forall_mem_cons.mpr ⟨rt_nx, ?_⟩
  refine List.forall_mem_cons.mpr ⟨rt_nx, ?_⟩
  refine List.forall_mem_cons.mpr ⟨rt_nx, ?_⟩
  refine List.forall_mem_cons.mpr ⟨rt_nx, ?_⟩
  refine List.forall_mem_cons.mpr ⟨rt_cv, ?_⟩
  refine List.forall_mem_cons.mpr ⟨rt_nx, ?_⟩
  refine List.forall_mem_cons.mpr ⟨rt_nx, ?_⟩
  refine List.forall_mem_cons.mpr ⟨rt_z (by decide +kernel), ?_⟩
  refine List.forall_mem_cons.mpr ⟨rt_nx, ?_⟩
  refine List.forall_mem_cons.mpr ⟨rt_nx, ?_⟩
  refine List.forall_mem_cons.mpr ⟨rt_nx, ?_⟩
  refine List.forall_mem_cons.mpr ⟨rt_nx, ?_⟩
  refine List.forall_mem_cons.mpr ⟨rt_nx, ?_⟩
  exact fun _ h => absurd h List.not_mem_nil
theorem rtL_10 (xs : Nat → Int32) (L : Nat) : ∀ q ∈ tL_10 xs L, am_Rt q := by
  unfold tL_10
  refine List.forall_mem_cons.mpr ⟨rt_nx, ?_⟩
  refine List.forall_mem_cons.mpr ⟨rt_cv, ?_⟩
  refine List.forall_mem_cons.mpr ⟨rt_nx, ?_⟩
  refine List.forall_mem_cons.mpr ⟨rt_nx, ?_⟩
  refine List.forall_mem_cons.mpr ⟨rt_nx, ?_⟩
  refine List.forall_mem_cons.mpr ⟨rt_nx, ?_⟩
  refine List.forall_mem_cons.mpr ⟨rt_nx, ?_⟩
  refine List.forall_mem_cons.mpr ⟨rt_nx, ?_⟩
  refine List.forall_mem_cons.mpr ⟨rt_cv, ?_⟩
  refine List.forall_mem_cons.mpr ⟨rt_nx, ?_⟩
  refine List.forall_mem_cons.mpr ⟨rt_nx, ?_⟩
  refine List.forall_mem_cons.mpr ⟨rt_z (by decide +kernel), ?_⟩
  refine List.forall_mem_cons.mpr ⟨rt_nx, ?_⟩
  refine List.forall_mem_cons.mpr ⟨rt_cv, ?_⟩
  refine List.forall_mem_cons.mpr ⟨rt_nx, ?_⟩
  refine List.forall_mem_cons.mpr ⟨rt_cv, ?_⟩
  refine List.forall_mem_cons.mpr ⟨rt_nx, ?_⟩
  refine List.forall_mem_cons.mpr ⟨rt_nx, ?_⟩
  refine List.forall_mem_cons.mpr ⟨rt_z (by decide +kernel), ?_⟩
  refine List.forall_mem_cons.mpr ⟨rt_nx, ?_⟩
  refine List.forall_mem_cons.mpr ⟨rt_nx, ?_⟩
  refine List.forall_mem_cons.mpr ⟨rt_nx, ?_⟩
  refine List.forall_mem_cons.mpr ⟨rt_nx, ?_⟩
  refine List.forall_mem_cons.mpr ⟨rt_nx, ?_⟩
  refine List.forall_mem_cons.mpr ⟨rt_nx, ?_⟩
  refine List.forall_mem_cons.mpr ⟨rt_nx, ?_⟩
  refine List.forall_mem_cons.mpr ⟨rt_nx, ?_⟩
  refine List.forall_mem_cons.mpr ⟨rt_nx, ?_⟩
  refine List.forall_mem_cons.mpr ⟨rt_nx, ?_⟩
  refine List.forall_mem_cons.mpr ⟨rt_nx, ?_⟩
  refine List.forall_mem_cons.mpr ⟨rt_nx, ?_⟩
  refine List.forall_mem_cons.mpr ⟨rt_nx, ?_⟩
  refine List.forall_mem_cons.mpr ⟨rt_nx, ?_⟩
  refine List.forall_mem_cons.mpr ⟨rt_nx, ?_⟩
  refine List.forall_mem_cons.mpr ⟨rt_nx, ?_⟩
  refine List.forall_mem_cons.mpr ⟨rt_cv, ?_⟩
  refine List.forall_mem_cons.mpr ⟨rt_nx, ?_⟩
  refine List.forall_mem_cons.mpr ⟨rt_nx, ?_⟩
  refine List.forall_mem_cons.mpr ⟨rt_nx, ?_⟩
  refine List.forall_mem_cons.mpr ⟨rt_nx, ?_⟩
  refine List.forall_mem_cons.mpr ⟨rt_nx, ?_⟩
  refine List.forall_mem_cons.mpr ⟨rt_nx, ?_⟩
  refine List.forall_mem_cons.mpr ⟨rt_nx, ?_⟩
  refine List.forall_mem_cons.mpr ⟨rt_nx, ?_⟩
  refine List.forall_mem_cons.mpr ⟨rt_nx, ?_⟩
  refine List.forall_mem_cons.mpr ⟨rt_nx, ?_⟩
  refine List.forall_mem_cons.mpr ⟨rt_nx, ?_⟩
  refine List.forall_mem_cons.mpr ⟨rt_nx, ?_⟩
  refine List.forall_mem_cons.mpr ⟨rt_nx, ?_⟩
  refine List.forall_mem_cons.mpr ⟨rt_nx, ?_⟩
  refine List.forall_mem_cons.mpr ⟨rt_nx, ?_⟩
  refine List.forall_mem_cons.mpr ⟨rt_nx, ?_⟩
  refine List.forall_mem_cons.mpr ⟨rt_cv, ?_⟩
  refine List.forall_mem_cons.mpr ⟨rt_nx, ?_⟩
  refine List.forall_mem_cons.mpr ⟨rt_nx, ?_⟩
  refine List.forall_mem_cons.mpr ⟨rt_z (by decide +kernel), ?_⟩
  refine List.forall_mem_cons.mpr ⟨rt_nx, ?_⟩
  refine List.forall_mem_cons.mpr ⟨rt_nx, ?_⟩
  refine List.forall_mem_cons.mpr ⟨rt_nx, ?_⟩
  refine List.forall_mem_cons.mpr ⟨rt_nx, ?_⟩
  exact fun _ h => absurd h List.not_mem_nil
theorem rtL_11 (xs : Nat → Int32) (L : Nat) : ∀ q ∈ tL_11 xs L, am_Rt q := by
  unfold tL_11
  refine List.forall_mem_cons.mpr ⟨rt_nx, ?_⟩
  refine List.forall_mem_cons.mpr ⟨rt_nx, ?_⟩
  refine List.forall_mem_cons.mpr ⟨rt_nx, ?_⟩
  refine List.forall_mem_cons.mpr ⟨rt_nx, ?_⟩
  refine List.forall_mem_cons.mpr ⟨rt_nx, ?_⟩
  refine List.forall_mem_cons.mpr ⟨rt_nx, ?_⟩
  refine List.forall_mem_cons.mpr ⟨rt_nx, ?_⟩
  refine List.forall_mem_cons.mpr ⟨rt_cv, ?_⟩
  refine List.forall_mem_cons.mpr ⟨rt_nx, ?_⟩
  refine List.forall_mem_cons.mpr ⟨rt_nx, ?_⟩
  refine List.forall_mem_cons.mpr ⟨rt_nx, ?_⟩
  refine List.forall_mem_cons.mpr ⟨rt_nx, ?_⟩
  refine List.forall_mem_cons.mpr ⟨rt_nx, ?_⟩
  refine List.forall_mem_cons.mpr ⟨rt_nx, ?_⟩
  refine List.forall_mem_cons.mpr ⟨rt_nx, ?_⟩
  refine List.forall_mem_cons.mpr ⟨rt_nx, ?_⟩
  refine List.forall_mem_cons.mpr ⟨rt_nx, ?_⟩
  refine List.forall_mem_cons.mpr ⟨rt_nx, ?_⟩
  refine List.forall_mem_cons.mpr ⟨rt_nx, ?_⟩
  refine List.forall_mem_cons.mpr ⟨rt_cv, ?_⟩
  refine List.forall_mem_cons.mpr ⟨rt_nx, ?_⟩
  refine List.forall_mem_cons.mpr ⟨rt_nx, ?_⟩
  refine List.forall_mem_cons.mpr ⟨rt_z (by decide +kernel), ?_⟩
  refine List.forall_mem_cons.mpr ⟨rt_nx, ?_⟩
  refine List.forall_mem_cons.mpr ⟨rt_cv, ?_⟩
  refine List.forall_mem_cons.mpr ⟨rt_nx, ?_⟩
  refine List.forall_mem_cons.mpr ⟨rt_cv, ?_⟩
  refine List.forall_mem_cons.mpr ⟨rt_nx, ?_⟩
  refine List.forall_mem_cons.mpr ⟨rt_nx, ?_⟩
  refine List.forall_mem_cons.mpr ⟨rt_z (by decide +kernel), ?_⟩
  refine List.forall_mem_cons.mpr ⟨rt_nx, ?_⟩
  refine List.forall_mem_cons.mpr ⟨rt_cv, ?_⟩
  refine List.forall_mem_cons.mpr ⟨rt_nx, ?_⟩
  refine List.forall_mem_cons.mpr ⟨rt_cv, ?_⟩
  refine List.forall_mem_cons.mpr ⟨rt_nx, ?_⟩
  refine List.forall_mem_cons.mpr ⟨rt_nx, ?_⟩
  refine List.forall_mem_cons.mpr ⟨rt_z (by decide +kernel), ?_⟩
  refine List.forall_mem_cons.mpr ⟨rt_nx, ?_⟩
  refine List.forall_mem_cons.mpr ⟨rt_nx, ?_⟩
  refine List.forall_mem_cons.mpr ⟨rt_nx, ?_⟩
  refine List.forall_mem_cons.mpr ⟨rt_nx, ?_⟩
  refine List.forall_mem_cons.mpr ⟨rt_nx, ?_⟩
  refine List.forall_mem_cons.mpr ⟨rt_nx, ?_⟩
  refine List.forall_mem_cons.mpr ⟨rt_nx, ?_⟩
  refine List.forall_mem_cons.mpr ⟨rt_nx, ?_⟩
  refine List.forall_mem_cons.mpr ⟨rt_nx, ?_⟩
  refine List.forall_mem_cons.mpr ⟨rt_nx, ?_⟩
  refine List.forall_mem_cons.mpr ⟨rt_nx, ?_⟩
  refine List.forall_mem_cons.mpr ⟨rt_cv, ?_⟩
  refine List.forall_mem_cons.mpr ⟨rt_nx, ?_⟩
  refine List.forall_mem_cons.mpr ⟨rt_nx, ?_⟩
  refine List.forall_mem_cons.mpr ⟨rt_nx, ?_⟩
  refine List.forall_mem_cons.mpr ⟨rt_nx, ?_⟩
  refine List.forall_mem_cons.mpr ⟨rt_nx, ?_⟩
  refine List.forall_mem_cons.mpr ⟨rt_nx, ?_⟩
  refine List.forall_mem_cons.mpr ⟨rt_nx, ?_⟩
  refine List.forall_mem_cons.mpr ⟨rt_nx, ?_⟩
  refine List.forall_mem_cons.mpr ⟨rt_nx, ?_⟩
  refine List.forall_mem_cons.mpr ⟨rt_nx, ?_⟩
  refine List.forall_mem_cons.mpr ⟨rt_nx, ?_⟩
  exact fun _ h => absurd h List.not_mem_nil
theorem rtL_12 (xs : Nat → Int32) (L : Nat) : ∀ q ∈ tL_12 xs L, am_Rt q := by
  unfold tL_12
  refine List.forall_mem_cons.mpr ⟨rt_cv, ?_⟩
  refine List.forall_mem_cons.mpr ⟨rt_nx, ?_⟩
  refine List.forall_mem_cons.mpr ⟨rt_nx, ?_⟩
  refine List.forall_mem_cons.mpr ⟨rt_z (by decide +kernel), ?_⟩
  refine List.forall_mem_cons.mpr ⟨rt_nx, ?_⟩
  refine List.forall_mem_cons.mpr ⟨rt_nx, ?_⟩
  refine List.forall_mem_cons.mpr ⟨rt_nx, ?_⟩
  refine List.forall_mem_cons.mpr ⟨rt_nx, ?_⟩
  refine List.forall_mem_cons.mpr ⟨rt_nx, ?_⟩
  refine List.forall_mem_cons.mpr ⟨rt_nx, ?_⟩
  refine List.forall_mem_cons.mpr ⟨rt_cv, ?_⟩
  refine List.forall_mem_cons.mpr ⟨rt_nx, ?_⟩
  refine List.forall_mem_cons.mpr ⟨rt_nx, ?_⟩
  refine List.forall_mem_cons.mpr ⟨rt_nx, ?_⟩
  refine List.forall_mem_cons.mpr ⟨rt_nx, ?_⟩
  refine List.forall_mem_cons.mpr ⟨rt_nx, ?_⟩
  refine List.forall_mem_cons.mpr ⟨rt_nx, ?_⟩
  refine List.forall_mem_cons.mpr ⟨rt_cv, ?_⟩
  refine List.forall_mem_cons.mpr ⟨rt_nx, ?_⟩
  refine List.forall_mem_cons.mpr ⟨rt_nx, ?_⟩
  refine List.forall_mem_cons.mpr ⟨rt_nx, ?_⟩
  refine List.forall_mem_cons.mpr ⟨rt_z (by decide +kernel), ?_⟩
  refine List.forall_mem_cons.mpr ⟨rt_nx, ?_⟩
  refine List.forall_mem_cons.mpr ⟨rt_cv, ?_⟩
  refine List.forall_mem_cons.mpr ⟨rt_nx, ?_⟩
  refine List.forall_mem_cons.mpr ⟨rt_cv, ?_⟩
  refine List.forall_mem_cons.mpr ⟨rt_nx, ?_⟩
  refine List.forall_mem_cons.mpr ⟨rt_nx, ?_⟩
  refine List.forall_mem_cons.mpr ⟨rt_z (by decide +kernel), ?_⟩
  refine List.forall_mem_cons.mpr ⟨rt_nx, ?_⟩
  refine List.forall_mem_cons.mpr ⟨rt_nx, ?_⟩
  refine List.forall_mem_cons.mpr ⟨rt_nx, ?_⟩
  refine List.forall_mem_cons.mpr ⟨rt_nx, ?_⟩
  refine List.forall_mem_cons.mpr ⟨rt_nx, ?_⟩
  refine List.forall_mem_cons.mpr ⟨rt_nx, ?_⟩
  refine List.forall_mem_cons.mpr ⟨rt_nx, ?_⟩
  refine List.forall_mem_cons.mpr ⟨rt_nx, ?_⟩
  refine List.forall_mem_cons.mpr ⟨rt_nx, ?_⟩
  refine List.forall_mem_cons.mpr ⟨rt_nx, ?_⟩
  refine List.forall_mem_cons.mpr ⟨rt_nx, ?_⟩
  refine List.forall_mem_cons.mpr ⟨rt_nx, ?_⟩
  refine List.forall_mem_cons.mpr ⟨rt_nx, ?_⟩
  refine List.forall_mem_cons.mpr ⟨rt_nx, ?_⟩
  refine List.forall_mem_cons.mpr ⟨rt_nx, ?_⟩
  refine List.forall_mem_cons.mpr ⟨rt_nx, ?_⟩
  refine List.forall_mem_cons.mpr ⟨rt_cv, ?_⟩
  refine List.forall_mem_cons.mpr ⟨rt_nx, ?_⟩
  refine List.forall_mem_cons.mpr ⟨rt_nx, ?_⟩
  refine List.forall_mem_cons.mpr ⟨rt_nx, ?_⟩
  refine List.forall_mem_cons.mpr ⟨rt_nx, ?_⟩
  refine List.forall_mem_cons.mpr ⟨rt_nx, ?_⟩
  refine List.forall_mem_cons.mpr ⟨rt_nx, ?_⟩
  refine List.forall_mem_cons.mpr ⟨rt_nx, ?_⟩
  refine List.forall_mem_cons.mpr ⟨rt_nx, ?_⟩
  refine List.forall_mem_cons.mpr ⟨rt_nx, ?_⟩
  refine List.forall_mem_cons.mpr ⟨rt_nx, ?_⟩
  refine List.forall_mem_cons.mpr ⟨rt_nx, ?_⟩
  refine List.forall_mem_cons.mpr ⟨rt_nx, ?_⟩
  refine List.forall_mem_cons.mpr ⟨rt_nx, ?_⟩
  refine List.forall_mem_cons.mpr ⟨rt_nx, ?_⟩
  exact fun _ h => absurd h List.not_mem_nil
theorem rtL_13 (xs : Nat → Int32) (L : Nat) : ∀ q ∈ tL_13 xs L, am_Rt q := by
  unfold tL_13
  refine List.forall_mem_cons.mpr ⟨rt_nx, ?_⟩
  refine List.forall_mem_cons.mpr ⟨rt_nx, ?_⟩
  refine List.forall_mem_cons.mpr ⟨rt_cv, ?_⟩
  refine List.forall_mem_cons.mpr ⟨rt_nx, ?_⟩
  refine List.forall_mem_cons.mpr ⟨rt_nx, ?_⟩
  refine List.forall_mem_cons.mpr ⟨rt_z (by decide +kernel), ?_⟩
  refine List.forall_mem_cons.mpr ⟨rt_nx, ?_⟩
  refine List.forall_mem_cons.mpr ⟨rt_nx, ?_⟩
  refine List.forall_mem_cons.mpr ⟨rt_nx, ?_⟩
  refine List.forall_mem_cons.mpr ⟨rt_nx, ?_⟩
  refine List.forall_mem_cons.mpr ⟨rt_nx, ?_⟩
  refine List.forall_mem_cons.mpr ⟨rt_nx, ?_⟩
  refine List.forall_mem_cons.mpr ⟨rt_cv, ?_⟩
  refine List.forall_mem_cons.mpr ⟨rt_nx, ?_⟩
  refine List.forall_mem_cons.mpr ⟨rt_nx, ?_⟩
  refine List.forall_mem_cons.mpr ⟨rt_nx, ?_⟩
  refine List.forall_mem_cons.mpr ⟨rt_nx, ?_⟩
  refine List.forall_mem_cons.mpr ⟨rt_nx, ?_⟩
  refine List.forall_mem_cons.mpr ⟨rt_nx, ?_⟩
  refine List.forall_mem_cons.mpr ⟨rt_cv, ?_⟩
  refine List.forall_mem_cons.mpr ⟨rt_nx, ?_⟩
  refine List.forall_mem_cons.mpr ⟨rt_nx, ?_⟩
  refine List.forall_mem_cons.mpr ⟨rt_z (by decide +kernel), ?_⟩
  refine List.forall_mem_cons.mpr ⟨rt_nx, ?_⟩
  refine List.forall_mem_cons.mpr ⟨rt_nx, ?_⟩
  refine List.forall_mem_cons.mpr ⟨rt_nx, ?_⟩
  refine List.forall_mem_cons.mpr ⟨rt_nx, ?_⟩
  refine List.forall_mem_cons.mpr ⟨rt_nx, ?_⟩
  refine List.forall_mem_cons.mpr ⟨rt_nx, ?_⟩
  refine List.forall_mem_cons.mpr ⟨rt_cv, ?_⟩
  refine List.forall_mem_cons.mpr ⟨rt_nx, ?_⟩
  refine List.forall_mem_cons.mpr ⟨rt_nx, ?_⟩
  refine List.forall_mem_cons.mpr ⟨rt_nx, ?_⟩
  refine List.forall_mem_cons.mpr ⟨rt_nx, ?_⟩
  refine List.forall_mem_cons.mpr ⟨rt_nx, ?_⟩
  refine List.forall_mem_cons.mpr ⟨rt_nx, ?_⟩
  refine List.forall_mem_cons.mpr ⟨rt_cv, ?_⟩
  refine List.forall_mem_cons.mpr ⟨rt_nx, ?_⟩
  refine List.forall_mem_cons.mpr ⟨rt_nx, ?_⟩
  refine List.forall_mem_cons.mpr ⟨rt_z (by decide +kernel), ?_⟩
  refine List.forall_mem_cons.mpr ⟨rt_nx, ?_⟩
  refine List.forall_mem_cons.mpr ⟨rt_cv, ?_⟩
  refine List.forall_mem_cons.mpr ⟨rt_nx, ?_⟩
  refine List.forall_mem_cons.mpr ⟨rt_cv, ?_⟩
  refine List.forall_mem_cons.mpr ⟨rt_nx, ?_⟩
  refine List.forall_mem_cons.mpr ⟨rt_nx, ?_⟩
  refine List.forall_mem_cons.mpr ⟨rt_z (by decide +kernel), ?_⟩
  refine List.forall_mem_cons.mpr ⟨rt_nx, ?_⟩
  refine List.forall_mem_cons.mpr ⟨rt_nx, ?_⟩
  refine List.forall_mem_cons.mpr ⟨rt_nx, ?_⟩
  refine List.forall_mem_cons.mpr ⟨rt_nx, ?_⟩
  refine List.forall_mem_cons.mpr ⟨rt_nx, ?_⟩
  refine List.forall_mem_cons.mpr ⟨rt_nx, ?_⟩
  refine List.forall_mem_cons.mpr ⟨rt_nx, ?_⟩
  refine List.forall_mem_cons.mpr ⟨rt_nx, ?_⟩
  refine List.forall_mem_cons.mpr ⟨rt_nx, ?_⟩
  refine List.forall_mem_cons.mpr ⟨rt_nx, ?_⟩
  refine List.forall_mem_cons.mpr ⟨rt_nx, ?_⟩
  refine List.forall_mem_cons.mpr ⟨rt_nx, ?_⟩
  refine List.forall_mem_cons.mpr ⟨rt_nx, ?_⟩
  exact fun _ h => absurd h List.not_mem_nil
theorem rtL_14 (xs : Nat → Int32) (L : Nat) : ∀ q ∈ tL_14 xs L, am_Rt q := by
  unfold tL_14
  refine List.forall_mem_cons.mpr ⟨rt_nx, ?_⟩
  refine List.forall_mem_cons.mpr ⟨rt_nx, ?_⟩
  refine List.forall_mem_cons.mpr ⟨rt_nx, ?_⟩
  refine List.forall_mem_cons.mpr ⟨rt_nx, ?_⟩
  refine List.forall_mem_cons.mpr ⟨rt_nx, ?_⟩
  refine List.forall_mem_cons.mpr ⟨rt_nx, ?_⟩
  refine List.forall_mem_cons.mpr ⟨rt_nx, ?_⟩
  refine List.forall_mem_cons.mpr ⟨rt_nx, ?_⟩
  refine List.forall_mem_cons.mpr ⟨rt_nx, ?_⟩
  refine List.forall_mem_cons.mpr ⟨rt_nx, ?_⟩
  refine List.forall_mem_cons.mpr ⟨rt_nx, ?_⟩
  refine List.forall_mem_cons.mpr ⟨rt_nx, ?_⟩
  refine List.forall_mem_cons.mpr ⟨rt_nx, ?_⟩
  refine List.forall_mem_cons.mpr ⟨rt_nx, ?_⟩
  refine List.forall_mem_cons.mpr ⟨rt_nx, ?_⟩
  refine List.forall_mem_cons.mpr ⟨rt_nx, ?_⟩
  refine List.forall_mem_cons.mpr ⟨rt_nx, ?_⟩
  refine List.forall_mem_cons.mpr ⟨rt_cv, ?_⟩
  refine List.forall_mem_cons.mpr ⟨rt_nx, ?_⟩
  refine List.forall_mem_cons.mpr ⟨rt_nx, ?_⟩
  refine List.forall_mem_cons.mpr ⟨rt_nx, ?_⟩
  refine List.forall_mem_cons.mpr ⟨rt_nx, ?_⟩
  refine List.forall_mem_cons.mpr ⟨rt_nx, ?_⟩
  refine List.forall_mem_cons.mpr ⟨rt_nx, ?_⟩
  refine List.forall_mem_cons.mpr ⟨rt_nx, ?_⟩
  refine List.forall_mem_cons.mpr ⟨rt_nx, ?_⟩
  refine List.forall_mem_cons.mpr ⟨rt_nx, ?_⟩
  refine List.forall_mem_cons.mpr ⟨rt_nx, ?_⟩
  refine List.forall_mem_cons.mpr ⟨rt_nx, ?_⟩
  refine List.forall_mem_cons.mpr ⟨rt_nx, ?_⟩
  refine List.forall_mem_cons.mpr ⟨rt_nx, ?_⟩
  refine List.forall_mem_cons.mpr ⟨rt_nx, ?_⟩
  refine List.forall_mem_cons.mpr ⟨rt_nx, ?_⟩
  refine List.forall_mem_cons.mpr ⟨rt_nx, ?_⟩
  refine List.forall_mem_cons.mpr ⟨rt_nx, ?_⟩
  refine List.forall_mem_cons.mpr ⟨rt_nx, ?_⟩
  refine List.forall_mem_cons.mpr ⟨rt_nx, ?_⟩
  refine List.forall_mem_cons.mpr ⟨rt_nx, ?_⟩
  refine List.forall_mem_cons.mpr ⟨rt_nx, ?_⟩
  refine List.forall_mem_cons.mpr ⟨rt_nx, ?_⟩
  refine List.forall_mem_cons.mpr ⟨rt_nx, ?_⟩
  refine List.forall_mem_cons.mpr ⟨rt_nx, ?_⟩
  refine List.forall_mem_cons.mpr ⟨rt_nx, ?_⟩
  refine List.forall_mem_cons.mpr ⟨rt_nx, ?_⟩
  refine List.forall_mem_cons.mpr ⟨rt_nx, ?_⟩
  refine List.forall_mem_cons.mpr ⟨rt_nx, ?_⟩
  refine List.forall_mem_cons.mpr ⟨rt_nx, ?_⟩
  refine List.forall_mem_cons.mpr ⟨rt_nx, ?_⟩
  refine List.forall_mem_cons.mpr ⟨rt_cv, ?_⟩
  refine List.forall_mem_cons.mpr ⟨rt_nx, ?_⟩
  refine List.forall_mem_cons.mpr ⟨rt_nx, ?_⟩
  refine List.forall_mem_cons.mpr ⟨rt_z (by decide +kernel), ?_⟩
  refine List.forall_mem_cons.mpr ⟨rt_nx, ?_⟩
  refine List.forall_mem_cons.mpr ⟨rt_nx, ?_⟩
  refine List.forall_mem_cons.mpr ⟨rt_nx, ?_⟩
  refine List.forall_mem_cons.mpr ⟨rt_nx, ?_⟩
  refine List.forall_mem_cons.mpr ⟨rt_nx, ?_⟩
  refine List.forall_mem_cons.mpr ⟨rt_nx, ?_⟩
  refine List.forall_mem_cons.mpr ⟨rt_nx, ?_⟩
  refine List.forall_mem_cons.mpr ⟨rt_nx, ?_⟩
  exact fun _ h => absurd h List.not_mem_nil
theorem rtL_15 (xs : Nat → Int32) (L : Nat) : ∀ q ∈ tL_15 xs L, am_Rt q := by
  unfold tL_15
  refine List.forall_mem_cons.mpr ⟨rt_nx, ?_⟩
  refine List.forall_mem_cons.mpr ⟨rt_nx, ?_⟩
  refine List.forall_mem_cons.mpr ⟨rt_nx, ?_⟩
  refine List.forall_mem_cons.mpr ⟨rt_cv, ?_⟩
  refine List.forall_mem_cons.mpr ⟨rt_nx, ?_⟩
  refine List.forall_mem_cons.mpr ⟨rt_nx, ?_⟩
  refine List.forall_mem_cons.mpr ⟨rt_nx, ?_⟩
  refine List.forall_mem_cons.mpr ⟨rt_nx, ?_⟩
  refine List.forall_mem_cons.mpr ⟨rt_nx, ?_⟩
  refine List.forall_mem_cons.mpr ⟨rt_nx, ?_⟩
  refine List.forall_mem_cons.mpr ⟨rt_nx, ?_⟩
  refine List.forall_mem_cons.mpr ⟨rt_nx, ?_⟩
  refine List.forall_mem_cons.mpr ⟨rt_nx, ?_⟩
  refine List.forall_mem_cons.mpr ⟨rt_nx, ?_⟩
  refine List.forall_mem_cons.mpr ⟨rt_nx, ?_⟩
  refine List.forall_mem_cons.mpr ⟨rt_cv, ?_⟩
  refine List.forall_mem_cons.mpr ⟨rt_nx, ?_⟩
  refine List.forall_mem_cons.mpr ⟨rt_nx, ?_⟩
  refine List.forall_mem_cons.mpr ⟨rt_z (by decide +kernel), ?_⟩
  refine List.forall_mem_cons.mpr ⟨rt_nx, ?_⟩
  refine List.forall_mem_cons.mpr ⟨rt_nx, ?_⟩
  refine List.forall_mem_cons.mpr ⟨rt_nx, ?_⟩
  refine List.forall_mem_cons.mpr ⟨rt_nx, ?_⟩
  refine List.forall_mem_cons.mpr ⟨rt_nx, ?_⟩
  refine List.forall_mem_cons.mpr ⟨rt_nx, ?_⟩
  refine List.forall_mem_cons.mpr ⟨rt_nx, ?_⟩
  refine List.forall_mem_cons.mpr ⟨rt_nx, ?_⟩
  refine List.forall_mem_cons.mpr ⟨rt_nx, ?_⟩
  refine List.forall_mem_cons.mpr ⟨rt_nx, ?_⟩
  refine List.forall_mem_cons.mpr ⟨rt_nx, ?_⟩
  refine List.forall_mem_cons.mpr ⟨rt_nx, ?_⟩
  refine List.forall_mem_cons.mpr ⟨rt_nx, ?_⟩
  refine List.forall_mem_cons.mpr ⟨rt_nx, ?_⟩
  refine List.forall_mem_cons.mpr ⟨rt_nx, ?_⟩
  refine List.forall_mem_cons.mpr ⟨rt_nx, ?_⟩
  refine List.forall_mem_cons.mpr ⟨rt_nx, ?_⟩
  refine List.forall_mem_cons.mpr ⟨rt_nx, ?_⟩
  refine List.forall_mem_cons.mpr ⟨rt_nx, ?_⟩
  refine List.forall_mem_cons.mpr ⟨rt_nx, ?_⟩
  refine List.forall_mem_cons.mpr ⟨rt_nx, ?_⟩
  refine List.forall_mem_cons.mpr ⟨rt_cv, ?_⟩
  refine List.forall_mem_cons.mpr ⟨rt_nx, ?_⟩
  refine List.forall_mem_cons.mpr ⟨rt_nx, ?_⟩
  refine List.forall_mem_cons.mpr ⟨rt_nx, ?_⟩
  refine List.forall_mem_cons.mpr ⟨rt_nx, ?_⟩
  refine List.forall_mem_cons.mpr ⟨rt_nx, ?_⟩
  refine List.forall_mem_cons.mpr ⟨rt_nx, ?_⟩
  refine List.forall_mem_cons.mpr ⟨rt_nx, ?_⟩
  refine List.forall_mem_cons.mpr ⟨rt_nx, ?_⟩
  refine List.forall_mem_cons.mpr ⟨rt_nx, ?_⟩
  refine List.forall_mem_cons.mpr ⟨rt_nx, ?_⟩
  refine List.forall_mem_cons.mpr ⟨rt_nx, ?_⟩
  refine List.forall_mem_cons.mpr ⟨rt_nx, ?_⟩
  refine List.forall_mem_cons.mpr ⟨rt_nx, ?_⟩
  refine List.forall_mem_cons.mpr ⟨rt_nx, ?_⟩
  refine List.forall_mem_cons.mpr ⟨rt_nx, ?_⟩
  refine List.forall_mem_cons.mpr ⟨rt_nx, ?_⟩
  refine List.forall_mem_cons.mpr ⟨rt_nx, ?_⟩
  refine List.forall_mem_cons.mpr ⟨rt_nx, ?_⟩
  refine List.forall_mem_cons.mpr ⟨rt_nx, ?_⟩
  exact fun _ h => absurd h List.not_mem_nil
theorem rtL_16 (xs : Nat → Int32) (L : Nat) : ∀ q ∈ tL_16 xs L, am_Rt q := by
  unfold tL_16
  refine List.forall_mem_cons.mpr ⟨rt_nx, ?_⟩
  refine List.forall_mem_cons.mpr ⟨rt_nx, ?_⟩
  refine List.forall_mem_cons.mpr ⟨rt_cv, ?_⟩
  refine List.forall_mem_cons.mpr ⟨rt_nx, ?_⟩
  refine List.forall_mem_cons.mpr ⟨rt_nx, ?_⟩
  refine List.forall_mem_cons.mpr ⟨rt_z (by decide +kernel), ?_⟩
  refine List.forall_mem_cons.mpr ⟨rt_nx, ?_⟩
  refine List.forall_mem_cons.mpr ⟨rt_cv, ?_⟩
  refine List.forall_mem_cons.mpr ⟨rt_nx, ?_⟩
  refine List.forall_mem_cons.mpr ⟨rt_cv, ?_⟩
  refine List.forall_mem_cons.mpr ⟨rt_nx, ?_⟩
  refine List.forall_mem_cons.mpr ⟨rt_nx, ?_⟩
  refine List.forall_mem_cons.mpr ⟨rt_z (by decide +kernel), ?_⟩
  refine List.forall_mem_cons.mpr ⟨rt_nx, ?_⟩
  refine List.forall_mem_cons.mpr ⟨rt_nx, ?_⟩
  refine List.forall_mem_cons.mpr ⟨rt_nx, ?_⟩
  refine List.forall_mem_cons.mpr ⟨rt_nx, ?_⟩
  refine List.forall_mem_cons.mpr ⟨rt_nx, ?_⟩
  refine List.forall_mem_cons.mpr ⟨rt_nx, ?_⟩
  refine List.forall_mem_cons.mpr ⟨rt_cv, ?_⟩
  refine List.forall_mem_cons.mpr ⟨rt_nx, ?_⟩
  refine List.forall_mem_cons.mpr ⟨rt_nx, ?_⟩
  refine List.forall_mem_cons.mpr ⟨rt_nx, ?_⟩
  refine List.forall_mem_cons.mpr ⟨rt_nx, ?_⟩
  refine List.forall_mem_cons.mpr ⟨rt_nx, ?_⟩
  refine List.forall_mem_cons.mpr ⟨rt_nx, ?_⟩
  refine List.forall_mem_cons.mpr ⟨rt_cv, ?_⟩
  refine List.forall_mem_cons.mpr ⟨rt_nx, ?_⟩
  refine List.forall_mem_cons.mpr ⟨rt_nx, ?_⟩
  refine List.forall_mem_cons.mpr ⟨rt_z (by decide +kernel), ?_⟩
  refine List.forall_mem_cons.mpr ⟨rt_nx, ?_⟩
  refine List.forall_mem_cons.mpr ⟨rt_cv, ?_⟩
  refine List.forall_mem_cons.mpr ⟨rt_nx, ?_⟩
  refine List.forall_mem_cons.mpr ⟨rt_cv, ?_⟩
  refine List.forall_mem_cons.mpr ⟨rt_nx, ?_⟩
  refine List.forall_mem_cons.mpr ⟨rt_nx, ?_⟩
  refine List.forall_mem_cons.mpr ⟨rt_z (by decide +kernel), ?_⟩
  refine List.forall_mem_cons.mpr ⟨rt_nx, ?_⟩
  refine List.forall_mem_cons.mpr ⟨rt_nx, ?_⟩
  refine List.forall_mem_cons.mpr ⟨rt_nx, ?_⟩
  refine List.forall_mem_cons.mpr ⟨rt_nx, ?_⟩
  refine List.forall_mem_cons.mpr ⟨rt_nx, ?_⟩
  refine List.forall_mem_cons.mpr ⟨rt_nx, ?_⟩
  refine List.forall_mem_cons.mpr ⟨rt_cv, ?_⟩
  refine List.forall_mem_cons.mpr ⟨rt_nx, ?_⟩
  refine List.forall_mem_cons.mpr ⟨rt_nx, ?_⟩
  refine List.forall_mem_cons.mpr ⟨rt_nx, ?_⟩
  refine List.forall_mem_cons.mpr ⟨rt_nx, ?_⟩
  refine List.forall_mem_cons.mpr ⟨rt_nx, ?_⟩
  refine List.forall_mem_cons.mpr ⟨rt_nx, ?_⟩
  refine List.forall_mem_cons.mpr ⟨rt_cv, ?_⟩
  refine List.forall_mem_cons.mpr ⟨rt_nx, ?_⟩
  refine List.forall_mem_cons.mpr ⟨rt_nx, ?_⟩
  refine List.forall_mem_cons.mpr ⟨rt_z (by decide +kernel), ?_⟩
  refine List.forall_mem_cons.mpr ⟨rt_nx, ?_⟩
  refine List.forall_mem_cons.mpr ⟨rt_nx, ?_⟩
  refine List.forall_mem_cons.mpr ⟨rt_nx, ?_⟩
  refine List.forall_mem_cons.mpr ⟨rt_z (by decide +kernel), ?_⟩
  exact fun _ h => absurd h List.not_mem_nil
theorem rtL (xs : Nat → Int32) (L : Nat) : ∀ q ∈ tL xs L, am_Rt q := List.forall_mem_append.mpr ⟨rtL_0 xs L, List.forall_mem_append.mpr ⟨rtL_1 xs L, List.forall_mem_append.mpr ⟨rtL_2 xs L, List.forall_mem_append.mpr ⟨rtL_3 xs L, List.forall_mem_append.mpr ⟨rtL_4 xs L, List.forall_mem_append.mpr ⟨rtL_5 xs L, List.forall_mem_append.mpr ⟨rtL_6 xs L, List.forall_mem_append.mpr ⟨rtL_7 xs L, List.forall_mem_append.mpr ⟨rtL_8 xs L, List.forall_mem_append.mpr ⟨rtL_9 xs L, List.forall_mem_append.mpr ⟨rtL_10 xs L, List.forall_mem_append.mpr ⟨rtL_11 xs L, List.forall_mem_append.mpr ⟨rtL_12 xs L, List.forall_mem_append.mpr ⟨rtL_13 xs L, List.forall_mem_append.mpr ⟨rtL_14 xs L, List.forall_mem_append.mpr ⟨rtL_15 xs L, rtL_16 xs L⟩⟩⟩⟩⟩⟩⟩⟩⟩⟩⟩⟩⟩⟩⟩⟩
theorem am_lkR {t : List (Nat × am_Act)} (h : ∀ q ∈ t, am_Rt q) (pc : Nat) : am_Rt (pc, am_look t pc) := by
  induction t with
  | nil => intro lv st M v M' h; cases h
  | cons q t ih =>
    obtain ⟨k, a⟩ := q
    rw [am_look]
    by_cases e : pc = k
    · rw [if_pos e, e]; exact h (k, a) List.mem_cons_self
    · rw [if_neg e]; exact ih (fun x hx => h x (List.mem_cons_of_mem _ hx))
theorem am_lkF {P : Nat → am_Y} {G : am_G} {nL : Nat} {p : Program} {l : Launch} {e : Env} {R : Room} {s : State} {m : MethodId} {args : Array Value} {below : List Frame} {meth : Method} {c : Code} {t : List (Nat × am_Act)} (h : ∀ q ∈ t, am_SndF P G nL p l e R s m args below meth c q.1 q.2) (pc : Nat) : am_SndF P G nL p l e R s m args below meth c pc (am_look t pc) := by
  induction t with
  | nil => exact fun lv st M => ⟨fun _ _ _ _ h => (by cases h), fun _ _ h => (by cases h), fun _ _ _ _ _ _ h => (by cases h)⟩
  | cons q t ih =>
    obtain ⟨k, a⟩ := q
    rw [am_look]
    by_cases e : pc = k
    · rw [if_pos e, e]; exact h (k, a) List.mem_cons_self
    · rw [if_neg e]; exact ih (fun x hx => h x (List.mem_cons_of_mem _ hx))
