/-! the machine follows each instruction (by program: gen_prog.py) -/
theorem sn_tJ13_bitCount_95d88 : ∀ q ∈ tJ13_bitCount_95d88, am_Snd am_P0 RJ13 cJ13_bitCount_95d88 2 (Option.some FieldType.int) "bitCount" q.1 q.2 := by
  unfold tJ13_bitCount_95d88
  refine List.forall_mem_cons.mpr ⟨(s_lloadn (am_dp pw_J13_bitCount_95d88_0 dd_J13_bitCount_95d88_0a.1) rfl).to, ?_⟩
  refine List.forall_mem_cons.mpr ⟨(s_lloadn (am_dp pw_J13_bitCount_95d88_0 dd_J13_bitCount_95d88_0a.2.1) rfl).to, ?_⟩
  refine List.forall_mem_cons.mpr ⟨(s_iconst (am_dp pw_J13_bitCount_95d88_0 dd_J13_bitCount_95d88_0a.2.2.1) (by decide)).to, ?_⟩
  refine List.forall_mem_cons.mpr ⟨(s_lushr (am_dp pw_J13_bitCount_95d88_0 dd_J13_bitCount_95d88_0a.2.2.2.1)).to, ?_⟩
  refine List.forall_mem_cons.mpr ⟨(s_ldc2 (am_dp pw_J13_bitCount_95d88_0 dd_J13_bitCount_95d88_0a.2.2.2.2.1) wd1075).to, ?_⟩
  refine List.forall_mem_cons.mpr ⟨(s_land (am_dp pw_J13_bitCount_95d88_0 dd_J13_bitCount_95d88_0a.2.2.2.2.2.1)).to, ?_⟩
  refine List.forall_mem_cons.mpr ⟨(s_lsub (am_dp pw_J13_bitCount_95d88_0 dd_J13_bitCount_95d88_0a.2.2.2.2.2.2.1)).to, ?_⟩
  refine List.forall_mem_cons.mpr ⟨(s_lstoren (am_dp pw_J13_bitCount_95d88_0 dd_J13_bitCount_95d88_0a.2.2.2.2.2.2.2) rfl (by decide)).to, ?_⟩
  refine List.forall_mem_cons.mpr ⟨(s_lloadn (am_dp pw_J13_bitCount_95d88_0 dd_J13_bitCount_95d88_0b.1) rfl).to, ?_⟩
  refine List.forall_mem_cons.mpr ⟨(s_ldc2 (am_dp pw_J13_bitCount_95d88_0 dd_J13_bitCount_95d88_0b.2.1) wd1076).to, ?_⟩
  refine List.forall_mem_cons.mpr ⟨(s_land (am_dp pw_J13_bitCount_95d88_0 dd_J13_bitCount_95d88_0b.2.2.1)).to, ?_⟩
  refine List.forall_mem_cons.mpr ⟨(s_lloadn (am_dp pw_J13_bitCount_95d88_0 dd_J13_bitCount_95d88_0b.2.2.2.1) rfl).to, ?_⟩
  refine List.forall_mem_cons.mpr ⟨(s_iconst (am_dp pw_J13_bitCount_95d88_0 dd_J13_bitCount_95d88_0b.2.2.2.2.1) (by decide)).to, ?_⟩
  refine List.forall_mem_cons.mpr ⟨(s_lushr (am_dp pw_J13_bitCount_95d88_0 dd_J13_bitCount_95d88_0b.2.2.2.2.2.1)).to, ?_⟩
  refine List.forall_mem_cons.mpr ⟨(s_ldc2 (am_dp pw_J13_bitCount_95d88_0 dd_J13_bitCount_95d88_0b.2.2.2.2.2.2.1) wd1076).to, ?_⟩
  refine List.forall_mem_cons.mpr ⟨(s_land (am_dp pw_J13_bitCount_95d88_0 dd_J13_bitCount_95d88_0b.2.2.2.2.2.2.2)).to, ?_⟩
  refine List.forall_mem_cons.mpr ⟨(s_ladd (am_dp pw_J13_bitCount_95d88_0 dd_J13_bitCount_95d88_0c.1)).to, ?_⟩
  refine List.forall_mem_cons.mpr ⟨(s_lstoren (am_dp pw_J13_bitCount_95d88_0 dd_J13_bitCount_95d88_0c.2.1) rfl (by decide)).to, ?_⟩
  refine List.forall_mem_cons.mpr ⟨(s_lloadn (am_dp pw_J13_bitCount_95d88_0 dd_J13_bitCount_95d88_0c.2.2.1) rfl).to, ?_⟩
  refine List.forall_mem_cons.mpr ⟨(s_lloadn (am_dp pw_J13_bitCount_95d88_0 dd_J13_bitCount_95d88_0c.2.2.2.1) rfl).to, ?_⟩
  refine List.forall_mem_cons.mpr ⟨(s_iconst (am_dp pw_J13_bitCount_95d88_0 dd_J13_bitCount_95d88_0c.2.2.2.2.1) (by decide)).to, ?_⟩
  refine List.forall_mem_cons.mpr ⟨(s_lushr (am_dp pw_J13_bitCount_95d88_0 dd_J13_bitCount_95d88_0c.2.2.2.2.2.1)).to, ?_⟩
  refine List.forall_mem_cons.mpr ⟨(s_ladd (am_dp pw_J13_bitCount_95d88_0 dd_J13_bitCount_95d88_0c.2.2.2.2.2.2.1)).to, ?_⟩
  refine List.forall_mem_cons.mpr ⟨(s_ldc2 (am_dp pw_J13_bitCount_95d88_0 dd_J13_bitCount_95d88_0c.2.2.2.2.2.2.2) wd1077).to, ?_⟩
  refine List.forall_mem_cons.mpr ⟨(s_land (am_dp pw_J13_bitCount_95d88_32 dd_J13_bitCount_95d88_32a.1)).to, ?_⟩
  refine List.forall_mem_cons.mpr ⟨(s_lstoren (am_dp pw_J13_bitCount_95d88_32 dd_J13_bitCount_95d88_32a.2.1) rfl (by decide)).to, ?_⟩
  refine List.forall_mem_cons.mpr ⟨(s_lloadn (am_dp pw_J13_bitCount_95d88_32 dd_J13_bitCount_95d88_32a.2.2.1) rfl).to, ?_⟩
  refine List.forall_mem_cons.mpr ⟨(s_lloadn (am_dp pw_J13_bitCount_95d88_32 dd_J13_bitCount_95d88_32a.2.2.2.1) rfl).to, ?_⟩
  refine List.forall_mem_cons.mpr ⟨(s_bipush (am_dp pw_J13_bitCount_95d88_32 dd_J13_bitCount_95d88_32a.2.2.2.2.1) (by decide)).to, ?_⟩
  refine List.forall_mem_cons.mpr ⟨(s_lushr (am_dp pw_J13_bitCount_95d88_32 dd_J13_bitCount_95d88_32a.2.2.2.2.2.1)).to, ?_⟩
  refine List.forall_mem_cons.mpr ⟨(s_ladd (am_dp pw_J13_bitCount_95d88_32 dd_J13_bitCount_95d88_32a.2.2.2.2.2.2.1)).to, ?_⟩
  refine List.forall_mem_cons.mpr ⟨(s_lstoren (am_dp pw_J13_bitCount_95d88_32 dd_J13_bitCount_95d88_32a.2.2.2.2.2.2.2) rfl (by decide)).to, ?_⟩
  refine List.forall_mem_cons.mpr ⟨(s_lloadn (am_dp pw_J13_bitCount_95d88_32 dd_J13_bitCount_95d88_32b.1) rfl).to, ?_⟩
  refine List.forall_mem_cons.mpr ⟨(s_lloadn (am_dp pw_J13_bitCount_95d88_32 dd_J13_bitCount_95d88_32b.2.1) rfl).to, ?_⟩
  refine List.forall_mem_cons.mpr ⟨(s_bipush (am_dp pw_J13_bitCount_95d88_32 dd_J13_bitCount_95d88_32b.2.2.1) (by decide)).to, ?_⟩
  refine List.forall_mem_cons.mpr ⟨(s_lushr (am_dp pw_J13_bitCount_95d88_32 dd_J13_bitCount_95d88_32b.2.2.2.1)).to, ?_⟩
  refine List.forall_mem_cons.mpr ⟨(s_ladd (am_dp pw_J13_bitCount_95d88_32 dd_J13_bitCount_95d88_32b.2.2.2.2.1)).to, ?_⟩
  refine List.forall_mem_cons.mpr ⟨(s_lstoren (am_dp pw_J13_bitCount_95d88_32 dd_J13_bitCount_95d88_32b.2.2.2.2.2.1) rfl (by decide)).to, ?_⟩
  refine List.forall_mem_cons.mpr ⟨(s_lloadn (am_dp pw_J13_bitCount_95d88_32 dd_J13_bitCount_95d88_32b.2.2.2.2.2.2.1) rfl).to, ?_⟩
  refine List.forall_mem_cons.mpr ⟨(s_lloadn (am_dp pw_J13_bitCount_95d88_32 dd_J13_bitCount_95d88_32b.2.2.2.2.2.2.2) rfl).to, ?_⟩
  refine List.forall_mem_cons.mpr ⟨(s_bipush (am_dp pw_J13_bitCount_95d88_32 dd_J13_bitCount_95d88_32c.1) (by decide)).to, ?_⟩
  refine List.forall_mem_cons.mpr ⟨(s_lushr (am_dp pw_J13_bitCount_95d88_32 dd_J13_bitCount_95d88_32c.2.1)).to, ?_⟩
  refine List.forall_mem_cons.mpr ⟨(s_ladd (am_dp pw_J13_bitCount_95d88_32 dd_J13_bitCount_95d88_32c.2.2.1)).to, ?_⟩
  refine List.forall_mem_cons.mpr ⟨(s_lstoren (am_dp pw_J13_bitCount_95d88_32 dd_J13_bitCount_95d88_32c.2.2.2.1) rfl (by decide)).to, ?_⟩
  refine List.forall_mem_cons.mpr ⟨(s_lloadn (am_dp pw_J13_bitCount_95d88_32 dd_J13_bitCount_95d88_32c.2.2.2.2.1) rfl).to, ?_⟩
  refine List.forall_mem_cons.mpr ⟨(s_l2i (am_dp pw_J13_bitCount_95d88_32 dd_J13_bitCount_95d88_32c.2.2.2.2.2.1)).to, ?_⟩
  refine List.forall_mem_cons.mpr ⟨(s_bipush (am_dp pw_J13_bitCount_95d88_32 dd_J13_bitCount_95d88_32c.2.2.2.2.2.2.1) (by decide)).to, ?_⟩
  refine List.forall_mem_cons.mpr ⟨(s_iand (am_dp pw_J13_bitCount_95d88_32 dd_J13_bitCount_95d88_32c.2.2.2.2.2.2.2)).to, ?_⟩
  refine List.forall_mem_cons.mpr ⟨s_iret (am_dp pw_J13_bitCount_95d88_32 dd_J13_bitCount_95d88_32d) rfl, ?_⟩
  exact fun _ h => absurd h List.not_mem_nil
theorem sn_tJ9_floorDiv_f86c9 : ∀ q ∈ tJ9_floorDiv_f86c9, am_Snd am_P0 RJ9 cJ9_floorDiv_f86c9 6 (Option.some FieldType.long) "floorDiv" q.1 q.2 := by
  unfold tJ9_floorDiv_f86c9
  refine List.forall_mem_cons.mpr ⟨(s_lloadn (am_dp pw_J9_floorDiv_f86c9_0 dd_J9_floorDiv_f86c9_0a.1) rfl).to, ?_⟩
  refine List.forall_mem_cons.mpr ⟨(s_lloadn (am_dp pw_J9_floorDiv_f86c9_0 dd_J9_floorDiv_f86c9_0a.2.1) rfl).to, ?_⟩
  refine List.forall_mem_cons.mpr ⟨(s_ldiv (am_dp pw_J9_floorDiv_f86c9_0 dd_J9_floorDiv_f86c9_0a.2.2.1)).to, ?_⟩
  refine List.forall_mem_cons.mpr ⟨(s_lstore (am_dp pw_J9_floorDiv_f86c9_0 dd_J9_floorDiv_f86c9_0a.2.2.2.1) (by decide)).to, ?_⟩
  refine List.forall_mem_cons.mpr ⟨(s_lloadn (am_dp pw_J9_floorDiv_f86c9_0 dd_J9_floorDiv_f86c9_0a.2.2.2.2.1) rfl).to, ?_⟩
  refine List.forall_mem_cons.mpr ⟨(s_lloadn (am_dp pw_J9_floorDiv_f86c9_0 dd_J9_floorDiv_f86c9_0a.2.2.2.2.2.1) rfl).to, ?_⟩
  refine List.forall_mem_cons.mpr ⟨(s_lxor (am_dp pw_J9_floorDiv_f86c9_0 dd_J9_floorDiv_f86c9_0a.2.2.2.2.2.2.1)).to, ?_⟩
  refine List.forall_mem_cons.mpr ⟨(s_lconst (am_dp pw_J9_floorDiv_f86c9_0 dd_J9_floorDiv_f86c9_0a.2.2.2.2.2.2.2) (by decide)).to, ?_⟩
  refine List.forall_mem_cons.mpr ⟨(s_lcmp (am_dp pw_J9_floorDiv_f86c9_0 dd_J9_floorDiv_f86c9_0b.1)).to, ?_⟩
  refine List.forall_mem_cons.mpr ⟨(s_if_ge (am_dp pw_J9_floorDiv_f86c9_0 dd_J9_floorDiv_f86c9_0b.2.1) (by decide)).to, ?_⟩
  refine List.forall_mem_cons.mpr ⟨(s_lload (am_dp pw_J9_floorDiv_f86c9_0 dd_J9_floorDiv_f86c9_0b.2.2.1)).to, ?_⟩
  refine List.forall_mem_cons.mpr ⟨(s_lloadn (am_dp pw_J9_floorDiv_f86c9_0 dd_J9_floorDiv_f86c9_0b.2.2.2.1) rfl).to, ?_⟩
  refine List.forall_mem_cons.mpr ⟨(s_lmul (am_dp pw_J9_floorDiv_f86c9_0 dd_J9_floorDiv_f86c9_0b.2.2.2.2.1)).to, ?_⟩
  refine List.forall_mem_cons.mpr ⟨(s_lloadn (am_dp pw_J9_floorDiv_f86c9_0 dd_J9_floorDiv_f86c9_0b.2.2.2.2.2.1) rfl).to, ?_⟩
  refine List.forall_mem_cons.mpr ⟨(s_lcmp (am_dp pw_J9_floorDiv_f86c9_0 dd_J9_floorDiv_f86c9_0b.2.2.2.2.2.2.1)).to, ?_⟩
  refine List.forall_mem_cons.mpr ⟨(s_if_eq (am_dp pw_J9_floorDiv_f86c9_0 dd_J9_floorDiv_f86c9_0b.2.2.2.2.2.2.2) (by decide)).to, ?_⟩
  refine List.forall_mem_cons.mpr ⟨(s_lload (am_dp pw_J9_floorDiv_f86c9_0 dd_J9_floorDiv_f86c9_0c.1)).to, ?_⟩
  refine List.forall_mem_cons.mpr ⟨(s_lconst (am_dp pw_J9_floorDiv_f86c9_0 dd_J9_floorDiv_f86c9_0c.2.1) (by decide)).to, ?_⟩
  refine List.forall_mem_cons.mpr ⟨(s_lsub (am_dp pw_J9_floorDiv_f86c9_0 dd_J9_floorDiv_f86c9_0c.2.2.1)).to, ?_⟩
  refine List.forall_mem_cons.mpr ⟨s_lret (am_dp pw_J9_floorDiv_f86c9_0 dd_J9_floorDiv_f86c9_0c.2.2.2.1) rfl, ?_⟩
  refine List.forall_mem_cons.mpr ⟨(s_lload (am_dp pw_J9_floorDiv_f86c9_0 dd_J9_floorDiv_f86c9_0c.2.2.2.2.1)).to, ?_⟩
  refine List.forall_mem_cons.mpr ⟨s_lret (am_dp pw_J9_floorDiv_f86c9_0 dd_J9_floorDiv_f86c9_0c.2.2.2.2.2) rfl, ?_⟩
  exact fun _ h => absurd h List.not_mem_nil
theorem sn_tJ9_floorMod_f86c9 : ∀ q ∈ tJ9_floorMod_f86c9, am_Snd am_P0 RJ9 cJ9_floorMod_f86c9 6 (Option.some FieldType.long) "floorMod" q.1 q.2 := by
  unfold tJ9_floorMod_f86c9
  refine List.forall_mem_cons.mpr ⟨(s_lloadn (am_dp pw_J9_floorMod_f86c9_0 dd_J9_floorMod_f86c9_0a.1) rfl).to, ?_⟩
  refine List.forall_mem_cons.mpr ⟨(s_lloadn (am_dp pw_J9_floorMod_f86c9_0 dd_J9_floorMod_f86c9_0a.2.1) rfl).to, ?_⟩
  refine List.forall_mem_cons.mpr ⟨(s_lrem (am_dp pw_J9_floorMod_f86c9_0 dd_J9_floorMod_f86c9_0a.2.2.1)).to, ?_⟩
  refine List.forall_mem_cons.mpr ⟨(s_lstore (am_dp pw_J9_floorMod_f86c9_0 dd_J9_floorMod_f86c9_0a.2.2.2.1) (by decide)).to, ?_⟩
  refine List.forall_mem_cons.mpr ⟨(s_lloadn (am_dp pw_J9_floorMod_f86c9_0 dd_J9_floorMod_f86c9_0a.2.2.2.2.1) rfl).to, ?_⟩
  refine List.forall_mem_cons.mpr ⟨(s_lloadn (am_dp pw_J9_floorMod_f86c9_0 dd_J9_floorMod_f86c9_0a.2.2.2.2.2.1) rfl).to, ?_⟩
  refine List.forall_mem_cons.mpr ⟨(s_lxor (am_dp pw_J9_floorMod_f86c9_0 dd_J9_floorMod_f86c9_0a.2.2.2.2.2.2.1)).to, ?_⟩
  refine List.forall_mem_cons.mpr ⟨(s_lconst (am_dp pw_J9_floorMod_f86c9_0 dd_J9_floorMod_f86c9_0a.2.2.2.2.2.2.2) (by decide)).to, ?_⟩
  refine List.forall_mem_cons.mpr ⟨(s_lcmp (am_dp pw_J9_floorMod_f86c9_0 dd_J9_floorMod_f86c9_0b.1)).to, ?_⟩
  refine List.forall_mem_cons.mpr ⟨(s_if_ge (am_dp pw_J9_floorMod_f86c9_0 dd_J9_floorMod_f86c9_0b.2.1) (by decide)).to, ?_⟩
  refine List.forall_mem_cons.mpr ⟨(s_lload (am_dp pw_J9_floorMod_f86c9_0 dd_J9_floorMod_f86c9_0b.2.2.1)).to, ?_⟩
  refine List.forall_mem_cons.mpr ⟨(s_lconst (am_dp pw_J9_floorMod_f86c9_0 dd_J9_floorMod_f86c9_0b.2.2.2.1) (by decide)).to, ?_⟩
  refine List.forall_mem_cons.mpr ⟨(s_lcmp (am_dp pw_J9_floorMod_f86c9_0 dd_J9_floorMod_f86c9_0b.2.2.2.2.1)).to, ?_⟩
  refine List.forall_mem_cons.mpr ⟨(s_if_eq (am_dp pw_J9_floorMod_f86c9_0 dd_J9_floorMod_f86c9_0b.2.2.2.2.2.1) (by decide)).to, ?_⟩
  refine List.forall_mem_cons.mpr ⟨(s_lload (am_dp pw_J9_floorMod_f86c9_0 dd_J9_floorMod_f86c9_0b.2.2.2.2.2.2.1)).to, ?_⟩
  refine List.forall_mem_cons.mpr ⟨(s_lloadn (am_dp pw_J9_floorMod_f86c9_0 dd_J9_floorMod_f86c9_0b.2.2.2.2.2.2.2) rfl).to, ?_⟩
  refine List.forall_mem_cons.mpr ⟨(s_ladd (am_dp pw_J9_floorMod_f86c9_0 dd_J9_floorMod_f86c9_0c.1)).to, ?_⟩
  refine List.forall_mem_cons.mpr ⟨s_lret (am_dp pw_J9_floorMod_f86c9_0 dd_J9_floorMod_f86c9_0c.2.1) rfl, ?_⟩
  refine List.forall_mem_cons.mpr ⟨(s_lload (am_dp pw_J9_floorMod_f86c9_0 dd_J9_floorMod_f86c9_0c.2.2.1)).to, ?_⟩
  refine List.forall_mem_cons.mpr ⟨s_lret (am_dp pw_J9_floorMod_f86c9_0 dd_J9_floorMod_f86c9_0c.2.2.2) rfl, ?_⟩
  exact fun _ h => absurd h List.not_mem_nil
theorem sn_tJ9_abs_0f7a4 : ∀ q ∈ tJ9_abs_0f7a4, am_Snd am_P0 RJ9 cJ9_abs_0f7a4 1 (Option.some FieldType.int) "abs" q.1 q.2 := by
  unfold tJ9_abs_0f7a4
  refine List.forall_mem_cons.mpr ⟨(s_iloadn (am_dp pw_J9_abs_0f7a4_0 dd_J9_abs_0f7a4_0a.1) rfl).to, ?_⟩
  refine List.forall_mem_cons.mpr ⟨(s_if_ge (am_dp pw_J9_abs_0f7a4_0 dd_J9_abs_0f7a4_0a.2.1) (by decide)).to, ?_⟩
  refine List.forall_mem_cons.mpr ⟨(s_iloadn (am_dp pw_J9_abs_0f7a4_0 dd_J9_abs_0f7a4_0a.2.2.1) rfl).to, ?_⟩
  refine List.forall_mem_cons.mpr ⟨(s_ineg (am_dp pw_J9_abs_0f7a4_0 dd_J9_abs_0f7a4_0a.2.2.2.1)).to, ?_⟩
  refine List.forall_mem_cons.mpr ⟨(s_goto (am_dp pw_J9_abs_0f7a4_0 dd_J9_abs_0f7a4_0a.2.2.2.2.1) (by decide)).to, ?_⟩
  refine List.forall_mem_cons.mpr ⟨(s_iloadn (am_dp pw_J9_abs_0f7a4_0 dd_J9_abs_0f7a4_0a.2.2.2.2.2.1) rfl).to, ?_⟩
  refine List.forall_mem_cons.mpr ⟨s_iret (am_dp pw_J9_abs_0f7a4_0 dd_J9_abs_0f7a4_0a.2.2.2.2.2.2) rfl, ?_⟩
  exact fun _ h => absurd h List.not_mem_nil
theorem sn_tJ9_max_7cf53 : ∀ q ∈ tJ9_max_7cf53, am_Snd am_P0 RJ9 cJ9_max_7cf53 2 (Option.some FieldType.int) "max" q.1 q.2 := by
  unfold tJ9_max_7cf53
  refine List.forall_mem_cons.mpr ⟨(s_iloadn (am_dp pw_J9_max_7cf53_0 dd_J9_max_7cf53_0a.1) rfl).to, ?_⟩
  refine List.forall_mem_cons.mpr ⟨(s_iloadn (am_dp pw_J9_max_7cf53_0 dd_J9_max_7cf53_0a.2.1) rfl).to, ?_⟩
  refine List.forall_mem_cons.mpr ⟨(s_icmp_lt (am_dp pw_J9_max_7cf53_0 dd_J9_max_7cf53_0a.2.2.1) (by decide)).to, ?_⟩
  refine List.forall_mem_cons.mpr ⟨(s_iloadn (am_dp pw_J9_max_7cf53_0 dd_J9_max_7cf53_0a.2.2.2.1) rfl).to, ?_⟩
  refine List.forall_mem_cons.mpr ⟨(s_goto (am_dp pw_J9_max_7cf53_0 dd_J9_max_7cf53_0a.2.2.2.2.1) (by decide)).to, ?_⟩
  refine List.forall_mem_cons.mpr ⟨(s_iloadn (am_dp pw_J9_max_7cf53_0 dd_J9_max_7cf53_0a.2.2.2.2.2.1) rfl).to, ?_⟩
  refine List.forall_mem_cons.mpr ⟨s_iret (am_dp pw_J9_max_7cf53_0 dd_J9_max_7cf53_0a.2.2.2.2.2.2) rfl, ?_⟩
  exact fun _ h => absurd h List.not_mem_nil
theorem sn_tJ9_max_f86c9 : ∀ q ∈ tJ9_max_f86c9, am_Snd am_P0 RJ9 cJ9_max_f86c9 4 (Option.some FieldType.long) "max" q.1 q.2 := by
  unfold tJ9_max_f86c9
  refine List.forall_mem_cons.mpr ⟨(s_lloadn (am_dp pw_J9_max_f86c9_0 dd_J9_max_f86c9_0a.1) rfl).to, ?_⟩
  refine List.forall_mem_cons.mpr ⟨(s_lloadn (am_dp pw_J9_max_f86c9_0 dd_J9_max_f86c9_0a.2.1) rfl).to, ?_⟩
  refine List.forall_mem_cons.mpr ⟨(s_lcmp (am_dp pw_J9_max_f86c9_0 dd_J9_max_f86c9_0a.2.2.1)).to, ?_⟩
  refine List.forall_mem_cons.mpr ⟨(s_if_lt (am_dp pw_J9_max_f86c9_0 dd_J9_max_f86c9_0a.2.2.2.1) (by decide)).to, ?_⟩
  refine List.forall_mem_cons.mpr ⟨(s_lloadn (am_dp pw_J9_max_f86c9_0 dd_J9_max_f86c9_0a.2.2.2.2.1) rfl).to, ?_⟩
  refine List.forall_mem_cons.mpr ⟨(s_goto (am_dp pw_J9_max_f86c9_0 dd_J9_max_f86c9_0a.2.2.2.2.2.1) (by decide)).to, ?_⟩
  refine List.forall_mem_cons.mpr ⟨(s_lloadn (am_dp pw_J9_max_f86c9_0 dd_J9_max_f86c9_0a.2.2.2.2.2.2.1) rfl).to, ?_⟩
  refine List.forall_mem_cons.mpr ⟨s_lret (am_dp pw_J9_max_f86c9_0 dd_J9_max_f86c9_0a.2.2.2.2.2.2.2) rfl, ?_⟩
  exact fun _ h => absurd h List.not_mem_nil
theorem sn_tJ9_min_7cf53 : ∀ q ∈ tJ9_min_7cf53, am_Snd am_P0 RJ9 cJ9_min_7cf53 2 (Option.some FieldType.int) "min" q.1 q.2 := by
  unfold tJ9_min_7cf53
  refine List.forall_mem_cons.mpr ⟨(s_iloadn (am_dp pw_J9_min_7cf53_0 dd_J9_min_7cf53_0a.1) rfl).to, ?_⟩
  refine List.forall_mem_cons.mpr ⟨(s_iloadn (am_dp pw_J9_min_7cf53_0 dd_J9_min_7cf53_0a.2.1) rfl).to, ?_⟩
  refine List.forall_mem_cons.mpr ⟨(s_icmp_gt (am_dp pw_J9_min_7cf53_0 dd_J9_min_7cf53_0a.2.2.1) (by decide)).to, ?_⟩
  refine List.forall_mem_cons.mpr ⟨(s_iloadn (am_dp pw_J9_min_7cf53_0 dd_J9_min_7cf53_0a.2.2.2.1) rfl).to, ?_⟩
  refine List.forall_mem_cons.mpr ⟨(s_goto (am_dp pw_J9_min_7cf53_0 dd_J9_min_7cf53_0a.2.2.2.2.1) (by decide)).to, ?_⟩
  refine List.forall_mem_cons.mpr ⟨(s_iloadn (am_dp pw_J9_min_7cf53_0 dd_J9_min_7cf53_0a.2.2.2.2.2.1) rfl).to, ?_⟩
  refine List.forall_mem_cons.mpr ⟨s_iret (am_dp pw_J9_min_7cf53_0 dd_J9_min_7cf53_0a.2.2.2.2.2.2) rfl, ?_⟩
  exact fun _ h => absurd h List.not_mem_nil
theorem sn_tJ9_min_f86c9 : ∀ q ∈ tJ9_min_f86c9, am_Snd am_P0 RJ9 cJ9_min_f86c9 4 (Option.some FieldType.long) "min" q.1 q.2 := by
  unfold tJ9_min_f86c9
  refine List.forall_mem_cons.mpr ⟨(s_lloadn (am_dp pw_J9_min_f86c9_0 dd_J9_min_f86c9_0a.1) rfl).to, ?_⟩
  refine List.forall_mem_cons.mpr ⟨(s_lloadn (am_dp pw_J9_min_f86c9_0 dd_J9_min_f86c9_0a.2.1) rfl).to, ?_⟩
  refine List.forall_mem_cons.mpr ⟨(s_lcmp (am_dp pw_J9_min_f86c9_0 dd_J9_min_f86c9_0a.2.2.1)).to, ?_⟩
  refine List.forall_mem_cons.mpr ⟨(s_if_gt (am_dp pw_J9_min_f86c9_0 dd_J9_min_f86c9_0a.2.2.2.1) (by decide)).to, ?_⟩
  refine List.forall_mem_cons.mpr ⟨(s_lloadn (am_dp pw_J9_min_f86c9_0 dd_J9_min_f86c9_0a.2.2.2.2.1) rfl).to, ?_⟩
  refine List.forall_mem_cons.mpr ⟨(s_goto (am_dp pw_J9_min_f86c9_0 dd_J9_min_f86c9_0a.2.2.2.2.2.1) (by decide)).to, ?_⟩
  refine List.forall_mem_cons.mpr ⟨(s_lloadn (am_dp pw_J9_min_f86c9_0 dd_J9_min_f86c9_0a.2.2.2.2.2.2.1) rfl).to, ?_⟩
  refine List.forall_mem_cons.mpr ⟨s_lret (am_dp pw_J9_min_f86c9_0 dd_J9_min_f86c9_0a.2.2.2.2.2.2.2) rfl, ?_⟩
  exact fun _ h => absurd h List.not_mem_nil
theorem sn_tJ0_length_8abf5 : ∀ q ∈ tJ0_length_8abf5, am_Snd am_P0 RJ0 cJ0_length_8abf5 1 (Option.some FieldType.int) "length" q.1 q.2 := by
  unfold tJ0_length_8abf5
  refine List.forall_mem_cons.mpr ⟨(s_aloadn (am_dp pw_J0_length_8abf5_0 dd_J0_length_8abf5_0a.1) rfl).to, ?_⟩
  refine List.forall_mem_cons.mpr ⟨(s_gvS (am_dp pw_J0_length_8abf5_0 dd_J0_length_8abf5_0a.2.1) wd2150).to, ?_⟩
  refine List.forall_mem_cons.mpr ⟨(s_lS (am_dp pw_J0_length_8abf5_0 dd_J0_length_8abf5_0a.2.2.1)).to, ?_⟩
  refine List.forall_mem_cons.mpr ⟨(s_aloadn (am_dp pw_J0_length_8abf5_0 dd_J0_length_8abf5_0a.2.2.2.1) rfl).to, ?_⟩
  refine List.forall_mem_cons.mpr ⟨z_cvS (am_dp pw_J0_length_8abf5_0 dd_J0_length_8abf5_0a.2.2.2.2.1) mt313 wd384 (by decide), ?_⟩
  refine List.forall_mem_cons.mpr ⟨(s_ishr (am_dp pw_J0_length_8abf5_0 dd_J0_length_8abf5_0a.2.2.2.2.2.1)).to, ?_⟩
  refine List.forall_mem_cons.mpr ⟨s_iret (am_dp pw_J0_length_8abf5_0 dd_J0_length_8abf5_0a.2.2.2.2.2.2) rfl, ?_⟩
  exact fun _ h => absurd h List.not_mem_nil
theorem sn_tJ0_charAt_5068e : ∀ q ∈ tJ0_charAt_5068e, am_Snd am_P0 RJ0 cJ0_charAt_5068e 2 (Option.some FieldType.char) "charAt" q.1 q.2 := by
  unfold tJ0_charAt_5068e
  refine List.forall_mem_cons.mpr ⟨(s_aloadn (am_dp pw_J0_charAt_5068e_0 dd_J0_charAt_5068e_0a.1) rfl).to, ?_⟩
  refine List.forall_mem_cons.mpr ⟨z_cvS (am_dp pw_J0_charAt_5068e_0 dd_J0_charAt_5068e_0a.2.1) mt314 wd394 (by decide), ?_⟩
  refine List.forall_mem_cons.mpr ⟨(s_if_eq (am_dp pw_J0_charAt_5068e_0 dd_J0_charAt_5068e_0a.2.2.1) (by decide)).to, ?_⟩
  refine List.forall_mem_cons.mpr ⟨(s_aloadn (am_dp pw_J0_charAt_5068e_0 dd_J0_charAt_5068e_0a.2.2.2.1) rfl).to, ?_⟩
  refine List.forall_mem_cons.mpr ⟨(s_gvS (am_dp pw_J0_charAt_5068e_0 dd_J0_charAt_5068e_0a.2.2.2.2.1) wd2150).to, ?_⟩
  refine List.forall_mem_cons.mpr ⟨(s_iloadn (am_dp pw_J0_charAt_5068e_0 dd_J0_charAt_5068e_0a.2.2.2.2.2.1) rfl).to, ?_⟩
  refine List.forall_mem_cons.mpr ⟨zw_cs316 (am_dp pw_J0_charAt_5068e_0 dd_J0_charAt_5068e_0a.2.2.2.2.2.2.1) wd398, ?_⟩
  refine List.forall_mem_cons.mpr ⟨s_cret (am_dp pw_J0_charAt_5068e_0 dd_J0_charAt_5068e_0a.2.2.2.2.2.2.2) rfl, ?_⟩
  refine List.forall_mem_cons.mpr ⟨(s_aloadn (am_dp pw_J0_charAt_5068e_0 dd_J0_charAt_5068e_0b.1) rfl).to, ?_⟩
  refine List.forall_mem_cons.mpr ⟨(s_gvS (am_dp pw_J0_charAt_5068e_0 dd_J0_charAt_5068e_0b.2.1) wd2150).to, ?_⟩
  refine List.forall_mem_cons.mpr ⟨(s_iloadn (am_dp pw_J0_charAt_5068e_0 dd_J0_charAt_5068e_0b.2.2.1) rfl).to, ?_⟩
  refine List.forall_mem_cons.mpr ⟨s_cret (am_dp pw_J0_charAt_5068e_0 dd_J0_charAt_5068e_0b.2.2.2.2) rfl, ?_⟩
  exact fun _ h => absurd h List.not_mem_nil
theorem sn_tJ0_coder_7d493 : ∀ q ∈ tJ0_coder_7d493, am_Snd am_P0 RJ0 cJ0_coder_7d493 1 (Option.some FieldType.byte) "coder" q.1 q.2 := by
  unfold tJ0_coder_7d493
  refine List.forall_mem_cons.mpr ⟨(s_gsC (am_dp pw_J0_coder_7d493_0 dd_J0_coder_7d493_0a.1) wd388).to, ?_⟩
  refine List.forall_mem_cons.mpr ⟨(s_if_eq (am_dp pw_J0_coder_7d493_0 dd_J0_coder_7d493_0a.2.1) (by decide)).to, ?_⟩
  refine List.forall_mem_cons.mpr ⟨(s_aloadn (am_dp pw_J0_coder_7d493_0 dd_J0_coder_7d493_0a.2.2.1) rfl).to, ?_⟩
  refine List.forall_mem_cons.mpr ⟨(s_gcS (am_dp pw_J0_coder_7d493_0 dd_J0_coder_7d493_0a.2.2.2.1) wd2151).to, ?_⟩
  refine List.forall_mem_cons.mpr ⟨(s_goto (am_dp pw_J0_coder_7d493_0 dd_J0_coder_7d493_0a.2.2.2.2.1) (by decide)).to, ?_⟩
  refine List.forall_mem_cons.mpr ⟨(s_iconst (am_dp pw_J0_coder_7d493_0 dd_J0_coder_7d493_0a.2.2.2.2.2.1) (by decide)).to, ?_⟩
  refine List.forall_mem_cons.mpr ⟨s_bret (am_dp pw_J0_coder_7d493_0 dd_J0_coder_7d493_0a.2.2.2.2.2.2) rfl, ?_⟩
  exact fun _ h => absurd h List.not_mem_nil
theorem sn_tJ0_isLatin1_aae02 : ∀ q ∈ tJ0_isLatin1_aae02, am_Snd am_P0 RJ0 cJ0_isLatin1_aae02 1 (Option.some FieldType.boolean) "isLatin1" q.1 q.2 := by
  unfold tJ0_isLatin1_aae02
  refine List.forall_mem_cons.mpr ⟨(s_gsC (am_dp pw_J0_isLatin1_aae02_0 dd_J0_isLatin1_aae02_0a.1) wd388).to, ?_⟩
  refine List.forall_mem_cons.mpr ⟨(s_if_eq (am_dp pw_J0_isLatin1_aae02_0 dd_J0_isLatin1_aae02_0a.2.1) (by decide)).to, ?_⟩
  refine List.forall_mem_cons.mpr ⟨(s_aloadn (am_dp pw_J0_isLatin1_aae02_0 dd_J0_isLatin1_aae02_0a.2.2.1) rfl).to, ?_⟩
  refine List.forall_mem_cons.mpr ⟨(s_gcS (am_dp pw_J0_isLatin1_aae02_0 dd_J0_isLatin1_aae02_0a.2.2.2.1) wd2151).to, ?_⟩
  refine List.forall_mem_cons.mpr ⟨(s_if_ne (am_dp pw_J0_isLatin1_aae02_0 dd_J0_isLatin1_aae02_0a.2.2.2.2.1) (by decide)).to, ?_⟩
  refine List.forall_mem_cons.mpr ⟨(s_iconst (am_dp pw_J0_isLatin1_aae02_0 dd_J0_isLatin1_aae02_0a.2.2.2.2.2.1) (by decide)).to, ?_⟩
  refine List.forall_mem_cons.mpr ⟨(s_goto (am_dp pw_J0_isLatin1_aae02_0 dd_J0_isLatin1_aae02_0a.2.2.2.2.2.2.1) (by decide)).to, ?_⟩
  refine List.forall_mem_cons.mpr ⟨(s_iconst (am_dp pw_J0_isLatin1_aae02_0 dd_J0_isLatin1_aae02_0a.2.2.2.2.2.2.2) (by decide)).to, ?_⟩
  refine List.forall_mem_cons.mpr ⟨s_zret (am_dp pw_J0_isLatin1_aae02_0 dd_J0_isLatin1_aae02_0b) rfl, ?_⟩
  exact fun _ h => absurd h List.not_mem_nil
theorem sn_tJ0_checkIndex_df160 : ∀ q ∈ tJ0_checkIndex_df160, am_Snd am_P0 RJ0 cJ0_checkIndex_df160 2 (Option.none : Option FieldType) "checkIndex" q.1 q.2 := by
  unfold tJ0_checkIndex_df160
  refine List.forall_mem_cons.mpr ⟨(s_iloadn (am_dp pw_J0_checkIndex_df160_0 dd_J0_checkIndex_df160_0a.1) rfl).to, ?_⟩
  refine List.forall_mem_cons.mpr ⟨(s_iloadn (am_dp pw_J0_checkIndex_df160_0 dd_J0_checkIndex_df160_0a.2.1) rfl).to, ?_⟩
  refine List.forall_mem_cons.mpr ⟨(s_gsF (am_dp pw_J0_checkIndex_df160_0 dd_J0_checkIndex_df160_0a.2.2.1) wd404).to, ?_⟩
  refine List.forall_mem_cons.mpr ⟨zw_cs325 (am_dp pw_J0_checkIndex_df160_0 dd_J0_checkIndex_df160_0a.2.2.2.1) wd406, ?_⟩
  refine List.forall_mem_cons.mpr ⟨(s_pop (am_dp pw_J0_checkIndex_df160_0 dd_J0_checkIndex_df160_0a.2.2.2.2.1)).to, ?_⟩
  refine List.forall_mem_cons.mpr ⟨s_vret (am_dp pw_J0_checkIndex_df160_0 dd_J0_checkIndex_df160_0a.2.2.2.2.2) rfl, ?_⟩
  exact fun _ h => absurd h List.not_mem_nil
theorem sn_tJ1_charAt_3b067 : ∀ q ∈ tJ1_charAt_3b067, am_Snd am_P0 RJ1 cJ1_charAt_3b067 2 (Option.some FieldType.char) "charAt" q.1 q.2 := by
  unfold tJ1_charAt_3b067
  refine List.forall_mem_cons.mpr ⟨(s_iloadn (am_dp pw_J1_charAt_3b067_0 dd_J1_charAt_3b067_0a.1) rfl).to, ?_⟩
  refine List.forall_mem_cons.mpr ⟨(s_aloadn (am_dp pw_J1_charAt_3b067_0 dd_J1_charAt_3b067_0a.2.1) rfl).to, ?_⟩
  refine List.forall_mem_cons.mpr ⟨(s_lS (am_dp pw_J1_charAt_3b067_0 dd_J1_charAt_3b067_0a.2.2.1)).to, ?_⟩
  refine List.forall_mem_cons.mpr ⟨zw_cs315 (am_dp pw_J1_charAt_3b067_0 dd_J1_charAt_3b067_0a.2.2.2.1) wd401, ?_⟩
  refine List.forall_mem_cons.mpr ⟨(s_aloadn (am_dp pw_J1_charAt_3b067_0 dd_J1_charAt_3b067_0a.2.2.2.2.1) rfl).to, ?_⟩
  refine List.forall_mem_cons.mpr ⟨(s_iloadn (am_dp pw_J1_charAt_3b067_0 dd_J1_charAt_3b067_0a.2.2.2.2.2.1) rfl).to, ?_⟩
  refine List.forall_mem_cons.mpr ⟨(s_bS (am_dp pw_J1_charAt_3b067_0 dd_J1_charAt_3b067_0a.2.2.2.2.2.2.1)).to, ?_⟩
  refine List.forall_mem_cons.mpr ⟨(s_sipush (am_dp pw_J1_charAt_3b067_0 dd_J1_charAt_3b067_0a.2.2.2.2.2.2.2) (by decide)).to, ?_⟩
  refine List.forall_mem_cons.mpr ⟨(s_iand (am_dp pw_J1_charAt_3b067_0 dd_J1_charAt_3b067_0b.1)).to, ?_⟩
  refine List.forall_mem_cons.mpr ⟨(s_i2c (am_dp pw_J1_charAt_3b067_0 dd_J1_charAt_3b067_0b.2.1)).to, ?_⟩
  refine List.forall_mem_cons.mpr ⟨s_cret (am_dp pw_J1_charAt_3b067_0 dd_J1_charAt_3b067_0b.2.2) rfl, ?_⟩
  exact fun _ h => absurd h List.not_mem_nil
theorem sn_tJ2_getChar_3b067 : ∀ q ∈ tJ2_getChar_3b067, am_Snd am_P0 RJ2 cJ2_getChar_3b067 2 (Option.some FieldType.char) "getChar" q.1 q.2 := by
  unfold tJ2_getChar_3b067
  refine List.forall_mem_cons.mpr ⟨(s_if_ne (am_dp pw_J2_getChar_3b067_0 dd_J2_getChar_3b067_0a.2.1) (by decide)).to, ?_⟩
  refine List.forall_mem_cons.mpr ⟨(s_iloadn (am_dp pw_J2_getChar_3b067_0 dd_J2_getChar_3b067_0a.2.2.1) rfl).to, ?_⟩
  refine List.forall_mem_cons.mpr ⟨(s_if_lt (am_dp pw_J2_getChar_3b067_0 dd_J2_getChar_3b067_0a.2.2.2.1) (by decide)).to, ?_⟩
  refine List.forall_mem_cons.mpr ⟨(s_iloadn (am_dp pw_J2_getChar_3b067_0 dd_J2_getChar_3b067_0a.2.2.2.2.1) rfl).to, ?_⟩
  refine List.forall_mem_cons.mpr ⟨(s_aloadn (am_dp pw_J2_getChar_3b067_0 dd_J2_getChar_3b067_0a.2.2.2.2.2.1) rfl).to, ?_⟩
  refine List.forall_mem_cons.mpr ⟨(s_icmp_lt (am_dp pw_J2_getChar_3b067_0 dd_J2_getChar_3b067_0a.2.2.2.2.2.2.2) (by decide)).to, ?_⟩
  refine List.forall_mem_cons.mpr ⟨(s_dup (am_dp pw_J2_getChar_3b067_0 dd_J2_getChar_3b067_0b.2.1)).to, ?_⟩
  refine List.forall_mem_cons.mpr ⟨(s_iloadn (am_dp pw_J2_getChar_3b067_0 dd_J2_getChar_3b067_0b.2.2.2.2.2.1) rfl).to, ?_⟩
  refine List.forall_mem_cons.mpr ⟨(s_iconst (am_dp pw_J2_getChar_3b067_0 dd_J2_getChar_3b067_0b.2.2.2.2.2.2.1) (by decide)).to, ?_⟩
  refine List.forall_mem_cons.mpr ⟨(s_ishl (am_dp pw_J2_getChar_3b067_0 dd_J2_getChar_3b067_0b.2.2.2.2.2.2.2)).to, ?_⟩
  refine List.forall_mem_cons.mpr ⟨(s_istoren (am_dp pw_J2_getChar_3b067_0 dd_J2_getChar_3b067_0c) rfl (by decide)).to, ?_⟩
  refine List.forall_mem_cons.mpr ⟨(s_aloadn (am_dp pw_J2_getChar_3b067_32 dd_J2_getChar_3b067_32a.1) rfl).to, ?_⟩
  refine List.forall_mem_cons.mpr ⟨(s_iloadn (am_dp pw_J2_getChar_3b067_32 dd_J2_getChar_3b067_32a.2.1) rfl).to, ?_⟩
  refine List.forall_mem_cons.mpr ⟨(s_iinc (am_dp pw_J2_getChar_3b067_32 dd_J2_getChar_3b067_32a.2.2.1) (by decide) (by decide)).to, ?_⟩
  refine List.forall_mem_cons.mpr ⟨(s_sipush (am_dp pw_J2_getChar_3b067_32 dd_J2_getChar_3b067_32a.2.2.2.2.1) (by decide)).to, ?_⟩
  refine List.forall_mem_cons.mpr ⟨(s_iand (am_dp pw_J2_getChar_3b067_32 dd_J2_getChar_3b067_32a.2.2.2.2.2.1)).to, ?_⟩
  refine List.forall_mem_cons.mpr ⟨(s_ishl (am_dp pw_J2_getChar_3b067_32 dd_J2_getChar_3b067_32a.2.2.2.2.2.2.2)).to, ?_⟩
  refine List.forall_mem_cons.mpr ⟨(s_aloadn (am_dp pw_J2_getChar_3b067_32 dd_J2_getChar_3b067_32b.1) rfl).to, ?_⟩
  refine List.forall_mem_cons.mpr ⟨(s_iloadn (am_dp pw_J2_getChar_3b067_32 dd_J2_getChar_3b067_32b.2.1) rfl).to, ?_⟩
  refine List.forall_mem_cons.mpr ⟨(s_sipush (am_dp pw_J2_getChar_3b067_32 dd_J2_getChar_3b067_32b.2.2.2.1) (by decide)).to, ?_⟩
  refine List.forall_mem_cons.mpr ⟨(s_iand (am_dp pw_J2_getChar_3b067_32 dd_J2_getChar_3b067_32b.2.2.2.2.1)).to, ?_⟩
  refine List.forall_mem_cons.mpr ⟨(s_ishl (am_dp pw_J2_getChar_3b067_32 dd_J2_getChar_3b067_32b.2.2.2.2.2.2.1)).to, ?_⟩
  refine List.forall_mem_cons.mpr ⟨(s_ior (am_dp pw_J2_getChar_3b067_32 dd_J2_getChar_3b067_32b.2.2.2.2.2.2.2)).to, ?_⟩
  exact fun _ h => absurd h List.not_mem_nil
theorem sn_tJ2_length_9d52b : ∀ q ∈ tJ2_length_9d52b, am_Snd am_P0 RJ2 cJ2_length_9d52b 1 (Option.some FieldType.int) "length" q.1 q.2 := by
  unfold tJ2_length_9d52b
  refine List.forall_mem_cons.mpr ⟨(s_aloadn (am_dp pw_J2_length_9d52b_0 dd_J2_length_9d52b_0a.1) rfl).to, ?_⟩
  refine List.forall_mem_cons.mpr ⟨(s_iconst (am_dp pw_J2_length_9d52b_0 dd_J2_length_9d52b_0a.2.2.1) (by decide)).to, ?_⟩
  refine List.forall_mem_cons.mpr ⟨(s_ishr (am_dp pw_J2_length_9d52b_0 dd_J2_length_9d52b_0a.2.2.2.1)).to, ?_⟩
  refine List.forall_mem_cons.mpr ⟨s_iret (am_dp pw_J2_length_9d52b_0 dd_J2_length_9d52b_0a.2.2.2.2) rfl, ?_⟩
  exact fun _ h => absurd h List.not_mem_nil
theorem sn_tJ2_charAt_3b067 : ∀ q ∈ tJ2_charAt_3b067, am_Snd am_P0 RJ2 cJ2_charAt_3b067 2 (Option.some FieldType.char) "charAt" q.1 q.2 := by
  unfold tJ2_charAt_3b067
  refine List.forall_mem_cons.mpr ⟨(s_iloadn (am_dp pw_J2_charAt_3b067_0 dd_J2_charAt_3b067_0a.1) rfl).to, ?_⟩
  refine List.forall_mem_cons.mpr ⟨(s_aloadn (am_dp pw_J2_charAt_3b067_0 dd_J2_charAt_3b067_0a.2.1) rfl).to, ?_⟩
  refine List.forall_mem_cons.mpr ⟨(s_aloadn (am_dp pw_J2_charAt_3b067_0 dd_J2_charAt_3b067_0a.2.2.2.1) rfl).to, ?_⟩
  refine List.forall_mem_cons.mpr ⟨(s_iloadn (am_dp pw_J2_charAt_3b067_0 dd_J2_charAt_3b067_0a.2.2.2.2.1) rfl).to, ?_⟩
  exact fun _ h => absurd h List.not_mem_nil
theorem sn_tJ2_checkIndex_2214a : ∀ q ∈ tJ2_checkIndex_2214a, am_Snd am_P0 RJ2 cJ2_checkIndex_2214a 2 (Option.none : Option FieldType) "checkIndex" q.1 q.2 := by
  unfold tJ2_checkIndex_2214a
  refine List.forall_mem_cons.mpr ⟨(s_iloadn (am_dp pw_J2_checkIndex_2214a_0 dd_J2_checkIndex_2214a_0a.1) rfl).to, ?_⟩
  refine List.forall_mem_cons.mpr ⟨(s_aloadn (am_dp pw_J2_checkIndex_2214a_0 dd_J2_checkIndex_2214a_0a.2.1) rfl).to, ?_⟩
  refine List.forall_mem_cons.mpr ⟨zw_cs315 (am_dp pw_J2_checkIndex_2214a_0 dd_J2_checkIndex_2214a_0a.2.2.2.1) wd418, ?_⟩
  refine List.forall_mem_cons.mpr ⟨s_vret (am_dp pw_J2_checkIndex_2214a_0 dd_J2_checkIndex_2214a_0a.2.2.2.2) rfl, ?_⟩
  exact fun _ h => absurd h List.not_mem_nil
theorem sn_tJ7_rangeCheck_23922 : ∀ q ∈ tJ7_rangeCheck_23922, am_Snd am_P0 RJ7 cJ7_rangeCheck_23922 3 (Option.none : Option FieldType) "rangeCheck" q.1 q.2 := by
  unfold tJ7_rangeCheck_23922
  refine List.forall_mem_cons.mpr ⟨(s_iloadn (am_dp pw_J7_rangeCheck_23922_0 dd_J7_rangeCheck_23922_0a.1) rfl).to, ?_⟩
  refine List.forall_mem_cons.mpr ⟨(s_iloadn (am_dp pw_J7_rangeCheck_23922_0 dd_J7_rangeCheck_23922_0a.2.1) rfl).to, ?_⟩
  refine List.forall_mem_cons.mpr ⟨(s_icmp_le (am_dp pw_J7_rangeCheck_23922_0 dd_J7_rangeCheck_23922_0a.2.2.1) (by decide)).to, ?_⟩
  refine List.forall_mem_cons.mpr ⟨(s_dup (am_dp pw_J7_rangeCheck_23922_0 dd_J7_rangeCheck_23922_0a.2.2.2.2.1)).to, ?_⟩
  refine List.forall_mem_cons.mpr ⟨(s_dup (am_dp pw_J7_rangeCheck_23922_0 dd_J7_rangeCheck_23922_0a.2.2.2.2.2.2.1)).to, ?_⟩
  refine List.forall_mem_cons.mpr ⟨(s_iloadn (am_dp pw_J7_rangeCheck_23922_0 dd_J7_rangeCheck_23922_0b.2.2.1) rfl).to, ?_⟩
  refine List.forall_mem_cons.mpr ⟨(s_iloadn (am_dp pw_J7_rangeCheck_23922_0 dd_J7_rangeCheck_23922_0b.2.2.2.2.2.2.1) rfl).to, ?_⟩
  refine List.forall_mem_cons.mpr ⟨(s_iloadn (am_dp pw_J7_rangeCheck_23922_32 dd_J7_rangeCheck_23922_32a.2.2.2.2.2.1) rfl).to, ?_⟩
  refine List.forall_mem_cons.mpr ⟨(s_if_ge (am_dp pw_J7_rangeCheck_23922_32 dd_J7_rangeCheck_23922_32a.2.2.2.2.2.2.1) (by decide)).to, ?_⟩
  refine List.forall_mem_cons.mpr ⟨(s_dup (am_dp pw_J7_rangeCheck_23922_32 dd_J7_rangeCheck_23922_32b.1)).to, ?_⟩
  refine List.forall_mem_cons.mpr ⟨(s_iloadn (am_dp pw_J7_rangeCheck_23922_32 dd_J7_rangeCheck_23922_32b.2.1) rfl).to, ?_⟩
  refine List.forall_mem_cons.mpr ⟨(s_iloadn (am_dp pw_J7_rangeCheck_23922_32 dd_J7_rangeCheck_23922_32b.2.2.2.2.1) rfl).to, ?_⟩
  refine List.forall_mem_cons.mpr ⟨(s_iloadn (am_dp pw_J7_rangeCheck_23922_32 dd_J7_rangeCheck_23922_32b.2.2.2.2.2.1) rfl).to, ?_⟩
  refine List.forall_mem_cons.mpr ⟨(s_icmp_le (am_dp pw_J7_rangeCheck_23922_32 dd_J7_rangeCheck_23922_32b.2.2.2.2.2.2) (by decide)).to, ?_⟩
  refine List.forall_mem_cons.mpr ⟨(s_dup (am_dp pw_J7_rangeCheck_23922_64 dd_J7_rangeCheck_23922_64a.2.1)).to, ?_⟩
  refine List.forall_mem_cons.mpr ⟨(s_iloadn (am_dp pw_J7_rangeCheck_23922_64 dd_J7_rangeCheck_23922_64a.2.2.1) rfl).to, ?_⟩
  refine List.forall_mem_cons.mpr ⟨s_vret (am_dp pw_J7_rangeCheck_23922_64 dd_J7_rangeCheck_23922_64a.2.2.2.2.2) rfl, ?_⟩
  exact fun _ h => absurd h List.not_mem_nil
theorem sn_tJ7_fill_d0a16 : ∀ q ∈ tJ7_fill_d0a16, am_Snd am_P0 RJ7 cJ7_fill_d0a16 5 (Option.none : Option FieldType) "fill" q.1 q.2 := by
  unfold tJ7_fill_d0a16
  refine List.forall_mem_cons.mpr ⟨(s_iconst (am_dp pw_J7_fill_d0a16_0 dd_J7_fill_d0a16_0a.1) (by decide)).to, ?_⟩
  refine List.forall_mem_cons.mpr ⟨(s_istoren (am_dp pw_J7_fill_d0a16_0 dd_J7_fill_d0a16_0a.2.1) rfl (by decide)).to, ?_⟩
  refine List.forall_mem_cons.mpr ⟨(s_aloadn (am_dp pw_J7_fill_d0a16_0 dd_J7_fill_d0a16_0a.2.2.1) rfl).to, ?_⟩
  refine List.forall_mem_cons.mpr ⟨(s_len (am_dp pw_J7_fill_d0a16_0 dd_J7_fill_d0a16_0a.2.2.2.1)).to, ?_⟩
  refine List.forall_mem_cons.mpr ⟨(s_istore (am_dp pw_J7_fill_d0a16_0 dd_J7_fill_d0a16_0a.2.2.2.2.1) (by decide)).to, ?_⟩
  refine List.forall_mem_cons.mpr ⟨(s_iloadn (am_dp pw_J7_fill_d0a16_0 dd_J7_fill_d0a16_0a.2.2.2.2.2.1) rfl).to, ?_⟩
  refine List.forall_mem_cons.mpr ⟨(s_iload (am_dp pw_J7_fill_d0a16_0 dd_J7_fill_d0a16_0a.2.2.2.2.2.2.1)).to, ?_⟩
  refine List.forall_mem_cons.mpr ⟨(s_icmp_ge (am_dp pw_J7_fill_d0a16_0 dd_J7_fill_d0a16_0a.2.2.2.2.2.2.2) (by decide)).to, ?_⟩
  refine List.forall_mem_cons.mpr ⟨(s_aloadn (am_dp pw_J7_fill_d0a16_0 dd_J7_fill_d0a16_0b.1) rfl).to, ?_⟩
  refine List.forall_mem_cons.mpr ⟨(s_iloadn (am_dp pw_J7_fill_d0a16_0 dd_J7_fill_d0a16_0b.2.1) rfl).to, ?_⟩
  refine List.forall_mem_cons.mpr ⟨(s_lloadn (am_dp pw_J7_fill_d0a16_0 dd_J7_fill_d0a16_0b.2.2.1) rfl).to, ?_⟩
  refine List.forall_mem_cons.mpr ⟨(s_last (am_dp pw_J7_fill_d0a16_0 dd_J7_fill_d0a16_0b.2.2.2.1)).to, ?_⟩
  refine List.forall_mem_cons.mpr ⟨(s_iinc (am_dp pw_J7_fill_d0a16_0 dd_J7_fill_d0a16_0b.2.2.2.2.1) (by decide) (by decide)).to, ?_⟩
  refine List.forall_mem_cons.mpr ⟨(s_goto (am_dp pw_J7_fill_d0a16_0 dd_J7_fill_d0a16_0b.2.2.2.2.2.1) (by decide)).to, ?_⟩
  refine List.forall_mem_cons.mpr ⟨s_vret (am_dp pw_J7_fill_d0a16_0 dd_J7_fill_d0a16_0b.2.2.2.2.2.2) rfl, ?_⟩
  exact fun _ h => absurd h List.not_mem_nil
theorem sn_tJ7_fill_bad5a : ∀ q ∈ tJ7_fill_bad5a, am_Snd am_P0 RJ7 cJ7_fill_bad5a 6 (Option.none : Option FieldType) "fill" q.1 q.2 := by
  unfold tJ7_fill_bad5a
  refine List.forall_mem_cons.mpr ⟨(s_aloadn (am_dp pw_J7_fill_bad5a_0 dd_J7_fill_bad5a_0a.1) rfl).to, ?_⟩
  refine List.forall_mem_cons.mpr ⟨(s_len (am_dp pw_J7_fill_bad5a_0 dd_J7_fill_bad5a_0a.2.1)).to, ?_⟩
  refine List.forall_mem_cons.mpr ⟨(s_iloadn (am_dp pw_J7_fill_bad5a_0 dd_J7_fill_bad5a_0a.2.2.1) rfl).to, ?_⟩
  refine List.forall_mem_cons.mpr ⟨(s_iloadn (am_dp pw_J7_fill_bad5a_0 dd_J7_fill_bad5a_0a.2.2.2.1) rfl).to, ?_⟩
  refine List.forall_mem_cons.mpr ⟨zw_cs321 (am_dp pw_J7_fill_bad5a_0 dd_J7_fill_bad5a_0a.2.2.2.2.1) wd1247, ?_⟩
  refine List.forall_mem_cons.mpr ⟨(s_iloadn (am_dp pw_J7_fill_bad5a_0 dd_J7_fill_bad5a_0a.2.2.2.2.2.1) rfl).to, ?_⟩
  refine List.forall_mem_cons.mpr ⟨(s_istore (am_dp pw_J7_fill_bad5a_0 dd_J7_fill_bad5a_0a.2.2.2.2.2.2.1) (by decide)).to, ?_⟩
  refine List.forall_mem_cons.mpr ⟨(s_iload (am_dp pw_J7_fill_bad5a_0 dd_J7_fill_bad5a_0a.2.2.2.2.2.2.2)).to, ?_⟩
  refine List.forall_mem_cons.mpr ⟨(s_iloadn (am_dp pw_J7_fill_bad5a_0 dd_J7_fill_bad5a_0b.1) rfl).to, ?_⟩
  refine List.forall_mem_cons.mpr ⟨(s_icmp_ge (am_dp pw_J7_fill_bad5a_0 dd_J7_fill_bad5a_0b.2.1) (by decide)).to, ?_⟩
  refine List.forall_mem_cons.mpr ⟨(s_aloadn (am_dp pw_J7_fill_bad5a_0 dd_J7_fill_bad5a_0b.2.2.1) rfl).to, ?_⟩
  refine List.forall_mem_cons.mpr ⟨(s_iload (am_dp pw_J7_fill_bad5a_0 dd_J7_fill_bad5a_0b.2.2.2.1)).to, ?_⟩
  refine List.forall_mem_cons.mpr ⟨(s_lloadn (am_dp pw_J7_fill_bad5a_0 dd_J7_fill_bad5a_0b.2.2.2.2.1) rfl).to, ?_⟩
  refine List.forall_mem_cons.mpr ⟨(s_last (am_dp pw_J7_fill_bad5a_0 dd_J7_fill_bad5a_0b.2.2.2.2.2.1)).to, ?_⟩
  refine List.forall_mem_cons.mpr ⟨(s_iinc (am_dp pw_J7_fill_bad5a_0 dd_J7_fill_bad5a_0b.2.2.2.2.2.2.1) (by decide) (by decide)).to, ?_⟩
  refine List.forall_mem_cons.mpr ⟨(s_goto (am_dp pw_J7_fill_bad5a_0 dd_J7_fill_bad5a_0b.2.2.2.2.2.2.2) (by decide)).to, ?_⟩
  refine List.forall_mem_cons.mpr ⟨s_vret (am_dp pw_J7_fill_bad5a_0 dd_J7_fill_bad5a_0c) rfl, ?_⟩
  exact fun _ h => absurd h List.not_mem_nil
theorem sn_tJ7_fill_53178 : ∀ q ∈ tJ7_fill_53178, am_Snd am_P0 RJ7 cJ7_fill_53178 4 (Option.none : Option FieldType) "fill" q.1 q.2 := by
  unfold tJ7_fill_53178
  refine List.forall_mem_cons.mpr ⟨(s_iconst (am_dp pw_J7_fill_53178_0 dd_J7_fill_53178_0a.1) (by decide)).to, ?_⟩
  refine List.forall_mem_cons.mpr ⟨(s_istoren (am_dp pw_J7_fill_53178_0 dd_J7_fill_53178_0a.2.1) rfl (by decide)).to, ?_⟩
  refine List.forall_mem_cons.mpr ⟨(s_aloadn (am_dp pw_J7_fill_53178_0 dd_J7_fill_53178_0a.2.2.1) rfl).to, ?_⟩
  refine List.forall_mem_cons.mpr ⟨(s_len (am_dp pw_J7_fill_53178_0 dd_J7_fill_53178_0a.2.2.2.1)).to, ?_⟩
  refine List.forall_mem_cons.mpr ⟨(s_istoren (am_dp pw_J7_fill_53178_0 dd_J7_fill_53178_0a.2.2.2.2.1) rfl (by decide)).to, ?_⟩
  refine List.forall_mem_cons.mpr ⟨(s_iloadn (am_dp pw_J7_fill_53178_0 dd_J7_fill_53178_0a.2.2.2.2.2.1) rfl).to, ?_⟩
  refine List.forall_mem_cons.mpr ⟨(s_iloadn (am_dp pw_J7_fill_53178_0 dd_J7_fill_53178_0a.2.2.2.2.2.2.1) rfl).to, ?_⟩
  refine List.forall_mem_cons.mpr ⟨(s_icmp_ge (am_dp pw_J7_fill_53178_0 dd_J7_fill_53178_0a.2.2.2.2.2.2.2) (by decide)).to, ?_⟩
  refine List.forall_mem_cons.mpr ⟨(s_aloadn (am_dp pw_J7_fill_53178_0 dd_J7_fill_53178_0b.1) rfl).to, ?_⟩
  refine List.forall_mem_cons.mpr ⟨(s_iloadn (am_dp pw_J7_fill_53178_0 dd_J7_fill_53178_0b.2.1) rfl).to, ?_⟩
  refine List.forall_mem_cons.mpr ⟨(s_iloadn (am_dp pw_J7_fill_53178_0 dd_J7_fill_53178_0b.2.2.1) rfl).to, ?_⟩
  refine List.forall_mem_cons.mpr ⟨(s_iast (am_dp pw_J7_fill_53178_0 dd_J7_fill_53178_0b.2.2.2.1)).to, ?_⟩
  refine List.forall_mem_cons.mpr ⟨(s_iinc (am_dp pw_J7_fill_53178_0 dd_J7_fill_53178_0b.2.2.2.2.1) (by decide) (by decide)).to, ?_⟩
  refine List.forall_mem_cons.mpr ⟨(s_goto (am_dp pw_J7_fill_53178_0 dd_J7_fill_53178_0b.2.2.2.2.2.1) (by decide)).to, ?_⟩
  refine List.forall_mem_cons.mpr ⟨s_vret (am_dp pw_J7_fill_53178_0 dd_J7_fill_53178_0b.2.2.2.2.2.2) rfl, ?_⟩
  exact fun _ h => absurd h List.not_mem_nil
theorem sn_tJ3_checkIndex_8e157 : ∀ q ∈ tJ3_checkIndex_8e157, am_Snd am_P0 RJ3 cJ3_checkIndex_8e157 3 (Option.some FieldType.int) "checkIndex" q.1 q.2 := by
  unfold tJ3_checkIndex_8e157
  refine List.forall_mem_cons.mpr ⟨(s_iloadn (am_dp pw_J3_checkIndex_8e157_0 dd_J3_checkIndex_8e157_0a.1) rfl).to, ?_⟩
  refine List.forall_mem_cons.mpr ⟨(s_if_lt (am_dp pw_J3_checkIndex_8e157_0 dd_J3_checkIndex_8e157_0a.2.1) (by decide)).to, ?_⟩
  refine List.forall_mem_cons.mpr ⟨(s_iloadn (am_dp pw_J3_checkIndex_8e157_0 dd_J3_checkIndex_8e157_0a.2.2.1) rfl).to, ?_⟩
  refine List.forall_mem_cons.mpr ⟨(s_iloadn (am_dp pw_J3_checkIndex_8e157_0 dd_J3_checkIndex_8e157_0a.2.2.2.1) rfl).to, ?_⟩
  refine List.forall_mem_cons.mpr ⟨(s_icmp_lt (am_dp pw_J3_checkIndex_8e157_0 dd_J3_checkIndex_8e157_0a.2.2.2.2.1) (by decide)).to, ?_⟩
  refine List.forall_mem_cons.mpr ⟨(s_aloadn (am_dp pw_J3_checkIndex_8e157_0 dd_J3_checkIndex_8e157_0a.2.2.2.2.2.1) rfl).to, ?_⟩
  refine List.forall_mem_cons.mpr ⟨(s_iloadn (am_dp pw_J3_checkIndex_8e157_0 dd_J3_checkIndex_8e157_0a.2.2.2.2.2.2.1) rfl).to, ?_⟩
  refine List.forall_mem_cons.mpr ⟨(s_iloadn (am_dp pw_J3_checkIndex_8e157_0 dd_J3_checkIndex_8e157_0a.2.2.2.2.2.2.2) rfl).to, ?_⟩
  refine List.forall_mem_cons.mpr ⟨(s_iloadn (am_dp pw_J3_checkIndex_8e157_0 dd_J3_checkIndex_8e157_0b.2.2.1) rfl).to, ?_⟩
  refine List.forall_mem_cons.mpr ⟨s_iret (am_dp pw_J3_checkIndex_8e157_0 dd_J3_checkIndex_8e157_0b.2.2.2) rfl, ?_⟩
  exact fun _ h => absurd h List.not_mem_nil
theorem sn_tX0_init : ∀ q ∈ tX0_init, am_Snd am_P0 RX0 cX0_init 1 (Option.none : Option FieldType) "<init>" q.1 q.2 := by
  unfold tX0_init
  refine List.forall_mem_cons.mpr ⟨(s_aloadn (am_dp pw_X0_init_0 dd_X0_init_0a.1) rfl).to, ?_⟩
  refine List.forall_mem_cons.mpr ⟨(s_obj (am_dp pw_X0_init_0 dd_X0_init_0a.2.1) wd201 wd160 wd161).to, ?_⟩
  refine List.forall_mem_cons.mpr ⟨(s_aloadn (am_dp pw_X0_init_0 dd_X0_init_0a.2.2.1) rfl).to, ?_⟩
  refine List.forall_mem_cons.mpr ⟨(s_sipush (am_dp pw_X0_init_0 dd_X0_init_0a.2.2.2.1) (by decide)).to, ?_⟩
  refine List.forall_mem_cons.mpr ⟨(s_newa (kd := 0) (ty := .int) (am_dp pw_X0_init_0 dd_X0_init_0a.2.2.2.2.1) rfl rfl wd195 (by decide) (by decide) (fun _ _ h => h)).to, ?_⟩
  refine List.forall_mem_cons.mpr ⟨(s_putF (ci := 0) (k := 0) (am_dp pw_X0_init_0 dd_X0_init_0a.2.2.2.2.2.1) rfl (by decide) wd202 inX0 tyX0_ok nmX0 rfl rfl rfl rfl).to, ?_⟩
  refine List.forall_mem_cons.mpr ⟨(s_aloadn (am_dp pw_X0_init_0 dd_X0_init_0a.2.2.2.2.2.2.1) rfl).to, ?_⟩
  refine List.forall_mem_cons.mpr ⟨(s_bipush (am_dp pw_X0_init_0 dd_X0_init_0a.2.2.2.2.2.2.2) (by decide)).to, ?_⟩
  refine List.forall_mem_cons.mpr ⟨(s_newa (kd := 0) (ty := .int) (am_dp pw_X0_init_0 dd_X0_init_0b.1) rfl rfl wd195 (by decide) (by decide) (fun _ _ h => h)).to, ?_⟩
  refine List.forall_mem_cons.mpr ⟨(s_putF (ci := 0) (k := 2) (am_dp pw_X0_init_0 dd_X0_init_0b.2.1) rfl (by decide) wd206 inX0 tyX0_ok nmX0 rfl rfl rfl rfl).to, ?_⟩
  refine List.forall_mem_cons.mpr ⟨s_vret (am_dp pw_X0_init_0 dd_X0_init_0b.2.2) rfl, ?_⟩
  exact fun _ h => absurd h List.not_mem_nil
theorem sn_tX0_emit : ∀ q ∈ tX0_emit, am_Snd am_P0 RX0 cX0_emit 2 (Option.none : Option FieldType) "emit" q.1 q.2 := by
  unfold tX0_emit
  refine List.forall_mem_cons.mpr ⟨(s_aloadn (am_dp pw_X0_emit_0 dd_X0_emit_0a.1) rfl).to, ?_⟩
  refine List.forall_mem_cons.mpr ⟨(s_get (ci := 0) (k := 1) (am_dp pw_X0_emit_0 dd_X0_emit_0a.2.1) rfl (by decide) wd203 inX0 rfl).to, ?_⟩
  refine List.forall_mem_cons.mpr ⟨(s_sipush (am_dp pw_X0_emit_0 dd_X0_emit_0a.2.2.1) (by decide)).to, ?_⟩
  refine List.forall_mem_cons.mpr ⟨(s_icmp_ge (am_dp pw_X0_emit_0 dd_X0_emit_0a.2.2.2.1) (by decide)).to, ?_⟩
  refine List.forall_mem_cons.mpr ⟨(s_aloadn (am_dp pw_X0_emit_0 dd_X0_emit_0a.2.2.2.2.1) rfl).to, ?_⟩
  refine List.forall_mem_cons.mpr ⟨(s_get (ci := 0) (k := 0) (am_dp pw_X0_emit_0 dd_X0_emit_0a.2.2.2.2.2.1) rfl (by decide) wd202 inX0 rfl).to, ?_⟩
  refine List.forall_mem_cons.mpr ⟨(s_aloadn (am_dp pw_X0_emit_0 dd_X0_emit_0a.2.2.2.2.2.2.1) rfl).to, ?_⟩
  refine List.forall_mem_cons.mpr ⟨(s_get (ci := 0) (k := 1) (am_dp pw_X0_emit_0 dd_X0_emit_0a.2.2.2.2.2.2.2) rfl (by decide) wd203 inX0 rfl).to, ?_⟩
  refine List.forall_mem_cons.mpr ⟨(s_iloadn (am_dp pw_X0_emit_0 dd_X0_emit_0b.1) rfl).to, ?_⟩
  refine List.forall_mem_cons.mpr ⟨(s_iast (am_dp pw_X0_emit_0 dd_X0_emit_0b.2.1)).to, ?_⟩
  refine List.forall_mem_cons.mpr ⟨(s_aloadn (am_dp pw_X0_emit_0 dd_X0_emit_0b.2.2.1) rfl).to, ?_⟩
  refine List.forall_mem_cons.mpr ⟨(s_dup (am_dp pw_X0_emit_0 dd_X0_emit_0b.2.2.2.1)).to, ?_⟩
  refine List.forall_mem_cons.mpr ⟨(s_get (ci := 0) (k := 1) (am_dp pw_X0_emit_0 dd_X0_emit_0b.2.2.2.2.1) rfl (by decide) wd203 inX0 rfl).to, ?_⟩
  refine List.forall_mem_cons.mpr ⟨(s_iconst (am_dp pw_X0_emit_0 dd_X0_emit_0b.2.2.2.2.2.1) (by decide)).to, ?_⟩
  refine List.forall_mem_cons.mpr ⟨(s_iadd (am_dp pw_X0_emit_0 dd_X0_emit_0b.2.2.2.2.2.2.1)).to, ?_⟩
  refine List.forall_mem_cons.mpr ⟨(s_put (ci := 0) (k := 1) (am_dp pw_X0_emit_0 dd_X0_emit_0b.2.2.2.2.2.2.2) rfl (by decide) wd203 inX0 tyX0_ok nmX0 rfl rfl).to, ?_⟩
  refine List.forall_mem_cons.mpr ⟨s_vret (am_dp pw_X0_emit_0 dd_X0_emit_0c) rfl, ?_⟩
  exact fun _ h => absurd h List.not_mem_nil
theorem sn_tX0_valueOf_0 : ∀ q ∈ tX0_valueOf_0, am_Snd am_P0 RX0 cX0_valueOf 11 (Option.some FieldType.int) "valueOf" q.1 q.2 := by
  unfold tX0_valueOf_0
  refine List.forall_mem_cons.mpr ⟨(s_iconst (am_dp pw_X0_valueOf_0 dd_X0_valueOf_0a.1) (by decide)).to, ?_⟩
  refine List.forall_mem_cons.mpr ⟨(s_istore (am_dp pw_X0_valueOf_0 dd_X0_valueOf_0a.2.1) (by decide)).to, ?_⟩
  refine List.forall_mem_cons.mpr ⟨(s_iloadn (am_dp pw_X0_valueOf_0 dd_X0_valueOf_0a.2.2.1) rfl).to, ?_⟩
  refine List.forall_mem_cons.mpr ⟨(s_istore (am_dp pw_X0_valueOf_0 dd_X0_valueOf_0a.2.2.2.1) (by decide)).to, ?_⟩
  refine List.forall_mem_cons.mpr ⟨(s_iload (am_dp pw_X0_valueOf_0 dd_X0_valueOf_0a.2.2.2.2.1)).to, ?_⟩
  refine List.forall_mem_cons.mpr ⟨(s_iloadn (am_dp pw_X0_valueOf_0 dd_X0_valueOf_0a.2.2.2.2.2.1) rfl).to, ?_⟩
  refine List.forall_mem_cons.mpr ⟨(s_icmp_ge (am_dp pw_X0_valueOf_0 dd_X0_valueOf_0a.2.2.2.2.2.2.1) (by decide)).to, ?_⟩
  refine List.forall_mem_cons.mpr ⟨(s_aloadn (am_dp pw_X0_valueOf_0 dd_X0_valueOf_0a.2.2.2.2.2.2.2) rfl).to, ?_⟩
  refine List.forall_mem_cons.mpr ⟨(s_get (ci := 0) (k := 0) (am_dp pw_X0_valueOf_0 dd_X0_valueOf_0b.1) rfl (by decide) wd202 inX0 rfl).to, ?_⟩
  refine List.forall_mem_cons.mpr ⟨(s_iload (am_dp pw_X0_valueOf_0 dd_X0_valueOf_0b.2.1)).to, ?_⟩
  refine List.forall_mem_cons.mpr ⟨(s_iald (am_dp pw_X0_valueOf_0 dd_X0_valueOf_0b.2.2.1)).to, ?_⟩
  refine List.forall_mem_cons.mpr ⟨(s_istore (am_dp pw_X0_valueOf_0 dd_X0_valueOf_0b.2.2.2.1) (by decide)).to, ?_⟩
  refine List.forall_mem_cons.mpr ⟨(s_iload (am_dp pw_X0_valueOf_0 dd_X0_valueOf_0b.2.2.2.2.1)).to, ?_⟩
  refine List.forall_mem_cons.mpr ⟨(s_bipush (am_dp pw_X0_valueOf_0 dd_X0_valueOf_0b.2.2.2.2.2.1) (by decide)).to, ?_⟩
  refine List.forall_mem_cons.mpr ⟨(s_icmp_lt (am_dp pw_X0_valueOf_0 dd_X0_valueOf_0b.2.2.2.2.2.2.1) (by decide)).to, ?_⟩
  refine List.forall_mem_cons.mpr ⟨(s_iload (am_dp pw_X0_valueOf_0 dd_X0_valueOf_0b.2.2.2.2.2.2.2)).to, ?_⟩
  refine List.forall_mem_cons.mpr ⟨(s_bipush (am_dp pw_X0_valueOf_0 dd_X0_valueOf_0c) (by decide)).to, ?_⟩
  refine List.forall_mem_cons.mpr ⟨(s_icmp_lt (am_dp pw_X0_valueOf_32 dd_X0_valueOf_32a.1) (by decide)).to, ?_⟩
  refine List.forall_mem_cons.mpr ⟨(s_iconst (am_dp pw_X0_valueOf_32 dd_X0_valueOf_32a.2.1) (by decide)).to, ?_⟩
  refine List.forall_mem_cons.mpr ⟨s_iret (am_dp pw_X0_valueOf_32 dd_X0_valueOf_32a.2.2.1) rfl, ?_⟩
  refine List.forall_mem_cons.mpr ⟨(s_aloadn (am_dp pw_X0_valueOf_32 dd_X0_valueOf_32a.2.2.2.1) rfl).to, ?_⟩
  refine List.forall_mem_cons.mpr ⟨(s_get (ci := 0) (k := 2) (am_dp pw_X0_valueOf_32 dd_X0_valueOf_32a.2.2.2.2.1) rfl (by decide) wd206 inX0 rfl).to, ?_⟩
  refine List.forall_mem_cons.mpr ⟨(s_iload (am_dp pw_X0_valueOf_32 dd_X0_valueOf_32a.2.2.2.2.2.1)).to, ?_⟩
  refine List.forall_mem_cons.mpr ⟨(s_iload (am_dp pw_X0_valueOf_32 dd_X0_valueOf_32a.2.2.2.2.2.2.1)).to, ?_⟩
  refine List.forall_mem_cons.mpr ⟨(s_iloadn (am_dp pw_X0_valueOf_32 dd_X0_valueOf_32a.2.2.2.2.2.2.2) rfl).to, ?_⟩
  refine List.forall_mem_cons.mpr ⟨(s_iload (am_dp pw_X0_valueOf_32 dd_X0_valueOf_32b.1)).to, ?_⟩
  refine List.forall_mem_cons.mpr ⟨(s_iload (am_dp pw_X0_valueOf_32 dd_X0_valueOf_32b.2.1)).to, ?_⟩
  refine List.forall_mem_cons.mpr ⟨zw_cs3 (am_dp pw_X0_valueOf_32 dd_X0_valueOf_32b.2.2.1) wd865, ?_⟩
  refine List.forall_mem_cons.mpr ⟨(s_iast (am_dp pw_X0_valueOf_32 dd_X0_valueOf_32b.2.2.2.1)).to, ?_⟩
  refine List.forall_mem_cons.mpr ⟨(s_iinc (am_dp pw_X0_valueOf_32 dd_X0_valueOf_32b.2.2.2.2.1) (by decide) (by decide)).to, ?_⟩
  refine List.forall_mem_cons.mpr ⟨(s_goto (am_dp pw_X0_valueOf_32 dd_X0_valueOf_32b.2.2.2.2.2.1) (by decide)).to, ?_⟩
  refine List.forall_mem_cons.mpr ⟨(s_iload (am_dp pw_X0_valueOf_32 dd_X0_valueOf_32b.2.2.2.2.2.2.1)).to, ?_⟩
  refine List.forall_mem_cons.mpr ⟨(s_bipush (am_dp pw_X0_valueOf_32 dd_X0_valueOf_32b.2.2.2.2.2.2.2) (by decide)).to, ?_⟩
  refine List.forall_mem_cons.mpr ⟨(s_icmp_ne (am_dp pw_X0_valueOf_64 dd_X0_valueOf_64a.1) (by decide)).to, ?_⟩
  refine List.forall_mem_cons.mpr ⟨(s_iload (am_dp pw_X0_valueOf_64 dd_X0_valueOf_64a.2.1)).to, ?_⟩
  refine List.forall_mem_cons.mpr ⟨(s_iconst (am_dp pw_X0_valueOf_64 dd_X0_valueOf_64a.2.2.1) (by decide)).to, ?_⟩
  refine List.forall_mem_cons.mpr ⟨(s_icmp_ge (am_dp pw_X0_valueOf_64 dd_X0_valueOf_64a.2.2.2.1) (by decide)).to, ?_⟩
  refine List.forall_mem_cons.mpr ⟨(s_iconst (am_dp pw_X0_valueOf_64 dd_X0_valueOf_64a.2.2.2.2.1) (by decide)).to, ?_⟩
  refine List.forall_mem_cons.mpr ⟨s_iret (am_dp pw_X0_valueOf_64 dd_X0_valueOf_64a.2.2.2.2.2.1) rfl, ?_⟩
  refine List.forall_mem_cons.mpr ⟨(s_aloadn (am_dp pw_X0_valueOf_64 dd_X0_valueOf_64a.2.2.2.2.2.2.1) rfl).to, ?_⟩
  refine List.forall_mem_cons.mpr ⟨(s_get (ci := 0) (k := 2) (am_dp pw_X0_valueOf_64 dd_X0_valueOf_64a.2.2.2.2.2.2.2) rfl (by decide) wd206 inX0 rfl).to, ?_⟩
  refine List.forall_mem_cons.mpr ⟨(s_iload (am_dp pw_X0_valueOf_64 dd_X0_valueOf_64b.1)).to, ?_⟩
  refine List.forall_mem_cons.mpr ⟨(s_iconst (am_dp pw_X0_valueOf_64 dd_X0_valueOf_64b.2.1) (by decide)).to, ?_⟩
  refine List.forall_mem_cons.mpr ⟨(s_isub (am_dp pw_X0_valueOf_64 dd_X0_valueOf_64b.2.2.1)).to, ?_⟩
  refine List.forall_mem_cons.mpr ⟨(s_iconst (am_dp pw_X0_valueOf_64 dd_X0_valueOf_64b.2.2.2.1) (by decide)).to, ?_⟩
  refine List.forall_mem_cons.mpr ⟨(s_aloadn (am_dp pw_X0_valueOf_64 dd_X0_valueOf_64b.2.2.2.2.1) rfl).to, ?_⟩
  refine List.forall_mem_cons.mpr ⟨(s_get (ci := 0) (k := 2) (am_dp pw_X0_valueOf_64 dd_X0_valueOf_64b.2.2.2.2.2.1) rfl (by decide) wd206 inX0 rfl).to, ?_⟩
  refine List.forall_mem_cons.mpr ⟨(s_iload (am_dp pw_X0_valueOf_64 dd_X0_valueOf_64b.2.2.2.2.2.2.1)).to, ?_⟩
  refine List.forall_mem_cons.mpr ⟨(s_iconst (am_dp pw_X0_valueOf_64 dd_X0_valueOf_64b.2.2.2.2.2.2.2) (by decide)).to, ?_⟩
  refine List.forall_mem_cons.mpr ⟨(s_isub (am_dp pw_X0_valueOf_64 dd_X0_valueOf_64c.1)).to, ?_⟩
  refine List.forall_mem_cons.mpr ⟨(s_iald (am_dp pw_X0_valueOf_64 dd_X0_valueOf_64c.2.1)).to, ?_⟩
  refine List.forall_mem_cons.mpr ⟨(s_isub (am_dp pw_X0_valueOf_64 dd_X0_valueOf_64c.2.2.1)).to, ?_⟩
  refine List.forall_mem_cons.mpr ⟨(s_iast (am_dp pw_X0_valueOf_64 dd_X0_valueOf_64c.2.2.2.1)).to, ?_⟩
  refine List.forall_mem_cons.mpr ⟨(s_goto (am_dp pw_X0_valueOf_64 dd_X0_valueOf_64c.2.2.2.2) (by decide)).to, ?_⟩
  refine List.forall_mem_cons.mpr ⟨(s_iload (am_dp pw_X0_valueOf_96 dd_X0_valueOf_96a.1)).to, ?_⟩
  refine List.forall_mem_cons.mpr ⟨(s_iconst (am_dp pw_X0_valueOf_96 dd_X0_valueOf_96a.2.1) (by decide)).to, ?_⟩
  refine List.forall_mem_cons.mpr ⟨(s_icmp_ge (am_dp pw_X0_valueOf_96 dd_X0_valueOf_96a.2.2.1) (by decide)).to, ?_⟩
  refine List.forall_mem_cons.mpr ⟨(s_iconst (am_dp pw_X0_valueOf_96 dd_X0_valueOf_96a.2.2.2.1) (by decide)).to, ?_⟩
  refine List.forall_mem_cons.mpr ⟨s_iret (am_dp pw_X0_valueOf_96 dd_X0_valueOf_96a.2.2.2.2.1) rfl, ?_⟩
  refine List.forall_mem_cons.mpr ⟨(s_iinc (am_dp pw_X0_valueOf_96 dd_X0_valueOf_96a.2.2.2.2.2.1) (by decide) (by decide)).to, ?_⟩
  exact fun _ h => absurd h List.not_mem_nil
theorem sn_tX0_valueOf_1 : ∀ q ∈ tX0_valueOf_1, am_Snd am_P0 RX0 cX0_valueOf 11 (Option.some FieldType.int) "valueOf" q.1 q.2 := by
  unfold tX0_valueOf_1
  refine List.forall_mem_cons.mpr ⟨(s_iload (am_dp pw_X0_valueOf_96 dd_X0_valueOf_96a.2.2.2.2.2.2.1)).to, ?_⟩
  refine List.forall_mem_cons.mpr ⟨(s_aloadn (am_dp pw_X0_valueOf_96 dd_X0_valueOf_96a.2.2.2.2.2.2.2) rfl).to, ?_⟩
  refine List.forall_mem_cons.mpr ⟨(s_get (ci := 0) (k := 2) (am_dp pw_X0_valueOf_96 dd_X0_valueOf_96b.1) rfl (by decide) wd206 inX0 rfl).to, ?_⟩
  refine List.forall_mem_cons.mpr ⟨(s_iload (am_dp pw_X0_valueOf_96 dd_X0_valueOf_96b.2.1)).to, ?_⟩
  refine List.forall_mem_cons.mpr ⟨(s_iconst (am_dp pw_X0_valueOf_96 dd_X0_valueOf_96b.2.2.1) (by decide)).to, ?_⟩
  refine List.forall_mem_cons.mpr ⟨(s_isub (am_dp pw_X0_valueOf_96 dd_X0_valueOf_96b.2.2.2.1)).to, ?_⟩
  refine List.forall_mem_cons.mpr ⟨(s_iald (am_dp pw_X0_valueOf_96 dd_X0_valueOf_96b.2.2.2.2.1)).to, ?_⟩
  refine List.forall_mem_cons.mpr ⟨(s_i2l (am_dp pw_X0_valueOf_96 dd_X0_valueOf_96b.2.2.2.2.2.1)).to, ?_⟩
  refine List.forall_mem_cons.mpr ⟨(s_aloadn (am_dp pw_X0_valueOf_96 dd_X0_valueOf_96b.2.2.2.2.2.2.1) rfl).to, ?_⟩
  refine List.forall_mem_cons.mpr ⟨(s_get (ci := 0) (k := 2) (am_dp pw_X0_valueOf_96 dd_X0_valueOf_96b.2.2.2.2.2.2.2) rfl (by decide) wd206 inX0 rfl).to, ?_⟩
  refine List.forall_mem_cons.mpr ⟨(s_iload (am_dp pw_X0_valueOf_96 dd_X0_valueOf_96c.1)).to, ?_⟩
  refine List.forall_mem_cons.mpr ⟨(s_iald (am_dp pw_X0_valueOf_96 dd_X0_valueOf_96c.2)).to, ?_⟩
  refine List.forall_mem_cons.mpr ⟨(s_i2l (am_dp pw_X0_valueOf_128 dd_X0_valueOf_128a.1)).to, ?_⟩
  refine List.forall_mem_cons.mpr ⟨zw_cs4 (am_dp pw_X0_valueOf_128 dd_X0_valueOf_128a.2.1) wd868, ?_⟩
  refine List.forall_mem_cons.mpr ⟨(s_lstore (am_dp pw_X0_valueOf_128 dd_X0_valueOf_128a.2.2.1) (by decide)).to, ?_⟩
  refine List.forall_mem_cons.mpr ⟨(s_aloadn (am_dp pw_X0_valueOf_128 dd_X0_valueOf_128a.2.2.2.1) rfl).to, ?_⟩
  refine List.forall_mem_cons.mpr ⟨(s_get (ci := 0) (k := 2) (am_dp pw_X0_valueOf_128 dd_X0_valueOf_128a.2.2.2.2.1) rfl (by decide) wd206 inX0 rfl).to, ?_⟩
  refine List.forall_mem_cons.mpr ⟨(s_iload (am_dp pw_X0_valueOf_128 dd_X0_valueOf_128a.2.2.2.2.2.1)).to, ?_⟩
  refine List.forall_mem_cons.mpr ⟨(s_iconst (am_dp pw_X0_valueOf_128 dd_X0_valueOf_128a.2.2.2.2.2.2.1) (by decide)).to, ?_⟩
  refine List.forall_mem_cons.mpr ⟨(s_isub (am_dp pw_X0_valueOf_128 dd_X0_valueOf_128a.2.2.2.2.2.2.2)).to, ?_⟩
  refine List.forall_mem_cons.mpr ⟨(s_ldc2 (am_dp pw_X0_valueOf_128 dd_X0_valueOf_128b.1) wd883).to, ?_⟩
  refine List.forall_mem_cons.mpr ⟨(s_ldc2 (am_dp pw_X0_valueOf_128 dd_X0_valueOf_128b.2.1) wd884).to, ?_⟩
  refine List.forall_mem_cons.mpr ⟨(s_lload (am_dp pw_X0_valueOf_128 dd_X0_valueOf_128b.2.2.1)).to, ?_⟩
  refine List.forall_mem_cons.mpr ⟨zw_cs310 (am_dp pw_X0_valueOf_128 dd_X0_valueOf_128b.2.2.2.1) wd877, ?_⟩
  refine List.forall_mem_cons.mpr ⟨zw_cs308 (am_dp pw_X0_valueOf_128 dd_X0_valueOf_128b.2.2.2.2.1) wd880, ?_⟩
  refine List.forall_mem_cons.mpr ⟨(s_l2i (am_dp pw_X0_valueOf_128 dd_X0_valueOf_128b.2.2.2.2.2.1)).to, ?_⟩
  refine List.forall_mem_cons.mpr ⟨(s_iast (am_dp pw_X0_valueOf_128 dd_X0_valueOf_128b.2.2.2.2.2.2.1)).to, ?_⟩
  refine List.forall_mem_cons.mpr ⟨(s_iinc (am_dp pw_X0_valueOf_128 dd_X0_valueOf_128b.2.2.2.2.2.2.2) (by decide) (by decide)).to, ?_⟩
  refine List.forall_mem_cons.mpr ⟨(s_goto (am_dp pw_X0_valueOf_160 dd_X0_valueOf_160a.1) (by decide)).to, ?_⟩
  refine List.forall_mem_cons.mpr ⟨(s_iload (am_dp pw_X0_valueOf_160 dd_X0_valueOf_160a.2.1)).to, ?_⟩
  refine List.forall_mem_cons.mpr ⟨(s_if_le (am_dp pw_X0_valueOf_160 dd_X0_valueOf_160a.2.2.1) (by decide)).to, ?_⟩
  refine List.forall_mem_cons.mpr ⟨(s_aloadn (am_dp pw_X0_valueOf_160 dd_X0_valueOf_160a.2.2.2.1) rfl).to, ?_⟩
  refine List.forall_mem_cons.mpr ⟨(s_get (ci := 0) (k := 2) (am_dp pw_X0_valueOf_160 dd_X0_valueOf_160a.2.2.2.2.1) rfl (by decide) wd206 inX0 rfl).to, ?_⟩
  refine List.forall_mem_cons.mpr ⟨(s_iload (am_dp pw_X0_valueOf_160 dd_X0_valueOf_160a.2.2.2.2.2.1)).to, ?_⟩
  refine List.forall_mem_cons.mpr ⟨(s_iconst (am_dp pw_X0_valueOf_160 dd_X0_valueOf_160a.2.2.2.2.2.2.1) (by decide)).to, ?_⟩
  refine List.forall_mem_cons.mpr ⟨(s_isub (am_dp pw_X0_valueOf_160 dd_X0_valueOf_160a.2.2.2.2.2.2.2)).to, ?_⟩
  refine List.forall_mem_cons.mpr ⟨(s_iald (am_dp pw_X0_valueOf_160 dd_X0_valueOf_160b.1)).to, ?_⟩
  refine List.forall_mem_cons.mpr ⟨(s_goto (am_dp pw_X0_valueOf_160 dd_X0_valueOf_160b.2.1) (by decide)).to, ?_⟩
  refine List.forall_mem_cons.mpr ⟨(s_iconst (am_dp pw_X0_valueOf_160 dd_X0_valueOf_160b.2.2.1) (by decide)).to, ?_⟩
  refine List.forall_mem_cons.mpr ⟨s_iret (am_dp pw_X0_valueOf_160 dd_X0_valueOf_160b.2.2.2) rfl, ?_⟩
  exact fun _ h => absurd h List.not_mem_nil
theorem sn_tX0_valueOf : ∀ q ∈ tX0_valueOf, am_Snd am_P0 RX0 cX0_valueOf 11 (Option.some FieldType.int) "valueOf" q.1 q.2 := by
  unfold tX0_valueOf
  exact List.forall_mem_append.mpr ⟨sn_tX0_valueOf_0, sn_tX0_valueOf_1⟩
theorem sn_tX0_partOf : ∀ q ∈ tX0_partOf, am_Snd am_P0 RX0 cX0_partOf 4 (Option.some FieldType.int) "partOf" q.1 q.2 := by
  unfold tX0_partOf
  refine List.forall_mem_cons.mpr ⟨(s_iloadn (am_dp pw_X0_partOf_0 dd_X0_partOf_0a) rfl).to, ?_⟩
  refine List.forall_mem_cons.mpr ⟨(s_table (by decide +kernel : decode cX0_partOf 1 = .ok (.tableswitch 45 (-4) (-1) #[43, 41, 36, 31], 31)) (by decide) (by decide) (by decide) (by decide)).to, ?_⟩
  refine List.forall_mem_cons.mpr ⟨(s_iloadn (am_dp pw_X0_partOf_32 dd_X0_partOf_32a.1) rfl).to, ?_⟩
  refine List.forall_mem_cons.mpr ⟨(s_bipush (am_dp pw_X0_partOf_32 dd_X0_partOf_32a.2.1) (by decide)).to, ?_⟩
  refine List.forall_mem_cons.mpr ⟨(s_irem (am_dp pw_X0_partOf_32 dd_X0_partOf_32a.2.2.1)).to, ?_⟩
  refine List.forall_mem_cons.mpr ⟨s_iret (am_dp pw_X0_partOf_32 dd_X0_partOf_32a.2.2.2.1) rfl, ?_⟩
  refine List.forall_mem_cons.mpr ⟨(s_iloadn (am_dp pw_X0_partOf_32 dd_X0_partOf_32a.2.2.2.2.1) rfl).to, ?_⟩
  refine List.forall_mem_cons.mpr ⟨(s_bipush (am_dp pw_X0_partOf_32 dd_X0_partOf_32a.2.2.2.2.2.1) (by decide)).to, ?_⟩
  refine List.forall_mem_cons.mpr ⟨(s_idiv (am_dp pw_X0_partOf_32 dd_X0_partOf_32a.2.2.2.2.2.2.1)).to, ?_⟩
  refine List.forall_mem_cons.mpr ⟨s_iret (am_dp pw_X0_partOf_32 dd_X0_partOf_32a.2.2.2.2.2.2.2) rfl, ?_⟩
  refine List.forall_mem_cons.mpr ⟨(s_iloadn (am_dp pw_X0_partOf_32 dd_X0_partOf_32b.1) rfl).to, ?_⟩
  refine List.forall_mem_cons.mpr ⟨s_iret (am_dp pw_X0_partOf_32 dd_X0_partOf_32b.2.1) rfl, ?_⟩
  refine List.forall_mem_cons.mpr ⟨(s_iloadn (am_dp pw_X0_partOf_32 dd_X0_partOf_32b.2.2.1) rfl).to, ?_⟩
  refine List.forall_mem_cons.mpr ⟨s_iret (am_dp pw_X0_partOf_32 dd_X0_partOf_32b.2.2.2.1) rfl, ?_⟩
  refine List.forall_mem_cons.mpr ⟨(s_iloadn (am_dp pw_X0_partOf_32 dd_X0_partOf_32b.2.2.2.2.1) rfl).to, ?_⟩
  refine List.forall_mem_cons.mpr ⟨s_iret (am_dp pw_X0_partOf_32 dd_X0_partOf_32b.2.2.2.2.2) rfl, ?_⟩
  exact fun _ h => absurd h List.not_mem_nil
theorem sn_tX0_joined_0 : ∀ q ∈ tX0_joined_0, am_Snd am_P0 RX0 cX0_joined 5 (Option.some FieldType.long) "joined" q.1 q.2 := by
  unfold tX0_joined_0
  refine List.forall_mem_cons.mpr ⟨(s_iloadn (am_dp pw_X0_joined_0 dd_X0_joined_0a) rfl).to, ?_⟩
  refine List.forall_mem_cons.mpr ⟨(s_table (by decide +kernel : decode cX0_joined 1 = .ok (.tableswitch 155 (-16) (-6) #[151, 139, 127, 115, 109, 103, 87, 71, 67, 63, 59], 59)) (by decide) (by decide) (by decide) (by decide)).to, ?_⟩
  refine List.forall_mem_cons.mpr ⟨(s_lloadn (am_dp pw_X0_joined_32 dd_X0_joined_32a.1) rfl).to, ?_⟩
  refine List.forall_mem_cons.mpr ⟨(s_lloadn (am_dp pw_X0_joined_32 dd_X0_joined_32a.2.1) rfl).to, ?_⟩
  refine List.forall_mem_cons.mpr ⟨(s_ladd (am_dp pw_X0_joined_32 dd_X0_joined_32a.2.2.1)).to, ?_⟩
  refine List.forall_mem_cons.mpr ⟨s_lret (am_dp pw_X0_joined_32 dd_X0_joined_32a.2.2.2) rfl, ?_⟩
  refine List.forall_mem_cons.mpr ⟨(s_lloadn (am_dp pw_X0_joined_64 dd_X0_joined_64a.1) rfl).to, ?_⟩
  refine List.forall_mem_cons.mpr ⟨(s_lloadn (am_dp pw_X0_joined_64 dd_X0_joined_64a.2.1) rfl).to, ?_⟩
  refine List.forall_mem_cons.mpr ⟨(s_lsub (am_dp pw_X0_joined_64 dd_X0_joined_64a.2.2.1)).to, ?_⟩
  refine List.forall_mem_cons.mpr ⟨s_lret (am_dp pw_X0_joined_64 dd_X0_joined_64a.2.2.2.1) rfl, ?_⟩
  refine List.forall_mem_cons.mpr ⟨(s_lloadn (am_dp pw_X0_joined_64 dd_X0_joined_64a.2.2.2.2.1) rfl).to, ?_⟩
  refine List.forall_mem_cons.mpr ⟨(s_lloadn (am_dp pw_X0_joined_64 dd_X0_joined_64a.2.2.2.2.2.1) rfl).to, ?_⟩
  refine List.forall_mem_cons.mpr ⟨(s_lmul (am_dp pw_X0_joined_64 dd_X0_joined_64a.2.2.2.2.2.2.1)).to, ?_⟩
  refine List.forall_mem_cons.mpr ⟨s_lret (am_dp pw_X0_joined_64 dd_X0_joined_64a.2.2.2.2.2.2.2) rfl, ?_⟩
  refine List.forall_mem_cons.mpr ⟨(s_lloadn (am_dp pw_X0_joined_64 dd_X0_joined_64b.1) rfl).to, ?_⟩
  refine List.forall_mem_cons.mpr ⟨(s_lconst (am_dp pw_X0_joined_64 dd_X0_joined_64b.2.1) (by decide)).to, ?_⟩
  refine List.forall_mem_cons.mpr ⟨(s_lcmp (am_dp pw_X0_joined_64 dd_X0_joined_64b.2.2.1)).to, ?_⟩
  refine List.forall_mem_cons.mpr ⟨(s_if_ne (am_dp pw_X0_joined_64 dd_X0_joined_64b.2.2.2.1) (by decide)).to, ?_⟩
  refine List.forall_mem_cons.mpr ⟨(s_lconst (am_dp pw_X0_joined_64 dd_X0_joined_64b.2.2.2.2.1) (by decide)).to, ?_⟩
  refine List.forall_mem_cons.mpr ⟨(s_goto (am_dp pw_X0_joined_64 dd_X0_joined_64b.2.2.2.2.2.1) (by decide)).to, ?_⟩
  refine List.forall_mem_cons.mpr ⟨(s_lloadn (am_dp pw_X0_joined_64 dd_X0_joined_64b.2.2.2.2.2.2.1) rfl).to, ?_⟩
  refine List.forall_mem_cons.mpr ⟨(s_lloadn (am_dp pw_X0_joined_64 dd_X0_joined_64b.2.2.2.2.2.2.2) rfl).to, ?_⟩
  refine List.forall_mem_cons.mpr ⟨zw_cs304 (am_dp pw_X0_joined_64 dd_X0_joined_64c.1) wd871, ?_⟩
  refine List.forall_mem_cons.mpr ⟨s_lret (am_dp pw_X0_joined_64 dd_X0_joined_64c.2.1) rfl, ?_⟩
  refine List.forall_mem_cons.mpr ⟨(s_lloadn (am_dp pw_X0_joined_64 dd_X0_joined_64c.2.2.1) rfl).to, ?_⟩
  refine List.forall_mem_cons.mpr ⟨(s_lconst (am_dp pw_X0_joined_64 dd_X0_joined_64c.2.2.2.1) (by decide)).to, ?_⟩
  refine List.forall_mem_cons.mpr ⟨(s_lcmp (am_dp pw_X0_joined_64 dd_X0_joined_64c.2.2.2.2.1)).to, ?_⟩
  refine List.forall_mem_cons.mpr ⟨(s_if_ne (am_dp pw_X0_joined_64 dd_X0_joined_64c.2.2.2.2.2.1) (by decide)).to, ?_⟩
  refine List.forall_mem_cons.mpr ⟨(s_lconst (am_dp pw_X0_joined_64 dd_X0_joined_64c.2.2.2.2.2.2.1) (by decide)).to, ?_⟩
  refine List.forall_mem_cons.mpr ⟨(s_goto (am_dp pw_X0_joined_64 dd_X0_joined_64c.2.2.2.2.2.2.2) (by decide)).to, ?_⟩
  refine List.forall_mem_cons.mpr ⟨(s_lloadn (am_dp pw_X0_joined_96 dd_X0_joined_96a.1) rfl).to, ?_⟩
  refine List.forall_mem_cons.mpr ⟨(s_lloadn (am_dp pw_X0_joined_96 dd_X0_joined_96a.2.1) rfl).to, ?_⟩
  refine List.forall_mem_cons.mpr ⟨zw_cs305 (am_dp pw_X0_joined_96 dd_X0_joined_96a.2.2.1) wd874, ?_⟩
  refine List.forall_mem_cons.mpr ⟨s_lret (am_dp pw_X0_joined_96 dd_X0_joined_96a.2.2.2.1) rfl, ?_⟩
  refine List.forall_mem_cons.mpr ⟨(s_lloadn (am_dp pw_X0_joined_96 dd_X0_joined_96a.2.2.2.2.1) rfl).to, ?_⟩
  refine List.forall_mem_cons.mpr ⟨(s_lloadn (am_dp pw_X0_joined_96 dd_X0_joined_96a.2.2.2.2.2.1) rfl).to, ?_⟩
  refine List.forall_mem_cons.mpr ⟨zw_cs310 (am_dp pw_X0_joined_96 dd_X0_joined_96a.2.2.2.2.2.2.1) wd877, ?_⟩
  refine List.forall_mem_cons.mpr ⟨s_lret (am_dp pw_X0_joined_96 dd_X0_joined_96a.2.2.2.2.2.2.2) rfl, ?_⟩
  refine List.forall_mem_cons.mpr ⟨(s_lloadn (am_dp pw_X0_joined_96 dd_X0_joined_96b.1) rfl).to, ?_⟩
  refine List.forall_mem_cons.mpr ⟨(s_lloadn (am_dp pw_X0_joined_96 dd_X0_joined_96b.2.1) rfl).to, ?_⟩
  refine List.forall_mem_cons.mpr ⟨zw_cs308 (am_dp pw_X0_joined_96 dd_X0_joined_96b.2.2.1) wd880, ?_⟩
  refine List.forall_mem_cons.mpr ⟨s_lret (am_dp pw_X0_joined_96 dd_X0_joined_96b.2.2.2.1) rfl, ?_⟩
  refine List.forall_mem_cons.mpr ⟨(s_lloadn (am_dp pw_X0_joined_96 dd_X0_joined_96b.2.2.2.2.1) rfl).to, ?_⟩
  refine List.forall_mem_cons.mpr ⟨(s_lloadn (am_dp pw_X0_joined_96 dd_X0_joined_96b.2.2.2.2.2.1) rfl).to, ?_⟩
  refine List.forall_mem_cons.mpr ⟨(s_lcmp (am_dp pw_X0_joined_96 dd_X0_joined_96b.2.2.2.2.2.2.1)).to, ?_⟩
  refine List.forall_mem_cons.mpr ⟨(s_if_ge (am_dp pw_X0_joined_96 dd_X0_joined_96b.2.2.2.2.2.2.2) (by decide)).to, ?_⟩
  refine List.forall_mem_cons.mpr ⟨(s_lconst (am_dp pw_X0_joined_96 dd_X0_joined_96c.1) (by decide)).to, ?_⟩
  refine List.forall_mem_cons.mpr ⟨(s_goto (am_dp pw_X0_joined_96 dd_X0_joined_96c.2.1) (by decide)).to, ?_⟩
  refine List.forall_mem_cons.mpr ⟨(s_lconst (am_dp pw_X0_joined_96 dd_X0_joined_96c.2.2.1) (by decide)).to, ?_⟩
  refine List.forall_mem_cons.mpr ⟨s_lret (am_dp pw_X0_joined_96 dd_X0_joined_96c.2.2.2) rfl, ?_⟩
  refine List.forall_mem_cons.mpr ⟨(s_lloadn (am_dp pw_X0_joined_128 dd_X0_joined_128a.1) rfl).to, ?_⟩
  refine List.forall_mem_cons.mpr ⟨(s_lloadn (am_dp pw_X0_joined_128 dd_X0_joined_128a.2.1) rfl).to, ?_⟩
  refine List.forall_mem_cons.mpr ⟨(s_lcmp (am_dp pw_X0_joined_128 dd_X0_joined_128a.2.2.1)).to, ?_⟩
  refine List.forall_mem_cons.mpr ⟨(s_if_le (am_dp pw_X0_joined_128 dd_X0_joined_128a.2.2.2.1) (by decide)).to, ?_⟩
  refine List.forall_mem_cons.mpr ⟨(s_lconst (am_dp pw_X0_joined_128 dd_X0_joined_128a.2.2.2.2.1) (by decide)).to, ?_⟩
  refine List.forall_mem_cons.mpr ⟨(s_goto (am_dp pw_X0_joined_128 dd_X0_joined_128a.2.2.2.2.2.1) (by decide)).to, ?_⟩
  refine List.forall_mem_cons.mpr ⟨(s_lconst (am_dp pw_X0_joined_128 dd_X0_joined_128a.2.2.2.2.2.2.1) (by decide)).to, ?_⟩
  refine List.forall_mem_cons.mpr ⟨s_lret (am_dp pw_X0_joined_128 dd_X0_joined_128a.2.2.2.2.2.2.2) rfl, ?_⟩
  refine List.forall_mem_cons.mpr ⟨(s_lloadn (am_dp pw_X0_joined_128 dd_X0_joined_128b.1) rfl).to, ?_⟩
  refine List.forall_mem_cons.mpr ⟨(s_lloadn (am_dp pw_X0_joined_128 dd_X0_joined_128b.2.1) rfl).to, ?_⟩
  exact fun _ h => absurd h List.not_mem_nil
theorem sn_tX0_joined_1 : ∀ q ∈ tX0_joined_1, am_Snd am_P0 RX0 cX0_joined 5 (Option.some FieldType.long) "joined" q.1 q.2 := by
  unfold tX0_joined_1
  refine List.forall_mem_cons.mpr ⟨(s_lcmp (am_dp pw_X0_joined_128 dd_X0_joined_128b.2.2.1)).to, ?_⟩
  refine List.forall_mem_cons.mpr ⟨(s_if_ne (am_dp pw_X0_joined_128 dd_X0_joined_128b.2.2.2.1) (by decide)).to, ?_⟩
  refine List.forall_mem_cons.mpr ⟨(s_lconst (am_dp pw_X0_joined_128 dd_X0_joined_128b.2.2.2.2.1) (by decide)).to, ?_⟩
  refine List.forall_mem_cons.mpr ⟨(s_goto (am_dp pw_X0_joined_128 dd_X0_joined_128b.2.2.2.2.2.1) (by decide)).to, ?_⟩
  refine List.forall_mem_cons.mpr ⟨(s_lconst (am_dp pw_X0_joined_128 dd_X0_joined_128b.2.2.2.2.2.2.1) (by decide)).to, ?_⟩
  refine List.forall_mem_cons.mpr ⟨s_lret (am_dp pw_X0_joined_128 dd_X0_joined_128b.2.2.2.2.2.2.2) rfl, ?_⟩
  refine List.forall_mem_cons.mpr ⟨(s_lloadn (am_dp pw_X0_joined_128 dd_X0_joined_128c.1) rfl).to, ?_⟩
  refine List.forall_mem_cons.mpr ⟨(s_lloadn (am_dp pw_X0_joined_128 dd_X0_joined_128c.2.1) rfl).to, ?_⟩
  refine List.forall_mem_cons.mpr ⟨(s_land (am_dp pw_X0_joined_128 dd_X0_joined_128c.2.2.1)).to, ?_⟩
  refine List.forall_mem_cons.mpr ⟨s_lret (am_dp pw_X0_joined_128 dd_X0_joined_128c.2.2.2.1) rfl, ?_⟩
  refine List.forall_mem_cons.mpr ⟨(s_lloadn (am_dp pw_X0_joined_128 dd_X0_joined_128c.2.2.2.2.1) rfl).to, ?_⟩
  refine List.forall_mem_cons.mpr ⟨(s_lloadn (am_dp pw_X0_joined_128 dd_X0_joined_128c.2.2.2.2.2.1) rfl).to, ?_⟩
  refine List.forall_mem_cons.mpr ⟨(s_lor (am_dp pw_X0_joined_128 dd_X0_joined_128c.2.2.2.2.2.2.1)).to, ?_⟩
  refine List.forall_mem_cons.mpr ⟨s_lret (am_dp pw_X0_joined_128 dd_X0_joined_128c.2.2.2.2.2.2.2) rfl, ?_⟩
  exact fun _ h => absurd h List.not_mem_nil
theorem sn_tX0_joined : ∀ q ∈ tX0_joined, am_Snd am_P0 RX0 cX0_joined 5 (Option.some FieldType.long) "joined" q.1 q.2 := by
  unfold tX0_joined
  exact List.forall_mem_append.mpr ⟨sn_tX0_joined_0, sn_tX0_joined_1⟩
theorem sn_tX1_init : ∀ q ∈ tX1_init, am_Snd am_P0 RX1 cX1_init 1 (Option.none : Option FieldType) "<init>" q.1 q.2 := by
  unfold tX1_init
  refine List.forall_mem_cons.mpr ⟨(s_aloadn (am_dp pw_X1_init_0 dd_X1_init_0a.1) rfl).to, ?_⟩
  refine List.forall_mem_cons.mpr ⟨(s_obj (am_dp pw_X1_init_0 dd_X1_init_0a.2.1) wd512 wd160 wd161).to, ?_⟩
  refine List.forall_mem_cons.mpr ⟨(s_aloadn (am_dp pw_X1_init_0 dd_X1_init_0a.2.2.1) rfl).to, ?_⟩
  refine List.forall_mem_cons.mpr ⟨(s_bipush (am_dp pw_X1_init_0 dd_X1_init_0a.2.2.2.1) (by decide)).to, ?_⟩
  refine List.forall_mem_cons.mpr ⟨(s_newa (kd := 0) (ty := .int) (am_dp pw_X1_init_0 dd_X1_init_0a.2.2.2.2.1) rfl rfl wd195 (by decide) (by decide) (fun _ _ h => h)).to, ?_⟩
  refine List.forall_mem_cons.mpr ⟨(s_putF (ci := 1) (k := 0) (am_dp pw_X1_init_0 dd_X1_init_0a.2.2.2.2.2.1) rfl (by decide) wd513 inX1 tyX1_ok nmX1 rfl rfl rfl rfl).to, ?_⟩
  refine List.forall_mem_cons.mpr ⟨s_vret (am_dp pw_X1_init_0 dd_X1_init_0a.2.2.2.2.2.2) rfl, ?_⟩
  exact fun _ h => absurd h List.not_mem_nil
theorem sn_tX1_clear : ∀ q ∈ tX1_clear, am_Snd am_P0 RX1 cX1_clear 1 (Option.none : Option FieldType) "clear" q.1 q.2 := by
  unfold tX1_clear
  refine List.forall_mem_cons.mpr ⟨(s_aloadn (am_dp pw_X1_clear_0 dd_X1_clear_0a.1) rfl).to, ?_⟩
  refine List.forall_mem_cons.mpr ⟨(s_get (ci := 1) (k := 0) (am_dp pw_X1_clear_0 dd_X1_clear_0a.2.1) rfl (by decide) wd513 inX1 rfl).to, ?_⟩
  refine List.forall_mem_cons.mpr ⟨(s_iconst (am_dp pw_X1_clear_0 dd_X1_clear_0a.2.2.1) (by decide)).to, ?_⟩
  refine List.forall_mem_cons.mpr ⟨zw_cs324 (am_dp pw_X1_clear_0 dd_X1_clear_0a.2.2.2.1) wd945, ?_⟩
  refine List.forall_mem_cons.mpr ⟨s_vret (am_dp pw_X1_clear_0 dd_X1_clear_0a.2.2.2.2) rfl, ?_⟩
  exact fun _ h => absurd h List.not_mem_nil
theorem sn_tX1_put : ∀ q ∈ tX1_put, am_Snd am_P0 RX1 cX1_put 3 (Option.some FieldType.boolean) "put" q.1 q.2 := by
  unfold tX1_put
  refine List.forall_mem_cons.mpr ⟨(s_aloadn (am_dp pw_X1_put_0 dd_X1_put_0a.1) rfl).to, ?_⟩
  refine List.forall_mem_cons.mpr ⟨(s_get (ci := 1) (k := 0) (am_dp pw_X1_put_0 dd_X1_put_0a.2.1) rfl (by decide) wd513 inX1 rfl).to, ?_⟩
  refine List.forall_mem_cons.mpr ⟨(s_iloadn (am_dp pw_X1_put_0 dd_X1_put_0a.2.2.1) rfl).to, ?_⟩
  refine List.forall_mem_cons.mpr ⟨(s_iald (am_dp pw_X1_put_0 dd_X1_put_0a.2.2.2.1)).to, ?_⟩
  refine List.forall_mem_cons.mpr ⟨(s_iconst (am_dp pw_X1_put_0 dd_X1_put_0a.2.2.2.2.1) (by decide)).to, ?_⟩
  refine List.forall_mem_cons.mpr ⟨(s_icmp_eq (am_dp pw_X1_put_0 dd_X1_put_0a.2.2.2.2.2.1) (by decide)).to, ?_⟩
  refine List.forall_mem_cons.mpr ⟨(s_aloadn (am_dp pw_X1_put_0 dd_X1_put_0a.2.2.2.2.2.2.1) rfl).to, ?_⟩
  refine List.forall_mem_cons.mpr ⟨(s_get (ci := 1) (k := 0) (am_dp pw_X1_put_0 dd_X1_put_0a.2.2.2.2.2.2.2) rfl (by decide) wd513 inX1 rfl).to, ?_⟩
  refine List.forall_mem_cons.mpr ⟨(s_iloadn (am_dp pw_X1_put_0 dd_X1_put_0b.1) rfl).to, ?_⟩
  refine List.forall_mem_cons.mpr ⟨(s_iald (am_dp pw_X1_put_0 dd_X1_put_0b.2.1)).to, ?_⟩
  refine List.forall_mem_cons.mpr ⟨(s_iloadn (am_dp pw_X1_put_0 dd_X1_put_0b.2.2.1) rfl).to, ?_⟩
  refine List.forall_mem_cons.mpr ⟨(s_icmp_eq (am_dp pw_X1_put_0 dd_X1_put_0b.2.2.2.1) (by decide)).to, ?_⟩
  refine List.forall_mem_cons.mpr ⟨(s_iconst (am_dp pw_X1_put_0 dd_X1_put_0b.2.2.2.2.1) (by decide)).to, ?_⟩
  refine List.forall_mem_cons.mpr ⟨s_zret (am_dp pw_X1_put_0 dd_X1_put_0b.2.2.2.2.2.1) rfl, ?_⟩
  refine List.forall_mem_cons.mpr ⟨(s_aloadn (am_dp pw_X1_put_0 dd_X1_put_0b.2.2.2.2.2.2.1) rfl).to, ?_⟩
  refine List.forall_mem_cons.mpr ⟨(s_get (ci := 1) (k := 0) (am_dp pw_X1_put_0 dd_X1_put_0b.2.2.2.2.2.2.2) rfl (by decide) wd513 inX1 rfl).to, ?_⟩
  refine List.forall_mem_cons.mpr ⟨(s_iloadn (am_dp pw_X1_put_0 dd_X1_put_0c.1) rfl).to, ?_⟩
  refine List.forall_mem_cons.mpr ⟨(s_iloadn (am_dp pw_X1_put_0 dd_X1_put_0c.2.1) rfl).to, ?_⟩
  refine List.forall_mem_cons.mpr ⟨(s_iast (am_dp pw_X1_put_0 dd_X1_put_0c.2.2.1)).to, ?_⟩
  refine List.forall_mem_cons.mpr ⟨(s_iconst (am_dp pw_X1_put_0 dd_X1_put_0c.2.2.2.1) (by decide)).to, ?_⟩
  refine List.forall_mem_cons.mpr ⟨s_zret (am_dp pw_X1_put_0 dd_X1_put_0c.2.2.2.2) rfl, ?_⟩
  exact fun _ h => absurd h List.not_mem_nil
theorem sn_tX1_holds : ∀ q ∈ tX1_holds, am_Snd am_P0 RX1 cX1_holds 5 (Option.some FieldType.boolean) "holds" q.1 q.2 := by
  unfold tX1_holds
  refine List.forall_mem_cons.mpr ⟨(s_iconst (am_dp pw_X1_holds_0 dd_X1_holds_0a.1) (by decide)).to, ?_⟩
  refine List.forall_mem_cons.mpr ⟨(s_istoren (am_dp pw_X1_holds_0 dd_X1_holds_0a.2.1) rfl (by decide)).to, ?_⟩
  refine List.forall_mem_cons.mpr ⟨(s_iconst (am_dp pw_X1_holds_0 dd_X1_holds_0a.2.2.1) (by decide)).to, ?_⟩
  refine List.forall_mem_cons.mpr ⟨(s_istoren (am_dp pw_X1_holds_0 dd_X1_holds_0a.2.2.2.1) rfl (by decide)).to, ?_⟩
  refine List.forall_mem_cons.mpr ⟨(s_iloadn (am_dp pw_X1_holds_0 dd_X1_holds_0a.2.2.2.2.1) rfl).to, ?_⟩
  refine List.forall_mem_cons.mpr ⟨(s_bipush (am_dp pw_X1_holds_0 dd_X1_holds_0a.2.2.2.2.2.1) (by decide)).to, ?_⟩
  refine List.forall_mem_cons.mpr ⟨(s_icmp_ge (am_dp pw_X1_holds_0 dd_X1_holds_0a.2.2.2.2.2.2.1) (by decide)).to, ?_⟩
  refine List.forall_mem_cons.mpr ⟨(s_aloadn (am_dp pw_X1_holds_0 dd_X1_holds_0a.2.2.2.2.2.2.2) rfl).to, ?_⟩
  refine List.forall_mem_cons.mpr ⟨(s_get (ci := 1) (k := 0) (am_dp pw_X1_holds_0 dd_X1_holds_0b.1) rfl (by decide) wd513 inX1 rfl).to, ?_⟩
  refine List.forall_mem_cons.mpr ⟨(s_iloadn (am_dp pw_X1_holds_0 dd_X1_holds_0b.2.1) rfl).to, ?_⟩
  refine List.forall_mem_cons.mpr ⟨(s_iald (am_dp pw_X1_holds_0 dd_X1_holds_0b.2.2.1)).to, ?_⟩
  refine List.forall_mem_cons.mpr ⟨(s_istore (am_dp pw_X1_holds_0 dd_X1_holds_0b.2.2.2.1) (by decide)).to, ?_⟩
  refine List.forall_mem_cons.mpr ⟨(s_iload (am_dp pw_X1_holds_0 dd_X1_holds_0b.2.2.2.2.1)).to, ?_⟩
  refine List.forall_mem_cons.mpr ⟨(s_iconst (am_dp pw_X1_holds_0 dd_X1_holds_0b.2.2.2.2.2.1) (by decide)).to, ?_⟩
  refine List.forall_mem_cons.mpr ⟨(s_icmp_ne (am_dp pw_X1_holds_0 dd_X1_holds_0b.2.2.2.2.2.2.1) (by decide)).to, ?_⟩
  refine List.forall_mem_cons.mpr ⟨(s_goto (am_dp pw_X1_holds_0 dd_X1_holds_0b.2.2.2.2.2.2.2) (by decide)).to, ?_⟩
  refine List.forall_mem_cons.mpr ⟨(s_aloadn (am_dp pw_X1_holds_0 dd_X1_holds_0c.1) rfl).to, ?_⟩
  refine List.forall_mem_cons.mpr ⟨(s_iload (am_dp pw_X1_holds_0 dd_X1_holds_0c.2.1)).to, ?_⟩
  refine List.forall_mem_cons.mpr ⟨zw_cv103 (am_dp pw_X1_holds_0 dd_X1_holds_0c.2.2) wd954, ?_⟩
  refine List.forall_mem_cons.mpr ⟨(s_if_eq (am_dp pw_X1_holds_32 dd_X1_holds_32a.1) (by decide)).to, ?_⟩
  refine List.forall_mem_cons.mpr ⟨(s_iloadn (am_dp pw_X1_holds_32 dd_X1_holds_32a.2.1) rfl).to, ?_⟩
  refine List.forall_mem_cons.mpr ⟨(s_iconst (am_dp pw_X1_holds_32 dd_X1_holds_32a.2.2.1) (by decide)).to, ?_⟩
  refine List.forall_mem_cons.mpr ⟨(s_icmp_eq (am_dp pw_X1_holds_32 dd_X1_holds_32a.2.2.2.1) (by decide)).to, ?_⟩
  refine List.forall_mem_cons.mpr ⟨(s_aloadn (am_dp pw_X1_holds_32 dd_X1_holds_32a.2.2.2.2.1) rfl).to, ?_⟩
  refine List.forall_mem_cons.mpr ⟨(s_aloadn (am_dp pw_X1_holds_32 dd_X1_holds_32a.2.2.2.2.2.1) rfl).to, ?_⟩
  refine List.forall_mem_cons.mpr ⟨(s_get (ci := 1) (k := 0) (am_dp pw_X1_holds_32 dd_X1_holds_32a.2.2.2.2.2.2.1) rfl (by decide) wd513 inX1 rfl).to, ?_⟩
  refine List.forall_mem_cons.mpr ⟨(s_iloadn (am_dp pw_X1_holds_32 dd_X1_holds_32a.2.2.2.2.2.2.2) rfl).to, ?_⟩
  refine List.forall_mem_cons.mpr ⟨(s_iald (am_dp pw_X1_holds_32 dd_X1_holds_32b.1)).to, ?_⟩
  refine List.forall_mem_cons.mpr ⟨(s_iload (am_dp pw_X1_holds_32 dd_X1_holds_32b.2.1)).to, ?_⟩
  refine List.forall_mem_cons.mpr ⟨(s_iloadn (am_dp pw_X1_holds_32 dd_X1_holds_32b.2.2.1) rfl).to, ?_⟩
  refine List.forall_mem_cons.mpr ⟨(s_iloadn (am_dp pw_X1_holds_32 dd_X1_holds_32b.2.2.2.1) rfl).to, ?_⟩
  refine List.forall_mem_cons.mpr ⟨(s_isub (am_dp pw_X1_holds_32 dd_X1_holds_32b.2.2.2.2.1)).to, ?_⟩
  refine List.forall_mem_cons.mpr ⟨zw_cv104 (am_dp pw_X1_holds_32 dd_X1_holds_32b.2.2.2.2.2.1) wd958, ?_⟩
  refine List.forall_mem_cons.mpr ⟨(s_if_ne (am_dp pw_X1_holds_32 dd_X1_holds_32b.2.2.2.2.2.2.1) (by decide)).to, ?_⟩
  refine List.forall_mem_cons.mpr ⟨(s_iconst (am_dp pw_X1_holds_32 dd_X1_holds_32b.2.2.2.2.2.2.2) (by decide)).to, ?_⟩
  refine List.forall_mem_cons.mpr ⟨s_zret (am_dp pw_X1_holds_32 dd_X1_holds_32c.1) rfl, ?_⟩
  refine List.forall_mem_cons.mpr ⟨(s_iloadn (am_dp pw_X1_holds_32 dd_X1_holds_32c.2.1) rfl).to, ?_⟩
  refine List.forall_mem_cons.mpr ⟨(s_istoren (am_dp pw_X1_holds_32 dd_X1_holds_32c.2.2.1) rfl (by decide)).to, ?_⟩
  refine List.forall_mem_cons.mpr ⟨(s_iinc (am_dp pw_X1_holds_32 dd_X1_holds_32c.2.2.2) (by decide) (by decide)).to, ?_⟩
  refine List.forall_mem_cons.mpr ⟨(s_goto (am_dp pw_X1_holds_64 dd_X1_holds_64a.1) (by decide)).to, ?_⟩
  refine List.forall_mem_cons.mpr ⟨(s_iconst (am_dp pw_X1_holds_64 dd_X1_holds_64a.2.1) (by decide)).to, ?_⟩
  refine List.forall_mem_cons.mpr ⟨s_zret (am_dp pw_X1_holds_64 dd_X1_holds_64a.2.2) rfl, ?_⟩
  exact fun _ h => absurd h List.not_mem_nil
theorem sn_tX2_init : ∀ q ∈ tX2_init, am_Snd am_P0 RX2 cX2_init 2 (Option.none : Option FieldType) "<init>" q.1 q.2 := by
  unfold tX2_init
  refine List.forall_mem_cons.mpr ⟨(s_aloadn (am_dp pw_X2_init_0 dd_X2_init_0a.1) rfl).to, ?_⟩
  refine List.forall_mem_cons.mpr ⟨(s_obj (am_dp pw_X2_init_0 dd_X2_init_0a.2.1) wd372 wd160 wd161).to, ?_⟩
  refine List.forall_mem_cons.mpr ⟨(s_aloadn (am_dp pw_X2_init_0 dd_X2_init_0a.2.2.1) rfl).to, ?_⟩
  refine List.forall_mem_cons.mpr ⟨(s_new (ci := 3) (am_dp pw_X2_init_0 dd_X2_init_0a.2.2.2.1) rfl wd373 wd374 wd141 inX3 tyX3_ok (by decide)).to, ?_⟩
  refine List.forall_mem_cons.mpr ⟨(s_dup (am_dp pw_X2_init_0 dd_X2_init_0a.2.2.2.2.1)).to, ?_⟩
  refine List.forall_mem_cons.mpr ⟨z_ci (ci := 3) (am_dp pw_X2_init_0 dd_X2_init_0a.2.2.2.2.2.1) mt33 wd375 rfl rfl, ?_⟩
  refine List.forall_mem_cons.mpr ⟨(s_putF (ci := 2) (k := 0) (am_dp pw_X2_init_0 dd_X2_init_0a.2.2.2.2.2.2.1) rfl (by decide) wd467 inX2 tyX2_ok nmX2 rfl rfl rfl rfl).to, ?_⟩
  refine List.forall_mem_cons.mpr ⟨(s_aloadn (am_dp pw_X2_init_0 dd_X2_init_0a.2.2.2.2.2.2.2) rfl).to, ?_⟩
  refine List.forall_mem_cons.mpr ⟨(s_aloadn (am_dp pw_X2_init_0 dd_X2_init_0b.1) rfl).to, ?_⟩
  refine List.forall_mem_cons.mpr ⟨(s_put (ci := 2) (k := 1) (am_dp pw_X2_init_0 dd_X2_init_0b.2.1) rfl (by decide) wd469 inX2 tyX2_ok nmX2 rfl rfl).to, ?_⟩
  refine List.forall_mem_cons.mpr ⟨s_vret (am_dp pw_X2_init_0 dd_X2_init_0b.2.2) rfl, ?_⟩
  exact fun _ h => absurd h List.not_mem_nil
theorem sn_tX2_open : ∀ q ∈ tX2_open, am_Snd am_P0 RX2 cX2_open 4 (Option.none : Option FieldType) "open" q.1 q.2 := by
  unfold tX2_open
  refine List.forall_mem_cons.mpr ⟨(s_aloadn (am_dp pw_X2_open_0 dd_X2_open_0a.1) rfl).to, ?_⟩
  refine List.forall_mem_cons.mpr ⟨(s_aloadn (am_dp pw_X2_open_0 dd_X2_open_0a.2.1) rfl).to, ?_⟩
  refine List.forall_mem_cons.mpr ⟨(s_put (ci := 2) (k := 1) (am_dp pw_X2_open_0 dd_X2_open_0a.2.2.1) rfl (by decide) wd469 inX2 tyX2_ok nmX2 rfl rfl).to, ?_⟩
  refine List.forall_mem_cons.mpr ⟨(s_aloadn (am_dp pw_X2_open_0 dd_X2_open_0a.2.2.2.1) rfl).to, ?_⟩
  refine List.forall_mem_cons.mpr ⟨(s_get (ci := 2) (k := 1) (am_dp pw_X2_open_0 dd_X2_open_0a.2.2.2.2.1) rfl (by decide) wd469 inX2 rfl).to, ?_⟩
  refine List.forall_mem_cons.mpr ⟨zw_cv52 (am_dp pw_X2_open_0 dd_X2_open_0a.2.2.2.2.2.1) wd651, ?_⟩
  refine List.forall_mem_cons.mpr ⟨(s_aloadn (am_dp pw_X2_open_0 dd_X2_open_0a.2.2.2.2.2.2.1) rfl).to, ?_⟩
  refine List.forall_mem_cons.mpr ⟨(s_get (ci := 2) (k := 0) (am_dp pw_X2_open_0 dd_X2_open_0a.2.2.2.2.2.2.2) rfl (by decide) wd467 inX2 rfl).to, ?_⟩
  refine List.forall_mem_cons.mpr ⟨(s_aloadn (am_dp pw_X2_open_0 dd_X2_open_0b.1) rfl).to, ?_⟩
  refine List.forall_mem_cons.mpr ⟨(s_iloadn (am_dp pw_X2_open_0 dd_X2_open_0b.2.1) rfl).to, ?_⟩
  refine List.forall_mem_cons.mpr ⟨zw_cv34 (am_dp pw_X2_open_0 dd_X2_open_0b.2.2.1) wd655, ?_⟩
  refine List.forall_mem_cons.mpr ⟨s_vret (am_dp pw_X2_open_0 dd_X2_open_0b.2.2.2) rfl, ?_⟩
  exact fun _ h => absurd h List.not_mem_nil
theorem sn_tX2_readStatement_0 : ∀ q ∈ tX2_readStatement_0, am_Snd am_P0 RX2 cX2_readStatement 2 (Option.none : Option FieldType) "readStatement" q.1 q.2 := by
  unfold tX2_readStatement_0
  refine List.forall_mem_cons.mpr ⟨(s_iloadn (am_dp pw_X2_readStatement_0 dd_X2_readStatement_0a.1) rfl).to, ?_⟩
  refine List.forall_mem_cons.mpr ⟨(s_aloadn (am_dp pw_X2_readStatement_0 dd_X2_readStatement_0a.2.1) rfl).to, ?_⟩
  refine List.forall_mem_cons.mpr ⟨(s_get (ci := 2) (k := 0) (am_dp pw_X2_readStatement_0 dd_X2_readStatement_0a.2.2.1) rfl (by decide) wd467 inX2 rfl).to, ?_⟩
  refine List.forall_mem_cons.mpr ⟨(s_get (ci := 3) (k := 6) (am_dp pw_X2_readStatement_0 dd_X2_readStatement_0a.2.2.2.1) rfl (by decide) wd437 inX3 rfl).to, ?_⟩
  refine List.forall_mem_cons.mpr ⟨(s_if_ne (am_dp pw_X2_readStatement_0 dd_X2_readStatement_0a.2.2.2.2.1) (by decide)).to, ?_⟩
  refine List.forall_mem_cons.mpr ⟨(s_iconst (am_dp pw_X2_readStatement_0 dd_X2_readStatement_0a.2.2.2.2.2.1) (by decide)).to, ?_⟩
  refine List.forall_mem_cons.mpr ⟨(s_goto (am_dp pw_X2_readStatement_0 dd_X2_readStatement_0a.2.2.2.2.2.2.1) (by decide)).to, ?_⟩
  refine List.forall_mem_cons.mpr ⟨(s_iconst (am_dp pw_X2_readStatement_0 dd_X2_readStatement_0a.2.2.2.2.2.2.2) (by decide)).to, ?_⟩
  refine List.forall_mem_cons.mpr ⟨(s_icmp_eq (am_dp pw_X2_readStatement_0 dd_X2_readStatement_0b.1) (by decide)).to, ?_⟩
  refine List.forall_mem_cons.mpr ⟨(s_aloadn (am_dp pw_X2_readStatement_0 dd_X2_readStatement_0b.2.1) rfl).to, ?_⟩
  refine List.forall_mem_cons.mpr ⟨(s_get (ci := 2) (k := 0) (am_dp pw_X2_readStatement_0 dd_X2_readStatement_0b.2.2.1) rfl (by decide) wd467 inX2 rfl).to, ?_⟩
  refine List.forall_mem_cons.mpr ⟨(s_iconst (am_dp pw_X2_readStatement_0 dd_X2_readStatement_0b.2.2.2.1) (by decide)).to, ?_⟩
  refine List.forall_mem_cons.mpr ⟨zw_cv39 (am_dp pw_X2_readStatement_0 dd_X2_readStatement_0b.2.2.2.2.1) wd681, ?_⟩
  refine List.forall_mem_cons.mpr ⟨s_vret (am_dp pw_X2_readStatement_0 dd_X2_readStatement_0b.2.2.2.2.2.1) rfl, ?_⟩
  refine List.forall_mem_cons.mpr ⟨(s_aloadn (am_dp pw_X2_readStatement_0 dd_X2_readStatement_0b.2.2.2.2.2.2.1) rfl).to, ?_⟩
  refine List.forall_mem_cons.mpr ⟨(s_get (ci := 2) (k := 0) (am_dp pw_X2_readStatement_0 dd_X2_readStatement_0b.2.2.2.2.2.2.2) rfl (by decide) wd467 inX2 rfl).to, ?_⟩
  refine List.forall_mem_cons.mpr ⟨(s_get (ci := 3) (k := 6) (am_dp pw_X2_readStatement_32 dd_X2_readStatement_32a) rfl (by decide) wd437 inX3 rfl).to, ?_⟩
  refine List.forall_mem_cons.mpr ⟨(s_table (by decide +kernel : decode cX2_readStatement 35 = .ok (.tableswitch 192 0 17 #[85, 92, 107, 122, 137, 192, 192, 192, 192, 144, 192, 192, 151, 192, 192, 158, 192, 165], 85)) (by decide) (by decide) (by decide) (by decide)).to, ?_⟩
  refine List.forall_mem_cons.mpr ⟨(s_aloadn (am_dp pw_X2_readStatement_96 dd_X2_readStatement_96a.1) rfl).to, ?_⟩
  refine List.forall_mem_cons.mpr ⟨zw_cv12 (am_dp pw_X2_readStatement_96 dd_X2_readStatement_96a.2.1) wd685, ?_⟩
  refine List.forall_mem_cons.mpr ⟨(s_goto (am_dp pw_X2_readStatement_96 dd_X2_readStatement_96a.2.2.1) (by decide)).to, ?_⟩
  refine List.forall_mem_cons.mpr ⟨(s_aloadn (am_dp pw_X2_readStatement_96 dd_X2_readStatement_96a.2.2.2) rfl).to, ?_⟩
  refine List.forall_mem_cons.mpr ⟨(s_aloadn (am_dp pw_X2_readStatement_128 dd_X2_readStatement_128a.1) rfl).to, ?_⟩
  refine List.forall_mem_cons.mpr ⟨(s_get (ci := 2) (k := 1) (am_dp pw_X2_readStatement_128 dd_X2_readStatement_128a.2.1) rfl (by decide) wd469 inX2 rfl).to, ?_⟩
  refine List.forall_mem_cons.mpr ⟨(s_get (ci := 5) (k := 7) (am_dp pw_X2_readStatement_128 dd_X2_readStatement_128a.2.2.1) rfl (by decide) wd326 inX5 rfl).to, ?_⟩
  refine List.forall_mem_cons.mpr ⟨(s_iconst (am_dp pw_X2_readStatement_128 dd_X2_readStatement_128a.2.2.2.1) (by decide)).to, ?_⟩
  refine List.forall_mem_cons.mpr ⟨zw_cv14 (am_dp pw_X2_readStatement_128 dd_X2_readStatement_128a.2.2.2.2.1) wd699, ?_⟩
  refine List.forall_mem_cons.mpr ⟨(s_goto (am_dp pw_X2_readStatement_128 dd_X2_readStatement_128a.2.2.2.2.2.1) (by decide)).to, ?_⟩
  refine List.forall_mem_cons.mpr ⟨(s_aloadn (am_dp pw_X2_readStatement_128 dd_X2_readStatement_128a.2.2.2.2.2.2.1) rfl).to, ?_⟩
  refine List.forall_mem_cons.mpr ⟨(s_aloadn (am_dp pw_X2_readStatement_128 dd_X2_readStatement_128a.2.2.2.2.2.2.2) rfl).to, ?_⟩
  refine List.forall_mem_cons.mpr ⟨(s_get (ci := 2) (k := 1) (am_dp pw_X2_readStatement_128 dd_X2_readStatement_128b.1) rfl (by decide) wd469 inX2 rfl).to, ?_⟩
  refine List.forall_mem_cons.mpr ⟨(s_get (ci := 5) (k := 8) (am_dp pw_X2_readStatement_128 dd_X2_readStatement_128b.2.1) rfl (by decide) wd328 inX5 rfl).to, ?_⟩
  refine List.forall_mem_cons.mpr ⟨(s_iconst (am_dp pw_X2_readStatement_128 dd_X2_readStatement_128b.2.2.1) (by decide)).to, ?_⟩
  refine List.forall_mem_cons.mpr ⟨zw_cv14 (am_dp pw_X2_readStatement_128 dd_X2_readStatement_128b.2.2.2.1) wd699, ?_⟩
  refine List.forall_mem_cons.mpr ⟨(s_goto (am_dp pw_X2_readStatement_128 dd_X2_readStatement_128b.2.2.2.2.1) (by decide)).to, ?_⟩
  refine List.forall_mem_cons.mpr ⟨(s_aloadn (am_dp pw_X2_readStatement_128 dd_X2_readStatement_128b.2.2.2.2.2.1) rfl).to, ?_⟩
  refine List.forall_mem_cons.mpr ⟨(s_aloadn (am_dp pw_X2_readStatement_128 dd_X2_readStatement_128b.2.2.2.2.2.2.1) rfl).to, ?_⟩
  refine List.forall_mem_cons.mpr ⟨(s_get (ci := 2) (k := 1) (am_dp pw_X2_readStatement_128 dd_X2_readStatement_128b.2.2.2.2.2.2.2) rfl (by decide) wd469 inX2 rfl).to, ?_⟩
  refine List.forall_mem_cons.mpr ⟨(s_get (ci := 5) (k := 9) (am_dp pw_X2_readStatement_160 dd_X2_readStatement_160a.1) rfl (by decide) wd330 inX5 rfl).to, ?_⟩
  refine List.forall_mem_cons.mpr ⟨(s_iconst (am_dp pw_X2_readStatement_160 dd_X2_readStatement_160a.2.1) (by decide)).to, ?_⟩
  refine List.forall_mem_cons.mpr ⟨zw_cv14 (am_dp pw_X2_readStatement_160 dd_X2_readStatement_160a.2.2.1) wd699, ?_⟩
  refine List.forall_mem_cons.mpr ⟨(s_goto (am_dp pw_X2_readStatement_160 dd_X2_readStatement_160a.2.2.2.1) (by decide)).to, ?_⟩
  refine List.forall_mem_cons.mpr ⟨(s_aloadn (am_dp pw_X2_readStatement_160 dd_X2_readStatement_160a.2.2.2.2.1) rfl).to, ?_⟩
  refine List.forall_mem_cons.mpr ⟨zw_cv16 (am_dp pw_X2_readStatement_160 dd_X2_readStatement_160a.2.2.2.2.2.1) wd777, ?_⟩
  refine List.forall_mem_cons.mpr ⟨(s_goto (am_dp pw_X2_readStatement_160 dd_X2_readStatement_160a.2.2.2.2.2.2.1) (by decide)).to, ?_⟩
  refine List.forall_mem_cons.mpr ⟨(s_aloadn (am_dp pw_X2_readStatement_160 dd_X2_readStatement_160a.2.2.2.2.2.2.2) rfl).to, ?_⟩
  refine List.forall_mem_cons.mpr ⟨zw_cv19 (am_dp pw_X2_readStatement_160 dd_X2_readStatement_160b.1) wd797, ?_⟩
  refine List.forall_mem_cons.mpr ⟨(s_goto (am_dp pw_X2_readStatement_160 dd_X2_readStatement_160b.2.1) (by decide)).to, ?_⟩
  refine List.forall_mem_cons.mpr ⟨(s_aloadn (am_dp pw_X2_readStatement_160 dd_X2_readStatement_160b.2.2.1) rfl).to, ?_⟩
  refine List.forall_mem_cons.mpr ⟨zw_cv20 (am_dp pw_X2_readStatement_160 dd_X2_readStatement_160b.2.2.2.1) wd822, ?_⟩
  refine List.forall_mem_cons.mpr ⟨(s_goto (am_dp pw_X2_readStatement_160 dd_X2_readStatement_160b.2.2.2.2) (by decide)).to, ?_⟩
  refine List.forall_mem_cons.mpr ⟨(s_aloadn (am_dp pw_X2_readStatement_192 dd_X2_readStatement_192a.1) rfl).to, ?_⟩
  refine List.forall_mem_cons.mpr ⟨zw_cv21 (am_dp pw_X2_readStatement_192 dd_X2_readStatement_192a.2.1) wd834, ?_⟩
  refine List.forall_mem_cons.mpr ⟨(s_goto (am_dp pw_X2_readStatement_192 dd_X2_readStatement_192a.2.2.1) (by decide)).to, ?_⟩
  refine List.forall_mem_cons.mpr ⟨(s_aloadn (am_dp pw_X2_readStatement_192 dd_X2_readStatement_192a.2.2.2.1) rfl).to, ?_⟩
  refine List.forall_mem_cons.mpr ⟨(s_get (ci := 2) (k := 0) (am_dp pw_X2_readStatement_192 dd_X2_readStatement_192a.2.2.2.2.1) rfl (by decide) wd467 inX2 rfl).to, ?_⟩
  refine List.forall_mem_cons.mpr ⟨zw_cv35 (am_dp pw_X2_readStatement_192 dd_X2_readStatement_192a.2.2.2.2.2.1) wd689, ?_⟩
  refine List.forall_mem_cons.mpr ⟨(s_aloadn (am_dp pw_X2_readStatement_192 dd_X2_readStatement_192a.2.2.2.2.2.2.1) rfl).to, ?_⟩
  refine List.forall_mem_cons.mpr ⟨(s_get (ci := 2) (k := 1) (am_dp pw_X2_readStatement_192 dd_X2_readStatement_192a.2.2.2.2.2.2.2) rfl (by decide) wd469 inX2 rfl).to, ?_⟩
  refine List.forall_mem_cons.mpr ⟨(s_aloadn (am_dp pw_X2_readStatement_192 dd_X2_readStatement_192b.1) rfl).to, ?_⟩
  exact fun _ h => absurd h List.not_mem_nil
theorem sn_tX2_readStatement_1 : ∀ q ∈ tX2_readStatement_1, am_Snd am_P0 RX2 cX2_readStatement 2 (Option.none : Option FieldType) "readStatement" q.1 q.2 := by
  unfold tX2_readStatement_1
  refine List.forall_mem_cons.mpr ⟨(s_get (ci := 2) (k := 0) (am_dp pw_X2_readStatement_192 dd_X2_readStatement_192b.2.1) rfl (by decide) wd467 inX2 rfl).to, ?_⟩
  refine List.forall_mem_cons.mpr ⟨(s_iconst (am_dp pw_X2_readStatement_192 dd_X2_readStatement_192b.2.2.1) (by decide)).to, ?_⟩
  refine List.forall_mem_cons.mpr ⟨(s_bipush (am_dp pw_X2_readStatement_192 dd_X2_readStatement_192b.2.2.2.1) (by decide)).to, ?_⟩
  refine List.forall_mem_cons.mpr ⟨zw_cv44 (am_dp pw_X2_readStatement_192 dd_X2_readStatement_192b.2.2.2.2.1) wd690, ?_⟩
  refine List.forall_mem_cons.mpr ⟨(s_put (ci := 5) (k := 2) (am_dp pw_X2_readStatement_192 dd_X2_readStatement_192b.2.2.2.2.2) rfl (by decide) wd312 inX5 tyX5_ok nmX5 rfl rfl).to, ?_⟩
  refine List.forall_mem_cons.mpr ⟨(s_goto (am_dp pw_X2_readStatement_224 dd_X2_readStatement_224a.1) (by decide)).to, ?_⟩
  refine List.forall_mem_cons.mpr ⟨(s_aloadn (am_dp pw_X2_readStatement_224 dd_X2_readStatement_224a.2.1) rfl).to, ?_⟩
  refine List.forall_mem_cons.mpr ⟨(s_get (ci := 2) (k := 0) (am_dp pw_X2_readStatement_224 dd_X2_readStatement_224a.2.2.1) rfl (by decide) wd467 inX2 rfl).to, ?_⟩
  refine List.forall_mem_cons.mpr ⟨(s_iconst (am_dp pw_X2_readStatement_224 dd_X2_readStatement_224a.2.2.2.1) (by decide)).to, ?_⟩
  refine List.forall_mem_cons.mpr ⟨zw_cv39 (am_dp pw_X2_readStatement_224 dd_X2_readStatement_224a.2.2.2.2.1) wd681, ?_⟩
  refine List.forall_mem_cons.mpr ⟨s_vret (am_dp pw_X2_readStatement_224 dd_X2_readStatement_224a.2.2.2.2.2) rfl, ?_⟩
  exact fun _ h => absurd h List.not_mem_nil
theorem sn_tX2_readStatement : ∀ q ∈ tX2_readStatement, am_Snd am_P0 RX2 cX2_readStatement 2 (Option.none : Option FieldType) "readStatement" q.1 q.2 := by
  unfold tX2_readStatement
  exact List.forall_mem_append.mpr ⟨sn_tX2_readStatement_0, sn_tX2_readStatement_1⟩
theorem sn_tX2_readSize : ∀ q ∈ tX2_readSize, am_Snd am_P0 RX2 cX2_readSize 1 (Option.none : Option FieldType) "readSize" q.1 q.2 := by
  unfold tX2_readSize
  refine List.forall_mem_cons.mpr ⟨(s_aloadn (am_dp pw_X2_readSize_0 dd_X2_readSize_0a.1) rfl).to, ?_⟩
  refine List.forall_mem_cons.mpr ⟨(s_get (ci := 2) (k := 0) (am_dp pw_X2_readSize_0 dd_X2_readSize_0a.2.1) rfl (by decide) wd467 inX2 rfl).to, ?_⟩
  refine List.forall_mem_cons.mpr ⟨zw_cv35 (am_dp pw_X2_readSize_0 dd_X2_readSize_0a.2.2.1) wd689, ?_⟩
  refine List.forall_mem_cons.mpr ⟨(s_aloadn (am_dp pw_X2_readSize_0 dd_X2_readSize_0a.2.2.2.1) rfl).to, ?_⟩
  refine List.forall_mem_cons.mpr ⟨(s_get (ci := 2) (k := 1) (am_dp pw_X2_readSize_0 dd_X2_readSize_0a.2.2.2.2.1) rfl (by decide) wd469 inX2 rfl).to, ?_⟩
  refine List.forall_mem_cons.mpr ⟨(s_aloadn (am_dp pw_X2_readSize_0 dd_X2_readSize_0a.2.2.2.2.2.1) rfl).to, ?_⟩
  refine List.forall_mem_cons.mpr ⟨(s_get (ci := 2) (k := 0) (am_dp pw_X2_readSize_0 dd_X2_readSize_0a.2.2.2.2.2.2.1) rfl (by decide) wd467 inX2 rfl).to, ?_⟩
  refine List.forall_mem_cons.mpr ⟨(s_iconst (am_dp pw_X2_readSize_0 dd_X2_readSize_0a.2.2.2.2.2.2.2) (by decide)).to, ?_⟩
  refine List.forall_mem_cons.mpr ⟨(s_bipush (am_dp pw_X2_readSize_0 dd_X2_readSize_0b.1) (by decide)).to, ?_⟩
  refine List.forall_mem_cons.mpr ⟨zw_cv44 (am_dp pw_X2_readSize_0 dd_X2_readSize_0b.2.1) wd690, ?_⟩
  refine List.forall_mem_cons.mpr ⟨(s_put (ci := 5) (k := 0) (am_dp pw_X2_readSize_0 dd_X2_readSize_0b.2.2.1) rfl (by decide) wd306 inX5 tyX5_ok nmX5 rfl rfl).to, ?_⟩
  refine List.forall_mem_cons.mpr ⟨(s_aloadn (am_dp pw_X2_readSize_0 dd_X2_readSize_0b.2.2.2.1) rfl).to, ?_⟩
  refine List.forall_mem_cons.mpr ⟨(s_get (ci := 2) (k := 1) (am_dp pw_X2_readSize_0 dd_X2_readSize_0b.2.2.2.2.1) rfl (by decide) wd469 inX2 rfl).to, ?_⟩
  refine List.forall_mem_cons.mpr ⟨(s_aloadn (am_dp pw_X2_readSize_0 dd_X2_readSize_0b.2.2.2.2.2.1) rfl).to, ?_⟩
  refine List.forall_mem_cons.mpr ⟨(s_get (ci := 2) (k := 0) (am_dp pw_X2_readSize_0 dd_X2_readSize_0b.2.2.2.2.2.2) rfl (by decide) wd467 inX2 rfl).to, ?_⟩
  refine List.forall_mem_cons.mpr ⟨(s_iconst (am_dp pw_X2_readSize_32 dd_X2_readSize_32a.1) (by decide)).to, ?_⟩
  refine List.forall_mem_cons.mpr ⟨(s_bipush (am_dp pw_X2_readSize_32 dd_X2_readSize_32a.2.1) (by decide)).to, ?_⟩
  refine List.forall_mem_cons.mpr ⟨zw_cv44 (am_dp pw_X2_readSize_32 dd_X2_readSize_32a.2.2.1) wd690, ?_⟩
  refine List.forall_mem_cons.mpr ⟨(s_put (ci := 5) (k := 1) (am_dp pw_X2_readSize_32 dd_X2_readSize_32a.2.2.2.1) rfl (by decide) wd309 inX5 tyX5_ok nmX5 rfl rfl).to, ?_⟩
  refine List.forall_mem_cons.mpr ⟨s_vret (am_dp pw_X2_readSize_32 dd_X2_readSize_32a.2.2.2.2) rfl, ?_⟩
  exact fun _ h => absurd h List.not_mem_nil
theorem sn_tX2_beginStatement : ∀ q ∈ tX2_beginStatement, am_Snd am_P0 RX2 cX2_beginStatement 2 (Option.some FieldType.boolean) "beginStatement" q.1 q.2 := by
  unfold tX2_beginStatement
  refine List.forall_mem_cons.mpr ⟨(s_iloadn (am_dp pw_X2_beginStatement_0 dd_X2_beginStatement_0a.1) rfl).to, ?_⟩
  refine List.forall_mem_cons.mpr ⟨(s_if_eq (am_dp pw_X2_beginStatement_0 dd_X2_beginStatement_0a.2.1) (by decide)).to, ?_⟩
  refine List.forall_mem_cons.mpr ⟨(s_aloadn (am_dp pw_X2_beginStatement_0 dd_X2_beginStatement_0a.2.2.1) rfl).to, ?_⟩
  refine List.forall_mem_cons.mpr ⟨(s_get (ci := 2) (k := 0) (am_dp pw_X2_beginStatement_0 dd_X2_beginStatement_0a.2.2.2.1) rfl (by decide) wd467 inX2 rfl).to, ?_⟩
  refine List.forall_mem_cons.mpr ⟨(s_iconst (am_dp pw_X2_beginStatement_0 dd_X2_beginStatement_0a.2.2.2.2.1) (by decide)).to, ?_⟩
  refine List.forall_mem_cons.mpr ⟨zw_cv39 (am_dp pw_X2_beginStatement_0 dd_X2_beginStatement_0a.2.2.2.2.2.1) wd681, ?_⟩
  refine List.forall_mem_cons.mpr ⟨(s_iconst (am_dp pw_X2_beginStatement_0 dd_X2_beginStatement_0a.2.2.2.2.2.2.1) (by decide)).to, ?_⟩
  refine List.forall_mem_cons.mpr ⟨s_zret (am_dp pw_X2_beginStatement_0 dd_X2_beginStatement_0a.2.2.2.2.2.2.2) rfl, ?_⟩
  refine List.forall_mem_cons.mpr ⟨(s_aloadn (am_dp pw_X2_beginStatement_0 dd_X2_beginStatement_0b.1) rfl).to, ?_⟩
  refine List.forall_mem_cons.mpr ⟨(s_get (ci := 2) (k := 0) (am_dp pw_X2_beginStatement_0 dd_X2_beginStatement_0b.2.1) rfl (by decide) wd467 inX2 rfl).to, ?_⟩
  refine List.forall_mem_cons.mpr ⟨zw_cv35 (am_dp pw_X2_beginStatement_0 dd_X2_beginStatement_0b.2.2.1) wd689, ?_⟩
  refine List.forall_mem_cons.mpr ⟨(s_iconst (am_dp pw_X2_beginStatement_0 dd_X2_beginStatement_0b.2.2.2.1) (by decide)).to, ?_⟩
  refine List.forall_mem_cons.mpr ⟨s_zret (am_dp pw_X2_beginStatement_0 dd_X2_beginStatement_0b.2.2.2.2) rfl, ?_⟩
  exact fun _ h => absurd h List.not_mem_nil
theorem sn_tX2_readRule : ∀ q ∈ tX2_readRule, am_Snd am_P0 RX2 cX2_readRule 5 (Option.none : Option FieldType) "readRule" q.1 q.2 := by
  unfold tX2_readRule
  refine List.forall_mem_cons.mpr ⟨(s_aloadn (am_dp pw_X2_readRule_0 dd_X2_readRule_0a.1) rfl).to, ?_⟩
  refine List.forall_mem_cons.mpr ⟨(s_aloadn (am_dp pw_X2_readRule_0 dd_X2_readRule_0a.2.1) rfl).to, ?_⟩
  refine List.forall_mem_cons.mpr ⟨zw_cv47 (am_dp pw_X2_readRule_0 dd_X2_readRule_0a.2.2.1) wd703, ?_⟩
  refine List.forall_mem_cons.mpr ⟨zw_cv13 (am_dp pw_X2_readRule_0 dd_X2_readRule_0a.2.2.2.1) wd707, ?_⟩
  refine List.forall_mem_cons.mpr ⟨(s_if_ne (am_dp pw_X2_readRule_0 dd_X2_readRule_0a.2.2.2.2.1) (by decide)).to, ?_⟩
  refine List.forall_mem_cons.mpr ⟨s_vret (am_dp pw_X2_readRule_0 dd_X2_readRule_0a.2.2.2.2.2.1) rfl, ?_⟩
  refine List.forall_mem_cons.mpr ⟨(s_aloadn (am_dp pw_X2_readRule_0 dd_X2_readRule_0a.2.2.2.2.2.2.1) rfl).to, ?_⟩
  refine List.forall_mem_cons.mpr ⟨(s_get (ci := 2) (k := 1) (am_dp pw_X2_readRule_0 dd_X2_readRule_0a.2.2.2.2.2.2.2) rfl (by decide) wd469 inX2 rfl).to, ?_⟩
  refine List.forall_mem_cons.mpr ⟨(s_get (ci := 5) (k := 6) (am_dp pw_X2_readRule_0 dd_X2_readRule_0b.1) rfl (by decide) wd324 inX5 rfl).to, ?_⟩
  refine List.forall_mem_cons.mpr ⟨(s_get (ci := 0) (k := 1) (am_dp pw_X2_readRule_0 dd_X2_readRule_0b.2.1) rfl (by decide) wd205 inX0 rfl).to, ?_⟩
  refine List.forall_mem_cons.mpr ⟨(s_istoren (am_dp pw_X2_readRule_0 dd_X2_readRule_0b.2.2.1) rfl (by decide)).to, ?_⟩
  refine List.forall_mem_cons.mpr ⟨(s_iloadn (am_dp pw_X2_readRule_0 dd_X2_readRule_0b.2.2.2.1) rfl).to, ?_⟩
  refine List.forall_mem_cons.mpr ⟨(s_if_eq (am_dp pw_X2_readRule_0 dd_X2_readRule_0b.2.2.2.2.1) (by decide)).to, ?_⟩
  refine List.forall_mem_cons.mpr ⟨(s_aloadn (am_dp pw_X2_readRule_0 dd_X2_readRule_0b.2.2.2.2.2.1) rfl).to, ?_⟩
  refine List.forall_mem_cons.mpr ⟨(s_iconst (am_dp pw_X2_readRule_0 dd_X2_readRule_0b.2.2.2.2.2.2.1) (by decide)).to, ?_⟩
  refine List.forall_mem_cons.mpr ⟨zw_cv26 (am_dp pw_X2_readRule_0 dd_X2_readRule_0b.2.2.2.2.2.2.2) wd711, ?_⟩
  refine List.forall_mem_cons.mpr ⟨(s_aloadn (am_dp pw_X2_readRule_32 dd_X2_readRule_32a.1) rfl).to, ?_⟩
  refine List.forall_mem_cons.mpr ⟨(s_get (ci := 2) (k := 0) (am_dp pw_X2_readRule_32 dd_X2_readRule_32a.2.1) rfl (by decide) wd467 inX2 rfl).to, ?_⟩
  refine List.forall_mem_cons.mpr ⟨(s_bipush (am_dp pw_X2_readRule_32 dd_X2_readRule_32a.2.2.1) (by decide)).to, ?_⟩
  refine List.forall_mem_cons.mpr ⟨zw_cv42 (am_dp pw_X2_readRule_32 dd_X2_readRule_32a.2.2.2.1) wd752, ?_⟩
  refine List.forall_mem_cons.mpr ⟨(s_aloadn (am_dp pw_X2_readRule_32 dd_X2_readRule_32a.2.2.2.2.1) rfl).to, ?_⟩
  refine List.forall_mem_cons.mpr ⟨(s_get (ci := 2) (k := 1) (am_dp pw_X2_readRule_32 dd_X2_readRule_32a.2.2.2.2.2.1) rfl (by decide) wd469 inX2 rfl).to, ?_⟩
  refine List.forall_mem_cons.mpr ⟨(s_get (ci := 5) (k := 6) (am_dp pw_X2_readRule_32 dd_X2_readRule_32a.2.2.2.2.2.2.1) rfl (by decide) wd324 inX5 rfl).to, ?_⟩
  refine List.forall_mem_cons.mpr ⟨(s_get (ci := 0) (k := 1) (am_dp pw_X2_readRule_32 dd_X2_readRule_32a.2.2.2.2.2.2.2) rfl (by decide) wd205 inX0 rfl).to, ?_⟩
  refine List.forall_mem_cons.mpr ⟨(s_istore (am_dp pw_X2_readRule_32 dd_X2_readRule_32b.1) (by decide)).to, ?_⟩
  refine List.forall_mem_cons.mpr ⟨(s_aloadn (am_dp pw_X2_readRule_32 dd_X2_readRule_32b.2.1) rfl).to, ?_⟩
  refine List.forall_mem_cons.mpr ⟨(s_iconst (am_dp pw_X2_readRule_32 dd_X2_readRule_32b.2.2.1) (by decide)).to, ?_⟩
  refine List.forall_mem_cons.mpr ⟨zw_cv22 (am_dp pw_X2_readRule_32 dd_X2_readRule_32b.2.2.2.1) wd756, ?_⟩
  refine List.forall_mem_cons.mpr ⟨(s_aloadn (am_dp pw_X2_readRule_32 dd_X2_readRule_32b.2.2.2.2.1) rfl).to, ?_⟩
  refine List.forall_mem_cons.mpr ⟨(s_get (ci := 2) (k := 0) (am_dp pw_X2_readRule_32 dd_X2_readRule_32b.2.2.2.2.2.1) rfl (by decide) wd467 inX2 rfl).to, ?_⟩
  refine List.forall_mem_cons.mpr ⟨(s_get (ci := 3) (k := 8) (am_dp pw_X2_readRule_32 dd_X2_readRule_32b.2.2.2.2.2.2) rfl (by decide) wd442 inX3 rfl).to, ?_⟩
  refine List.forall_mem_cons.mpr ⟨(s_if_ne (am_dp pw_X2_readRule_64 dd_X2_readRule_64a.1) (by decide)).to, ?_⟩
  refine List.forall_mem_cons.mpr ⟨(s_aloadn (am_dp pw_X2_readRule_64 dd_X2_readRule_64a.2.1) rfl).to, ?_⟩
  refine List.forall_mem_cons.mpr ⟨(s_iloadn (am_dp pw_X2_readRule_64 dd_X2_readRule_64a.2.2.1) rfl).to, ?_⟩
  refine List.forall_mem_cons.mpr ⟨(s_iload (am_dp pw_X2_readRule_64 dd_X2_readRule_64a.2.2.2.1)).to, ?_⟩
  refine List.forall_mem_cons.mpr ⟨(s_aloadn (am_dp pw_X2_readRule_64 dd_X2_readRule_64a.2.2.2.2.1) rfl).to, ?_⟩
  refine List.forall_mem_cons.mpr ⟨(s_get (ci := 2) (k := 1) (am_dp pw_X2_readRule_64 dd_X2_readRule_64a.2.2.2.2.2.1) rfl (by decide) wd469 inX2 rfl).to, ?_⟩
  refine List.forall_mem_cons.mpr ⟨(s_get (ci := 5) (k := 6) (am_dp pw_X2_readRule_64 dd_X2_readRule_64a.2.2.2.2.2.2.1) rfl (by decide) wd324 inX5 rfl).to, ?_⟩
  refine List.forall_mem_cons.mpr ⟨(s_get (ci := 0) (k := 1) (am_dp pw_X2_readRule_64 dd_X2_readRule_64a.2.2.2.2.2.2.2) rfl (by decide) wd205 inX0 rfl).to, ?_⟩
  refine List.forall_mem_cons.mpr ⟨zw_cv48 (am_dp pw_X2_readRule_64 dd_X2_readRule_64b.1) wd772, ?_⟩
  refine List.forall_mem_cons.mpr ⟨s_vret (am_dp pw_X2_readRule_64 dd_X2_readRule_64b.2) rfl, ?_⟩
  exact fun _ h => absurd h List.not_mem_nil
theorem sn_tX2_takeAfter : ∀ q ∈ tX2_takeAfter, am_Snd am_P0 RX2 cX2_takeAfter 4 (Option.some FieldType.int) "takeAfter" q.1 q.2 := by
  unfold tX2_takeAfter
  refine List.forall_mem_cons.mpr ⟨(s_aloadn (am_dp pw_X2_takeAfter_0 dd_X2_takeAfter_0a.1) rfl).to, ?_⟩
  refine List.forall_mem_cons.mpr ⟨(s_get (ci := 2) (k := 0) (am_dp pw_X2_takeAfter_0 dd_X2_takeAfter_0a.2.1) rfl (by decide) wd467 inX2 rfl).to, ?_⟩
  refine List.forall_mem_cons.mpr ⟨(s_iloadn (am_dp pw_X2_takeAfter_0 dd_X2_takeAfter_0a.2.2.1) rfl).to, ?_⟩
  refine List.forall_mem_cons.mpr ⟨zw_cv42 (am_dp pw_X2_takeAfter_0 dd_X2_takeAfter_0a.2.2.2.1) wd752, ?_⟩
  refine List.forall_mem_cons.mpr ⟨(s_aloadn (am_dp pw_X2_takeAfter_0 dd_X2_takeAfter_0a.2.2.2.2.1) rfl).to, ?_⟩
  refine List.forall_mem_cons.mpr ⟨(s_get (ci := 2) (k := 0) (am_dp pw_X2_takeAfter_0 dd_X2_takeAfter_0a.2.2.2.2.2.1) rfl (by decide) wd467 inX2 rfl).to, ?_⟩
  refine List.forall_mem_cons.mpr ⟨(s_iloadn (am_dp pw_X2_takeAfter_0 dd_X2_takeAfter_0a.2.2.2.2.2.2.1) rfl).to, ?_⟩
  refine List.forall_mem_cons.mpr ⟨(s_iloadn (am_dp pw_X2_takeAfter_0 dd_X2_takeAfter_0a.2.2.2.2.2.2.2) rfl).to, ?_⟩
  refine List.forall_mem_cons.mpr ⟨zw_cv44 (am_dp pw_X2_takeAfter_0 dd_X2_takeAfter_0b.1) wd690, ?_⟩
  refine List.forall_mem_cons.mpr ⟨s_iret (am_dp pw_X2_takeAfter_0 dd_X2_takeAfter_0b.2) rfl, ?_⟩
  exact fun _ h => absurd h List.not_mem_nil
theorem sn_tX2_readShip_0 : ∀ q ∈ tX2_readShip_0, am_Snd am_P0 RX2 cX2_readShip 6 (Option.none : Option FieldType) "readShip" q.1 q.2 := by
  unfold tX2_readShip_0
  refine List.forall_mem_cons.mpr ⟨(s_aloadn (am_dp pw_X2_readShip_0 dd_X2_readShip_0a.1) rfl).to, ?_⟩
  refine List.forall_mem_cons.mpr ⟨(s_aloadn (am_dp pw_X2_readShip_0 dd_X2_readShip_0a.2.1) rfl).to, ?_⟩
  refine List.forall_mem_cons.mpr ⟨(s_get (ci := 2) (k := 1) (am_dp pw_X2_readShip_0 dd_X2_readShip_0a.2.2.1) rfl (by decide) wd469 inX2 rfl).to, ?_⟩
  refine List.forall_mem_cons.mpr ⟨(s_get (ci := 5) (k := 3) (am_dp pw_X2_readShip_0 dd_X2_readShip_0a.2.2.2.1) rfl (by decide) wd316 inX5 rfl).to, ?_⟩
  refine List.forall_mem_cons.mpr ⟨(s_bipush (am_dp pw_X2_readShip_0 dd_X2_readShip_0a.2.2.2.2.1) (by decide)).to, ?_⟩
  refine List.forall_mem_cons.mpr ⟨(s_icmp_lt (am_dp pw_X2_readShip_0 dd_X2_readShip_0a.2.2.2.2.2.1) (by decide)).to, ?_⟩
  refine List.forall_mem_cons.mpr ⟨(s_iconst (am_dp pw_X2_readShip_0 dd_X2_readShip_0a.2.2.2.2.2.2.1) (by decide)).to, ?_⟩
  refine List.forall_mem_cons.mpr ⟨(s_goto (am_dp pw_X2_readShip_0 dd_X2_readShip_0a.2.2.2.2.2.2.2) (by decide)).to, ?_⟩
  refine List.forall_mem_cons.mpr ⟨(s_iconst (am_dp pw_X2_readShip_0 dd_X2_readShip_0b.1) (by decide)).to, ?_⟩
  refine List.forall_mem_cons.mpr ⟨zw_cv13 (am_dp pw_X2_readShip_0 dd_X2_readShip_0b.2.1) wd707, ?_⟩
  refine List.forall_mem_cons.mpr ⟨(s_if_eq (am_dp pw_X2_readShip_0 dd_X2_readShip_0b.2.2.1) (by decide)).to, ?_⟩
  refine List.forall_mem_cons.mpr ⟨(s_aloadn (am_dp pw_X2_readShip_0 dd_X2_readShip_0b.2.2.2.1) rfl).to, ?_⟩
  refine List.forall_mem_cons.mpr ⟨(s_get (ci := 2) (k := 0) (am_dp pw_X2_readShip_0 dd_X2_readShip_0b.2.2.2.2.1) rfl (by decide) wd467 inX2 rfl).to, ?_⟩
  refine List.forall_mem_cons.mpr ⟨zw_cv45 (am_dp pw_X2_readShip_0 dd_X2_readShip_0b.2.2.2.2.2.1) wd781, ?_⟩
  refine List.forall_mem_cons.mpr ⟨(s_if_ne (am_dp pw_X2_readShip_0 dd_X2_readShip_0b.2.2.2.2.2.2) (by decide)).to, ?_⟩
  refine List.forall_mem_cons.mpr ⟨s_vret (am_dp pw_X2_readShip_32 dd_X2_readShip_32a.1) rfl, ?_⟩
  refine List.forall_mem_cons.mpr ⟨(s_aloadn (am_dp pw_X2_readShip_32 dd_X2_readShip_32a.2.1) rfl).to, ?_⟩
  refine List.forall_mem_cons.mpr ⟨(s_get (ci := 2) (k := 0) (am_dp pw_X2_readShip_32 dd_X2_readShip_32a.2.2.1) rfl (by decide) wd467 inX2 rfl).to, ?_⟩
  refine List.forall_mem_cons.mpr ⟨(s_get (ci := 3) (k := 5) (am_dp pw_X2_readShip_32 dd_X2_readShip_32a.2.2.2.1) rfl (by decide) wd436 inX3 rfl).to, ?_⟩
  refine List.forall_mem_cons.mpr ⟨(s_istoren (am_dp pw_X2_readShip_32 dd_X2_readShip_32a.2.2.2.2.1) rfl (by decide)).to, ?_⟩
  refine List.forall_mem_cons.mpr ⟨(s_aloadn (am_dp pw_X2_readShip_32 dd_X2_readShip_32a.2.2.2.2.2.1) rfl).to, ?_⟩
  refine List.forall_mem_cons.mpr ⟨(s_get (ci := 2) (k := 1) (am_dp pw_X2_readShip_32 dd_X2_readShip_32a.2.2.2.2.2.2.1) rfl (by decide) wd469 inX2 rfl).to, ?_⟩
  refine List.forall_mem_cons.mpr ⟨(s_iloadn (am_dp pw_X2_readShip_32 dd_X2_readShip_32a.2.2.2.2.2.2.2) rfl).to, ?_⟩
  refine List.forall_mem_cons.mpr ⟨zw_cv62 (am_dp pw_X2_readShip_32 dd_X2_readShip_32b.1) wd785, ?_⟩
  refine List.forall_mem_cons.mpr ⟨(s_iconst (am_dp pw_X2_readShip_32 dd_X2_readShip_32b.2.1) (by decide)).to, ?_⟩
  refine List.forall_mem_cons.mpr ⟨(s_icmp_eq (am_dp pw_X2_readShip_32 dd_X2_readShip_32b.2.2.1) (by decide)).to, ?_⟩
  refine List.forall_mem_cons.mpr ⟨(s_aloadn (am_dp pw_X2_readShip_32 dd_X2_readShip_32b.2.2.2.1) rfl).to, ?_⟩
  refine List.forall_mem_cons.mpr ⟨(s_get (ci := 2) (k := 0) (am_dp pw_X2_readShip_32 dd_X2_readShip_32b.2.2.2.2.1) rfl (by decide) wd467 inX2 rfl).to, ?_⟩
  refine List.forall_mem_cons.mpr ⟨(s_iconst (am_dp pw_X2_readShip_32 dd_X2_readShip_32b.2.2.2.2.2.1) (by decide)).to, ?_⟩
  refine List.forall_mem_cons.mpr ⟨zw_cv39 (am_dp pw_X2_readShip_32 dd_X2_readShip_32b.2.2.2.2.2.2.1) wd681, ?_⟩
  refine List.forall_mem_cons.mpr ⟨s_vret (am_dp pw_X2_readShip_32 dd_X2_readShip_32b.2.2.2.2.2.2.2) rfl, ?_⟩
  refine List.forall_mem_cons.mpr ⟨(s_aloadn (am_dp pw_X2_readShip_64 dd_X2_readShip_64a.1) rfl).to, ?_⟩
  refine List.forall_mem_cons.mpr ⟨(s_get (ci := 2) (k := 0) (am_dp pw_X2_readShip_64 dd_X2_readShip_64a.2.1) rfl (by decide) wd467 inX2 rfl).to, ?_⟩
  refine List.forall_mem_cons.mpr ⟨zw_cv35 (am_dp pw_X2_readShip_64 dd_X2_readShip_64a.2.2.1) wd689, ?_⟩
  refine List.forall_mem_cons.mpr ⟨(s_aloadn (am_dp pw_X2_readShip_64 dd_X2_readShip_64a.2.2.2.1) rfl).to, ?_⟩
  refine List.forall_mem_cons.mpr ⟨(s_iconst (am_dp pw_X2_readShip_64 dd_X2_readShip_64a.2.2.2.2.1) (by decide)).to, ?_⟩
  refine List.forall_mem_cons.mpr ⟨(s_iconst (am_dp pw_X2_readShip_64 dd_X2_readShip_64a.2.2.2.2.2.1) (by decide)).to, ?_⟩
  refine List.forall_mem_cons.mpr ⟨(s_iconst (am_dp pw_X2_readShip_64 dd_X2_readShip_64a.2.2.2.2.2.2.1) (by decide)).to, ?_⟩
  refine List.forall_mem_cons.mpr ⟨zw_cv15 (am_dp pw_X2_readShip_64 dd_X2_readShip_64a.2.2.2.2.2.2.2) wd789, ?_⟩
  refine List.forall_mem_cons.mpr ⟨(s_istoren (am_dp pw_X2_readShip_64 dd_X2_readShip_64b.1) rfl (by decide)).to, ?_⟩
  refine List.forall_mem_cons.mpr ⟨(s_aloadn (am_dp pw_X2_readShip_64 dd_X2_readShip_64b.2.1) rfl).to, ?_⟩
  refine List.forall_mem_cons.mpr ⟨(s_bipush (am_dp pw_X2_readShip_64 dd_X2_readShip_64b.2.2.1) (by decide)).to, ?_⟩
  refine List.forall_mem_cons.mpr ⟨(s_iconst (am_dp pw_X2_readShip_64 dd_X2_readShip_64b.2.2.2.1) (by decide)).to, ?_⟩
  refine List.forall_mem_cons.mpr ⟨(s_iconst (am_dp pw_X2_readShip_64 dd_X2_readShip_64b.2.2.2.2.1) (by decide)).to, ?_⟩
  refine List.forall_mem_cons.mpr ⟨zw_cv15 (am_dp pw_X2_readShip_64 dd_X2_readShip_64b.2.2.2.2.2.1) wd789, ?_⟩
  refine List.forall_mem_cons.mpr ⟨(s_istoren (am_dp pw_X2_readShip_64 dd_X2_readShip_64b.2.2.2.2.2.2.1) rfl (by decide)).to, ?_⟩
  refine List.forall_mem_cons.mpr ⟨(s_aloadn (am_dp pw_X2_readShip_64 dd_X2_readShip_64b.2.2.2.2.2.2.2) rfl).to, ?_⟩
  refine List.forall_mem_cons.mpr ⟨(s_bipush (am_dp pw_X2_readShip_64 dd_X2_readShip_64c.1) (by decide)).to, ?_⟩
  refine List.forall_mem_cons.mpr ⟨(s_iconst (am_dp pw_X2_readShip_64 dd_X2_readShip_64c.2.1) (by decide)).to, ?_⟩
  refine List.forall_mem_cons.mpr ⟨(s_bipush (am_dp pw_X2_readShip_64 dd_X2_readShip_64c.2.2.1) (by decide)).to, ?_⟩
  refine List.forall_mem_cons.mpr ⟨zw_cv15 (am_dp pw_X2_readShip_64 dd_X2_readShip_64c.2.2.2) wd789, ?_⟩
  refine List.forall_mem_cons.mpr ⟨(s_istore (am_dp pw_X2_readShip_96 dd_X2_readShip_96a.1) (by decide)).to, ?_⟩
  refine List.forall_mem_cons.mpr ⟨(s_aloadn (am_dp pw_X2_readShip_96 dd_X2_readShip_96a.2.1) rfl).to, ?_⟩
  refine List.forall_mem_cons.mpr ⟨(s_bipush (am_dp pw_X2_readShip_96 dd_X2_readShip_96a.2.2.1) (by decide)).to, ?_⟩
  refine List.forall_mem_cons.mpr ⟨(s_iconst (am_dp pw_X2_readShip_96 dd_X2_readShip_96a.2.2.2.1) (by decide)).to, ?_⟩
  refine List.forall_mem_cons.mpr ⟨(s_bipush (am_dp pw_X2_readShip_96 dd_X2_readShip_96a.2.2.2.2.1) (by decide)).to, ?_⟩
  refine List.forall_mem_cons.mpr ⟨zw_cv15 (am_dp pw_X2_readShip_96 dd_X2_readShip_96a.2.2.2.2.2.1) wd789, ?_⟩
  refine List.forall_mem_cons.mpr ⟨(s_istore (am_dp pw_X2_readShip_96 dd_X2_readShip_96a.2.2.2.2.2.2.1) (by decide)).to, ?_⟩
  refine List.forall_mem_cons.mpr ⟨(s_aloadn (am_dp pw_X2_readShip_96 dd_X2_readShip_96a.2.2.2.2.2.2.2) rfl).to, ?_⟩
  refine List.forall_mem_cons.mpr ⟨(s_get (ci := 2) (k := 0) (am_dp pw_X2_readShip_96 dd_X2_readShip_96b.1) rfl (by decide) wd467 inX2 rfl).to, ?_⟩
  exact fun _ h => absurd h List.not_mem_nil
theorem sn_tX2_readShip_1 : ∀ q ∈ tX2_readShip_1, am_Snd am_P0 RX2 cX2_readShip 6 (Option.none : Option FieldType) "readShip" q.1 q.2 := by
  unfold tX2_readShip_1
  refine List.forall_mem_cons.mpr ⟨(s_get (ci := 3) (k := 8) (am_dp pw_X2_readShip_96 dd_X2_readShip_96b.2.1) rfl (by decide) wd442 inX3 rfl).to, ?_⟩
  refine List.forall_mem_cons.mpr ⟨(s_if_ne (am_dp pw_X2_readShip_96 dd_X2_readShip_96b.2.2.1) (by decide)).to, ?_⟩
  refine List.forall_mem_cons.mpr ⟨(s_aloadn (am_dp pw_X2_readShip_96 dd_X2_readShip_96b.2.2.2.1) rfl).to, ?_⟩
  refine List.forall_mem_cons.mpr ⟨(s_get (ci := 2) (k := 1) (am_dp pw_X2_readShip_96 dd_X2_readShip_96b.2.2.2.2.1) rfl (by decide) wd469 inX2 rfl).to, ?_⟩
  refine List.forall_mem_cons.mpr ⟨(s_iloadn (am_dp pw_X2_readShip_96 dd_X2_readShip_96b.2.2.2.2.2.1) rfl).to, ?_⟩
  refine List.forall_mem_cons.mpr ⟨(s_iloadn (am_dp pw_X2_readShip_96 dd_X2_readShip_96b.2.2.2.2.2.2.1) rfl).to, ?_⟩
  refine List.forall_mem_cons.mpr ⟨(s_iloadn (am_dp pw_X2_readShip_96 dd_X2_readShip_96b.2.2.2.2.2.2.2) rfl).to, ?_⟩
  refine List.forall_mem_cons.mpr ⟨(s_iload (am_dp pw_X2_readShip_96 dd_X2_readShip_96c)).to, ?_⟩
  refine List.forall_mem_cons.mpr ⟨(s_iload (am_dp pw_X2_readShip_128 dd_X2_readShip_128a.1)).to, ?_⟩
  refine List.forall_mem_cons.mpr ⟨zw_cv63 (am_dp pw_X2_readShip_128 dd_X2_readShip_128a.2.1) wd793, ?_⟩
  refine List.forall_mem_cons.mpr ⟨s_vret (am_dp pw_X2_readShip_128 dd_X2_readShip_128a.2.2) rfl, ?_⟩
  exact fun _ h => absurd h List.not_mem_nil
theorem sn_tX2_readShip : ∀ q ∈ tX2_readShip, am_Snd am_P0 RX2 cX2_readShip 6 (Option.none : Option FieldType) "readShip" q.1 q.2 := by
  unfold tX2_readShip
  exact List.forall_mem_append.mpr ⟨sn_tX2_readShip_0, sn_tX2_readShip_1⟩
theorem sn_tX2_takeShip : ∀ q ∈ tX2_takeShip, am_Snd am_P0 RX2 cX2_takeShip 2 (Option.some FieldType.int) "takeShip" q.1 q.2 := by
  unfold tX2_takeShip
  refine List.forall_mem_cons.mpr ⟨(s_aloadn (am_dp pw_X2_takeShip_0 dd_X2_takeShip_0a.1) rfl).to, ?_⟩
  refine List.forall_mem_cons.mpr ⟨(s_get (ci := 2) (k := 0) (am_dp pw_X2_takeShip_0 dd_X2_takeShip_0a.2.1) rfl (by decide) wd467 inX2 rfl).to, ?_⟩
  refine List.forall_mem_cons.mpr ⟨zw_cv45 (am_dp pw_X2_takeShip_0 dd_X2_takeShip_0a.2.2.1) wd781, ?_⟩
  refine List.forall_mem_cons.mpr ⟨(s_if_ne (am_dp pw_X2_takeShip_0 dd_X2_takeShip_0a.2.2.2.1) (by decide)).to, ?_⟩
  refine List.forall_mem_cons.mpr ⟨(s_iconst (am_dp pw_X2_takeShip_0 dd_X2_takeShip_0a.2.2.2.2.1) (by decide)).to, ?_⟩
  refine List.forall_mem_cons.mpr ⟨s_iret (am_dp pw_X2_takeShip_0 dd_X2_takeShip_0a.2.2.2.2.2.1) rfl, ?_⟩
  refine List.forall_mem_cons.mpr ⟨(s_aloadn (am_dp pw_X2_takeShip_0 dd_X2_takeShip_0a.2.2.2.2.2.2.1) rfl).to, ?_⟩
  refine List.forall_mem_cons.mpr ⟨(s_get (ci := 2) (k := 1) (am_dp pw_X2_takeShip_0 dd_X2_takeShip_0a.2.2.2.2.2.2.2) rfl (by decide) wd469 inX2 rfl).to, ?_⟩
  refine List.forall_mem_cons.mpr ⟨(s_aloadn (am_dp pw_X2_takeShip_0 dd_X2_takeShip_0b.1) rfl).to, ?_⟩
  refine List.forall_mem_cons.mpr ⟨(s_get (ci := 2) (k := 0) (am_dp pw_X2_takeShip_0 dd_X2_takeShip_0b.2.1) rfl (by decide) wd467 inX2 rfl).to, ?_⟩
  refine List.forall_mem_cons.mpr ⟨(s_get (ci := 3) (k := 5) (am_dp pw_X2_takeShip_0 dd_X2_takeShip_0b.2.2.1) rfl (by decide) wd436 inX3 rfl).to, ?_⟩
  refine List.forall_mem_cons.mpr ⟨zw_cv62 (am_dp pw_X2_takeShip_0 dd_X2_takeShip_0b.2.2.2.1) wd785, ?_⟩
  refine List.forall_mem_cons.mpr ⟨(s_istoren (am_dp pw_X2_takeShip_0 dd_X2_takeShip_0b.2.2.2.2.1) rfl (by decide)).to, ?_⟩
  refine List.forall_mem_cons.mpr ⟨(s_iloadn (am_dp pw_X2_takeShip_0 dd_X2_takeShip_0b.2.2.2.2.2.1) rfl).to, ?_⟩
  refine List.forall_mem_cons.mpr ⟨(s_iconst (am_dp pw_X2_takeShip_0 dd_X2_takeShip_0b.2.2.2.2.2.2.1) (by decide)).to, ?_⟩
  refine List.forall_mem_cons.mpr ⟨(s_icmp_ne (am_dp pw_X2_takeShip_0 dd_X2_takeShip_0b.2.2.2.2.2.2.2) (by decide)).to, ?_⟩
  refine List.forall_mem_cons.mpr ⟨(s_aloadn (am_dp pw_X2_takeShip_32 dd_X2_takeShip_32a.1) rfl).to, ?_⟩
  refine List.forall_mem_cons.mpr ⟨(s_get (ci := 2) (k := 0) (am_dp pw_X2_takeShip_32 dd_X2_takeShip_32a.2.1) rfl (by decide) wd467 inX2 rfl).to, ?_⟩
  refine List.forall_mem_cons.mpr ⟨(s_iconst (am_dp pw_X2_takeShip_32 dd_X2_takeShip_32a.2.2.1) (by decide)).to, ?_⟩
  refine List.forall_mem_cons.mpr ⟨zw_cv39 (am_dp pw_X2_takeShip_32 dd_X2_takeShip_32a.2.2.2.1) wd681, ?_⟩
  refine List.forall_mem_cons.mpr ⟨(s_goto (am_dp pw_X2_takeShip_32 dd_X2_takeShip_32a.2.2.2.2.1) (by decide)).to, ?_⟩
  refine List.forall_mem_cons.mpr ⟨(s_aloadn (am_dp pw_X2_takeShip_32 dd_X2_takeShip_32a.2.2.2.2.2.1) rfl).to, ?_⟩
  refine List.forall_mem_cons.mpr ⟨(s_get (ci := 2) (k := 0) (am_dp pw_X2_takeShip_32 dd_X2_takeShip_32a.2.2.2.2.2.2.1) rfl (by decide) wd467 inX2 rfl).to, ?_⟩
  refine List.forall_mem_cons.mpr ⟨zw_cv35 (am_dp pw_X2_takeShip_32 dd_X2_takeShip_32a.2.2.2.2.2.2.2) wd689, ?_⟩
  refine List.forall_mem_cons.mpr ⟨(s_iloadn (am_dp pw_X2_takeShip_32 dd_X2_takeShip_32b.1) rfl).to, ?_⟩
  refine List.forall_mem_cons.mpr ⟨s_iret (am_dp pw_X2_takeShip_32 dd_X2_takeShip_32b.2) rfl, ?_⟩
  exact fun _ h => absurd h List.not_mem_nil
theorem sn_tX2_takePlace : ∀ q ∈ tX2_takePlace, am_Snd am_P0 RX2 cX2_takePlace 3 (Option.some FieldType.int) "takePlace" q.1 q.2 := by
  unfold tX2_takePlace
  refine List.forall_mem_cons.mpr ⟨(s_aloadn (am_dp pw_X2_takePlace_0 dd_X2_takePlace_0a.1) rfl).to, ?_⟩
  refine List.forall_mem_cons.mpr ⟨(s_get (ci := 2) (k := 0) (am_dp pw_X2_takePlace_0 dd_X2_takePlace_0a.2.1) rfl (by decide) wd467 inX2 rfl).to, ?_⟩
  refine List.forall_mem_cons.mpr ⟨(s_bipush (am_dp pw_X2_takePlace_0 dd_X2_takePlace_0a.2.2.1) (by decide)).to, ?_⟩
  refine List.forall_mem_cons.mpr ⟨zw_cv42 (am_dp pw_X2_takePlace_0 dd_X2_takePlace_0a.2.2.2.1) wd752, ?_⟩
  refine List.forall_mem_cons.mpr ⟨(s_aloadn (am_dp pw_X2_takePlace_0 dd_X2_takePlace_0a.2.2.2.2.1) rfl).to, ?_⟩
  refine List.forall_mem_cons.mpr ⟨(s_get (ci := 2) (k := 0) (am_dp pw_X2_takePlace_0 dd_X2_takePlace_0a.2.2.2.2.2.1) rfl (by decide) wd467 inX2 rfl).to, ?_⟩
  refine List.forall_mem_cons.mpr ⟨(s_iconst (am_dp pw_X2_takePlace_0 dd_X2_takePlace_0a.2.2.2.2.2.2.1) (by decide)).to, ?_⟩
  refine List.forall_mem_cons.mpr ⟨(s_aloadn (am_dp pw_X2_takePlace_0 dd_X2_takePlace_0a.2.2.2.2.2.2.2) rfl).to, ?_⟩
  refine List.forall_mem_cons.mpr ⟨(s_get (ci := 2) (k := 1) (am_dp pw_X2_takePlace_0 dd_X2_takePlace_0b.1) rfl (by decide) wd469 inX2 rfl).to, ?_⟩
  refine List.forall_mem_cons.mpr ⟨(s_get (ci := 5) (k := 0) (am_dp pw_X2_takePlace_0 dd_X2_takePlace_0b.2.1) rfl (by decide) wd306 inX5 rfl).to, ?_⟩
  refine List.forall_mem_cons.mpr ⟨(s_iconst (am_dp pw_X2_takePlace_0 dd_X2_takePlace_0b.2.2.1) (by decide)).to, ?_⟩
  refine List.forall_mem_cons.mpr ⟨(s_isub (am_dp pw_X2_takePlace_0 dd_X2_takePlace_0b.2.2.2.1)).to, ?_⟩
  refine List.forall_mem_cons.mpr ⟨zw_cv44 (am_dp pw_X2_takePlace_0 dd_X2_takePlace_0b.2.2.2.2.1) wd690, ?_⟩
  refine List.forall_mem_cons.mpr ⟨(s_istoren (am_dp pw_X2_takePlace_0 dd_X2_takePlace_0b.2.2.2.2.2.1) rfl (by decide)).to, ?_⟩
  refine List.forall_mem_cons.mpr ⟨(s_aloadn (am_dp pw_X2_takePlace_0 dd_X2_takePlace_0b.2.2.2.2.2.2.1) rfl).to, ?_⟩
  refine List.forall_mem_cons.mpr ⟨(s_get (ci := 2) (k := 0) (am_dp pw_X2_takePlace_0 dd_X2_takePlace_0b.2.2.2.2.2.2.2) rfl (by decide) wd467 inX2 rfl).to, ?_⟩
  refine List.forall_mem_cons.mpr ⟨(s_iconst (am_dp pw_X2_takePlace_0 dd_X2_takePlace_0c) (by decide)).to, ?_⟩
  refine List.forall_mem_cons.mpr ⟨(s_aloadn (am_dp pw_X2_takePlace_32 dd_X2_takePlace_32a.1) rfl).to, ?_⟩
  refine List.forall_mem_cons.mpr ⟨(s_get (ci := 2) (k := 1) (am_dp pw_X2_takePlace_32 dd_X2_takePlace_32a.2.1) rfl (by decide) wd469 inX2 rfl).to, ?_⟩
  refine List.forall_mem_cons.mpr ⟨(s_get (ci := 5) (k := 1) (am_dp pw_X2_takePlace_32 dd_X2_takePlace_32a.2.2.1) rfl (by decide) wd309 inX5 rfl).to, ?_⟩
  refine List.forall_mem_cons.mpr ⟨(s_iconst (am_dp pw_X2_takePlace_32 dd_X2_takePlace_32a.2.2.2.1) (by decide)).to, ?_⟩
  refine List.forall_mem_cons.mpr ⟨(s_isub (am_dp pw_X2_takePlace_32 dd_X2_takePlace_32a.2.2.2.2.1)).to, ?_⟩
  refine List.forall_mem_cons.mpr ⟨zw_cv44 (am_dp pw_X2_takePlace_32 dd_X2_takePlace_32a.2.2.2.2.2.1) wd690, ?_⟩
  refine List.forall_mem_cons.mpr ⟨(s_istoren (am_dp pw_X2_takePlace_32 dd_X2_takePlace_32a.2.2.2.2.2.2.1) rfl (by decide)).to, ?_⟩
  refine List.forall_mem_cons.mpr ⟨(s_iloadn (am_dp pw_X2_takePlace_32 dd_X2_takePlace_32a.2.2.2.2.2.2.2) rfl).to, ?_⟩
  refine List.forall_mem_cons.mpr ⟨(s_bipush (am_dp pw_X2_takePlace_32 dd_X2_takePlace_32b.1) (by decide)).to, ?_⟩
  refine List.forall_mem_cons.mpr ⟨(s_imul (am_dp pw_X2_takePlace_32 dd_X2_takePlace_32b.2.1)).to, ?_⟩
  refine List.forall_mem_cons.mpr ⟨(s_iloadn (am_dp pw_X2_takePlace_32 dd_X2_takePlace_32b.2.2.1) rfl).to, ?_⟩
  refine List.forall_mem_cons.mpr ⟨(s_iadd (am_dp pw_X2_takePlace_32 dd_X2_takePlace_32b.2.2.2.1)).to, ?_⟩
  refine List.forall_mem_cons.mpr ⟨s_iret (am_dp pw_X2_takePlace_32 dd_X2_takePlace_32b.2.2.2.2) rfl, ?_⟩
  exact fun _ h => absurd h List.not_mem_nil
theorem sn_tX2_readSaying_0 : ∀ q ∈ tX2_readSaying_0, am_Snd am_P0 RX2 cX2_readSaying 5 (Option.none : Option FieldType) "readSaying" q.1 q.2 := by
  unfold tX2_readSaying_0
  refine List.forall_mem_cons.mpr ⟨(s_aloadn (am_dp pw_X2_readSaying_0 dd_X2_readSaying_0a.1) rfl).to, ?_⟩
  refine List.forall_mem_cons.mpr ⟨(s_aloadn (am_dp pw_X2_readSaying_0 dd_X2_readSaying_0a.2.1) rfl).to, ?_⟩
  refine List.forall_mem_cons.mpr ⟨(s_get (ci := 2) (k := 1) (am_dp pw_X2_readSaying_0 dd_X2_readSaying_0a.2.2.1) rfl (by decide) wd469 inX2 rfl).to, ?_⟩
  refine List.forall_mem_cons.mpr ⟨zw_cv59 (am_dp pw_X2_readSaying_0 dd_X2_readSaying_0a.2.2.2.1) wd801, ?_⟩
  refine List.forall_mem_cons.mpr ⟨(s_bipush (am_dp pw_X2_readSaying_0 dd_X2_readSaying_0a.2.2.2.2.1) (by decide)).to, ?_⟩
  refine List.forall_mem_cons.mpr ⟨(s_icmp_lt (am_dp pw_X2_readSaying_0 dd_X2_readSaying_0a.2.2.2.2.2.1) (by decide)).to, ?_⟩
  refine List.forall_mem_cons.mpr ⟨(s_iconst (am_dp pw_X2_readSaying_0 dd_X2_readSaying_0a.2.2.2.2.2.2.1) (by decide)).to, ?_⟩
  refine List.forall_mem_cons.mpr ⟨(s_goto (am_dp pw_X2_readSaying_0 dd_X2_readSaying_0a.2.2.2.2.2.2.2) (by decide)).to, ?_⟩
  refine List.forall_mem_cons.mpr ⟨(s_iconst (am_dp pw_X2_readSaying_0 dd_X2_readSaying_0b.1) (by decide)).to, ?_⟩
  refine List.forall_mem_cons.mpr ⟨zw_cv13 (am_dp pw_X2_readSaying_0 dd_X2_readSaying_0b.2.1) wd707, ?_⟩
  refine List.forall_mem_cons.mpr ⟨(s_if_ne (am_dp pw_X2_readSaying_0 dd_X2_readSaying_0b.2.2.1) (by decide)).to, ?_⟩
  refine List.forall_mem_cons.mpr ⟨s_vret (am_dp pw_X2_readSaying_0 dd_X2_readSaying_0b.2.2.2.1) rfl, ?_⟩
  refine List.forall_mem_cons.mpr ⟨(s_aloadn (am_dp pw_X2_readSaying_0 dd_X2_readSaying_0b.2.2.2.2.1) rfl).to, ?_⟩
  refine List.forall_mem_cons.mpr ⟨zw_cv17 (am_dp pw_X2_readSaying_0 dd_X2_readSaying_0b.2.2.2.2.2.1) wd805, ?_⟩
  refine List.forall_mem_cons.mpr ⟨(s_istoren (am_dp pw_X2_readSaying_0 dd_X2_readSaying_0b.2.2.2.2.2.2.1) rfl (by decide)).to, ?_⟩
  refine List.forall_mem_cons.mpr ⟨(s_iloadn (am_dp pw_X2_readSaying_0 dd_X2_readSaying_0b.2.2.2.2.2.2.2) rfl).to, ?_⟩
  refine List.forall_mem_cons.mpr ⟨(s_iconst (am_dp pw_X2_readSaying_0 dd_X2_readSaying_0c) (by decide)).to, ?_⟩
  refine List.forall_mem_cons.mpr ⟨(s_icmp_eq (am_dp pw_X2_readSaying_32 dd_X2_readSaying_32a.1) (by decide)).to, ?_⟩
  refine List.forall_mem_cons.mpr ⟨(s_aloadn (am_dp pw_X2_readSaying_32 dd_X2_readSaying_32a.2.1) rfl).to, ?_⟩
  refine List.forall_mem_cons.mpr ⟨(s_get (ci := 2) (k := 0) (am_dp pw_X2_readSaying_32 dd_X2_readSaying_32a.2.2.1) rfl (by decide) wd467 inX2 rfl).to, ?_⟩
  refine List.forall_mem_cons.mpr ⟨(s_iconst (am_dp pw_X2_readSaying_32 dd_X2_readSaying_32a.2.2.2.1) (by decide)).to, ?_⟩
  refine List.forall_mem_cons.mpr ⟨(s_bipush (am_dp pw_X2_readSaying_32 dd_X2_readSaying_32a.2.2.2.2.1) (by decide)).to, ?_⟩
  refine List.forall_mem_cons.mpr ⟨zw_cv43 (am_dp pw_X2_readSaying_32 dd_X2_readSaying_32a.2.2.2.2.2.1) wd809, ?_⟩
  refine List.forall_mem_cons.mpr ⟨(s_if_ne (am_dp pw_X2_readSaying_32 dd_X2_readSaying_32a.2.2.2.2.2.2.1) (by decide)).to, ?_⟩
  refine List.forall_mem_cons.mpr ⟨s_vret (am_dp pw_X2_readSaying_32 dd_X2_readSaying_32a.2.2.2.2.2.2.2) rfl, ?_⟩
  refine List.forall_mem_cons.mpr ⟨(s_aloadn (am_dp pw_X2_readSaying_32 dd_X2_readSaying_32b.1) rfl).to, ?_⟩
  refine List.forall_mem_cons.mpr ⟨(s_get (ci := 2) (k := 0) (am_dp pw_X2_readSaying_32 dd_X2_readSaying_32b.2.1) rfl (by decide) wd467 inX2 rfl).to, ?_⟩
  refine List.forall_mem_cons.mpr ⟨(s_get (ci := 3) (k := 5) (am_dp pw_X2_readSaying_32 dd_X2_readSaying_32b.2.2.1) rfl (by decide) wd436 inX3 rfl).to, ?_⟩
  refine List.forall_mem_cons.mpr ⟨(s_istoren (am_dp pw_X2_readSaying_32 dd_X2_readSaying_32b.2.2.2.1) rfl (by decide)).to, ?_⟩
  refine List.forall_mem_cons.mpr ⟨(s_aloadn (am_dp pw_X2_readSaying_32 dd_X2_readSaying_32b.2.2.2.2.1) rfl).to, ?_⟩
  refine List.forall_mem_cons.mpr ⟨(s_get (ci := 2) (k := 1) (am_dp pw_X2_readSaying_32 dd_X2_readSaying_32b.2.2.2.2.2.1) rfl (by decide) wd469 inX2 rfl).to, ?_⟩
  refine List.forall_mem_cons.mpr ⟨(s_get (ci := 5) (k := 4) (am_dp pw_X2_readSaying_32 dd_X2_readSaying_32b.2.2.2.2.2.2) rfl (by decide) wd319 inX5 rfl).to, ?_⟩
  refine List.forall_mem_cons.mpr ⟨(s_iloadn (am_dp pw_X2_readSaying_64 dd_X2_readSaying_64a.1) rfl).to, ?_⟩
  refine List.forall_mem_cons.mpr ⟨(s_aald (am_dp pw_X2_readSaying_64 dd_X2_readSaying_64a.2.1)).to, ?_⟩
  refine List.forall_mem_cons.mpr ⟨(s_iloadn (am_dp pw_X2_readSaying_64 dd_X2_readSaying_64a.2.2.1) rfl).to, ?_⟩
  refine List.forall_mem_cons.mpr ⟨zw_cv65 (am_dp pw_X2_readSaying_64 dd_X2_readSaying_64a.2.2.2.1) wd810, ?_⟩
  refine List.forall_mem_cons.mpr ⟨(s_if_eq (am_dp pw_X2_readSaying_64 dd_X2_readSaying_64a.2.2.2.2.1) (by decide)).to, ?_⟩
  refine List.forall_mem_cons.mpr ⟨(s_aloadn (am_dp pw_X2_readSaying_64 dd_X2_readSaying_64a.2.2.2.2.2.1) rfl).to, ?_⟩
  refine List.forall_mem_cons.mpr ⟨(s_get (ci := 2) (k := 0) (am_dp pw_X2_readSaying_64 dd_X2_readSaying_64a.2.2.2.2.2.2.1) rfl (by decide) wd467 inX2 rfl).to, ?_⟩
  refine List.forall_mem_cons.mpr ⟨(s_iconst (am_dp pw_X2_readSaying_64 dd_X2_readSaying_64a.2.2.2.2.2.2.2) (by decide)).to, ?_⟩
  refine List.forall_mem_cons.mpr ⟨zw_cv39 (am_dp pw_X2_readSaying_64 dd_X2_readSaying_64b.1) wd681, ?_⟩
  refine List.forall_mem_cons.mpr ⟨s_vret (am_dp pw_X2_readSaying_64 dd_X2_readSaying_64b.2.1) rfl, ?_⟩
  refine List.forall_mem_cons.mpr ⟨(s_aloadn (am_dp pw_X2_readSaying_64 dd_X2_readSaying_64b.2.2.1) rfl).to, ?_⟩
  refine List.forall_mem_cons.mpr ⟨(s_get (ci := 2) (k := 0) (am_dp pw_X2_readSaying_64 dd_X2_readSaying_64b.2.2.2.1) rfl (by decide) wd467 inX2 rfl).to, ?_⟩
  refine List.forall_mem_cons.mpr ⟨zw_cv35 (am_dp pw_X2_readSaying_64 dd_X2_readSaying_64b.2.2.2.2.1) wd689, ?_⟩
  refine List.forall_mem_cons.mpr ⟨(s_aloadn (am_dp pw_X2_readSaying_64 dd_X2_readSaying_64b.2.2.2.2.2.1) rfl).to, ?_⟩
  refine List.forall_mem_cons.mpr ⟨zw_cv18 (am_dp pw_X2_readSaying_64 dd_X2_readSaying_64b.2.2.2.2.2.2.1) wd814, ?_⟩
  refine List.forall_mem_cons.mpr ⟨(s_istoren (am_dp pw_X2_readSaying_64 dd_X2_readSaying_64b.2.2.2.2.2.2.2) rfl (by decide)).to, ?_⟩
  refine List.forall_mem_cons.mpr ⟨(s_aloadn (am_dp pw_X2_readSaying_64 dd_X2_readSaying_64c.1) rfl).to, ?_⟩
  refine List.forall_mem_cons.mpr ⟨(s_bipush (am_dp pw_X2_readSaying_64 dd_X2_readSaying_64c.2) (by decide)).to, ?_⟩
  refine List.forall_mem_cons.mpr ⟨(s_iconst (am_dp pw_X2_readSaying_96 dd_X2_readSaying_96a.1) (by decide)).to, ?_⟩
  refine List.forall_mem_cons.mpr ⟨(s_iconst (am_dp pw_X2_readSaying_96 dd_X2_readSaying_96a.2.1) (by decide)).to, ?_⟩
  refine List.forall_mem_cons.mpr ⟨zw_cv15 (am_dp pw_X2_readSaying_96 dd_X2_readSaying_96a.2.2.1) wd789, ?_⟩
  refine List.forall_mem_cons.mpr ⟨(s_istore (am_dp pw_X2_readSaying_96 dd_X2_readSaying_96a.2.2.2.1) (by decide)).to, ?_⟩
  refine List.forall_mem_cons.mpr ⟨(s_aloadn (am_dp pw_X2_readSaying_96 dd_X2_readSaying_96a.2.2.2.2.1) rfl).to, ?_⟩
  refine List.forall_mem_cons.mpr ⟨(s_get (ci := 2) (k := 0) (am_dp pw_X2_readSaying_96 dd_X2_readSaying_96a.2.2.2.2.2.1) rfl (by decide) wd467 inX2 rfl).to, ?_⟩
  refine List.forall_mem_cons.mpr ⟨(s_get (ci := 3) (k := 8) (am_dp pw_X2_readSaying_96 dd_X2_readSaying_96a.2.2.2.2.2.2.1) rfl (by decide) wd442 inX3 rfl).to, ?_⟩
  refine List.forall_mem_cons.mpr ⟨(s_if_ne (am_dp pw_X2_readSaying_96 dd_X2_readSaying_96a.2.2.2.2.2.2.2) (by decide)).to, ?_⟩
  refine List.forall_mem_cons.mpr ⟨(s_aloadn (am_dp pw_X2_readSaying_96 dd_X2_readSaying_96b.1) rfl).to, ?_⟩
  refine List.forall_mem_cons.mpr ⟨(s_get (ci := 2) (k := 1) (am_dp pw_X2_readSaying_96 dd_X2_readSaying_96b.2.1) rfl (by decide) wd469 inX2 rfl).to, ?_⟩
  exact fun _ h => absurd h List.not_mem_nil
theorem sn_tX2_readSaying_1 : ∀ q ∈ tX2_readSaying_1, am_Snd am_P0 RX2 cX2_readSaying 5 (Option.none : Option FieldType) "readSaying" q.1 q.2 := by
  unfold tX2_readSaying_1
  refine List.forall_mem_cons.mpr ⟨(s_get (ci := 5) (k := 4) (am_dp pw_X2_readSaying_96 dd_X2_readSaying_96b.2.2.1) rfl (by decide) wd319 inX5 rfl).to, ?_⟩
  refine List.forall_mem_cons.mpr ⟨(s_iloadn (am_dp pw_X2_readSaying_96 dd_X2_readSaying_96b.2.2.2.1) rfl).to, ?_⟩
  refine List.forall_mem_cons.mpr ⟨(s_aald (am_dp pw_X2_readSaying_96 dd_X2_readSaying_96b.2.2.2.2.1)).to, ?_⟩
  refine List.forall_mem_cons.mpr ⟨(s_iloadn (am_dp pw_X2_readSaying_96 dd_X2_readSaying_96b.2.2.2.2.2.1) rfl).to, ?_⟩
  refine List.forall_mem_cons.mpr ⟨(s_iloadn (am_dp pw_X2_readSaying_96 dd_X2_readSaying_96b.2.2.2.2.2.2.1) rfl).to, ?_⟩
  refine List.forall_mem_cons.mpr ⟨(s_iload (am_dp pw_X2_readSaying_96 dd_X2_readSaying_96b.2.2.2.2.2.2.2)).to, ?_⟩
  refine List.forall_mem_cons.mpr ⟨(s_iconst (am_dp pw_X2_readSaying_96 dd_X2_readSaying_96c) (by decide)).to, ?_⟩
  refine List.forall_mem_cons.mpr ⟨(s_icmp_ne (am_dp pw_X2_readSaying_128 dd_X2_readSaying_128a.1) (by decide)).to, ?_⟩
  refine List.forall_mem_cons.mpr ⟨(s_iconst (am_dp pw_X2_readSaying_128 dd_X2_readSaying_128a.2.1) (by decide)).to, ?_⟩
  refine List.forall_mem_cons.mpr ⟨(s_goto (am_dp pw_X2_readSaying_128 dd_X2_readSaying_128a.2.2.1) (by decide)).to, ?_⟩
  refine List.forall_mem_cons.mpr ⟨(s_iconst (am_dp pw_X2_readSaying_128 dd_X2_readSaying_128a.2.2.2.1) (by decide)).to, ?_⟩
  refine List.forall_mem_cons.mpr ⟨zw_cv66 (am_dp pw_X2_readSaying_128 dd_X2_readSaying_128a.2.2.2.2.1) wd818, ?_⟩
  refine List.forall_mem_cons.mpr ⟨(s_pop (am_dp pw_X2_readSaying_128 dd_X2_readSaying_128a.2.2.2.2.2.1)).to, ?_⟩
  refine List.forall_mem_cons.mpr ⟨s_vret (am_dp pw_X2_readSaying_128 dd_X2_readSaying_128a.2.2.2.2.2.2) rfl, ?_⟩
  exact fun _ h => absurd h List.not_mem_nil
theorem sn_tX2_readSaying : ∀ q ∈ tX2_readSaying, am_Snd am_P0 RX2 cX2_readSaying 5 (Option.none : Option FieldType) "readSaying" q.1 q.2 := by
  unfold tX2_readSaying
  exact List.forall_mem_append.mpr ⟨sn_tX2_readSaying_0, sn_tX2_readSaying_1⟩
theorem sn_tX2_readBook : ∀ q ∈ tX2_readBook, am_Snd am_P0 RX2 cX2_readBook 5 (Option.none : Option FieldType) "readBook" q.1 q.2 := by
  unfold tX2_readBook
  refine List.forall_mem_cons.mpr ⟨(s_aloadn (am_dp pw_X2_readBook_0 dd_X2_readBook_0a.1) rfl).to, ?_⟩
  refine List.forall_mem_cons.mpr ⟨(s_aloadn (am_dp pw_X2_readBook_0 dd_X2_readBook_0a.2.1) rfl).to, ?_⟩
  refine List.forall_mem_cons.mpr ⟨(s_get (ci := 2) (k := 1) (am_dp pw_X2_readBook_0 dd_X2_readBook_0a.2.2.1) rfl (by decide) wd469 inX2 rfl).to, ?_⟩
  refine List.forall_mem_cons.mpr ⟨zw_cv61 (am_dp pw_X2_readBook_0 dd_X2_readBook_0a.2.2.2.1) wd826, ?_⟩
  refine List.forall_mem_cons.mpr ⟨(s_bipush (am_dp pw_X2_readBook_0 dd_X2_readBook_0a.2.2.2.2.1) (by decide)).to, ?_⟩
  refine List.forall_mem_cons.mpr ⟨(s_icmp_lt (am_dp pw_X2_readBook_0 dd_X2_readBook_0a.2.2.2.2.2.1) (by decide)).to, ?_⟩
  refine List.forall_mem_cons.mpr ⟨(s_iconst (am_dp pw_X2_readBook_0 dd_X2_readBook_0a.2.2.2.2.2.2.1) (by decide)).to, ?_⟩
  refine List.forall_mem_cons.mpr ⟨(s_goto (am_dp pw_X2_readBook_0 dd_X2_readBook_0a.2.2.2.2.2.2.2) (by decide)).to, ?_⟩
  refine List.forall_mem_cons.mpr ⟨(s_iconst (am_dp pw_X2_readBook_0 dd_X2_readBook_0b.1) (by decide)).to, ?_⟩
  refine List.forall_mem_cons.mpr ⟨zw_cv13 (am_dp pw_X2_readBook_0 dd_X2_readBook_0b.2.1) wd707, ?_⟩
  refine List.forall_mem_cons.mpr ⟨(s_if_ne (am_dp pw_X2_readBook_0 dd_X2_readBook_0b.2.2.1) (by decide)).to, ?_⟩
  refine List.forall_mem_cons.mpr ⟨s_vret (am_dp pw_X2_readBook_0 dd_X2_readBook_0b.2.2.2.1) rfl, ?_⟩
  refine List.forall_mem_cons.mpr ⟨(s_aloadn (am_dp pw_X2_readBook_0 dd_X2_readBook_0b.2.2.2.2.1) rfl).to, ?_⟩
  refine List.forall_mem_cons.mpr ⟨zw_cv17 (am_dp pw_X2_readBook_0 dd_X2_readBook_0b.2.2.2.2.2.1) wd805, ?_⟩
  refine List.forall_mem_cons.mpr ⟨(s_istoren (am_dp pw_X2_readBook_0 dd_X2_readBook_0b.2.2.2.2.2.2.1) rfl (by decide)).to, ?_⟩
  refine List.forall_mem_cons.mpr ⟨(s_aloadn (am_dp pw_X2_readBook_0 dd_X2_readBook_0b.2.2.2.2.2.2.2) rfl).to, ?_⟩
  refine List.forall_mem_cons.mpr ⟨zw_cv18 (am_dp pw_X2_readBook_0 dd_X2_readBook_0c) wd814, ?_⟩
  refine List.forall_mem_cons.mpr ⟨(s_istoren (am_dp pw_X2_readBook_32 dd_X2_readBook_32a.1) rfl (by decide)).to, ?_⟩
  refine List.forall_mem_cons.mpr ⟨(s_aloadn (am_dp pw_X2_readBook_32 dd_X2_readBook_32a.2.1) rfl).to, ?_⟩
  refine List.forall_mem_cons.mpr ⟨(s_bipush (am_dp pw_X2_readBook_32 dd_X2_readBook_32a.2.2.1) (by decide)).to, ?_⟩
  refine List.forall_mem_cons.mpr ⟨(s_iconst (am_dp pw_X2_readBook_32 dd_X2_readBook_32a.2.2.2.1) (by decide)).to, ?_⟩
  refine List.forall_mem_cons.mpr ⟨(s_bipush (am_dp pw_X2_readBook_32 dd_X2_readBook_32a.2.2.2.2.1) (by decide)).to, ?_⟩
  refine List.forall_mem_cons.mpr ⟨zw_cv15 (am_dp pw_X2_readBook_32 dd_X2_readBook_32a.2.2.2.2.2.1) wd789, ?_⟩
  refine List.forall_mem_cons.mpr ⟨(s_istoren (am_dp pw_X2_readBook_32 dd_X2_readBook_32a.2.2.2.2.2.2.1) rfl (by decide)).to, ?_⟩
  refine List.forall_mem_cons.mpr ⟨(s_aloadn (am_dp pw_X2_readBook_32 dd_X2_readBook_32a.2.2.2.2.2.2.2) rfl).to, ?_⟩
  refine List.forall_mem_cons.mpr ⟨(s_bipush (am_dp pw_X2_readBook_32 dd_X2_readBook_32b.1) (by decide)).to, ?_⟩
  refine List.forall_mem_cons.mpr ⟨(s_iloadn (am_dp pw_X2_readBook_32 dd_X2_readBook_32b.2.1) rfl).to, ?_⟩
  refine List.forall_mem_cons.mpr ⟨(s_bipush (am_dp pw_X2_readBook_32 dd_X2_readBook_32b.2.2.1) (by decide)).to, ?_⟩
  refine List.forall_mem_cons.mpr ⟨zw_cv15 (am_dp pw_X2_readBook_32 dd_X2_readBook_32b.2.2.2.1) wd789, ?_⟩
  refine List.forall_mem_cons.mpr ⟨(s_istore (am_dp pw_X2_readBook_32 dd_X2_readBook_32b.2.2.2.2.1) (by decide)).to, ?_⟩
  refine List.forall_mem_cons.mpr ⟨(s_aloadn (am_dp pw_X2_readBook_32 dd_X2_readBook_32b.2.2.2.2.2.1) rfl).to, ?_⟩
  refine List.forall_mem_cons.mpr ⟨(s_get (ci := 2) (k := 0) (am_dp pw_X2_readBook_32 dd_X2_readBook_32b.2.2.2.2.2.2.1) rfl (by decide) wd467 inX2 rfl).to, ?_⟩
  refine List.forall_mem_cons.mpr ⟨(s_get (ci := 3) (k := 8) (am_dp pw_X2_readBook_32 dd_X2_readBook_32b.2.2.2.2.2.2.2) rfl (by decide) wd442 inX3 rfl).to, ?_⟩
  refine List.forall_mem_cons.mpr ⟨(s_if_ne (am_dp pw_X2_readBook_32 dd_X2_readBook_32c) (by decide)).to, ?_⟩
  refine List.forall_mem_cons.mpr ⟨(s_iloadn (am_dp pw_X2_readBook_64 dd_X2_readBook_64a.1) rfl).to, ?_⟩
  refine List.forall_mem_cons.mpr ⟨(s_iconst (am_dp pw_X2_readBook_64 dd_X2_readBook_64a.2.1) (by decide)).to, ?_⟩
  refine List.forall_mem_cons.mpr ⟨(s_icmp_eq (am_dp pw_X2_readBook_64 dd_X2_readBook_64a.2.2.1) (by decide)).to, ?_⟩
  refine List.forall_mem_cons.mpr ⟨(s_aloadn (am_dp pw_X2_readBook_64 dd_X2_readBook_64a.2.2.2.1) rfl).to, ?_⟩
  refine List.forall_mem_cons.mpr ⟨(s_get (ci := 2) (k := 1) (am_dp pw_X2_readBook_64 dd_X2_readBook_64a.2.2.2.2.1) rfl (by decide) wd469 inX2 rfl).to, ?_⟩
  refine List.forall_mem_cons.mpr ⟨(s_get (ci := 5) (k := 4) (am_dp pw_X2_readBook_64 dd_X2_readBook_64a.2.2.2.2.2.1) rfl (by decide) wd319 inX5 rfl).to, ?_⟩
  refine List.forall_mem_cons.mpr ⟨(s_iloadn (am_dp pw_X2_readBook_64 dd_X2_readBook_64a.2.2.2.2.2.2.1) rfl).to, ?_⟩
  refine List.forall_mem_cons.mpr ⟨(s_aald (am_dp pw_X2_readBook_64 dd_X2_readBook_64a.2.2.2.2.2.2.2)).to, ?_⟩
  refine List.forall_mem_cons.mpr ⟨(s_iloadn (am_dp pw_X2_readBook_64 dd_X2_readBook_64b.1) rfl).to, ?_⟩
  refine List.forall_mem_cons.mpr ⟨(s_iloadn (am_dp pw_X2_readBook_64 dd_X2_readBook_64b.2.1) rfl).to, ?_⟩
  refine List.forall_mem_cons.mpr ⟨(s_iload (am_dp pw_X2_readBook_64 dd_X2_readBook_64b.2.2.1)).to, ?_⟩
  refine List.forall_mem_cons.mpr ⟨zw_cv68 (am_dp pw_X2_readBook_64 dd_X2_readBook_64b.2.2.2.1) wd830, ?_⟩
  refine List.forall_mem_cons.mpr ⟨s_vret (am_dp pw_X2_readBook_64 dd_X2_readBook_64b.2.2.2.2) rfl, ?_⟩
  exact fun _ h => absurd h List.not_mem_nil
theorem sn_tX2_readSighting : ∀ q ∈ tX2_readSighting, am_Snd am_P0 RX2 cX2_readSighting 4 (Option.none : Option FieldType) "readSighting" q.1 q.2 := by
  unfold tX2_readSighting
  refine List.forall_mem_cons.mpr ⟨(s_aloadn (am_dp pw_X2_readSighting_0 dd_X2_readSighting_0a.1) rfl).to, ?_⟩
  refine List.forall_mem_cons.mpr ⟨(s_aloadn (am_dp pw_X2_readSighting_0 dd_X2_readSighting_0a.2.1) rfl).to, ?_⟩
  refine List.forall_mem_cons.mpr ⟨(s_get (ci := 2) (k := 1) (am_dp pw_X2_readSighting_0 dd_X2_readSighting_0a.2.2.1) rfl (by decide) wd469 inX2 rfl).to, ?_⟩
  refine List.forall_mem_cons.mpr ⟨(s_get (ci := 5) (k := 5) (am_dp pw_X2_readSighting_0 dd_X2_readSighting_0a.2.2.2.1) rfl (by decide) wd322 inX5 rfl).to, ?_⟩
  refine List.forall_mem_cons.mpr ⟨(s_get (ci := 7) (k := 0) (am_dp pw_X2_readSighting_0 dd_X2_readSighting_0a.2.2.2.2.1) rfl (by decide) wd179 inX7 rfl).to, ?_⟩
  refine List.forall_mem_cons.mpr ⟨(s_bipush (am_dp pw_X2_readSighting_0 dd_X2_readSighting_0a.2.2.2.2.2.1) (by decide)).to, ?_⟩
  refine List.forall_mem_cons.mpr ⟨(s_icmp_lt (am_dp pw_X2_readSighting_0 dd_X2_readSighting_0a.2.2.2.2.2.2.1) (by decide)).to, ?_⟩
  refine List.forall_mem_cons.mpr ⟨(s_iconst (am_dp pw_X2_readSighting_0 dd_X2_readSighting_0a.2.2.2.2.2.2.2) (by decide)).to, ?_⟩
  refine List.forall_mem_cons.mpr ⟨(s_goto (am_dp pw_X2_readSighting_0 dd_X2_readSighting_0b.1) (by decide)).to, ?_⟩
  refine List.forall_mem_cons.mpr ⟨(s_iconst (am_dp pw_X2_readSighting_0 dd_X2_readSighting_0b.2.1) (by decide)).to, ?_⟩
  refine List.forall_mem_cons.mpr ⟨zw_cv13 (am_dp pw_X2_readSighting_0 dd_X2_readSighting_0b.2.2.1) wd707, ?_⟩
  refine List.forall_mem_cons.mpr ⟨(s_if_ne (am_dp pw_X2_readSighting_0 dd_X2_readSighting_0b.2.2.2.1) (by decide)).to, ?_⟩
  refine List.forall_mem_cons.mpr ⟨s_vret (am_dp pw_X2_readSighting_0 dd_X2_readSighting_0b.2.2.2.2.1) rfl, ?_⟩
  refine List.forall_mem_cons.mpr ⟨(s_aloadn (am_dp pw_X2_readSighting_0 dd_X2_readSighting_0b.2.2.2.2.2.1) rfl).to, ?_⟩
  refine List.forall_mem_cons.mpr ⟨(s_get (ci := 2) (k := 0) (am_dp pw_X2_readSighting_0 dd_X2_readSighting_0b.2.2.2.2.2.2) rfl (by decide) wd467 inX2 rfl).to, ?_⟩
  refine List.forall_mem_cons.mpr ⟨(s_iconst (am_dp pw_X2_readSighting_32 dd_X2_readSighting_32a.1) (by decide)).to, ?_⟩
  refine List.forall_mem_cons.mpr ⟨(s_iconst (am_dp pw_X2_readSighting_32 dd_X2_readSighting_32a.2.1) (by decide)).to, ?_⟩
  refine List.forall_mem_cons.mpr ⟨zw_cv44 (am_dp pw_X2_readSighting_32 dd_X2_readSighting_32a.2.2.1) wd690, ?_⟩
  refine List.forall_mem_cons.mpr ⟨(s_istoren (am_dp pw_X2_readSighting_32 dd_X2_readSighting_32a.2.2.2.1) rfl (by decide)).to, ?_⟩
  refine List.forall_mem_cons.mpr ⟨(s_aloadn (am_dp pw_X2_readSighting_32 dd_X2_readSighting_32a.2.2.2.2.1) rfl).to, ?_⟩
  refine List.forall_mem_cons.mpr ⟨zw_cv18 (am_dp pw_X2_readSighting_32 dd_X2_readSighting_32a.2.2.2.2.2.1) wd814, ?_⟩
  refine List.forall_mem_cons.mpr ⟨(s_istoren (am_dp pw_X2_readSighting_32 dd_X2_readSighting_32a.2.2.2.2.2.2.1) rfl (by decide)).to, ?_⟩
  refine List.forall_mem_cons.mpr ⟨(s_aloadn (am_dp pw_X2_readSighting_32 dd_X2_readSighting_32a.2.2.2.2.2.2.2) rfl).to, ?_⟩
  refine List.forall_mem_cons.mpr ⟨(s_bipush (am_dp pw_X2_readSighting_32 dd_X2_readSighting_32b.1) (by decide)).to, ?_⟩
  refine List.forall_mem_cons.mpr ⟨(s_iconst (am_dp pw_X2_readSighting_32 dd_X2_readSighting_32b.2.1) (by decide)).to, ?_⟩
  refine List.forall_mem_cons.mpr ⟨(s_bipush (am_dp pw_X2_readSighting_32 dd_X2_readSighting_32b.2.2.1) (by decide)).to, ?_⟩
  refine List.forall_mem_cons.mpr ⟨zw_cv15 (am_dp pw_X2_readSighting_32 dd_X2_readSighting_32b.2.2.2.1) wd789, ?_⟩
  refine List.forall_mem_cons.mpr ⟨(s_istoren (am_dp pw_X2_readSighting_32 dd_X2_readSighting_32b.2.2.2.2.1) rfl (by decide)).to, ?_⟩
  refine List.forall_mem_cons.mpr ⟨(s_aloadn (am_dp pw_X2_readSighting_32 dd_X2_readSighting_32b.2.2.2.2.2.1) rfl).to, ?_⟩
  refine List.forall_mem_cons.mpr ⟨(s_get (ci := 2) (k := 0) (am_dp pw_X2_readSighting_32 dd_X2_readSighting_32b.2.2.2.2.2.2.1) rfl (by decide) wd467 inX2 rfl).to, ?_⟩
  refine List.forall_mem_cons.mpr ⟨(s_get (ci := 3) (k := 8) (am_dp pw_X2_readSighting_32 dd_X2_readSighting_32b.2.2.2.2.2.2.2) rfl (by decide) wd442 inX3 rfl).to, ?_⟩
  refine List.forall_mem_cons.mpr ⟨(s_if_ne (am_dp pw_X2_readSighting_32 dd_X2_readSighting_32c.1) (by decide)).to, ?_⟩
  refine List.forall_mem_cons.mpr ⟨(s_aloadn (am_dp pw_X2_readSighting_32 dd_X2_readSighting_32c.2) rfl).to, ?_⟩
  refine List.forall_mem_cons.mpr ⟨(s_get (ci := 2) (k := 1) (am_dp pw_X2_readSighting_64 dd_X2_readSighting_64a.1) rfl (by decide) wd469 inX2 rfl).to, ?_⟩
  refine List.forall_mem_cons.mpr ⟨(s_get (ci := 5) (k := 5) (am_dp pw_X2_readSighting_64 dd_X2_readSighting_64a.2.1) rfl (by decide) wd322 inX5 rfl).to, ?_⟩
  refine List.forall_mem_cons.mpr ⟨(s_iloadn (am_dp pw_X2_readSighting_64 dd_X2_readSighting_64a.2.2.1) rfl).to, ?_⟩
  refine List.forall_mem_cons.mpr ⟨(s_iloadn (am_dp pw_X2_readSighting_64 dd_X2_readSighting_64a.2.2.2.1) rfl).to, ?_⟩
  refine List.forall_mem_cons.mpr ⟨(s_iloadn (am_dp pw_X2_readSighting_64 dd_X2_readSighting_64a.2.2.2.2.1) rfl).to, ?_⟩
  refine List.forall_mem_cons.mpr ⟨zw_cv71 (am_dp pw_X2_readSighting_64 dd_X2_readSighting_64a.2.2.2.2.2.1) wd838, ?_⟩
  refine List.forall_mem_cons.mpr ⟨s_vret (am_dp pw_X2_readSighting_64 dd_X2_readSighting_64a.2.2.2.2.2.2) rfl, ?_⟩
  exact fun _ h => absurd h List.not_mem_nil
theorem sn_tX2_readTest : ∀ q ∈ tX2_readTest, am_Snd am_P0 RX2 cX2_readTest 3 (Option.none : Option FieldType) "readTest" q.1 q.2 := by
  unfold tX2_readTest
  refine List.forall_mem_cons.mpr ⟨(s_aloadn (am_dp pw_X2_readTest_0 dd_X2_readTest_0a.1) rfl).to, ?_⟩
  refine List.forall_mem_cons.mpr ⟨(s_iloadn (am_dp pw_X2_readTest_0 dd_X2_readTest_0a.2.1) rfl).to, ?_⟩
  refine List.forall_mem_cons.mpr ⟨zw_cv23 (am_dp pw_X2_readTest_0 dd_X2_readTest_0a.2.2.1) wd760, ?_⟩
  refine List.forall_mem_cons.mpr ⟨(s_iconst (am_dp pw_X2_readTest_0 dd_X2_readTest_0a.2.2.2.1) (by decide)).to, ?_⟩
  refine List.forall_mem_cons.mpr ⟨(s_istoren (am_dp pw_X2_readTest_0 dd_X2_readTest_0a.2.2.2.2.1) rfl (by decide)).to, ?_⟩
  refine List.forall_mem_cons.mpr ⟨(s_iloadn (am_dp pw_X2_readTest_0 dd_X2_readTest_0a.2.2.2.2.2.1) rfl).to, ?_⟩
  refine List.forall_mem_cons.mpr ⟨(s_sipush (am_dp pw_X2_readTest_0 dd_X2_readTest_0a.2.2.2.2.2.2.1) (by decide)).to, ?_⟩
  refine List.forall_mem_cons.mpr ⟨(s_icmp_ge (am_dp pw_X2_readTest_0 dd_X2_readTest_0a.2.2.2.2.2.2.2) (by decide)).to, ?_⟩
  refine List.forall_mem_cons.mpr ⟨(s_aloadn (am_dp pw_X2_readTest_0 dd_X2_readTest_0b.1) rfl).to, ?_⟩
  refine List.forall_mem_cons.mpr ⟨(s_get (ci := 2) (k := 0) (am_dp pw_X2_readTest_0 dd_X2_readTest_0b.2.1) rfl (by decide) wd467 inX2 rfl).to, ?_⟩
  refine List.forall_mem_cons.mpr ⟨(s_get (ci := 3) (k := 6) (am_dp pw_X2_readTest_0 dd_X2_readTest_0b.2.2.1) rfl (by decide) wd437 inX3 rfl).to, ?_⟩
  refine List.forall_mem_cons.mpr ⟨(s_bipush (am_dp pw_X2_readTest_0 dd_X2_readTest_0b.2.2.2.1) (by decide)).to, ?_⟩
  refine List.forall_mem_cons.mpr ⟨(s_icmp_ne (am_dp pw_X2_readTest_0 dd_X2_readTest_0b.2.2.2.2.1) (by decide)).to, ?_⟩
  refine List.forall_mem_cons.mpr ⟨(s_aloadn (am_dp pw_X2_readTest_0 dd_X2_readTest_0b.2.2.2.2.2.1) rfl).to, ?_⟩
  refine List.forall_mem_cons.mpr ⟨(s_get (ci := 2) (k := 0) (am_dp pw_X2_readTest_0 dd_X2_readTest_0b.2.2.2.2.2.2.1) rfl (by decide) wd467 inX2 rfl).to, ?_⟩
  refine List.forall_mem_cons.mpr ⟨zw_cv35 (am_dp pw_X2_readTest_0 dd_X2_readTest_0b.2.2.2.2.2.2.2) wd689, ?_⟩
  refine List.forall_mem_cons.mpr ⟨(s_aloadn (am_dp pw_X2_readTest_32 dd_X2_readTest_32a.1) rfl).to, ?_⟩
  refine List.forall_mem_cons.mpr ⟨(s_iloadn (am_dp pw_X2_readTest_32 dd_X2_readTest_32a.2.1) rfl).to, ?_⟩
  refine List.forall_mem_cons.mpr ⟨zw_cv23 (am_dp pw_X2_readTest_32 dd_X2_readTest_32a.2.2.1) wd760, ?_⟩
  refine List.forall_mem_cons.mpr ⟨(s_aloadn (am_dp pw_X2_readTest_32 dd_X2_readTest_32a.2.2.2.1) rfl).to, ?_⟩
  refine List.forall_mem_cons.mpr ⟨(s_get (ci := 2) (k := 1) (am_dp pw_X2_readTest_32 dd_X2_readTest_32a.2.2.2.2.1) rfl (by decide) wd469 inX2 rfl).to, ?_⟩
  refine List.forall_mem_cons.mpr ⟨(s_get (ci := 5) (k := 6) (am_dp pw_X2_readTest_32 dd_X2_readTest_32a.2.2.2.2.2.1) rfl (by decide) wd324 inX5 rfl).to, ?_⟩
  refine List.forall_mem_cons.mpr ⟨(s_bipush (am_dp pw_X2_readTest_32 dd_X2_readTest_32a.2.2.2.2.2.2.1) (by decide)).to, ?_⟩
  refine List.forall_mem_cons.mpr ⟨zw_cv1 (am_dp pw_X2_readTest_32 dd_X2_readTest_32a.2.2.2.2.2.2.2) wd727, ?_⟩
  refine List.forall_mem_cons.mpr ⟨(s_iinc (am_dp pw_X2_readTest_32 dd_X2_readTest_32b.1) (by decide) (by decide)).to, ?_⟩
  refine List.forall_mem_cons.mpr ⟨(s_goto (am_dp pw_X2_readTest_32 dd_X2_readTest_32b.2.1) (by decide)).to, ?_⟩
  refine List.forall_mem_cons.mpr ⟨s_vret (am_dp pw_X2_readTest_32 dd_X2_readTest_32b.2.2) rfl, ?_⟩
  exact fun _ h => absurd h List.not_mem_nil
theorem sn_tX2_readBoth : ∀ q ∈ tX2_readBoth, am_Snd am_P0 RX2 cX2_readBoth 3 (Option.none : Option FieldType) "readBoth" q.1 q.2 := by
  unfold tX2_readBoth
  refine List.forall_mem_cons.mpr ⟨(s_aloadn (am_dp pw_X2_readBoth_0 dd_X2_readBoth_0a.1) rfl).to, ?_⟩
  refine List.forall_mem_cons.mpr ⟨(s_iloadn (am_dp pw_X2_readBoth_0 dd_X2_readBoth_0a.2.1) rfl).to, ?_⟩
  refine List.forall_mem_cons.mpr ⟨zw_cv24 (am_dp pw_X2_readBoth_0 dd_X2_readBoth_0a.2.2.1) wd764, ?_⟩
  refine List.forall_mem_cons.mpr ⟨(s_iconst (am_dp pw_X2_readBoth_0 dd_X2_readBoth_0a.2.2.2.1) (by decide)).to, ?_⟩
  refine List.forall_mem_cons.mpr ⟨(s_istoren (am_dp pw_X2_readBoth_0 dd_X2_readBoth_0a.2.2.2.2.1) rfl (by decide)).to, ?_⟩
  refine List.forall_mem_cons.mpr ⟨(s_iloadn (am_dp pw_X2_readBoth_0 dd_X2_readBoth_0a.2.2.2.2.2.1) rfl).to, ?_⟩
  refine List.forall_mem_cons.mpr ⟨(s_sipush (am_dp pw_X2_readBoth_0 dd_X2_readBoth_0a.2.2.2.2.2.2.1) (by decide)).to, ?_⟩
  refine List.forall_mem_cons.mpr ⟨(s_icmp_ge (am_dp pw_X2_readBoth_0 dd_X2_readBoth_0a.2.2.2.2.2.2.2) (by decide)).to, ?_⟩
  refine List.forall_mem_cons.mpr ⟨(s_aloadn (am_dp pw_X2_readBoth_0 dd_X2_readBoth_0b.1) rfl).to, ?_⟩
  refine List.forall_mem_cons.mpr ⟨(s_get (ci := 2) (k := 0) (am_dp pw_X2_readBoth_0 dd_X2_readBoth_0b.2.1) rfl (by decide) wd467 inX2 rfl).to, ?_⟩
  refine List.forall_mem_cons.mpr ⟨(s_get (ci := 3) (k := 6) (am_dp pw_X2_readBoth_0 dd_X2_readBoth_0b.2.2.1) rfl (by decide) wd437 inX3 rfl).to, ?_⟩
  refine List.forall_mem_cons.mpr ⟨(s_bipush (am_dp pw_X2_readBoth_0 dd_X2_readBoth_0b.2.2.2.1) (by decide)).to, ?_⟩
  refine List.forall_mem_cons.mpr ⟨(s_icmp_ne (am_dp pw_X2_readBoth_0 dd_X2_readBoth_0b.2.2.2.2.1) (by decide)).to, ?_⟩
  refine List.forall_mem_cons.mpr ⟨(s_aloadn (am_dp pw_X2_readBoth_0 dd_X2_readBoth_0b.2.2.2.2.2.1) rfl).to, ?_⟩
  refine List.forall_mem_cons.mpr ⟨(s_get (ci := 2) (k := 0) (am_dp pw_X2_readBoth_0 dd_X2_readBoth_0b.2.2.2.2.2.2.1) rfl (by decide) wd467 inX2 rfl).to, ?_⟩
  refine List.forall_mem_cons.mpr ⟨zw_cv35 (am_dp pw_X2_readBoth_0 dd_X2_readBoth_0b.2.2.2.2.2.2.2) wd689, ?_⟩
  refine List.forall_mem_cons.mpr ⟨(s_aloadn (am_dp pw_X2_readBoth_32 dd_X2_readBoth_32a.1) rfl).to, ?_⟩
  refine List.forall_mem_cons.mpr ⟨(s_iloadn (am_dp pw_X2_readBoth_32 dd_X2_readBoth_32a.2.1) rfl).to, ?_⟩
  refine List.forall_mem_cons.mpr ⟨zw_cv24 (am_dp pw_X2_readBoth_32 dd_X2_readBoth_32a.2.2.1) wd764, ?_⟩
  refine List.forall_mem_cons.mpr ⟨(s_aloadn (am_dp pw_X2_readBoth_32 dd_X2_readBoth_32a.2.2.2.1) rfl).to, ?_⟩
  refine List.forall_mem_cons.mpr ⟨(s_get (ci := 2) (k := 1) (am_dp pw_X2_readBoth_32 dd_X2_readBoth_32a.2.2.2.2.1) rfl (by decide) wd469 inX2 rfl).to, ?_⟩
  refine List.forall_mem_cons.mpr ⟨(s_get (ci := 5) (k := 6) (am_dp pw_X2_readBoth_32 dd_X2_readBoth_32a.2.2.2.2.2.1) rfl (by decide) wd324 inX5 rfl).to, ?_⟩
  refine List.forall_mem_cons.mpr ⟨(s_bipush (am_dp pw_X2_readBoth_32 dd_X2_readBoth_32a.2.2.2.2.2.2.1) (by decide)).to, ?_⟩
  refine List.forall_mem_cons.mpr ⟨zw_cv1 (am_dp pw_X2_readBoth_32 dd_X2_readBoth_32a.2.2.2.2.2.2.2) wd727, ?_⟩
  refine List.forall_mem_cons.mpr ⟨(s_iinc (am_dp pw_X2_readBoth_32 dd_X2_readBoth_32b.1) (by decide) (by decide)).to, ?_⟩
  refine List.forall_mem_cons.mpr ⟨(s_goto (am_dp pw_X2_readBoth_32 dd_X2_readBoth_32b.2.1) (by decide)).to, ?_⟩
  refine List.forall_mem_cons.mpr ⟨s_vret (am_dp pw_X2_readBoth_32 dd_X2_readBoth_32b.2.2) rfl, ?_⟩
  exact fun _ h => absurd h List.not_mem_nil
theorem sn_tX2_readFact_0 : ∀ q ∈ tX2_readFact_0, am_Snd am_P0 RX2 cX2_readFact 4 (Option.none : Option FieldType) "readFact" q.1 q.2 := by
  unfold tX2_readFact_0
  refine List.forall_mem_cons.mpr ⟨(s_iconst (am_dp pw_X2_readFact_0 dd_X2_readFact_0a.1) (by decide)).to, ?_⟩
  refine List.forall_mem_cons.mpr ⟨(s_istoren (am_dp pw_X2_readFact_0 dd_X2_readFact_0a.2.1) rfl (by decide)).to, ?_⟩
  refine List.forall_mem_cons.mpr ⟨(s_iconst (am_dp pw_X2_readFact_0 dd_X2_readFact_0a.2.2.1) (by decide)).to, ?_⟩
  refine List.forall_mem_cons.mpr ⟨(s_istoren (am_dp pw_X2_readFact_0 dd_X2_readFact_0a.2.2.2.1) rfl (by decide)).to, ?_⟩
  refine List.forall_mem_cons.mpr ⟨(s_iloadn (am_dp pw_X2_readFact_0 dd_X2_readFact_0a.2.2.2.2.1) rfl).to, ?_⟩
  refine List.forall_mem_cons.mpr ⟨(s_sipush (am_dp pw_X2_readFact_0 dd_X2_readFact_0a.2.2.2.2.2.1) (by decide)).to, ?_⟩
  refine List.forall_mem_cons.mpr ⟨(s_icmp_ge (am_dp pw_X2_readFact_0 dd_X2_readFact_0a.2.2.2.2.2.2.1) (by decide)).to, ?_⟩
  refine List.forall_mem_cons.mpr ⟨(s_aloadn (am_dp pw_X2_readFact_0 dd_X2_readFact_0a.2.2.2.2.2.2.2) rfl).to, ?_⟩
  refine List.forall_mem_cons.mpr ⟨(s_get (ci := 2) (k := 0) (am_dp pw_X2_readFact_0 dd_X2_readFact_0b.1) rfl (by decide) wd467 inX2 rfl).to, ?_⟩
  refine List.forall_mem_cons.mpr ⟨(s_get (ci := 3) (k := 6) (am_dp pw_X2_readFact_0 dd_X2_readFact_0b.2.1) rfl (by decide) wd437 inX3 rfl).to, ?_⟩
  refine List.forall_mem_cons.mpr ⟨(s_bipush (am_dp pw_X2_readFact_0 dd_X2_readFact_0b.2.2.1) (by decide)).to, ?_⟩
  refine List.forall_mem_cons.mpr ⟨(s_icmp_ne (am_dp pw_X2_readFact_0 dd_X2_readFact_0b.2.2.2.1) (by decide)).to, ?_⟩
  refine List.forall_mem_cons.mpr ⟨(s_aloadn (am_dp pw_X2_readFact_0 dd_X2_readFact_0b.2.2.2.2.1) rfl).to, ?_⟩
  refine List.forall_mem_cons.mpr ⟨(s_get (ci := 2) (k := 0) (am_dp pw_X2_readFact_0 dd_X2_readFact_0b.2.2.2.2.2.1) rfl (by decide) wd467 inX2 rfl).to, ?_⟩
  refine List.forall_mem_cons.mpr ⟨zw_cv35 (am_dp pw_X2_readFact_0 dd_X2_readFact_0b.2.2.2.2.2.2.1) wd689, ?_⟩
  refine List.forall_mem_cons.mpr ⟨(s_iloadn (am_dp pw_X2_readFact_0 dd_X2_readFact_0b.2.2.2.2.2.2.2) rfl).to, ?_⟩
  refine List.forall_mem_cons.mpr ⟨(s_if_ne (am_dp pw_X2_readFact_0 dd_X2_readFact_0c) (by decide)).to, ?_⟩
  refine List.forall_mem_cons.mpr ⟨(s_iconst (am_dp pw_X2_readFact_32 dd_X2_readFact_32a.1) (by decide)).to, ?_⟩
  refine List.forall_mem_cons.mpr ⟨(s_goto (am_dp pw_X2_readFact_32 dd_X2_readFact_32a.2.1) (by decide)).to, ?_⟩
  refine List.forall_mem_cons.mpr ⟨(s_iconst (am_dp pw_X2_readFact_32 dd_X2_readFact_32a.2.2.1) (by decide)).to, ?_⟩
  refine List.forall_mem_cons.mpr ⟨(s_istoren (am_dp pw_X2_readFact_32 dd_X2_readFact_32a.2.2.2.1) rfl (by decide)).to, ?_⟩
  refine List.forall_mem_cons.mpr ⟨(s_iinc (am_dp pw_X2_readFact_32 dd_X2_readFact_32a.2.2.2.2.1) (by decide) (by decide)).to, ?_⟩
  refine List.forall_mem_cons.mpr ⟨(s_goto (am_dp pw_X2_readFact_32 dd_X2_readFact_32a.2.2.2.2.2.1) (by decide)).to, ?_⟩
  refine List.forall_mem_cons.mpr ⟨(s_aloadn (am_dp pw_X2_readFact_32 dd_X2_readFact_32a.2.2.2.2.2.2.1) rfl).to, ?_⟩
  refine List.forall_mem_cons.mpr ⟨(s_get (ci := 2) (k := 0) (am_dp pw_X2_readFact_32 dd_X2_readFact_32a.2.2.2.2.2.2.2) rfl (by decide) wd467 inX2 rfl).to, ?_⟩
  refine List.forall_mem_cons.mpr ⟨(s_bipush (am_dp pw_X2_readFact_32 dd_X2_readFact_32b.1) (by decide)).to, ?_⟩
  refine List.forall_mem_cons.mpr ⟨zw_cv40 (am_dp pw_X2_readFact_32 dd_X2_readFact_32b.2.1) wd731, ?_⟩
  refine List.forall_mem_cons.mpr ⟨(s_if_eq (am_dp pw_X2_readFact_32 dd_X2_readFact_32b.2.2.1) (by decide)).to, ?_⟩
  refine List.forall_mem_cons.mpr ⟨(s_aloadn (am_dp pw_X2_readFact_32 dd_X2_readFact_32b.2.2.2.1) rfl).to, ?_⟩
  refine List.forall_mem_cons.mpr ⟨(s_bipush (am_dp pw_X2_readFact_32 dd_X2_readFact_32b.2.2.2.2.1) (by decide)).to, ?_⟩
  refine List.forall_mem_cons.mpr ⟨(s_iloadn (am_dp pw_X2_readFact_32 dd_X2_readFact_32b.2.2.2.2.2.1) rfl).to, ?_⟩
  refine List.forall_mem_cons.mpr ⟨zw_cv32 (am_dp pw_X2_readFact_32 dd_X2_readFact_32b.2.2.2.2.2.2) wd735, ?_⟩
  refine List.forall_mem_cons.mpr ⟨(s_if_eq (am_dp pw_X2_readFact_64 dd_X2_readFact_64a.1) (by decide)).to, ?_⟩
  refine List.forall_mem_cons.mpr ⟨(s_aloadn (am_dp pw_X2_readFact_64 dd_X2_readFact_64a.2.1) rfl).to, ?_⟩
  refine List.forall_mem_cons.mpr ⟨(s_iloadn (am_dp pw_X2_readFact_64 dd_X2_readFact_64a.2.2.1) rfl).to, ?_⟩
  refine List.forall_mem_cons.mpr ⟨(s_iconst (am_dp pw_X2_readFact_64 dd_X2_readFact_64a.2.2.2.1) (by decide)).to, ?_⟩
  refine List.forall_mem_cons.mpr ⟨(s_iadd (am_dp pw_X2_readFact_64 dd_X2_readFact_64a.2.2.2.2.1)).to, ?_⟩
  refine List.forall_mem_cons.mpr ⟨zw_cv22 (am_dp pw_X2_readFact_64 dd_X2_readFact_64a.2.2.2.2.2.1) wd756, ?_⟩
  refine List.forall_mem_cons.mpr ⟨(s_aloadn (am_dp pw_X2_readFact_64 dd_X2_readFact_64a.2.2.2.2.2.2.1) rfl).to, ?_⟩
  refine List.forall_mem_cons.mpr ⟨(s_get (ci := 2) (k := 0) (am_dp pw_X2_readFact_64 dd_X2_readFact_64a.2.2.2.2.2.2.2) rfl (by decide) wd467 inX2 rfl).to, ?_⟩
  refine List.forall_mem_cons.mpr ⟨(s_bipush (am_dp pw_X2_readFact_64 dd_X2_readFact_64b.1) (by decide)).to, ?_⟩
  refine List.forall_mem_cons.mpr ⟨zw_cv41 (am_dp pw_X2_readFact_64 dd_X2_readFact_64b.2.1) wd739, ?_⟩
  refine List.forall_mem_cons.mpr ⟨(s_goto (am_dp pw_X2_readFact_64 dd_X2_readFact_64b.2.2.1) (by decide)).to, ?_⟩
  refine List.forall_mem_cons.mpr ⟨(s_aloadn (am_dp pw_X2_readFact_64 dd_X2_readFact_64b.2.2.2.1) rfl).to, ?_⟩
  refine List.forall_mem_cons.mpr ⟨(s_get (ci := 2) (k := 0) (am_dp pw_X2_readFact_64 dd_X2_readFact_64b.2.2.2.2.1) rfl (by decide) wd467 inX2 rfl).to, ?_⟩
  refine List.forall_mem_cons.mpr ⟨(s_get (ci := 3) (k := 6) (am_dp pw_X2_readFact_64 dd_X2_readFact_64b.2.2.2.2.2.1) rfl (by decide) wd437 inX3 rfl).to, ?_⟩
  refine List.forall_mem_cons.mpr ⟨(s_bipush (am_dp pw_X2_readFact_64 dd_X2_readFact_64b.2.2.2.2.2.2) (by decide)).to, ?_⟩
  refine List.forall_mem_cons.mpr ⟨(s_icmp_ne (am_dp pw_X2_readFact_96 dd_X2_readFact_96a.1) (by decide)).to, ?_⟩
  refine List.forall_mem_cons.mpr ⟨(s_aloadn (am_dp pw_X2_readFact_96 dd_X2_readFact_96a.2.1) rfl).to, ?_⟩
  refine List.forall_mem_cons.mpr ⟨(s_get (ci := 2) (k := 0) (am_dp pw_X2_readFact_96 dd_X2_readFact_96a.2.2.1) rfl (by decide) wd467 inX2 rfl).to, ?_⟩
  refine List.forall_mem_cons.mpr ⟨zw_cv35 (am_dp pw_X2_readFact_96 dd_X2_readFact_96a.2.2.2.1) wd689, ?_⟩
  refine List.forall_mem_cons.mpr ⟨(s_aloadn (am_dp pw_X2_readFact_96 dd_X2_readFact_96a.2.2.2.2.1) rfl).to, ?_⟩
  refine List.forall_mem_cons.mpr ⟨(s_get (ci := 2) (k := 1) (am_dp pw_X2_readFact_96 dd_X2_readFact_96a.2.2.2.2.2.1) rfl (by decide) wd469 inX2 rfl).to, ?_⟩
  refine List.forall_mem_cons.mpr ⟨(s_get (ci := 5) (k := 6) (am_dp pw_X2_readFact_96 dd_X2_readFact_96a.2.2.2.2.2.2.1) rfl (by decide) wd324 inX5 rfl).to, ?_⟩
  refine List.forall_mem_cons.mpr ⟨(s_iconst (am_dp pw_X2_readFact_96 dd_X2_readFact_96a.2.2.2.2.2.2.2) (by decide)).to, ?_⟩
  refine List.forall_mem_cons.mpr ⟨zw_cv1 (am_dp pw_X2_readFact_96 dd_X2_readFact_96b.1) wd727, ?_⟩
  refine List.forall_mem_cons.mpr ⟨(s_goto (am_dp pw_X2_readFact_96 dd_X2_readFact_96b.2.1) (by decide)).to, ?_⟩
  refine List.forall_mem_cons.mpr ⟨(s_aloadn (am_dp pw_X2_readFact_96 dd_X2_readFact_96b.2.2.1) rfl).to, ?_⟩
  refine List.forall_mem_cons.mpr ⟨(s_iloadn (am_dp pw_X2_readFact_96 dd_X2_readFact_96b.2.2.2.1) rfl).to, ?_⟩
  refine List.forall_mem_cons.mpr ⟨zw_cv26 (am_dp pw_X2_readFact_96 dd_X2_readFact_96b.2.2.2.2.1) wd711, ?_⟩
  exact fun _ h => absurd h List.not_mem_nil
theorem sn_tX2_readFact_1 : ∀ q ∈ tX2_readFact_1, am_Snd am_P0 RX2 cX2_readFact 4 (Option.none : Option FieldType) "readFact" q.1 q.2 := by
  unfold tX2_readFact_1
  refine List.forall_mem_cons.mpr ⟨(s_aloadn (am_dp pw_X2_readFact_96 dd_X2_readFact_96b.2.2.2.2.2.1) rfl).to, ?_⟩
  refine List.forall_mem_cons.mpr ⟨zw_cv25 (am_dp pw_X2_readFact_96 dd_X2_readFact_96b.2.2.2.2.2.2) wd768, ?_⟩
  refine List.forall_mem_cons.mpr ⟨(s_istoren (am_dp pw_X2_readFact_128 dd_X2_readFact_128a.1) rfl (by decide)).to, ?_⟩
  refine List.forall_mem_cons.mpr ⟨(s_aloadn (am_dp pw_X2_readFact_128 dd_X2_readFact_128a.2.1) rfl).to, ?_⟩
  refine List.forall_mem_cons.mpr ⟨(s_iloadn (am_dp pw_X2_readFact_128 dd_X2_readFact_128a.2.2.1) rfl).to, ?_⟩
  refine List.forall_mem_cons.mpr ⟨zw_cv26 (am_dp pw_X2_readFact_128 dd_X2_readFact_128a.2.2.2.1) wd711, ?_⟩
  refine List.forall_mem_cons.mpr ⟨(s_aloadn (am_dp pw_X2_readFact_128 dd_X2_readFact_128a.2.2.2.2.1) rfl).to, ?_⟩
  refine List.forall_mem_cons.mpr ⟨(s_get (ci := 2) (k := 1) (am_dp pw_X2_readFact_128 dd_X2_readFact_128a.2.2.2.2.2.1) rfl (by decide) wd469 inX2 rfl).to, ?_⟩
  refine List.forall_mem_cons.mpr ⟨(s_get (ci := 5) (k := 6) (am_dp pw_X2_readFact_128 dd_X2_readFact_128a.2.2.2.2.2.2.1) rfl (by decide) wd324 inX5 rfl).to, ?_⟩
  refine List.forall_mem_cons.mpr ⟨(s_iloadn (am_dp pw_X2_readFact_128 dd_X2_readFact_128a.2.2.2.2.2.2.2) rfl).to, ?_⟩
  refine List.forall_mem_cons.mpr ⟨zw_cv1 (am_dp pw_X2_readFact_128 dd_X2_readFact_128b.1) wd727, ?_⟩
  refine List.forall_mem_cons.mpr ⟨(s_iloadn (am_dp pw_X2_readFact_128 dd_X2_readFact_128b.2.1) rfl).to, ?_⟩
  refine List.forall_mem_cons.mpr ⟨(s_if_eq (am_dp pw_X2_readFact_128 dd_X2_readFact_128b.2.2.1) (by decide)).to, ?_⟩
  refine List.forall_mem_cons.mpr ⟨(s_aloadn (am_dp pw_X2_readFact_128 dd_X2_readFact_128b.2.2.2.1) rfl).to, ?_⟩
  refine List.forall_mem_cons.mpr ⟨(s_get (ci := 2) (k := 1) (am_dp pw_X2_readFact_128 dd_X2_readFact_128b.2.2.2.2.1) rfl (by decide) wd469 inX2 rfl).to, ?_⟩
  refine List.forall_mem_cons.mpr ⟨(s_get (ci := 5) (k := 6) (am_dp pw_X2_readFact_128 dd_X2_readFact_128b.2.2.2.2.2.1) rfl (by decide) wd324 inX5 rfl).to, ?_⟩
  refine List.forall_mem_cons.mpr ⟨(s_bipush (am_dp pw_X2_readFact_128 dd_X2_readFact_128b.2.2.2.2.2.2.1) (by decide)).to, ?_⟩
  refine List.forall_mem_cons.mpr ⟨zw_cv1 (am_dp pw_X2_readFact_128 dd_X2_readFact_128b.2.2.2.2.2.2.2) wd727, ?_⟩
  refine List.forall_mem_cons.mpr ⟨s_vret (am_dp pw_X2_readFact_160 dd_X2_readFact_160a) rfl, ?_⟩
  exact fun _ h => absurd h List.not_mem_nil
theorem sn_tX2_readFact : ∀ q ∈ tX2_readFact, am_Snd am_P0 RX2 cX2_readFact 4 (Option.none : Option FieldType) "readFact" q.1 q.2 := by
  unfold tX2_readFact
  exact List.forall_mem_append.mpr ⟨sn_tX2_readFact_0, sn_tX2_readFact_1⟩
theorem sn_tX2_takeComparison : ∀ q ∈ tX2_takeComparison, am_Snd am_P0 RX2 cX2_takeComparison 1 (Option.some FieldType.int) "takeComparison" q.1 q.2 := by
  unfold tX2_takeComparison
  refine List.forall_mem_cons.mpr ⟨(s_aloadn (am_dp pw_X2_takeComparison_0 dd_X2_takeComparison_0a.1) rfl).to, ?_⟩
  refine List.forall_mem_cons.mpr ⟨(s_get (ci := 2) (k := 0) (am_dp pw_X2_takeComparison_0 dd_X2_takeComparison_0a.2.1) rfl (by decide) wd467 inX2 rfl).to, ?_⟩
  refine List.forall_mem_cons.mpr ⟨(s_bipush (am_dp pw_X2_takeComparison_0 dd_X2_takeComparison_0a.2.2.1) (by decide)).to, ?_⟩
  refine List.forall_mem_cons.mpr ⟨zw_cv40 (am_dp pw_X2_takeComparison_0 dd_X2_takeComparison_0a.2.2.2.1) wd731, ?_⟩
  refine List.forall_mem_cons.mpr ⟨(s_if_eq (am_dp pw_X2_takeComparison_0 dd_X2_takeComparison_0a.2.2.2.2.1) (by decide)).to, ?_⟩
  refine List.forall_mem_cons.mpr ⟨(s_aloadn (am_dp pw_X2_takeComparison_0 dd_X2_takeComparison_0a.2.2.2.2.2.1) rfl).to, ?_⟩
  refine List.forall_mem_cons.mpr ⟨(s_get (ci := 2) (k := 0) (am_dp pw_X2_takeComparison_0 dd_X2_takeComparison_0a.2.2.2.2.2.2.1) rfl (by decide) wd467 inX2 rfl).to, ?_⟩
  refine List.forall_mem_cons.mpr ⟨zw_cv35 (am_dp pw_X2_takeComparison_0 dd_X2_takeComparison_0a.2.2.2.2.2.2.2) wd689, ?_⟩
  refine List.forall_mem_cons.mpr ⟨(s_bipush (am_dp pw_X2_takeComparison_0 dd_X2_takeComparison_0b.1) (by decide)).to, ?_⟩
  refine List.forall_mem_cons.mpr ⟨s_iret (am_dp pw_X2_takeComparison_0 dd_X2_takeComparison_0b.2.1) rfl, ?_⟩
  refine List.forall_mem_cons.mpr ⟨(s_aloadn (am_dp pw_X2_takeComparison_0 dd_X2_takeComparison_0b.2.2.1) rfl).to, ?_⟩
  refine List.forall_mem_cons.mpr ⟨(s_get (ci := 2) (k := 0) (am_dp pw_X2_takeComparison_0 dd_X2_takeComparison_0b.2.2.2.1) rfl (by decide) wd467 inX2 rfl).to, ?_⟩
  refine List.forall_mem_cons.mpr ⟨(s_bipush (am_dp pw_X2_takeComparison_0 dd_X2_takeComparison_0b.2.2.2.2.1) (by decide)).to, ?_⟩
  refine List.forall_mem_cons.mpr ⟨zw_cv40 (am_dp pw_X2_takeComparison_0 dd_X2_takeComparison_0b.2.2.2.2.2.1) wd731, ?_⟩
  refine List.forall_mem_cons.mpr ⟨(s_if_eq (am_dp pw_X2_takeComparison_0 dd_X2_takeComparison_0b.2.2.2.2.2.2) (by decide)).to, ?_⟩
  refine List.forall_mem_cons.mpr ⟨(s_aloadn (am_dp pw_X2_takeComparison_32 dd_X2_takeComparison_32a.1) rfl).to, ?_⟩
  refine List.forall_mem_cons.mpr ⟨(s_get (ci := 2) (k := 0) (am_dp pw_X2_takeComparison_32 dd_X2_takeComparison_32a.2.1) rfl (by decide) wd467 inX2 rfl).to, ?_⟩
  refine List.forall_mem_cons.mpr ⟨zw_cv35 (am_dp pw_X2_takeComparison_32 dd_X2_takeComparison_32a.2.2.1) wd689, ?_⟩
  refine List.forall_mem_cons.mpr ⟨(s_bipush (am_dp pw_X2_takeComparison_32 dd_X2_takeComparison_32a.2.2.2.1) (by decide)).to, ?_⟩
  refine List.forall_mem_cons.mpr ⟨s_iret (am_dp pw_X2_takeComparison_32 dd_X2_takeComparison_32a.2.2.2.2.1) rfl, ?_⟩
  refine List.forall_mem_cons.mpr ⟨(s_aloadn (am_dp pw_X2_takeComparison_32 dd_X2_takeComparison_32a.2.2.2.2.2.1) rfl).to, ?_⟩
  refine List.forall_mem_cons.mpr ⟨(s_get (ci := 2) (k := 0) (am_dp pw_X2_takeComparison_32 dd_X2_takeComparison_32a.2.2.2.2.2.2.1) rfl (by decide) wd467 inX2 rfl).to, ?_⟩
  refine List.forall_mem_cons.mpr ⟨(s_bipush (am_dp pw_X2_takeComparison_32 dd_X2_takeComparison_32a.2.2.2.2.2.2.2) (by decide)).to, ?_⟩
  refine List.forall_mem_cons.mpr ⟨zw_cv41 (am_dp pw_X2_takeComparison_32 dd_X2_takeComparison_32b.1) wd739, ?_⟩
  refine List.forall_mem_cons.mpr ⟨(s_bipush (am_dp pw_X2_takeComparison_32 dd_X2_takeComparison_32b.2.1) (by decide)).to, ?_⟩
  refine List.forall_mem_cons.mpr ⟨s_iret (am_dp pw_X2_takeComparison_32 dd_X2_takeComparison_32b.2.2) rfl, ?_⟩
  exact fun _ h => absurd h List.not_mem_nil
