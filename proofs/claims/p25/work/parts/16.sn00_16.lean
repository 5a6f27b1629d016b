/-! 16.sn00 16.sn01 16.sn01z 16.sn02 16.sn03 16.sn04 16.sn05 -/
section
/-! the machine follows each instruction (by program: gen_prog.py) -/
theorem sn_tJ13_bitCount_95d88 : ∀ q ∈ tJ13_bitCount_95d88, am_Snd am_P0 RJ13 cJ13_bitCount_95d88 2 (Option.some FieldType.int) "bitCount" q.1 q.2 := by
  unfold tJ13_bitCount_95d88
  refine List.forall_mem_cons.mpr ⟨(s_lloadn (am_dp pw_J13_bitCount_95d88_0 dd_J13_bitCount_95d88_0a.1) rfl).to, ?_⟩
  refine List.forall_mem_cons.mpr ⟨(s_lloadn (am_dp pw_J13_bitCount_95d88_0 dd_J13_bitCount_95d88_0a.2.1) rfl).to, ?_⟩
  refine List.forall_mem_cons.mpr ⟨(s_iconst (am_dp pw_J13_bitCount_95d88_0 dd_J13_bitCount_95d88_0a.2.2.1) (by decide)).to, ?_⟩
  refine List.forall_mem_cons.mpr ⟨(s_lushr (am_dp pw_J13_bitCount_95d88_0 dd_J13_bitCount_95d88_0a.2.2.2.1)).to, ?_⟩
  refine List.forall_mem_cons.mpr ⟨(s_ldc2 (am_dp pw_J13_bitCount_95d88_0 dd_J13_bitCount_95d88_0a.2.2.2.2.1) wd1075).to, ?_⟩
  refine List.forall_mem_cons.mpr ⟨(s_land (am_dp pw_J13_bitCount_95d88_0 dd_J13_bitCount_95d88_0a.2.2.2.2.2.1)).to, ?_⟩
  refine List.forall_mem_cons.mpr ⟨(s_lsub (am_dp pw_J13_bitCount_95d88_0 dd_J13_bitCount_95d88_0a.2.2.2.2.2.2.1)).to, ?_⟩
  refine List.forall_mem_cons.mpr ⟨(s_lstoren (am_dp pw_J13_bitCount_95d88_0 dd_J13_bitCount_95d88_0a.2.2.2.2.2.2.2) rfl (by decide)).to, ?_⟩
  refine List.forall_mem_cons.mpr ⟨(s_lloadn (am_dp pw_J13_bitCount_95d88_0 dd_J13_bitCount_95d88_0b.1) rfl).to, ?_⟩
  refine List.forall_mem_cons.mpr ⟨(s_ldc2 (am_dp pw_J13_bitCount_95d88_0 dd_J13_bitCount_95d88_0b.2.1) wd1076).to, ?_⟩
  refine List.forall_mem_cons.mpr ⟨(s_land (am_dp pw_J13_bitCount_95d88_0 dd_J13_bitCount_95d88_0b.2.2.1)).to, ?_⟩
  refine List.forall_mem_cons.mpr ⟨(s_lloadn (am_dp pw_J13_bitCount_95d88_0 dd_J13_bitCount_95d88_0b.2.2.2.1) rfl).to, ?_⟩
  refine List.forall_mem_cons.mpr ⟨(s_iconst (am_dp pw_J13_bitCount_95d88_0 dd_J13_bitCount_95d88_0b.2.2.2.2.1) (by decide)).to, ?_⟩
  refine List.forall_mem_cons.mpr ⟨(s_lushr (am_dp pw_J13_bitCount_95d88_0 dd_J13_bitCount_95d88_0b.2.2.2.2.2.1)).to, ?_⟩
  refine List.forall_mem_cons.mpr ⟨(s_ldc2 (am_dp pw_J13_bitCount_95d88_0 dd_J13_bitCount_95d88_0b.2.2.2.2.2.2.1) wd1076).to, ?_⟩
  refine List.forall_mem_cons.mpr ⟨(s_land (am_dp pw_J13_bitCount_95d88_0 dd_J13_bitCount_95d88_0b.2.2.2.2.2.2.2)).to, ?_⟩
  refine List.forall_mem_cons.mpr ⟨(s_ladd (am_dp pw_J13_bitCount_95d88_0 dd_J13_bitCount_95d88_0c.1)).to, ?_⟩
  refine List.forall_mem_cons.mpr ⟨(s_lstoren (am_dp pw_J13_bitCount_95d88_0 dd_J13_bitCount_95d88_0c.2.1) rfl (by decide)).to, ?_⟩
  refine List.forall_mem_cons.mpr ⟨(s_lloadn (am_dp pw_J13_bitCount_95d88_0 dd_J13_bitCount_95d88_0c.2.2.1) rfl).to, ?_⟩
  refine List.forall_mem_cons.mpr ⟨(s_lloadn (am_dp pw_J13_bitCount_95d88_0 dd_J13_bitCount_95d88_0c.2.2.2.1) rfl).to, ?_⟩
  refine List.forall_mem_cons.mpr ⟨(s_iconst (am_dp pw_J13_bitCount_95d88_0 dd_J13_bitCount_95d88_0c.2.2.2.2.1) (by decide)).to, ?_⟩
  refine List.forall_mem_cons.mpr ⟨(s_lushr (am_dp pw_J13_bitCount_95d88_0 dd_J13_bitCount_95d88_0c.2.2.2.2.2.1)).to, ?_⟩
  refine List.forall_mem_cons.mpr ⟨(s_ladd (am_dp pw_J13_bitCount_95d88_0 dd_J13_bitCount_95d88_0c.2.2.2.2.2.2.1)).to, ?_⟩
  refine List.forall_mem_cons.mpr ⟨(s_ldc2 (am_dp pw_J13_bitCount_95d88_0 dd_J13_bitCount_95d88_0c.2.2.2.2.2.2.2) wd1077).to, ?_⟩
  refine List.forall_mem_cons.mpr ⟨(s_land (am_dp pw_J13_bitCount_95d88_32 dd_J13_bitCount_95d88_32a.1)).to, ?_⟩
  refine List.forall_mem_cons.mpr ⟨(s_lstoren (am_dp pw_J13_bitCount_95d88_32 dd_J13_bitCount_95d88_32a.2.1) rfl (by decide)).to, ?_⟩
  refine List.forall_mem_cons.mpr ⟨(s_lloadn (am_dp pw_J13_bitCount_95d88_32 dd_J13_bitCount_95d88_32a.2.2.1) rfl).to, ?_⟩
  refine List.forall_mem_cons.mpr ⟨(s_lloadn (am_dp pw_J13_bitCount_95d88_32 dd_J13_bitCount_95d88_32a.2.2.2.1) rfl).to, ?_⟩
  refine List.forall_mem_cons.mpr ⟨(s_bipush (am_dp pw_J13_bitCount_95d88_32 dd_J13_bitCount_95d88_32a.2.2.2.2.1) (by decide)).to, ?_⟩
  refine List.forall_mem_cons.mpr ⟨(s_lushr (am_dp pw_J13_bitCount_95d88_32 dd_J13_bitCount_95d88_32a.2.2.2.2.2.1)).to, ?_⟩
  refine List.forall_mem_cons.mpr ⟨(s_ladd (am_dp pw_J13_bitCount_95d88_32 dd_J13_bitCount_95d88_32a.2.2.2.2.2.2.1)).to, ?_⟩
  refine List.forall_mem_cons.mpr ⟨(s_lstoren (am_dp pw_J13_bitCount_95d88_32 dd_J13_bitCount_95d88_32a.2.2.2.2.2.2.2) rfl (by decide)).to, ?_⟩
  refine List.forall_mem_cons.mpr ⟨(s_lloadn (am_dp pw_J13_bitCount_95d88_32 dd_J13_bitCount_95d88_32b.1) rfl).to, ?_⟩
  refine List.forall_mem_cons.mpr ⟨(s_lloadn (am_dp pw_J13_bitCount_95d88_32 dd_J13_bitCount_95d88_32b.2.1) rfl).to, ?_⟩
  refine List.forall_mem_cons.mpr ⟨(s_bipush (am_dp pw_J13_bitCount_95d88_32 dd_J13_bitCount_95d88_32b.2.2.1) (by decide)).to, ?_⟩
  refine List.forall_mem_cons.mpr ⟨(s_lushr (am_dp pw_J13_bitCount_95d88_32 dd_J13_bitCount_95d88_32b.2.2.2.1)).to, ?_⟩
  refine List.forall_mem_cons.mpr ⟨(s_ladd (am_dp pw_J13_bitCount_95d88_32 dd_J13_bitCount_95d88_32b.2.2.2.2.1)).to, ?_⟩
  refine List.forall_mem_cons.mpr ⟨(s_lstoren (am_dp pw_J13_bitCount_95d88_32 dd_J13_bitCount_95d88_32b.2.2.2.2.2.1) rfl (by decide)).to, ?_⟩
  refine List.forall_mem_cons.mpr ⟨(s_lloadn (am_dp pw_J13_bitCount_95d88_32 dd_J13_bitCount_95d88_32b.2.2.2.2.2.2.1) rfl).to, ?_⟩
  refine List.forall_mem_cons.mpr ⟨(s_lloadn (am_dp pw_J13_bitCount_95d88_32 dd_J13_bitCount_95d88_32b.2.2.2.2.2.2.2) rfl).to, ?_⟩
  refine List.forall_mem_cons.mpr ⟨(s_bipush (am_dp pw_J13_bitCount_95d88_32 dd_J13_bitCount_95d88_32c.1) (by decide)).to, ?_⟩
  refine List.forall_mem_cons.mpr ⟨(s_lushr (am_dp pw_J13_bitCount_95d88_32 dd_J13_bitCount_95d88_32c.2.1)).to, ?_⟩
  refine List.forall_mem_cons.mpr ⟨(s_ladd (am_dp pw_J13_bitCount_95d88_32 dd_J13_bitCount_95d88_32c.2.2.1)).to, ?_⟩
  refine List.forall_mem_cons.mpr ⟨(s_lstoren (am_dp pw_J13_bitCount_95d88_32 dd_J13_bitCount_95d88_32c.2.2.2.1) rfl (by decide)).to, ?_⟩
  refine List.forall_mem_cons.mpr ⟨(s_lloadn (am_dp pw_J13_bitCount_95d88_32 dd_J13_bitCount_95d88_32c.2.2.2.2.1) rfl).to, ?_⟩
  refine List.forall_mem_cons.mpr ⟨(s_l2i (am_dp pw_J13_bitCount_95d88_32 dd_J13_bitCount_95d88_32c.2.2.2.2.2.1)).to, ?_⟩
  refine List.forall_mem_cons.mpr ⟨(s_bipush (am_dp pw_J13_bitCount_95d88_32 dd_J13_bitCount_95d88_32c.2.2.2.2.2.2.1) (by decide)).to, ?_⟩
  refine List.forall_mem_cons.mpr ⟨(s_iand (am_dp pw_J13_bitCount_95d88_32 dd_J13_bitCount_95d88_32c.2.2.2.2.2.2.2)).to, ?_⟩
  refine List.forall_mem_cons.mpr ⟨s_iret (am_dp pw_J13_bitCount_95d88_32 dd_J13_bitCount_95d88_32d) rfl, ?_⟩
  exact fun _ h => absurd h List.not_mem_nil
theorem sn_tJ9_floorDiv_f86c9 : ∀ q ∈ tJ9_floorDiv_f86c9, am_Snd am_P0 RJ9 cJ9_floorDiv_f86c9 6 (Option.some FieldType.long) "floorDiv" q.1 q.2 := by
  unfold tJ9_floorDiv_f86c9
  refine List.forall_mem_cons.mpr ⟨(s_lloadn (am_dp pw_J9_floorDiv_f86c9_0 dd_J9_floorDiv_f86c9_0a.1) rfl).to, ?_⟩
  refine List.forall_mem_cons.mpr ⟨(s_lloadn (am_dp pw_J9_floorDiv_f86c9_0 dd_J9_floorDiv_f86c9_0a.2.1) rfl).to, ?_⟩
  refine List.forall_mem_cons.mpr ⟨(s_ldiv (am_dp pw_J9_floorDiv_f86c9_0 dd_J9_floorDiv_f86c9_0a.2.2.1)).to, ?_⟩
  refine List.forall_mem_cons.mpr ⟨(s_lstore (am_dp pw_J9_floorDiv_f86c9_0 dd_J9_floorDiv_f86c9_0a.2.2.2.1) (by decide)).to, ?_⟩
  refine List.forall_mem_cons.mpr ⟨(s_lloadn (am_dp pw_J9_floorDiv_f86c9_0 dd_J9_floorDiv_f86c9_0a.2.2.2.2.1) rfl).to, ?_⟩
  refine List.forall_mem_cons.mpr ⟨(s_lloadn (am_dp pw_J9_floorDiv_f86c9_0 dd_J9_floorDiv_f86c9_0a.2.2.2.2.2.1) rfl).to, ?_⟩
  refine List.forall_mem_cons.mpr ⟨(s_lxor (am_dp pw_J9_floorDiv_f86c9_0 dd_J9_floorDiv_f86c9_0a.2.2.2.2.2.2.1)).to, ?_⟩
  refine List.forall_mem_cons.mpr ⟨(s_lconst (am_dp pw_J9_floorDiv_f86c9_0 dd_J9_floorDiv_f86c9_0a.2.2.2.2.2.2.2) (by decide)).to, ?_⟩
  refine List.forall_mem_cons.mpr ⟨(s_lcmp (am_dp pw_J9_floorDiv_f86c9_0 dd_J9_floorDiv_f86c9_0b.1)).to, ?_⟩
  refine List.forall_mem_cons.mpr ⟨(s_if_ge (am_dp pw_J9_floorDiv_f86c9_0 dd_J9_floorDiv_f86c9_0b.2.1) (by decide)).to, ?_⟩
  refine List.forall_mem_cons.mpr ⟨(s_lload (am_dp pw_J9_floorDiv_f86c9_0 dd_J9_floorDiv_f86c9_0b.2.2.1)).to, ?_⟩
  refine List.forall_mem_cons.mpr ⟨(s_lloadn (am_dp pw_J9_floorDiv_f86c9_0 dd_J9_floorDiv_f86c9_0b.2.2.2.1) rfl).to, ?_⟩
  refine List.forall_mem_cons.mpr ⟨(s_lmul (am_dp pw_J9_floorDiv_f86c9_0 dd_J9_floorDiv_f86c9_0b.2.2.2.2.1)).to, ?_⟩
  refine List.forall_mem_cons.mpr ⟨(s_lloadn (am_dp pw_J9_floorDiv_f86c9_0 dd_J9_floorDiv_f86c9_0b.2.2.2.2.2.1) rfl).to, ?_⟩
  refine List.forall_mem_cons.mpr ⟨(s_lcmp (am_dp pw_J9_floorDiv_f86c9_0 dd_J9_floorDiv_f86c9_0b.2.2.2.2.2.2.1)).to, ?_⟩
  refine List.forall_mem_cons.mpr ⟨(s_if_eq (am_dp pw_J9_floorDiv_f86c9_0 dd_J9_floorDiv_f86c9_0b.2.2.2.2.2.2.2) (by decide)).to, ?_⟩
  refine List.forall_mem_cons.mpr ⟨(s_lload (am_dp pw_J9_floorDiv_f86c9_0 dd_J9_floorDiv_f86c9_0c.1)).to, ?_⟩
  refine List.forall_mem_cons.mpr ⟨(s_lconst (am_dp pw_J9_floorDiv_f86c9_0 dd_J9_floorDiv_f86c9_0c.2.1) (by decide)).to, ?_⟩
  refine List.forall_mem_cons.mpr ⟨(s_lsub (am_dp pw_J9_floorDiv_f86c9_0 dd_J9_floorDiv_f86c9_0c.2.2.1)).to, ?_⟩
  refine List.forall_mem_cons.mpr ⟨s_lret (am_dp pw_J9_floorDiv_f86c9_0 dd_J9_floorDiv_f86c9_0c.2.2.2.1) rfl, ?_⟩
  refine List.forall_mem_cons.mpr ⟨(s_lload (am_dp pw_J9_floorDiv_f86c9_0 dd_J9_floorDiv_f86c9_0c.2.2.2.2.1)).to, ?_⟩
  refine List.forall_mem_cons.mpr ⟨s_lret (am_dp pw_J9_floorDiv_f86c9_0 dd_J9_floorDiv_f86c9_0c.2.2.2.2.2) rfl, ?_⟩
  exact fun _ h => absurd h List.not_mem_nil
theorem sn_tJ9_floorMod_f86c9 : ∀ q ∈ tJ9_floorMod_f86c9, am_Snd am_P0 RJ9 cJ9_floorMod_f86c9 6 (Option.some FieldType.long) "floorMod" q.1 q.2 := by
  unfold tJ9_floorMod_f86c9
  refine List.forall_mem_cons.mpr ⟨(s_lloadn (am_dp pw_J9_floorMod_f86c9_0 dd_J9_floorMod_f86c9_0a.1) rfl).to, ?_⟩
  refine List.forall_mem_cons.mpr ⟨(s_lloadn (am_dp pw_J9_floorMod_f86c9_0 dd_J9_floorMod_f86c9_0a.2.1) rfl).to, ?_⟩
  refine List.forall_mem_cons.mpr ⟨(s_lrem (am_dp pw_J9_floorMod_f86c9_0 dd_J9_floorMod_f86c9_0a.2.2.1)).to, ?_⟩
  refine List.forall_mem_cons.mpr ⟨(s_lstore (am_dp pw_J9_floorMod_f86c9_0 dd_J9_floorMod_f86c9_0a.2.2.2.1) (by decide)).to, ?_⟩
  refine List.forall_mem_cons.mpr ⟨(s_lloadn (am_dp pw_J9_floorMod_f86c9_0 dd_J9_floorMod_f86c9_0a.2.2.2.2.1) rfl).to, ?_⟩
  refine List.forall_mem_cons.mpr ⟨(s_lloadn (am_dp pw_J9_floorMod_f86c9_0 dd_J9_floorMod_f86c9_0a.2.2.2.2.2.1) rfl).to, ?_⟩
  refine List.forall_mem_cons.mpr ⟨(s_lxor (am_dp pw_J9_floorMod_f86c9_0 dd_J9_floorMod_f86c9_0a.2.2.2.2.2.2.1)).to, ?_⟩
  refine List.forall_mem_cons.mpr ⟨(s_lconst (am_dp pw_J9_floorMod_f86c9_0 dd_J9_floorMod_f86c9_0a.2.2.2.2.2.2.2) (by decide)).to, ?_⟩
  refine List.forall_mem_cons.mpr ⟨(s_lcmp (am_dp pw_J9_floorMod_f86c9_0 dd_J9_floorMod_f86c9_0b.1)).to, ?_⟩
  refine List.forall_mem_cons.mpr ⟨(s_if_ge (am_dp pw_J9_floorMod_f86c9_0 dd_J9_floorMod_f86c9_0b.2.1) (by decide)).to, ?_⟩
  refine List.forall_mem_cons.mpr ⟨(s_lload (am_dp pw_J9_floorMod_f86c9_0 dd_J9_floorMod_f86c9_0b.2.2.1)).to, ?_⟩
  refine List.forall_mem_cons.mpr ⟨(s_lconst (am_dp pw_J9_floorMod_f86c9_0 dd_J9_floorMod_f86c9_0b.2.2.2.1) (by decide)).to, ?_⟩
  refine List.forall_mem_cons.mpr ⟨(s_lcmp (am_dp pw_J9_floorMod_f86c9_0 dd_J9_floorMod_f86c9_0b.2.2.2.2.1)).to, ?_⟩
  refine List.forall_mem_cons.mpr ⟨(s_if_eq (am_dp pw_J9_floorMod_f86c9_0 dd_J9_floorMod_f86c9_0b.2.2.2.2.2.1) (by decide)).to, ?_⟩
  refine List.forall_mem_cons.mpr ⟨(s_lload (am_dp pw_J9_floorMod_f86c9_0 dd_J9_floorMod_f86c9_0b.2.2.2.2.2.2.1)).to, ?_⟩
  refine List.forall_mem_cons.mpr ⟨(s_lloadn (am_dp pw_J9_floorMod_f86c9_0 dd_J9_floorMod_f86c9_0b.2.2.2.2.2.2.2) rfl).to, ?_⟩
  refine List.forall_mem_cons.mpr ⟨(s_ladd (am_dp pw_J9_floorMod_f86c9_0 dd_J9_floorMod_f86c9_0c.1)).to, ?_⟩
  refine List.forall_mem_cons.mpr ⟨s_lret (am_dp pw_J9_floorMod_f86c9_0 dd_J9_floorMod_f86c9_0c.2.1) rfl, ?_⟩
  refine List.forall_mem_cons.mpr ⟨(s_lload (am_dp pw_J9_floorMod_f86c9_0 dd_J9_floorMod_f86c9_0c.2.2.1)).to, ?_⟩
  refine List.forall_mem_cons.mpr ⟨s_lret (am_dp pw_J9_floorMod_f86c9_0 dd_J9_floorMod_f86c9_0c.2.2.2) rfl, ?_⟩
  exact fun _ h => absurd h List.not_mem_nil
theorem sn_tJ9_abs_0f7a4 : ∀ q ∈ tJ9_abs_0f7a4, am_Snd am_P0 RJ9 cJ9_abs_0f7a4 1 (Option.some FieldType.int) "abs" q.1 q.2 := by
  unfold tJ9_abs_0f7a4
  refine List.forall_mem_cons.mpr ⟨(s_iloadn (am_dp pw_J9_abs_0f7a4_0 dd_J9_abs_0f7a4_0a.1) rfl).to, ?_⟩
  refine List.forall_mem_cons.mpr ⟨(s_if_ge (am_dp pw_J9_abs_0f7a4_0 dd_J9_abs_0f7a4_0a.2.1) (by decide)).to, ?_⟩
  refine List.forall_mem_cons.mpr ⟨(s_iloadn (am_dp pw_J9_abs_0f7a4_0 dd_J9_abs_0f7a4_0a.2.2.1) rfl).to, ?_⟩
  refine List.forall_mem_cons.mpr ⟨(s_ineg (am_dp pw_J9_abs_0f7a4_0 dd_J9_abs_0f7a4_0a.2.2.2.1)).to, ?_⟩
  refine List.forall_mem_cons.mpr ⟨(s_goto (am_dp pw_J9_abs_0f7a4_0 dd_J9_abs_0f7a4_0a.2.2.2.2.1) (by decide)).to, ?_⟩
  refine List.forall_mem_cons.mpr ⟨(s_iloadn (am_dp pw_J9_abs_0f7a4_0 dd_J9_abs_0f7a4_0a.2.2.2.2.2.1) rfl).to, ?_⟩
  refine List.forall_mem_cons.mpr ⟨s_iret (am_dp pw_J9_abs_0f7a4_0 dd_J9_abs_0f7a4_0a.2.2.2.2.2.2) rfl, ?_⟩
  exact fun _ h => absurd h List.not_mem_nil
theorem sn_tJ9_max_7cf53 : ∀ q ∈ tJ9_max_7cf53, am_Snd am_P0 RJ9 cJ9_max_7cf53 2 (Option.some FieldType.int) "max" q.1 q.2 := by
  unfold tJ9_max_7cf53
  refine List.forall_mem_cons.mpr ⟨(s_iloadn (am_dp pw_J9_max_7cf53_0 dd_J9_max_7cf53_0a.1) rfl).to, ?_⟩
  refine List.forall_mem_cons.mpr ⟨(s_iloadn (am_dp pw_J9_max_7cf53_0 dd_J9_max_7cf53_0a.2.1) rfl).to, ?_⟩
  refine List.forall_mem_cons.mpr ⟨(s_icmp_lt (am_dp pw_J9_max_7cf53_0 dd_J9_max_7cf53_0a.2.2.1) (by decide)).to, ?_⟩
  refine List.forall_mem_cons.mpr ⟨(s_iloadn (am_dp pw_J9_max_7cf53_0 dd_J9_max_7cf53_0a.2.2.2.1) rfl).to, ?_⟩
  refine List.forall_mem_cons.mpr ⟨(s_goto (am_dp pw_J9_max_7cf53_0 dd_J9_max_7cf53_0a.2.2.2.2.1) (by decide)).to, ?_⟩
  refine List.forall_mem_cons.mpr ⟨(s_iloadn (am_dp pw_J9_max_7cf53_0 dd_J9_max_7cf53_0a.2.2.2.2.2.1) rfl).to, ?_⟩
  refine List.forall_mem_cons.mpr ⟨s_iret (am_dp pw_J9_max_7cf53_0 dd_J9_max_7cf53_0a.2.2.2.2.2.2) rfl, ?_⟩
  exact fun _ h => absurd h List.not_mem_nil
theorem sn_tJ9_max_f86c9 : ∀ q ∈ tJ9_max_f86c9, am_Snd am_P0 RJ9 cJ9_max_f86c9 4 (Option.some FieldType.long) "max" q.1 q.2 := by
  unfold tJ9_max_f86c9
  refine List.forall_mem_cons.mpr ⟨(s_lloadn (am_dp pw_J9_max_f86c9_0 dd_J9_max_f86c9_0a.1) rfl).to, ?_⟩
  refine List.forall_mem_cons.mpr ⟨(s_lloadn (am_dp pw_J9_max_f86c9_0 dd_J9_max_f86c9_0a.2.1) rfl).to, ?_⟩
  refine List.forall_mem_cons.mpr ⟨(s_lcmp (am_dp pw_J9_max_f86c9_0 dd_J9_max_f86c9_0a.2.2.1)).to, ?_⟩
  refine List.forall_mem_cons.mpr ⟨(s_if_lt (am_dp pw_J9_max_f86c9_0 dd_J9_max_f86c9_0a.2.2.2.1) (by decide)).to, ?_⟩
  refine List.forall_mem_cons.mpr ⟨(s_lloadn (am_dp pw_J9_max_f86c9_0 dd_J9_max_f86c9_0a.2.2.2.2.1) rfl).to, ?_⟩
  refine List.forall_mem_cons.mpr ⟨(s_goto (am_dp pw_J9_max_f86c9_0 dd_J9_max_f86c9_0a.2.2.2.2.2.1) (by decide)).to, ?_⟩
  refine List.forall_mem_cons.mpr ⟨(s_lloadn (am_dp pw_J9_max_f86c9_0 dd_J9_max_f86c9_0a.2.2.2.2.2.2.1) rfl).to, ?_⟩
  refine List.forall_mem_cons.mpr ⟨s_lret (am_dp pw_J9_max_f86c9_0 dd_J9_max_f86c9_0a.2.2.2.2.2.2.2) rfl, ?_⟩
  exact fun _ h => absurd h List.not_mem_nil
theorem sn_tJ9_min_7cf53 : ∀ q ∈ tJ9_min_7cf53, am_Snd am_P0 RJ9 cJ9_min_7cf53 2 (Option.some FieldType.int) "min" q.1 q.2 := by
  unfold tJ9_min_7cf53
  refine List.forall_mem_cons.mpr ⟨(s_iloadn (am_dp pw_J9_min_7cf53_0 dd_J9_min_7cf53_0a.1) rfl).to, ?_⟩
  refine List.forall_mem_cons.mpr ⟨(s_iloadn (am_dp pw_J9_min_7cf53_0 dd_J9_min_7cf53_0a.2.1) rfl).to, ?_⟩
  refine List.forall_mem_cons.mpr ⟨(s_icmp_gt (am_dp pw_J9_min_7cf53_0 dd_J9_min_7cf53_0a.2.2.1) (by decide)).to, ?_⟩
  refine List.forall_mem_cons.mpr ⟨(s_iloadn (am_dp pw_J9_min_7cf53_0 dd_J9_min_7cf53_0a.2.2.2.1) rfl).to, ?_⟩
  refine List.forall_mem_cons.mpr ⟨(s_goto (am_dp pw_J9_min_7cf53_0 dd_J9_min_7cf53_0a.2.2.2.2.1) (by decide)).to, ?_⟩
  refine List.forall_mem_cons.mpr ⟨(s_iloadn (am_dp pw_J9_min_7cf53_0 dd_J9_min_7cf53_0a.2.2.2.2.2.1) rfl).to, ?_⟩
  refine List.forall_mem_cons.mpr ⟨s_iret (am_dp pw_J9_min_7cf53_0 dd_J9_min_7cf53_0a.2.2.2.2.2.2) rfl, ?_⟩
  exact fun _ h => absurd h List.not_mem_nil
theorem sn_tJ9_min_f86c9 : ∀ q ∈ tJ9_min_f86c9, am_Snd am_P0 RJ9 cJ9_min_f86c9 4 (Option.some FieldType.long) "min" q.1 q.2 := by
  unfold tJ9_min_f86c9
  refine List.forall_mem_cons.mpr ⟨(s_lloadn (am_dp pw_J9_min_f86c9_0 dd_J9_min_f86c9_0a.1) rfl).to, ?_⟩
  refine List.forall_mem_cons.mpr ⟨(s_lloadn (am_dp pw_J9_min_f86c9_0 dd_J9_min_f86c9_0a.2.1) rfl).to, ?_⟩
  refine List.forall_mem_cons.mpr ⟨(s_lcmp (am_dp pw_J9_min_f86c9_0 dd_J9_min_f86c9_0a.2.2.1)).to, ?_⟩
  refine List.forall_mem_cons.mpr ⟨(s_if_gt (am_dp pw_J9_min_f86c9_0 dd_J9_min_f86c9_0a.2.2.2.1) (by decide)).to, ?_⟩
  refine List.forall_mem_cons.mpr ⟨(s_lloadn (am_dp pw_J9_min_f86c9_0 dd_J9_min_f86c9_0a.2.2.2.2.1) rfl).to, ?_⟩
  refine List.forall_mem_cons.mpr ⟨(s_goto (am_dp pw_J9_min_f86c9_0 dd_J9_min_f86c9_0a.2.2.2.2.2.1) (by decide)).to, ?_⟩
  refine List.forall_mem_cons.mpr ⟨(s_lloadn (am_dp pw_J9_min_f86c9_0 dd_J9_min_f86c9_0a.2.2.2.2.2.2.1) rfl).to, ?_⟩
  refine List.forall_mem_cons.mpr ⟨s_lret (am_dp pw_J9_min_f86c9_0 dd_J9_min_f86c9_0a.2.2.2.2.2.2.2) rfl, ?_⟩
  exact fun _ h => absurd h List.not_mem_nil
theorem sn_tJ0_length_8abf5 : ∀ q ∈ tJ0_length_8abf5, am_Snd am_P0 RJ0 cJ0_length_8abf5 1 (Option.some FieldType.int) "length" q.1 q.2 := by
  unfold tJ0_length_8abf5
  refine List.forall_mem_cons.mpr ⟨(s_aloadn (am_dp pw_J0_length_8abf5_0 dd_J0_length_8abf5_0a.1) rfl).to, ?_⟩
  refine List.forall_mem_cons.mpr ⟨(s_gvS (am_dp pw_J0_length_8abf5_0 dd_J0_length_8abf5_0a.2.1) wd2150).to, ?_⟩
  refine List.forall_mem_cons.mpr ⟨(s_lS (am_dp pw_J0_length_8abf5_0 dd_J0_length_8abf5_0a.2.2.1)).to, ?_⟩
  refine List.forall_mem_cons.mpr ⟨(s_aloadn (am_dp pw_J0_length_8abf5_0 dd_J0_length_8abf5_0a.2.2.2.1) rfl).to, ?_⟩
  refine List.forall_mem_cons.mpr ⟨z_cvS (am_dp pw_J0_length_8abf5_0 dd_J0_length_8abf5_0a.2.2.2.2.1) mt313 wd384 (by decide), ?_⟩
  refine List.forall_mem_cons.mpr ⟨(s_ishr (am_dp pw_J0_length_8abf5_0 dd_J0_length_8abf5_0a.2.2.2.2.2.1)).to, ?_⟩
  refine List.forall_mem_cons.mpr ⟨s_iret (am_dp pw_J0_length_8abf5_0 dd_J0_length_8abf5_0a.2.2.2.2.2.2) rfl, ?_⟩
  exact fun _ h => absurd h List.not_mem_nil
theorem sn_tJ0_charAt_5068e : ∀ q ∈ tJ0_charAt_5068e, am_Snd am_P0 RJ0 cJ0_charAt_5068e 2 (Option.some FieldType.char) "charAt" q.1 q.2 := by
  unfold tJ0_charAt_5068e
  refine List.forall_mem_cons.mpr ⟨(s_aloadn (am_dp pw_J0_charAt_5068e_0 dd_J0_charAt_5068e_0a.1) rfl).to, ?_⟩
  refine List.forall_mem_cons.mpr ⟨z_cvS (am_dp pw_J0_charAt_5068e_0 dd_J0_charAt_5068e_0a.2.1) mt314 wd394 (by decide), ?_⟩
  refine List.forall_mem_cons.mpr ⟨(s_if_eq (am_dp pw_J0_charAt_5068e_0 dd_J0_charAt_5068e_0a.2.2.1) (by decide)).to, ?_⟩
  refine List.forall_mem_cons.mpr ⟨(s_aloadn (am_dp pw_J0_charAt_5068e_0 dd_J0_charAt_5068e_0a.2.2.2.1) rfl).to, ?_⟩
  refine List.forall_mem_cons.mpr ⟨(s_gvS (am_dp pw_J0_charAt_5068e_0 dd_J0_charAt_5068e_0a.2.2.2.2.1) wd2150).to, ?_⟩
  refine List.forall_mem_cons.mpr ⟨(s_iloadn (am_dp pw_J0_charAt_5068e_0 dd_J0_charAt_5068e_0a.2.2.2.2.2.1) rfl).to, ?_⟩
  refine List.forall_mem_cons.mpr ⟨zw_cs316 (am_dp pw_J0_charAt_5068e_0 dd_J0_charAt_5068e_0a.2.2.2.2.2.2.1) wd398, ?_⟩
  refine List.forall_mem_cons.mpr ⟨s_cret (am_dp pw_J0_charAt_5068e_0 dd_J0_charAt_5068e_0a.2.2.2.2.2.2.2) rfl, ?_⟩
  refine List.forall_mem_cons.mpr ⟨(s_aloadn (am_dp pw_J0_charAt_5068e_0 dd_J0_charAt_5068e_0b.1) rfl).to, ?_⟩
  refine List.forall_mem_cons.mpr ⟨(s_gvS (am_dp pw_J0_charAt_5068e_0 dd_J0_charAt_5068e_0b.2.1) wd2150).to, ?_⟩
  refine List.forall_mem_cons.mpr ⟨(s_iloadn (am_dp pw_J0_charAt_5068e_0 dd_J0_charAt_5068e_0b.2.2.1) rfl).to, ?_⟩
  refine List.forall_mem_cons.mpr ⟨s_cret (am_dp pw_J0_charAt_5068e_0 dd_J0_charAt_5068e_0b.2.2.2.2) rfl, ?_⟩
  exact fun _ h => absurd h List.not_mem_nil
theorem sn_tJ0_coder_7d493 : ∀ q ∈ tJ0_coder_7d493, am_Snd am_P0 RJ0 cJ0_coder_7d493 1 (Option.some FieldType.byte) "coder" q.1 q.2 := by
  unfold tJ0_coder_7d493
  refine List.forall_mem_cons.mpr ⟨(s_gsC (am_dp pw_J0_coder_7d493_0 dd_J0_coder_7d493_0a.1) wd388).to, ?_⟩
  refine List.forall_mem_cons.mpr ⟨(s_if_eq (am_dp pw_J0_coder_7d493_0 dd_J0_coder_7d493_0a.2.1) (by decide)).to, ?_⟩
  refine List.forall_mem_cons.mpr ⟨(s_aloadn (am_dp pw_J0_coder_7d493_0 dd_J0_coder_7d493_0a.2.2.1) rfl).to, ?_⟩
  refine List.forall_mem_cons.mpr ⟨(s_gcS (am_dp pw_J0_coder_7d493_0 dd_J0_coder_7d493_0a.2.2.2.1) wd2151).to, ?_⟩
  refine List.forall_mem_cons.mpr ⟨(s_goto (am_dp pw_J0_coder_7d493_0 dd_J0_coder_7d493_0a.2.2.2.2.1) (by decide)).to, ?_⟩
  refine List.forall_mem_cons.mpr ⟨(s_iconst (am_dp pw_J0_coder_7d493_0 dd_J0_coder_7d493_0a.2.2.2.2.2.1) (by decide)).to, ?_⟩
  refine List.forall_mem_cons.mpr ⟨s_bret (am_dp pw_J0_coder_7d493_0 dd_J0_coder_7d493_0a.2.2.2.2.2.2) rfl, ?_⟩
  exact fun _ h => absurd h List.not_mem_nil
theorem sn_tJ0_isLatin1_aae02 : ∀ q ∈ tJ0_isLatin1_aae02, am_Snd am_P0 RJ0 cJ0_isLatin1_aae02 1 (Option.some FieldType.boolean) "isLatin1" q.1 q.2 := by
  unfold tJ0_isLatin1_aae02
  refine List.forall_mem_cons.mpr ⟨(s_gsC (am_dp pw_J0_isLatin1_aae02_0 dd_J0_isLatin1_aae02_0a.1) wd388).to, ?_⟩
  refine List.forall_mem_cons.mpr ⟨(s_if_eq (am_dp pw_J0_isLatin1_aae02_0 dd_J0_isLatin1_aae02_0a.2.1) (by decide)).to, ?_⟩
  refine List.forall_mem_cons.mpr ⟨(s_aloadn (am_dp pw_J0_isLatin1_aae02_0 dd_J0_isLatin1_aae02_0a.2.2.1) rfl).to, ?_⟩
  refine List.forall_mem_cons.mpr ⟨(s_gcS (am_dp pw_J0_isLatin1_aae02_0 dd_J0_isLatin1_aae02_0a.2.2.2.1) wd2151).to, ?_⟩
  refine List.forall_mem_cons.mpr ⟨(s_if_ne (am_dp pw_J0_isLatin1_aae02_0 dd_J0_isLatin1_aae02_0a.2.2.2.2.1) (by decide)).to, ?_⟩
  refine List.forall_mem_cons.mpr ⟨(s_iconst (am_dp pw_J0_isLatin1_aae02_0 dd_J0_isLatin1_aae02_0a.2.2.2.2.2.1) (by decide)).to, ?_⟩
  refine List.forall_mem_cons.mpr ⟨(s_goto (am_dp pw_J0_isLatin1_aae02_0 dd_J0_isLatin1_aae02_0a.2.2.2.2.2.2.1) (by decide)).to, ?_⟩
  refine List.forall_mem_cons.mpr ⟨(s_iconst (am_dp pw_J0_isLatin1_aae02_0 dd_J0_isLatin1_aae02_0a.2.2.2.2.2.2.2) (by decide)).to, ?_⟩
  refine List.forall_mem_cons.mpr ⟨s_zret (am_dp pw_J0_isLatin1_aae02_0 dd_J0_isLatin1_aae02_0b) rfl, ?_⟩
  exact fun _ h => absurd h List.not_mem_nil
theorem sn_tJ0_checkIndex_df160 : ∀ q ∈ tJ0_checkIndex_df160, am_Snd am_P0 RJ0 cJ0_checkIndex_df160 2 (Option.none : Option FieldType) "checkIndex" q.1 q.2 := by
  unfold tJ0_checkIndex_df160
  refine List.forall_mem_cons.mpr ⟨(s_iloadn (am_dp pw_J0_checkIndex_df160_0 dd_J0_checkIndex_df160_0a.1) rfl).to, ?_⟩
  refine List.forall_mem_cons.mpr ⟨(s_iloadn (am_dp pw_J0_checkIndex_df160_0 dd_J0_checkIndex_df160_0a.2.1) rfl).to, ?_⟩
  refine List.forall_mem_cons.mpr ⟨(s_gsF (am_dp pw_J0_checkIndex_df160_0 dd_J0_checkIndex_df160_0a.2.2.1) wd404).to, ?_⟩
  refine List.forall_mem_cons.mpr ⟨zw_cs325 (am_dp pw_J0_checkIndex_df160_0 dd_J0_checkIndex_df160_0a.2.2.2.1) wd406, ?_⟩
  refine List.forall_mem_cons.mpr ⟨(s_pop (am_dp pw_J0_checkIndex_df160_0 dd_J0_checkIndex_df160_0a.2.2.2.2.1)).to, ?_⟩
  refine List.forall_mem_cons.mpr ⟨s_vret (am_dp pw_J0_checkIndex_df160_0 dd_J0_checkIndex_df160_0a.2.2.2.2.2) rfl, ?_⟩
  exact fun _ h => absurd h List.not_mem_nil
theorem sn_tJ1_charAt_3b067 : ∀ q ∈ tJ1_charAt_3b067, am_Snd am_P0 RJ1 cJ1_charAt_3b067 2 (Option.some FieldType.char) "charAt" q.1 q.2 := by
  unfold tJ1_charAt_3b067
  refine List.forall_mem_cons.mpr ⟨(s_iloadn (am_dp pw_J1_charAt_3b067_0 dd_J1_charAt_3b067_0a.1) rfl).to, ?_⟩
  refine List.forall_mem_cons.mpr ⟨(s_aloadn (am_dp pw_J1_charAt_3b067_0 dd_J1_charAt_3b067_0a.2.1) rfl).to, ?_⟩
  refine List.forall_mem_cons.mpr ⟨(s_lS (am_dp pw_J1_charAt_3b067_0 dd_J1_charAt_3b067_0a.2.2.1)).to, ?_⟩
  refine List.forall_mem_cons.mpr ⟨zw_cs315 (am_dp pw_J1_charAt_3b067_0 dd_J1_charAt_3b067_0a.2.2.2.1) wd401, ?_⟩
  refine List.forall_mem_cons.mpr ⟨(s_aloadn (am_dp pw_J1_charAt_3b067_0 dd_J1_charAt_3b067_0a.2.2.2.2.1) rfl).to, ?_⟩
  refine List.forall_mem_cons.mpr ⟨(s_iloadn (am_dp pw_J1_charAt_3b067_0 dd_J1_charAt_3b067_0a.2.2.2.2.2.1) rfl).to, ?_⟩
  refine List.forall_mem_cons.mpr ⟨(s_bS (am_dp pw_J1_charAt_3b067_0 dd_J1_charAt_3b067_0a.2.2.2.2.2.2.1)).to, ?_⟩
  refine List.forall_mem_cons.mpr ⟨(s_sipush (am_dp pw_J1_charAt_3b067_0 dd_J1_charAt_3b067_0a.2.2.2.2.2.2.2) (by decide)).to, ?_⟩
  refine List.forall_mem_cons.mpr ⟨(s_iand (am_dp pw_J1_charAt_3b067_0 dd_J1_charAt_3b067_0b.1)).to, ?_⟩
  refine List.forall_mem_cons.mpr ⟨(s_i2c (am_dp pw_J1_charAt_3b067_0 dd_J1_charAt_3b067_0b.2.1)).to, ?_⟩
  refine List.forall_mem_cons.mpr ⟨s_cret (am_dp pw_J1_charAt_3b067_0 dd_J1_charAt_3b067_0b.2.2) rfl, ?_⟩
  exact fun _ h => absurd h List.not_mem_nil
theorem sn_tJ2_getChar_3b067 : ∀ q ∈ tJ2_getChar_3b067, am_Snd am_P0 RJ2 cJ2_getChar_3b067 2 (Option.some FieldType.char) "getChar" q.1 q.2 := by
  unfold tJ2_getChar_3b067
  refine List.forall_mem_cons.mpr ⟨(s_if_ne (am_dp pw_J2_getChar_3b067_0 dd_J2_getChar_3b067_0a.2.1) (by decide)).to, ?_⟩
  refine List.forall_mem_cons.mpr ⟨(s_iloadn (am_dp pw_J2_getChar_3b067_0 dd_J2_getChar_3b067_0a.2.2.1) rfl).to, ?_⟩
  refine List.forall_mem_cons.mpr ⟨(s_if_lt (am_dp pw_J2_getChar_3b067_0 dd_J2_getChar_3b067_0a.2.2.2.1) (by decide)).to, ?_⟩
  refine List.forall_mem_cons.mpr ⟨(s_iloadn (am_dp pw_J2_getChar_3b067_0 dd_J2_getChar_3b067_0a.2.2.2.2.1) rfl).to, ?_⟩
  refine List.forall_mem_cons.mpr ⟨(s_aloadn (am_dp pw_J2_getChar_3b067_0 dd_J2_getChar_3b067_0a.2.2.2.2.2.1) rfl).to, ?_⟩
  refine List.forall_mem_cons.mpr ⟨(s_icmp_lt (am_dp pw_J2_getChar_3b067_0 dd_J2_getChar_3b067_0a.2.2.2.2.2.2.2) (by decide)).to, ?_⟩
  refine List.forall_mem_cons.mpr ⟨(s_dup (am_dp pw_J2_getChar_3b067_0 dd_J2_getChar_3b067_0b.2.1)).to, ?_⟩
  refine List.forall_mem_cons.mpr ⟨(s_iloadn (am_dp pw_J2_getChar_3b067_0 dd_J2_getChar_3b067_0b.2.2.2.2.2.1) rfl).to, ?_⟩
  refine List.forall_mem_cons.mpr ⟨(s_iconst (am_dp pw_J2_getChar_3b067_0 dd_J2_getChar_3b067_0b.2.2.2.2.2.2.1) (by decide)).to, ?_⟩
  refine List.forall_mem_cons.mpr ⟨(s_ishl (am_dp pw_J2_getChar_3b067_0 dd_J2_getChar_3b067_0b.2.2.2.2.2.2.2)).to, ?_⟩
  refine List.forall_mem_cons.mpr ⟨(s_istoren (am_dp pw_J2_getChar_3b067_0 dd_J2_getChar_3b067_0c) rfl (by decide)).to, ?_⟩
  refine List.forall_mem_cons.mpr ⟨(s_aloadn (am_dp pw_J2_getChar_3b067_32 dd_J2_getChar_3b067_32a.1) rfl).to, ?_⟩
  refine List.forall_mem_cons.mpr ⟨(s_iloadn (am_dp pw_J2_getChar_3b067_32 dd_J2_getChar_3b067_32a.2.1) rfl).to, ?_⟩
  refine List.forall_mem_cons.mpr ⟨(s_iinc (am_dp pw_J2_getChar_3b067_32 dd_J2_getChar_3b067_32a.2.2.1) (by decide) (by decide)).to, ?_⟩
  refine List.forall_mem_cons.mpr ⟨(s_sipush (am_dp pw_J2_getChar_3b067_32 dd_J2_getChar_3b067_32a.2.2.2.2.1) (by decide)).to, ?_⟩
  refine List.forall_mem_cons.mpr ⟨(s_iand (am_dp pw_J2_getChar_3b067_32 dd_J2_getChar_3b067_32a.2.2.2.2.2.1)).to, ?_⟩
  refine List.forall_mem_cons.mpr ⟨(s_ishl (am_dp pw_J2_getChar_3b067_32 dd_J2_getChar_3b067_32a.2.2.2.2.2.2.2)).to, ?_⟩
  refine List.forall_mem_cons.mpr ⟨(s_aloadn (am_dp pw_J2_getChar_3b067_32 dd_J2_getChar_3b067_32b.1) rfl).to, ?_⟩
  refine List.forall_mem_cons.mpr ⟨(s_iloadn (am_dp pw_J2_getChar_3b067_32 dd_J2_getChar_3b067_32b.2.1) rfl).to, ?_⟩
  refine List.forall_mem_cons.mpr ⟨(s_sipush (am_dp pw_J2_getChar_3b067_32 dd_J2_getChar_3b067_32b.2.2.2.1) (by decide)).to, ?_⟩
  refine List.forall_mem_cons.mpr ⟨(s_iand (am_dp pw_J2_getChar_3b067_32 dd_J2_getChar_3b067_32b.2.2.2.2.1)).to, ?_⟩
  refine List.forall_mem_cons.mpr ⟨(s_ishl (am_dp pw_J2_getChar_3b067_32 dd_J2_getChar_3b067_32b.2.2.2.2.2.2.1)).to, ?_⟩
  refine List.forall_mem_cons.mpr ⟨(s_ior (am_dp pw_J2_getChar_3b067_32 dd_J2_getChar_3b067_32b.2.2.2.2.2.2.2)).to, ?_⟩
  exact fun _ h => absurd h List.not_mem_nil
theorem sn_tJ2_length_9d52b : ∀ q ∈ tJ2_length_9d52b, am_Snd am_P0 RJ2 cJ2_length_9d52b 1 (Option.some FieldType.int) "length" q.1 q.2 := by
  unfold tJ2_length_9d52b
  refine List.forall_mem_cons.mpr ⟨(s_aloadn (am_dp pw_J2_length_9d52b_0 dd_J2_length_9d52b_0a.1) rfl).to, ?_⟩
  refine List.forall_mem_cons.mpr ⟨(s_iconst (am_dp pw_J2_length_9d52b_0 dd_J2_length_9d52b_0a.2.2.1) (by decide)).to, ?_⟩
  refine List.forall_mem_cons.mpr ⟨(s_ishr (am_dp pw_J2_length_9d52b_0 dd_J2_length_9d52b_0a.2.2.2.1)).to, ?_⟩
  refine List.forall_mem_cons.mpr ⟨s_iret (am_dp pw_J2_length_9d52b_0 dd_J2_length_9d52b_0a.2.2.2.2) rfl, ?_⟩
  exact fun _ h => absurd h List.not_mem_nil
theorem sn_tJ2_charAt_3b067 : ∀ q ∈ tJ2_charAt_3b067, am_Snd am_P0 RJ2 cJ2_charAt_3b067 2 (Option.some FieldType.char) "charAt" q.1 q.2 := by
  unfold tJ2_charAt_3b067
  refine List.forall_mem_cons.mpr ⟨(s_iloadn (am_dp pw_J2_charAt_3b067_0 dd_J2_charAt_3b067_0a.1) rfl).to, ?_⟩
  refine List.forall_mem_cons.mpr ⟨(s_aloadn (am_dp pw_J2_charAt_3b067_0 dd_J2_charAt_3b067_0a.2.1) rfl).to, ?_⟩
  refine List.forall_mem_cons.mpr ⟨(s_aloadn (am_dp pw_J2_charAt_3b067_0 dd_J2_charAt_3b067_0a.2.2.2.1) rfl).to, ?_⟩
  refine List.forall_mem_cons.mpr ⟨(s_iloadn (am_dp pw_J2_charAt_3b067_0 dd_J2_charAt_3b067_0a.2.2.2.2.1) rfl).to, ?_⟩
  exact fun _ h => absurd h List.not_mem_nil
theorem sn_tJ2_checkIndex_2214a : ∀ q ∈ tJ2_checkIndex_2214a, am_Snd am_P0 RJ2 cJ2_checkIndex_2214a 2 (Option.none : Option FieldType) "checkIndex" q.1 q.2 := by
  unfold tJ2_checkIndex_2214a
  refine List.forall_mem_cons.mpr ⟨(s_iloadn (am_dp pw_J2_checkIndex_2214a_0 dd_J2_checkIndex_2214a_0a.1) rfl).to, ?_⟩
  refine List.forall_mem_cons.mpr ⟨(s_aloadn (am_dp pw_J2_checkIndex_2214a_0 dd_J2_checkIndex_2214a_0a.2.1) rfl).to, ?_⟩
  refine List.forall_mem_cons.mpr ⟨zw_cs315 (am_dp pw_J2_checkIndex_2214a_0 dd_J2_checkIndex_2214a_0a.2.2.2.1) wd418, ?_⟩
  refine List.forall_mem_cons.mpr ⟨s_vret (am_dp pw_J2_checkIndex_2214a_0 dd_J2_checkIndex_2214a_0a.2.2.2.2) rfl, ?_⟩
  exact fun _ h => absurd h List.not_mem_nil
theorem sn_tJ7_rangeCheck_23922 : ∀ q ∈ tJ7_rangeCheck_23922, am_Snd am_P0 RJ7 cJ7_rangeCheck_23922 3 (Option.none : Option FieldType) "rangeCheck" q.1 q.2 := by
  unfold tJ7_rangeCheck_23922
  refine List.forall_mem_cons.mpr ⟨(s_iloadn (am_dp pw_J7_rangeCheck_23922_0 dd_J7_rangeCheck_23922_0a.1) rfl).to, ?_⟩
  refine List.forall_mem_cons.mpr ⟨(s_iloadn (am_dp pw_J7_rangeCheck_23922_0 dd_J7_rangeCheck_23922_0a.2.1) rfl).to, ?_⟩
  refine List.forall_mem_cons.mpr ⟨(s_icmp_le (am_dp pw_J7_rangeCheck_23922_0 dd_J7_rangeCheck_23922_0a.2.2.1) (by decide)).to, ?_⟩
  refine List.forall_mem_cons.mpr ⟨(s_dup (am_dp pw_J7_rangeCheck_23922_0 dd_J7_rangeCheck_23922_0a.2.2.2.2.1)).to, ?_⟩
  refine List.forall_mem_cons.mpr ⟨(s_dup (am_dp pw_J7_rangeCheck_23922_0 dd_J7_rangeCheck_23922_0a.2.2.2.2.2.2.1)).to, ?_⟩
  refine List.forall_mem_cons.mpr ⟨(s_iloadn (am_dp pw_J7_rangeCheck_23922_0 dd_J7_rangeCheck_23922_0b.2.2.1) rfl).to, ?_⟩
  refine List.forall_mem_cons.mpr ⟨(s_iloadn (am_dp pw_J7_rangeCheck_23922_0 dd_J7_rangeCheck_23922_0b.2.2.2.2.2.2.1) rfl).to, ?_⟩
  refine List.forall_mem_cons.mpr ⟨(s_iloadn (am_dp pw_J7_rangeCheck_23922_32 dd_J7_rangeCheck_23922_32a.2.2.2.2.2.1) rfl).to, ?_⟩
  refine List.forall_mem_cons.mpr ⟨(s_if_ge (am_dp pw_J7_rangeCheck_23922_32 dd_J7_rangeCheck_23922_32a.2.2.2.2.2.2.1) (by decide)).to, ?_⟩
  refine List.forall_mem_cons.mpr ⟨(s_dup (am_dp pw_J7_rangeCheck_23922_32 dd_J7_rangeCheck_23922_32b.1)).to, ?_⟩
  refine List.forall_mem_cons.mpr ⟨(s_iloadn (am_dp pw_J7_rangeCheck_23922_32 dd_J7_rangeCheck_23922_32b.2.1) rfl).to, ?_⟩
  refine List.forall_mem_cons.mpr ⟨(s_iloadn (am_dp pw_J7_rangeCheck_23922_32 dd_J7_rangeCheck_23922_32b.2.2.2.2.1) rfl).to, ?_⟩
  refine List.forall_mem_cons.mpr ⟨(s_iloadn (am_dp pw_J7_rangeCheck_23922_32 dd_J7_rangeCheck_23922_32b.2.2.2.2.2.1) rfl).to, ?_⟩
  refine List.forall_mem_cons.mpr ⟨(s_icmp_le (am_dp pw_J7_rangeCheck_23922_32 dd_J7_rangeCheck_23922_32b.2.2.2.2.2.2) (by decide)).to, ?_⟩
  refine List.forall_mem_cons.mpr ⟨(s_dup (am_dp pw_J7_rangeCheck_23922_64 dd_J7_rangeCheck_23922_64a.2.1)).to, ?_⟩
  refine List.forall_mem_cons.mpr ⟨(s_iloadn (am_dp pw_J7_rangeCheck_23922_64 dd_J7_rangeCheck_23922_64a.2.2.1) rfl).to, ?_⟩
  refine List.forall_mem_cons.mpr ⟨s_vret (am_dp pw_J7_rangeCheck_23922_64 dd_J7_rangeCheck_23922_64a.2.2.2.2.2) rfl, ?_⟩
  exact fun _ h => absurd h List.not_mem_nil
theorem sn_tJ7_fill_d0a16 : ∀ q ∈ tJ7_fill_d0a16, am_Snd am_P0 RJ7 cJ7_fill_d0a16 5 (Option.none : Option FieldType) "fill" q.1 q.2 := by
  unfold tJ7_fill_d0a16
  refine List.forall_mem_cons.mpr ⟨(s_iconst (am_dp pw_J7_fill_d0a16_0 dd_J7_fill_d0a16_0a.1) (by decide)).to, ?_⟩
  refine List.forall_mem_cons.mpr ⟨(s_istoren (am_dp pw_J7_fill_d0a16_0 dd_J7_fill_d0a16_0a.2.1) rfl (by decide)).to, ?_⟩
  refine List.forall_mem_cons.mpr ⟨(s_aloadn (am_dp pw_J7_fill_d0a16_0 dd_J7_fill_d0a16_0a.2.2.1) rfl).to, ?_⟩
  refine List.forall_mem_cons.mpr ⟨(s_len (am_dp pw_J7_fill_d0a16_0 dd_J7_fill_d0a16_0a.2.2.2.1)).to, ?_⟩
  refine List.forall_mem_cons.mpr ⟨(s_istore (am_dp pw_J7_fill_d0a16_0 dd_J7_fill_d0a16_0a.2.2.2.2.1) (by decide)).to, ?_⟩
  refine List.forall_mem_cons.mpr ⟨(s_iloadn (am_dp pw_J7_fill_d0a16_0 dd_J7_fill_d0a16_0a.2.2.2.2.2.1) rfl).to, ?_⟩
  refine List.forall_mem_cons.mpr ⟨(s_iload (am_dp pw_J7_fill_d0a16_0 dd_J7_fill_d0a16_0a.2.2.2.2.2.2.1)).to, ?_⟩
  refine List.forall_mem_cons.mpr ⟨(s_icmp_ge (am_dp pw_J7_fill_d0a16_0 dd_J7_fill_d0a16_0a.2.2.2.2.2.2.2) (by decide)).to, ?_⟩
  refine List.forall_mem_cons.mpr ⟨(s_aloadn (am_dp pw_J7_fill_d0a16_0 dd_J7_fill_d0a16_0b.1) rfl).to, ?_⟩
  refine List.forall_mem_cons.mpr ⟨(s_iloadn (am_dp pw_J7_fill_d0a16_0 dd_J7_fill_d0a16_0b.2.1) rfl).to, ?_⟩
  refine List.forall_mem_cons.mpr ⟨(s_lloadn (am_dp pw_J7_fill_d0a16_0 dd_J7_fill_d0a16_0b.2.2.1) rfl).to, ?_⟩
  refine List.forall_mem_cons.mpr ⟨(s_last (am_dp pw_J7_fill_d0a16_0 dd_J7_fill_d0a16_0b.2.2.2.1)).to, ?_⟩
  refine List.forall_mem_cons.mpr ⟨(s_iinc (am_dp pw_J7_fill_d0a16_0 dd_J7_fill_d0a16_0b.2.2.2.2.1) (by decide) (by decide)).to, ?_⟩
  refine List.forall_mem_cons.mpr ⟨(s_goto (am_dp pw_J7_fill_d0a16_0 dd_J7_fill_d0a16_0b.2.2.2.2.2.1) (by decide)).to, ?_⟩
  refine List.forall_mem_cons.mpr ⟨s_vret (am_dp pw_J7_fill_d0a16_0 dd_J7_fill_d0a16_0b.2.2.2.2.2.2) rfl, ?_⟩
  exact fun _ h => absurd h List.not_mem_nil
theorem sn_tJ7_fill_bad5a : ∀ q ∈ tJ7_fill_bad5a, am_Snd am_P0 RJ7 cJ7_fill_bad5a 6 (Option.none : Option FieldType) "fill" q.1 q.2 := by
  unfold tJ7_fill_bad5a
  refine List.forall_mem_cons.mpr ⟨(s_aloadn (am_dp pw_J7_fill_bad5a_0 dd_J7_fill_bad5a_0a.1) rfl).to, ?_⟩
  refine List.forall_mem_cons.mpr ⟨(s_len (am_dp pw_J7_fill_bad5a_0 dd_J7_fill_bad5a_0a.2.1)).to, ?_⟩
  refine List.forall_mem_cons.mpr ⟨(s_iloadn (am_dp pw_J7_fill_bad5a_0 dd_J7_fill_bad5a_0a.2.2.1) rfl).to, ?_⟩
  refine List.forall_mem_cons.mpr ⟨(s_iloadn (am_dp pw_J7_fill_bad5a_0 dd_J7_fill_bad5a_0a.2.2.2.1) rfl).to, ?_⟩
  refine List.forall_mem_cons.mpr ⟨zw_cs321 (am_dp pw_J7_fill_bad5a_0 dd_J7_fill_bad5a_0a.2.2.2.2.1) wd1247, ?_⟩
  refine List.forall_mem_cons.mpr ⟨(s_iloadn (am_dp pw_J7_fill_bad5a_0 dd_J7_fill_bad5a_0a.2.2.2.2.2.1) rfl).to, ?_⟩
  refine List.forall_mem_cons.mpr ⟨(s_istore (am_dp pw_J7_fill_bad5a_0 dd_J7_fill_bad5a_0a.2.2.2.2.2.2.1) (by decide)).to, ?_⟩
  refine List.forall_mem_cons.mpr ⟨(s_iload (am_dp pw_J7_fill_bad5a_0 dd_J7_fill_bad5a_0a.2.2.2.2.2.2.2)).to, ?_⟩
  refine List.forall_mem_cons.mpr ⟨(s_iloadn (am_dp pw_J7_fill_bad5a_0 dd_J7_fill_bad5a_0b.1) rfl).to, ?_⟩
  refine List.forall_mem_cons.mpr ⟨(s_icmp_ge (am_dp pw_J7_fill_bad5a_0 dd_J7_fill_bad5a_0b.2.1) (by decide)).to, ?_⟩
  refine List.forall_mem_cons.mpr ⟨(s_aloadn (am_dp pw_J7_fill_bad5a_0 dd_J7_fill_bad5a_0b.2.2.1) rfl).to, ?_⟩
  refine List.forall_mem_cons.mpr ⟨(s_iload (am_dp pw_J7_fill_bad5a_0 dd_J7_fill_bad5a_0b.2.2.2.1)).to, ?_⟩
  refine List.forall_mem_cons.mpr ⟨(s_lloadn (am_dp pw_J7_fill_bad5a_0 dd_J7_fill_bad5a_0b.2.2.2.2.1) rfl).to, ?_⟩
  refine List.forall_mem_cons.mpr ⟨(s_last (am_dp pw_J7_fill_bad5a_0 dd_J7_fill_bad5a_0b.2.2.2.2.2.1)).to, ?_⟩
  refine List.forall_mem_cons.mpr ⟨(s_iinc (am_dp pw_J7_fill_bad5a_0 dd_J7_fill_bad5a_0b.2.2.2.2.2.2.1) (by decide) (by decide)).to, ?_⟩
  refine List.forall_mem_cons.mpr ⟨(s_goto (am_dp pw_J7_fill_bad5a_0 dd_J7_fill_bad5a_0b.2.2.2.2.2.2.2) (by decide)).to, ?_⟩
  refine List.forall_mem_cons.mpr ⟨s_vret (am_dp pw_J7_fill_bad5a_0 dd_J7_fill_bad5a_0c) rfl, ?_⟩
  exact fun _ h => absurd h List.not_mem_nil
theorem sn_tJ7_fill_53178 : ∀ q ∈ tJ7_fill_53178, am_Snd am_P0 RJ7 cJ7_fill_53178 4 (Option.none : Option FieldType) "fill" q.1 q.2 := by
  unfold tJ7_fill_53178
  refine List.forall_mem_cons.mpr ⟨(s_iconst (am_dp pw_J7_fill_53178_0 dd_J7_fill_53178_0a.1) (by decide)).to, ?_⟩
  refine List.forall_mem_cons.mpr ⟨(s_istoren (am_dp pw_J7_fill_53178_0 dd_J7_fill_53178_0a.2.1) rfl (by decide)).to, ?_⟩
  refine List.forall_mem_cons.mpr ⟨(s_aloadn (am_dp pw_J7_fill_53178_0 dd_J7_fill_53178_0a.2.2.1) rfl).to, ?_⟩
  refine List.forall_mem_cons.mpr ⟨(s_len (am_dp pw_J7_fill_53178_0 dd_J7_fill_53178_0a.2.2.2.1)).to, ?_⟩
  refine List.forall_mem_cons.mpr ⟨(s_istoren (am_dp pw_J7_fill_53178_0 dd_J7_fill_53178_0a.2.2.2.2.1) rfl (by decide)).to, ?_⟩
  refine List.forall_mem_cons.mpr ⟨(s_iloadn (am_dp pw_J7_fill_53178_0 dd_J7_fill_53178_0a.2.2.2.2.2.1) rfl).to, ?_⟩
  refine List.forall_mem_cons.mpr ⟨(s_iloadn (am_dp pw_J7_fill_53178_0 dd_J7_fill_53178_0a.2.2.2.2.2.2.1) rfl).to, ?_⟩
  refine List.forall_mem_cons.mpr ⟨(s_icmp_ge (am_dp pw_J7_fill_53178_0 dd_J7_fill_53178_0a.2.2.2.2.2.2.2) (by decide)).to, ?_⟩
  refine List.forall_mem_cons.mpr ⟨(s_aloadn (am_dp pw_J7_fill_53178_0 dd_J7_fill_53178_0b.1) rfl).to, ?_⟩
  refine List.forall_mem_cons.mpr ⟨(s_iloadn (am_dp pw_J7_fill_53178_0 dd_J7_fill_53178_0b.2.1) rfl).to, ?_⟩
  refine List.forall_mem_cons.mpr ⟨(s_iloadn (am_dp pw_J7_fill_53178_0 dd_J7_fill_53178_0b.2.2.1) rfl).to, ?_⟩
  refine List.forall_mem_cons.mpr ⟨(s_iast (am_dp pw_J7_fill_53178_0 dd_J7_fill_53178_0b.2.2.2.1)).to, ?_⟩
  refine List.forall_mem_cons.mpr ⟨(s_iinc (am_dp pw_J7_fill_53178_0 dd_J7_fill_53178_0b.2.2.2.2.1) (by decide) (by decide)).to, ?_⟩
  refine List.forall_mem_cons.mpr ⟨(s_goto (am_dp pw_J7_fill_53178_0 dd_J7_fill_53178_0b.2.2.2.2.2.1) (by decide)).to, ?_⟩
  refine List.forall_mem_cons.mpr ⟨s_vret (am_dp pw_J7_fill_53178_0 dd_J7_fill_53178_0b.2.2.2.2.2.2) rfl, ?_⟩
  exact fun _ h => absurd h List.not_mem_nil
theorem sn_tJ3_checkIndex_8e157 : ∀ q ∈ tJ3_checkIndex_8e157, am_Snd am_P0 RJ3 cJ3_checkIndex_8e157 3 (Option.some FieldType.int) "checkIndex" q.1 q.2 := by
  unfold tJ3_checkIndex_8e157
  refine List.forall_mem_cons.mpr ⟨(s_iloadn (am_dp pw_J3_checkIndex_8e157_0 dd_J3_checkIndex_8e157_0a.1) rfl).to, ?_⟩
  refine List.forall_mem_cons.mpr ⟨(s_if_lt (am_dp pw_J3_checkIndex_8e157_0 dd_J3_checkIndex_8e157_0a.2.1) (by decide)).to, ?_⟩
  refine List.forall_mem_cons.mpr ⟨(s_iloadn (am_dp pw_J3_checkIndex_8e157_0 dd_J3_checkIndex_8e157_0a.2.2.1) rfl).to, ?_⟩
  refine List.forall_mem_cons.mpr ⟨(s_iloadn (am_dp pw_J3_checkIndex_8e157_0 dd_J3_checkIndex_8e157_0a.2.2.2.1) rfl).to, ?_⟩
  refine List.forall_mem_cons.mpr ⟨(s_icmp_lt (am_dp pw_J3_checkIndex_8e157_0 dd_J3_checkIndex_8e157_0a.2.2.2.2.1) (by decide)).to, ?_⟩
  refine List.forall_mem_cons.mpr ⟨(s_aloadn (am_dp pw_J3_checkIndex_8e157_0 dd_J3_checkIndex_8e157_0a.2.2.2.2.2.1) rfl).to, ?_⟩
  refine List.forall_mem_cons.mpr ⟨(s_iloadn (am_dp pw_J3_checkIndex_8e157_0 dd_J3_checkIndex_8e157_0a.2.2.2.2.2.2.1) rfl).to, ?_⟩
  refine List.forall_mem_cons.mpr ⟨(s_iloadn (am_dp pw_J3_checkIndex_8e157_0 dd_J3_checkIndex_8e157_0a.2.2.2.2.2.2.2) rfl).to, ?_⟩
  refine List.forall_mem_cons.mpr ⟨(s_iloadn (am_dp pw_J3_checkIndex_8e157_0 dd_J3_checkIndex_8e157_0b.2.2.1) rfl).to, ?_⟩
  refine List.forall_mem_cons.mpr ⟨s_iret (am_dp pw_J3_checkIndex_8e157_0 dd_J3_checkIndex_8e157_0b.2.2.2) rfl, ?_⟩
  exact fun _ h => absurd h List.not_mem_nil
theorem sn_tX0_init : ∀ q ∈ tX0_init, am_Snd am_P0 RX0 cX0_init 1 (Option.none : Option FieldType) "<init>" q.1 q.2 := by
  unfold tX0_init
  refine List.forall_mem_cons.mpr ⟨(s_aloadn (am_dp pw_X0_init_0 dd_X0_init_0a.1) rfl).to, ?_⟩
  refine List.forall_mem_cons.mpr ⟨(s_obj (am_dp pw_X0_init_0 dd_X0_init_0a.2.1) wd201 wd160 wd161).to, ?_⟩
  refine List.forall_mem_cons.mpr ⟨(s_aloadn (am_dp pw_X0_init_0 dd_X0_init_0a.2.2.1) rfl).to, ?_⟩
  refine List.forall_mem_cons.mpr ⟨(s_sipush (am_dp pw_X0_init_0 dd_X0_init_0a.2.2.2.1) (by decide)).to, ?_⟩
  refine List.forall_mem_cons.mpr ⟨(s_newa (kd := 0) (ty := .int) (am_dp pw_X0_init_0 dd_X0_init_0a.2.2.2.2.1) rfl rfl wd195 (by decide) (by decide) (fun _ _ h => h)).to, ?_⟩
  refine List.forall_mem_cons.mpr ⟨(s_putF (ci := 0) (k := 0) (am_dp pw_X0_init_0 dd_X0_init_0a.2.2.2.2.2.1) rfl (by decide) wd202 inX0 tyX0_ok nmX0 rfl rfl rfl rfl).to, ?_⟩
  refine List.forall_mem_cons.mpr ⟨(s_aloadn (am_dp pw_X0_init_0 dd_X0_init_0a.2.2.2.2.2.2.1) rfl).to, ?_⟩
  refine List.forall_mem_cons.mpr ⟨(s_bipush (am_dp pw_X0_init_0 dd_X0_init_0a.2.2.2.2.2.2.2) (by decide)).to, ?_⟩
  refine List.forall_mem_cons.mpr ⟨(s_newa (kd := 0) (ty := .int) (am_dp pw_X0_init_0 dd_X0_init_0b.1) rfl rfl wd195 (by decide) (by decide) (fun _ _ h => h)).to, ?_⟩
  refine List.forall_mem_cons.mpr ⟨(s_putF (ci := 0) (k := 2) (am_dp pw_X0_init_0 dd_X0_init_0b.2.1) rfl (by decide) wd206 inX0 tyX0_ok nmX0 rfl rfl rfl rfl).to, ?_⟩
  refine List.forall_mem_cons.mpr ⟨s_vret (am_dp pw_X0_init_0 dd_X0_init_0b.2.2) rfl, ?_⟩
  exact fun _ h => absurd h List.not_mem_nil
theorem sn_tX0_emit : ∀ q ∈ tX0_emit, am_Snd am_P0 RX0 cX0_emit 2 (Option.none : Option FieldType) "emit" q.1 q.2 := by
  unfold tX0_emit
  refine List.forall_mem_cons.mpr ⟨(s_aloadn (am_dp pw_X0_emit_0 dd_X0_emit_0a.1) rfl).to, ?_⟩
  refine List.forall_mem_cons.mpr ⟨(s_get (ci := 0) (k := 1) (am_dp pw_X0_emit_0 dd_X0_emit_0a.2.1) rfl (by decide) wd203 inX0 rfl).to, ?_⟩
  refine List.forall_mem_cons.mpr ⟨(s_sipush (am_dp pw_X0_emit_0 dd_X0_emit_0a.2.2.1) (by decide)).to, ?_⟩
  refine List.forall_mem_cons.mpr ⟨(s_icmp_ge (am_dp pw_X0_emit_0 dd_X0_emit_0a.2.2.2.1) (by decide)).to, ?_⟩
  refine List.forall_mem_cons.mpr ⟨(s_aloadn (am_dp pw_X0_emit_0 dd_X0_emit_0a.2.2.2.2.1) rfl).to, ?_⟩
  refine List.forall_mem_cons.mpr ⟨(s_get (ci := 0) (k := 0) (am_dp pw_X0_emit_0 dd_X0_emit_0a.2.2.2.2.2.1) rfl (by decide) wd202 inX0 rfl).to, ?_⟩
  refine List.forall_mem_cons.mpr ⟨(s_aloadn (am_dp pw_X0_emit_0 dd_X0_emit_0a.2.2.2.2.2.2.1) rfl).to, ?_⟩
  refine List.forall_mem_cons.mpr ⟨(s_get (ci := 0) (k := 1) (am_dp pw_X0_emit_0 dd_X0_emit_0a.2.2.2.2.2.2.2) rfl (by decide) wd203 inX0 rfl).to, ?_⟩
  refine List.forall_mem_cons.mpr ⟨(s_iloadn (am_dp pw_X0_emit_0 dd_X0_emit_0b.1) rfl).to, ?_⟩
  refine List.forall_mem_cons.mpr ⟨(s_iast (am_dp pw_X0_emit_0 dd_X0_emit_0b.2.1)).to, ?_⟩
  refine List.forall_mem_cons.mpr ⟨(s_aloadn (am_dp pw_X0_emit_0 dd_X0_emit_0b.2.2.1) rfl).to, ?_⟩
  refine List.forall_mem_cons.mpr ⟨(s_dup (am_dp pw_X0_emit_0 dd_X0_emit_0b.2.2.2.1)).to, ?_⟩
  refine List.forall_mem_cons.mpr ⟨(s_get (ci := 0) (k := 1) (am_dp pw_X0_emit_0 dd_X0_emit_0b.2.2.2.2.1) rfl (by decide) wd203 inX0 rfl).to, ?_⟩
  refine List.forall_mem_cons.mpr ⟨(s_iconst (am_dp pw_X0_emit_0 dd_X0_emit_0b.2.2.2.2.2.1) (by decide)).to, ?_⟩
  refine List.forall_mem_cons.mpr ⟨(s_iadd (am_dp pw_X0_emit_0 dd_X0_emit_0b.2.2.2.2.2.2.1)).to, ?_⟩
  refine List.forall_mem_cons.mpr ⟨(s_put (ci := 0) (k := 1) (am_dp pw_X0_emit_0 dd_X0_emit_0b.2.2.2.2.2.2.2) rfl (by decide) wd203 inX0 tyX0_ok nmX0 rfl rfl).to, ?_⟩
  refine List.forall_mem_cons.mpr ⟨s_vret (am_dp pw_X0_emit_0 dd_X0_emit_0c) rfl, ?_⟩
  exact fun _ h => absurd h List.not_mem_nil
theorem sn_tX0_valueOf_0 : ∀ q ∈ tX0_valueOf_0, am_Snd am_P0 RX0 cX0_valueOf 11 (Option.some FieldType.int) "valueOf" q.1 q.2 := by
  unfold tX0_valueOf_0
  refine List.forall_mem_cons.mpr ⟨(s_iconst (am_dp pw_X0_valueOf_0 dd_X0_valueOf_0a.1) (by decide)).to, ?_⟩
  refine List.forall_mem_cons.mpr ⟨(s_istore (am_dp pw_X0_valueOf_0 dd_X0_valueOf_0a.2.1) (by decide)).to, ?_⟩
  refine List.forall_mem_cons.mpr ⟨(s_iloadn (am_dp pw_X0_valueOf_0 dd_X0_valueOf_0a.2.2.1) rfl).to, ?_⟩
  refine List.forall_mem_cons.mpr ⟨(s_istore (am_dp pw_X0_valueOf_0 dd_X0_valueOf_0a.2.2.2.1) (by decide)).to, ?_⟩
  refine List.forall_mem_cons.mpr ⟨(s_iload (am_dp pw_X0_valueOf_0 dd_X0_valueOf_0a.2.2.2.2.1)).to, ?_⟩
  refine List.forall_mem_cons.mpr ⟨(s_iloadn (am_dp pw_X0_valueOf_0 dd_X0_valueOf_0a.2.2.2.2.2.1) rfl).to, ?_⟩
  refine List.forall_mem_cons.mpr ⟨(s_icmp_ge (am_dp pw_X0_valueOf_0 dd_X0_valueOf_0a.2.2.2.2.2.2.1) (by decide)).to, ?_⟩
  refine List.forall_mem_cons.mpr ⟨(s_aloadn (am_dp pw_X0_valueOf_0 dd_X0_valueOf_0a.2.2.2.2.2.2.2) rfl).to, ?_⟩
  refine List.forall_mem_cons.mpr ⟨(s_get (ci := 0) (k := 0) (am_dp pw_X0_valueOf_0 dd_X0_valueOf_0b.1) rfl (by decide) wd202 inX0 rfl).to, ?_⟩
  refine List.forall_mem_cons.mpr ⟨(s_iload (am_dp pw_X0_valueOf_0 dd_X0_valueOf_0b.2.1)).to, ?_⟩
  refine List.forall_mem_cons.mpr ⟨(s_iald (am_dp pw_X0_valueOf_0 dd_X0_valueOf_0b.2.2.1)).to, ?_⟩
  refine List.forall_mem_cons.mpr ⟨(s_istore (am_dp pw_X0_valueOf_0 dd_X0_valueOf_0b.2.2.2.1) (by decide)).to, ?_⟩
  refine List.forall_mem_cons.mpr ⟨(s_iload (am_dp pw_X0_valueOf_0 dd_X0_valueOf_0b.2.2.2.2.1)).to, ?_⟩
  refine List.forall_mem_cons.mpr ⟨(s_bipush (am_dp pw_X0_valueOf_0 dd_X0_valueOf_0b.2.2.2.2.2.1) (by decide)).to, ?_⟩
  refine List.forall_mem_cons.mpr ⟨(s_icmp_lt (am_dp pw_X0_valueOf_0 dd_X0_valueOf_0b.2.2.2.2.2.2.1) (by decide)).to, ?_⟩
  refine List.forall_mem_cons.mpr ⟨(s_iload (am_dp pw_X0_valueOf_0 dd_X0_valueOf_0b.2.2.2.2.2.2.2)).to, ?_⟩
  refine List.forall_mem_cons.mpr ⟨(s_bipush (am_dp pw_X0_valueOf_0 dd_X0_valueOf_0c) (by decide)).to, ?_⟩
  refine List.forall_mem_cons.mpr ⟨(s_icmp_lt (am_dp pw_X0_valueOf_32 dd_X0_valueOf_32a.1) (by decide)).to, ?_⟩
  refine List.forall_mem_cons.mpr ⟨(s_iconst (am_dp pw_X0_valueOf_32 dd_X0_valueOf_32a.2.1) (by decide)).to, ?_⟩
  refine List.forall_mem_cons.mpr ⟨s_iret (am_dp pw_X0_valueOf_32 dd_X0_valueOf_32a.2.2.1) rfl, ?_⟩
  refine List.forall_mem_cons.mpr ⟨(s_aloadn (am_dp pw_X0_valueOf_32 dd_X0_valueOf_32a.2.2.2.1) rfl).to, ?_⟩
  refine List.forall_mem_cons.mpr ⟨(s_get (ci := 0) (k := 2) (am_dp pw_X0_valueOf_32 dd_X0_valueOf_32a.2.2.2.2.1) rfl (by decide) wd206 inX0 rfl).to, ?_⟩
  refine List.forall_mem_cons.mpr ⟨(s_iload (am_dp pw_X0_valueOf_32 dd_X0_valueOf_32a.2.2.2.2.2.1)).to, ?_⟩
  refine List.forall_mem_cons.mpr ⟨(s_iload (am_dp pw_X0_valueOf_32 dd_X0_valueOf_32a.2.2.2.2.2.2.1)).to, ?_⟩
  refine List.forall_mem_cons.mpr ⟨(s_iloadn (am_dp pw_X0_valueOf_32 dd_X0_valueOf_32a.2.2.2.2.2.2.2) rfl).to, ?_⟩
  refine List.forall_mem_cons.mpr ⟨(s_iload (am_dp pw_X0_valueOf_32 dd_X0_valueOf_32b.1)).to, ?_⟩
  refine List.forall_mem_cons.mpr ⟨(s_iload (am_dp pw_X0_valueOf_32 dd_X0_valueOf_32b.2.1)).to, ?_⟩
  refine List.forall_mem_cons.mpr ⟨zw_cs3 (am_dp pw_X0_valueOf_32 dd_X0_valueOf_32b.2.2.1) wd865, ?_⟩
  refine List.forall_mem_cons.mpr ⟨(s_iast (am_dp pw_X0_valueOf_32 dd_X0_valueOf_32b.2.2.2.1)).to, ?_⟩
  refine List.forall_mem_cons.mpr ⟨(s_iinc (am_dp pw_X0_valueOf_32 dd_X0_valueOf_32b.2.2.2.2.1) (by decide) (by decide)).to, ?_⟩
  refine List.forall_mem_cons.mpr ⟨(s_goto (am_dp pw_X0_valueOf_32 dd_X0_valueOf_32b.2.2.2.2.2.1) (by decide)).to, ?_⟩
  refine List.forall_mem_cons.mpr ⟨(s_iload (am_dp pw_X0_valueOf_32 dd_X0_valueOf_32b.2.2.2.2.2.2.1)).to, ?_⟩
  refine List.forall_mem_cons.mpr ⟨(s_bipush (am_dp pw_X0_valueOf_32 dd_X0_valueOf_32b.2.2.2.2.2.2.2) (by decide)).to, ?_⟩
  refine List.forall_mem_cons.mpr ⟨(s_icmp_ne (am_dp pw_X0_valueOf_64 dd_X0_valueOf_64a.1) (by decide)).to, ?_⟩
  refine List.forall_mem_cons.mpr ⟨(s_iload (am_dp pw_X0_valueOf_64 dd_X0_valueOf_64a.2.1)).to, ?_⟩
  refine List.forall_mem_cons.mpr ⟨(s_iconst (am_dp pw_X0_valueOf_64 dd_X0_valueOf_64a.2.2.1) (by decide)).to, ?_⟩
  refine List.forall_mem_cons.mpr ⟨(s_icmp_ge (am_dp pw_X0_valueOf_64 dd_X0_valueOf_64a.2.2.2.1) (by decide)).to, ?_⟩
  refine List.forall_mem_cons.mpr ⟨(s_iconst (am_dp pw_X0_valueOf_64 dd_X0_valueOf_64a.2.2.2.2.1) (by decide)).to, ?_⟩
  refine List.forall_mem_cons.mpr ⟨s_iret (am_dp pw_X0_valueOf_64 dd_X0_valueOf_64a.2.2.2.2.2.1) rfl, ?_⟩
  refine List.forall_mem_cons.mpr ⟨(s_aloadn (am_dp pw_X0_valueOf_64 dd_X0_valueOf_64a.2.2.2.2.2.2.1) rfl).to, ?_⟩
  refine List.forall_mem_cons.mpr ⟨(s_get (ci := 0) (k := 2) (am_dp pw_X0_valueOf_64 dd_X0_valueOf_64a.2.2.2.2.2.2.2) rfl (by decide) wd206 inX0 rfl).to, ?_⟩
  refine List.forall_mem_cons.mpr ⟨(s_iload (am_dp pw_X0_valueOf_64 dd_X0_valueOf_64b.1)).to, ?_⟩
  refine List.forall_mem_cons.mpr ⟨(s_iconst (am_dp pw_X0_valueOf_64 dd_X0_valueOf_64b.2.1) (by decide)).to, ?_⟩
  refine List.forall_mem_cons.mpr ⟨(s_isub (am_dp pw_X0_valueOf_64 dd_X0_valueOf_64b.2.2.1)).to, ?_⟩
  refine List.forall_mem_cons.mpr ⟨(s_iconst (am_dp pw_X0_valueOf_64 dd_X0_valueOf_64b.2.2.2.1) (by decide)).to, ?_⟩
  refine List.forall_mem_cons.mpr ⟨(s_aloadn (am_dp pw_X0_valueOf_64 dd_X0_valueOf_64b.2.2.2.2.1) rfl).to, ?_⟩
  refine List.forall_mem_cons.mpr ⟨(s_get (ci := 0) (k := 2) (am_dp pw_X0_valueOf_64 dd_X0_valueOf_64b.2.2.2.2.2.1) rfl (by decide) wd206 inX0 rfl).to, ?_⟩
  refine List.forall_mem_cons.mpr ⟨(s_iload (am_dp pw_X0_valueOf_64 dd_X0_valueOf_64b.2.2.2.2.2.2.1)).to, ?_⟩
  refine List.forall_mem_cons.mpr ⟨(s_iconst (am_dp pw_X0_valueOf_64 dd_X0_valueOf_64b.2.2.2.2.2.2.2) (by decide)).to, ?_⟩
  refine List.forall_mem_cons.mpr ⟨(s_isub (am_dp pw_X0_valueOf_64 dd_X0_valueOf_64c.1)).to, ?_⟩
  refine List.forall_mem_cons.mpr ⟨(s_iald (am_dp pw_X0_valueOf_64 dd_X0_valueOf_64c.2.1)).to, ?_⟩
  refine List.forall_mem_cons.mpr ⟨(s_isub (am_dp pw_X0_valueOf_64 dd_X0_valueOf_64c.2.2.1)).to, ?_⟩
  refine List.forall_mem_cons.mpr ⟨(s_iast (am_dp pw_X0_valueOf_64 dd_X0_valueOf_64c.2.2.2.1)).to, ?_⟩
  refine List.forall_mem_cons.mpr ⟨(s_goto (am_dp pw_X0_valueOf_64 dd_X0_valueOf_64c.2.2.2.2) (by decide)).to, ?_⟩
  refine List.forall_mem_cons.mpr ⟨(s_iload (am_dp pw_X0_valueOf_96 dd_X0_valueOf_96a.1)).to, ?_⟩
  refine List.forall_mem_cons.mpr ⟨(s_iconst (am_dp pw_X0_valueOf_96 dd_X0_valueOf_96a.2.1) (by decide)).to, ?_⟩
  refine List.forall_mem_cons.mpr ⟨(s_icmp_ge (am_dp pw_X0_valueOf_96 dd_X0_valueOf_96a.2.2.1) (by decide)).to, ?_⟩
  refine List.forall_mem_cons.mpr ⟨(s_iconst (am_dp pw_X0_valueOf_96 dd_X0_valueOf_96a.2.2.2.1) (by decide)).to, ?_⟩
  refine List.forall_mem_cons.mpr ⟨s_iret (am_dp pw_X0_valueOf_96 dd_X0_valueOf_96a.2.2.2.2.1) rfl, ?_⟩
  refine List.forall_mem_cons.mpr ⟨(s_iinc (am_dp pw_X0_valueOf_96 dd_X0_valueOf_96a.2.2.2.2.2.1) (by decide) (by decide)).to, ?_⟩
  exact fun _ h => absurd h List.not_mem_nil
theorem sn_tX0_valueOf_1 : ∀ q ∈ tX0_valueOf_1, am_Snd am_P0 RX0 cX0_valueOf 11 (Option.some FieldType.int) "valueOf" q.1 q.2 := by
  unfold tX0_valueOf_1
  refine List.forall_mem_cons.mpr ⟨(s_iload (am_dp pw_X0_valueOf_96 dd_X0_valueOf_96a.2.2.2.2.2.2.1)).to, ?_⟩
  refine List.forall_mem_cons.mpr ⟨(s_aloadn (am_dp pw_X0_valueOf_96 dd_X0_valueOf_96a.2.2.2.2.2.2.2) rfl).to, ?_⟩
  refine List.forall_mem_cons.mpr ⟨(s_get (ci := 0) (k := 2) (am_dp pw_X0_valueOf_96 dd_X0_valueOf_96b.1) rfl (by decide) wd206 inX0 rfl).to, ?_⟩
  refine List.forall_mem_cons.mpr ⟨(s_iload (am_dp pw_X0_valueOf_96 dd_X0_valueOf_96b.2.1)).to, ?_⟩
  refine List.forall_mem_cons.mpr ⟨(s_iconst (am_dp pw_X0_valueOf_96 dd_X0_valueOf_96b.2.2.1) (by decide)).to, ?_⟩
  refine List.forall_mem_cons.mpr ⟨(s_isub (am_dp pw_X0_valueOf_96 dd_X0_valueOf_96b.2.2.2.1)).to, ?_⟩
  refine List.forall_mem_cons.mpr ⟨(s_iald (am_dp pw_X0_valueOf_96 dd_X0_valueOf_96b.2.2.2.2.1)).to, ?_⟩
  refine List.forall_mem_cons.mpr ⟨(s_i2l (am_dp pw_X0_valueOf_96 dd_X0_valueOf_96b.2.2.2.2.2.1)).to, ?_⟩
  refine List.forall_mem_cons.mpr ⟨(s_aloadn (am_dp pw_X0_valueOf_96 dd_X0_valueOf_96b.2.2.2.2.2.2.1) rfl).to, ?_⟩
  refine List.forall_mem_cons.mpr ⟨(s_get (ci := 0) (k := 2) (am_dp pw_X0_valueOf_96 dd_X0_valueOf_96b.2.2.2.2.2.2.2) rfl (by decide) wd206 inX0 rfl).to, ?_⟩
  refine List.forall_mem_cons.mpr ⟨(s_iload (am_dp pw_X0_valueOf_96 dd_X0_valueOf_96c.1)).to, ?_⟩
  refine List.forall_mem_cons.mpr ⟨(s_iald (am_dp pw_X0_valueOf_96 dd_X0_valueOf_96c.2)).to, ?_⟩
  refine List.forall_mem_cons.mpr ⟨(s_i2l (am_dp pw_X0_valueOf_128 dd_X0_valueOf_128a.1)).to, ?_⟩
  refine List.forall_mem_cons.mpr ⟨zw_cs4 (am_dp pw_X0_valueOf_128 dd_X0_valueOf_128a.2.1) wd868, ?_⟩
  refine List.forall_mem_cons.mpr ⟨(s_lstore (am_dp pw_X0_valueOf_128 dd_X0_valueOf_128a.2.2.1) (by decide)).to, ?_⟩
  refine List.forall_mem_cons.mpr ⟨(s_aloadn (am_dp pw_X0_valueOf_128 dd_X0_valueOf_128a.2.2.2.1) rfl).to, ?_⟩
  refine List.forall_mem_cons.mpr ⟨(s_get (ci := 0) (k := 2) (am_dp pw_X0_valueOf_128 dd_X0_valueOf_128a.2.2.2.2.1) rfl (by decide) wd206 inX0 rfl).to, ?_⟩
  refine List.forall_mem_cons.mpr ⟨(s_iload (am_dp pw_X0_valueOf_128 dd_X0_valueOf_128a.2.2.2.2.2.1)).to, ?_⟩
  refine List.forall_mem_cons.mpr ⟨(s_iconst (am_dp pw_X0_valueOf_128 dd_X0_valueOf_128a.2.2.2.2.2.2.1) (by decide)).to, ?_⟩
  refine List.forall_mem_cons.mpr ⟨(s_isub (am_dp pw_X0_valueOf_128 dd_X0_valueOf_128a.2.2.2.2.2.2.2)).to, ?_⟩
  refine List.forall_mem_cons.mpr ⟨(s_ldc2 (am_dp pw_X0_valueOf_128 dd_X0_valueOf_128b.1) wd883).to, ?_⟩
  refine List.forall_mem_cons.mpr ⟨(s_ldc2 (am_dp pw_X0_valueOf_128 dd_X0_valueOf_128b.2.1) wd884).to, ?_⟩
  refine List.forall_mem_cons.mpr ⟨(s_lload (am_dp pw_X0_valueOf_128 dd_X0_valueOf_128b.2.2.1)).to, ?_⟩
  refine List.forall_mem_cons.mpr ⟨zw_cs310 (am_dp pw_X0_valueOf_128 dd_X0_valueOf_128b.2.2.2.1) wd877, ?_⟩
  refine List.forall_mem_cons.mpr ⟨zw_cs308 (am_dp pw_X0_valueOf_128 dd_X0_valueOf_128b.2.2.2.2.1) wd880, ?_⟩
  refine List.forall_mem_cons.mpr ⟨(s_l2i (am_dp pw_X0_valueOf_128 dd_X0_valueOf_128b.2.2.2.2.2.1)).to, ?_⟩
  refine List.forall_mem_cons.mpr ⟨(s_iast (am_dp pw_X0_valueOf_128 dd_X0_valueOf_128b.2.2.2.2.2.2.1)).to, ?_⟩
  refine List.forall_mem_cons.mpr ⟨(s_iinc (am_dp pw_X0_valueOf_128 dd_X0_valueOf_128b.2.2.2.2.2.2.2) (by decide) (by decide)).to, ?_⟩
  refine List.forall_mem_cons.mpr ⟨(s_goto (am_dp pw_X0_valueOf_160 dd_X0_valueOf_160a.1) (by decide)).to, ?_⟩
  refine List.forall_mem_cons.mpr ⟨(s_iload (am_dp pw_X0_valueOf_160 dd_X0_valueOf_160a.2.1)).to, ?_⟩
  refine List.forall_mem_cons.mpr ⟨(s_if_le (am_dp pw_X0_valueOf_160 dd_X0_valueOf_160a.2.2.1) (by decide)).to, ?_⟩
  refine List.forall_mem_cons.mpr ⟨(s_aloadn (am_dp pw_X0_valueOf_160 dd_X0_valueOf_160a.2.2.2.1) rfl).to, ?_⟩
  refine List.forall_mem_cons.mpr ⟨(s_get (ci := 0) (k := 2) (am_dp pw_X0_valueOf_160 dd_X0_valueOf_160a.2.2.2.2.1) rfl (by decide) wd206 inX0 rfl).to, ?_⟩
  refine List.forall_mem_cons.mpr ⟨(s_iload (am_dp pw_X0_valueOf_160 dd_X0_valueOf_160a.2.2.2.2.2.1)).to, ?_⟩
  refine List.forall_mem_cons.mpr ⟨(s_iconst (am_dp pw_X0_valueOf_160 dd_X0_valueOf_160a.2.2.2.2.2.2.1) (by decide)).to, ?_⟩
  refine List.forall_mem_cons.mpr ⟨(s_isub (am_dp pw_X0_valueOf_160 dd_X0_valueOf_160a.2.2.2.2.2.2.2)).to, ?_⟩
  refine List.forall_mem_cons.mpr ⟨(s_iald (am_dp pw_X0_valueOf_160 dd_X0_valueOf_160b.1)).to, ?_⟩
  refine List.forall_mem_cons.mpr ⟨(s_goto (am_dp pw_X0_valueOf_160 dd_X0_valueOf_160b.2.1) (by decide)).to, ?_⟩
  refine List.forall_mem_cons.mpr ⟨(s_iconst (am_dp pw_X0_valueOf_160 dd_X0_valueOf_160b.2.2.1) (by decide)).to, ?_⟩
  refine List.forall_mem_cons.mpr ⟨s_iret (am_dp pw_X0_valueOf_160 dd_X0_valueOf_160b.2.2.2) rfl, ?_⟩
  exact fun _ h => absurd h List.not_mem_nil
theorem sn_tX0_valueOf : ∀ q ∈ tX0_valueOf, am_Snd am_P0 RX0 cX0_valueOf 11 (Option.some FieldType.int) "valueOf" q.1 q.2 := by
  unfold tX0_valueOf
  exact List.forall_mem_append.mpr ⟨sn_tX0_valueOf_0, sn_tX0_valueOf_1⟩
theorem sn_tX0_partOf : ∀ q ∈ tX0_partOf, am_Snd am_P0 RX0 cX0_partOf 4 (Option.some FieldType.int) "partOf" q.1 q.2 := by
  unfold tX0_partOf
  refine List.forall_mem_cons.mpr ⟨(s_iloadn (am_dp pw_X0_partOf_0 dd_X0_partOf_0a) rfl).to, ?_⟩
  refine List.forall_mem_cons.mpr ⟨(s_table (by decide +kernel : decode cX0_partOf 1 = .ok (.tableswitch 45 (-4) (-1) #[43, 41, 36, 31], 31)) (by decide) (by decide) (by decide) (by decide)).to, ?_⟩
  refine List.forall_mem_cons.mpr ⟨(s_iloadn (am_dp pw_X0_partOf_32 dd_X0_partOf_32a.1) rfl).to, ?_⟩
  refine List.forall_mem_cons.mpr ⟨(s_bipush (am_dp pw_X0_partOf_32 dd_X0_partOf_32a.2.1) (by decide)).to, ?_⟩
  refine List.forall_mem_cons.mpr ⟨(s_irem (am_dp pw_X0_partOf_32 dd_X0_partOf_32a.2.2.1)).to, ?_⟩
  refine List.forall_mem_cons.mpr ⟨s_iret (am_dp pw_X0_partOf_32 dd_X0_partOf_32a.2.2.2.1) rfl, ?_⟩
  refine List.forall_mem_cons.mpr ⟨(s_iloadn (am_dp pw_X0_partOf_32 dd_X0_partOf_32a.2.2.2.2.1) rfl).to, ?_⟩
  refine List.forall_mem_cons.mpr ⟨(s_bipush (am_dp pw_X0_partOf_32 dd_X0_partOf_32a.2.2.2.2.2.1) (by decide)).to, ?_⟩
  refine List.forall_mem_cons.mpr ⟨(s_idiv (am_dp pw_X0_partOf_32 dd_X0_partOf_32a.2.2.2.2.2.2.1)).to, ?_⟩
  refine List.forall_mem_cons.mpr ⟨s_iret (am_dp pw_X0_partOf_32 dd_X0_partOf_32a.2.2.2.2.2.2.2) rfl, ?_⟩
  refine List.forall_mem_cons.mpr ⟨(s_iloadn (am_dp pw_X0_partOf_32 dd_X0_partOf_32b.1) rfl).to, ?_⟩
  refine List.forall_mem_cons.mpr ⟨s_iret (am_dp pw_X0_partOf_32 dd_X0_partOf_32b.2.1) rfl, ?_⟩
  refine List.forall_mem_cons.mpr ⟨(s_iloadn (am_dp pw_X0_partOf_32 dd_X0_partOf_32b.2.2.1) rfl).to, ?_⟩
  refine List.forall_mem_cons.mpr ⟨s_iret (am_dp pw_X0_partOf_32 dd_X0_partOf_32b.2.2.2.1) rfl, ?_⟩
  refine List.forall_mem_cons.mpr ⟨(s_iloadn (am_dp pw_X0_partOf_32 dd_X0_partOf_32b.2.2.2.2.1) rfl).to, ?_⟩
  refine List.forall_mem_cons.mpr ⟨s_iret (am_dp pw_X0_partOf_32 dd_X0_partOf_32b.2.2.2.2.2) rfl, ?_⟩
  exact fun _ h => absurd h List.not_mem_nil
theorem sn_tX0_joined_0 : ∀ q ∈ tX0_joined_0, am_Snd am_P0 RX0 cX0_joined 5 (Option.some FieldType.long) "joined" q.1 q.2 := by
  unfold tX0_joined_0
  refine List.forall_mem_cons.mpr ⟨(s_iloadn (am_dp pw_X0_joined_0 dd_X0_joined_0a) rfl).to, ?_⟩
  refine List.forall_mem_cons.mpr ⟨(s_table (by decide +kernel : decode cX0_joined 1 = .ok (.tableswitch 155 (-16) (-6) #[151, 139, 127, 115, 109, 103, 87, 71, 67, 63, 59], 59)) (by decide) (by decide) (by decide) (by decide)).to, ?_⟩
  refine List.forall_mem_cons.mpr ⟨(s_lloadn (am_dp pw_X0_joined_32 dd_X0_joined_32a.1) rfl).to, ?_⟩
  refine List.forall_mem_cons.mpr ⟨(s_lloadn (am_dp pw_X0_joined_32 dd_X0_joined_32a.2.1) rfl).to, ?_⟩
  refine List.forall_mem_cons.mpr ⟨(s_ladd (am_dp pw_X0_joined_32 dd_X0_joined_32a.2.2.1)).to, ?_⟩
  refine List.forall_mem_cons.mpr ⟨s_lret (am_dp pw_X0_joined_32 dd_X0_joined_32a.2.2.2) rfl, ?_⟩
  refine List.forall_mem_cons.mpr ⟨(s_lloadn (am_dp pw_X0_joined_64 dd_X0_joined_64a.1) rfl).to, ?_⟩
  refine List.forall_mem_cons.mpr ⟨(s_lloadn (am_dp pw_X0_joined_64 dd_X0_joined_64a.2.1) rfl).to, ?_⟩
  refine List.forall_mem_cons.mpr ⟨(s_lsub (am_dp pw_X0_joined_64 dd_X0_joined_64a.2.2.1)).to, ?_⟩
  refine List.forall_mem_cons.mpr ⟨s_lret (am_dp pw_X0_joined_64 dd_X0_joined_64a.2.2.2.1) rfl, ?_⟩
  refine List.forall_mem_cons.mpr ⟨(s_lloadn (am_dp pw_X0_joined_64 dd_X0_joined_64a.2.2.2.2.1) rfl).to, ?_⟩
  refine List.forall_mem_cons.mpr ⟨(s_lloadn (am_dp pw_X0_joined_64 dd_X0_joined_64a.2.2.2.2.2.1) rfl).to, ?_⟩
  refine List.forall_mem_cons.mpr ⟨(s_lmul (am_dp pw_X0_joined_64 dd_X0_joined_64a.2.2.2.2.2.2.1)).to, ?_⟩
  refine List.forall_mem_cons.mpr ⟨s_lret (am_dp pw_X0_joined_64 dd_X0_joined_64a.2.2.2.2.2.2.2) rfl, ?_⟩
  refine List.forall_mem_cons.mpr ⟨(s_lloadn (am_dp pw_X0_joined_64 dd_X0_joined_64b.1) rfl).to, ?_⟩
  refine List.forall_mem_cons.mpr ⟨(s_lconst (am_dp pw_X0_joined_64 dd_X0_joined_64b.2.1) (by decide)).to, ?_⟩
  refine List.forall_mem_cons.mpr ⟨(s_lcmp (am_dp pw_X0_joined_64 dd_X0_joined_64b.2.2.1)).to, ?_⟩
  refine List.forall_mem_cons.mpr ⟨(s_if_ne (am_dp pw_X0_joined_64 dd_X0_joined_64b.2.2.2.1) (by decide)).to, ?_⟩
  refine List.forall_mem_cons.mpr ⟨(s_lconst (am_dp pw_X0_joined_64 dd_X0_joined_64b.2.2.2.2.1) (by decide)).to, ?_⟩
  refine List.forall_mem_cons.mpr ⟨(s_goto (am_dp pw_X0_joined_64 dd_X0_joined_64b.2.2.2.2.2.1) (by decide)).to, ?_⟩
  refine List.forall_mem_cons.mpr ⟨(s_lloadn (am_dp pw_X0_joined_64 dd_X0_joined_64b.2.2.2.2.2.2.1) rfl).to, ?_⟩
  refine List.forall_mem_cons.mpr ⟨(s_lloadn (am_dp pw_X0_joined_64 dd_X0_joined_64b.2.2.2.2.2.2.2) rfl).to, ?_⟩
  refine List.forall_mem_cons.mpr ⟨zw_cs304 (am_dp pw_X0_joined_64 dd_X0_joined_64c.1) wd871, ?_⟩
  refine List.forall_mem_cons.mpr ⟨s_lret (am_dp pw_X0_joined_64 dd_X0_joined_64c.2.1) rfl, ?_⟩
  refine List.forall_mem_cons.mpr ⟨(s_lloadn (am_dp pw_X0_joined_64 dd_X0_joined_64c.2.2.1) rfl).to, ?_⟩
  refine List.forall_mem_cons.mpr ⟨(s_lconst (am_dp pw_X0_joined_64 dd_X0_joined_64c.2.2.2.1) (by decide)).to, ?_⟩
  refine List.forall_mem_cons.mpr ⟨(s_lcmp (am_dp pw_X0_joined_64 dd_X0_joined_64c.2.2.2.2.1)).to, ?_⟩
  refine List.forall_mem_cons.mpr ⟨(s_if_ne (am_dp pw_X0_joined_64 dd_X0_joined_64c.2.2.2.2.2.1) (by decide)).to, ?_⟩
  refine List.forall_mem_cons.mpr ⟨(s_lconst (am_dp pw_X0_joined_64 dd_X0_joined_64c.2.2.2.2.2.2.1) (by decide)).to, ?_⟩
  refine List.forall_mem_cons.mpr ⟨(s_goto (am_dp pw_X0_joined_64 dd_X0_joined_64c.2.2.2.2.2.2.2) (by decide)).to, ?_⟩
  refine List.forall_mem_cons.mpr ⟨(s_lloadn (am_dp pw_X0_joined_96 dd_X0_joined_96a.1) rfl).to, ?_⟩
  refine List.forall_mem_cons.mpr ⟨(s_lloadn (am_dp pw_X0_joined_96 dd_X0_joined_96a.2.1) rfl).to, ?_⟩
  refine List.forall_mem_cons.mpr ⟨zw_cs305 (am_dp pw_X0_joined_96 dd_X0_joined_96a.2.2.1) wd874, ?_⟩
  refine List.forall_mem_cons.mpr ⟨s_lret (am_dp pw_X0_joined_96 dd_X0_joined_96a.2.2.2.1) rfl, ?_⟩
  refine List.forall_mem_cons.mpr ⟨(s_lloadn (am_dp pw_X0_joined_96 dd_X0_joined_96a.2.2.2.2.1) rfl).to, ?_⟩
  refine List.forall_mem_cons.mpr ⟨(s_lloadn (am_dp pw_X0_joined_96 dd_X0_joined_96a.2.2.2.2.2.1) rfl).to, ?_⟩
  refine List.forall_mem_cons.mpr ⟨zw_cs310 (am_dp pw_X0_joined_96 dd_X0_joined_96a.2.2.2.2.2.2.1) wd877, ?_⟩
  refine List.forall_mem_cons.mpr ⟨s_lret (am_dp pw_X0_joined_96 dd_X0_joined_96a.2.2.2.2.2.2.2) rfl, ?_⟩
  refine List.forall_mem_cons.mpr ⟨(s_lloadn (am_dp pw_X0_joined_96 dd_X0_joined_96b.1) rfl).to, ?_⟩
  refine List.forall_mem_cons.mpr ⟨(s_lloadn (am_dp pw_X0_joined_96 dd_X0_joined_96b.2.1) rfl).to, ?_⟩
  refine List.forall_mem_cons.mpr ⟨zw_cs308 (am_dp pw_X0_joined_96 dd_X0_joined_96b.2.2.1) wd880, ?_⟩
  refine List.forall_mem_cons.mpr ⟨s_lret (am_dp pw_X0_joined_96 dd_X0_joined_96b.2.2.2.1) rfl, ?_⟩
  refine List.forall_mem_cons.mpr ⟨(s_lloadn (am_dp pw_X0_joined_96 dd_X0_joined_96b.2.2.2.2.1) rfl).to, ?_⟩
  refine List.forall_mem_cons.mpr ⟨(s_lloadn (am_dp pw_X0_joined_96 dd_X0_joined_96b.2.2.2.2.2.1) rfl).to, ?_⟩
  refine List.forall_mem_cons.mpr ⟨(s_lcmp (am_dp pw_X0_joined_96 dd_X0_joined_96b.2.2.2.2.2.2.1)).to, ?_⟩
  refine List.forall_mem_cons.mpr ⟨(s_if_ge (am_dp pw_X0_joined_96 dd_X0_joined_96b.2.2.2.2.2.2.2) (by decide)).to, ?_⟩
  refine List.forall_mem_cons.mpr ⟨(s_lconst (am_dp pw_X0_joined_96 dd_X0_joined_96c.1) (by decide)).to, ?_⟩
  refine List.forall_mem_cons.mpr ⟨(s_goto (am_dp pw_X0_joined_96 dd_X0_joined_96c.2.1) (by decide)).to, ?_⟩
  refine List.forall_mem_cons.mpr ⟨(s_lconst (am_dp pw_X0_joined_96 dd_X0_joined_96c.2.2.1) (by decide)).to, ?_⟩
  refine List.forall_mem_cons.mpr ⟨s_lret (am_dp pw_X0_joined_96 dd_X0_joined_96c.2.2.2) rfl, ?_⟩
  refine List.forall_mem_cons.mpr ⟨(s_lloadn (am_dp pw_X0_joined_128 dd_X0_joined_128a.1) rfl).to, ?_⟩
  refine List.forall_mem_cons.mpr ⟨(s_lloadn (am_dp pw_X0_joined_128 dd_X0_joined_128a.2.1) rfl).to, ?_⟩
  refine List.forall_mem_cons.mpr ⟨(s_lcmp (am_dp pw_X0_joined_128 dd_X0_joined_128a.2.2.1)).to, ?_⟩
  refine List.forall_mem_cons.mpr ⟨(s_if_le (am_dp pw_X0_joined_128 dd_X0_joined_128a.2.2.2.1) (by decide)).to, ?_⟩
  refine List.forall_mem_cons.mpr ⟨(s_lconst (am_dp pw_X0_joined_128 dd_X0_joined_128a.2.2.2.2.1) (by decide)).to, ?_⟩
  refine List.forall_mem_cons.mpr ⟨(s_goto (am_dp pw_X0_joined_128 dd_X0_joined_128a.2.2.2.2.2.1) (by decide)).to, ?_⟩
  refine List.forall_mem_cons.mpr ⟨(s_lconst (am_dp pw_X0_joined_128 dd_X0_joined_128a.2.2.2.2.2.2.1) (by decide)).to, ?_⟩
  refine List.forall_mem_cons.mpr ⟨s_lret (am_dp pw_X0_joined_128 dd_X0_joined_128a.2.2.2.2.2.2.2) rfl, ?_⟩
  refine List.forall_mem_cons.mpr ⟨(s_lloadn (am_dp pw_X0_joined_128 dd_X0_joined_128b.1) rfl).to, ?_⟩
  refine List.forall_mem_cons.mpr ⟨(s_lloadn (am_dp pw_X0_joined_128 dd_X0_joined_128b.2.1) rfl).to, ?_⟩
  exact fun _ h => absurd h List.not_mem_nil
theorem sn_tX0_joined_1 : ∀ q ∈ tX0_joined_1, am_Snd am_P0 RX0 cX0_joined 5 (Option.some FieldType.long) "joined" q.1 q.2 := by
  unfold tX0_joined_1
  refine List.forall_mem_cons.mpr ⟨(s_lcmp (am_dp pw_X0_joined_128 dd_X0_joined_128b.2.2.1)).to, ?_⟩
  refine List.forall_mem_cons.mpr ⟨(s_if_ne (am_dp pw_X0_joined_128 dd_X0_joined_128b.2.2.2.1) (by decide)).to, ?_⟩
  refine List.forall_mem_cons.mpr ⟨(s_lconst (am_dp pw_X0_joined_128 dd_X0_joined_128b.2.2.2.2.1) (by decide)).to, ?_⟩
  refine List.forall_mem_cons.mpr ⟨(s_goto (am_dp pw_X0_joined_128 dd_X0_joined_128b.2.2.2.2.2.1) (by decide)).to, ?_⟩
  refine List.forall_mem_cons.mpr ⟨(s_lconst (am_dp pw_X0_joined_128 dd_X0_joined_128b.2.2.2.2.2.2.1) (by decide)).to, ?_⟩
  refine List.forall_mem_cons.mpr ⟨s_lret (am_dp pw_X0_joined_128 dd_X0_joined_128b.2.2.2.2.2.2.2) rfl, ?_⟩
  refine List.forall_mem_cons.mpr ⟨(s_lloadn (am_dp pw_X0_joined_128 dd_X0_joined_128c.1) rfl).to, ?_⟩
  refine List.forall_mem_cons.mpr ⟨(s_lloadn (am_dp pw_X0_joined_128 dd_X0_joined_128c.2.1) rfl).to, ?_⟩
  refine List.forall_mem_cons.mpr ⟨(s_land (am_dp pw_X0_joined_128 dd_X0_joined_128c.2.2.1)).to, ?_⟩
  refine List.forall_mem_cons.mpr ⟨s_lret (am_dp pw_X0_joined_128 dd_X0_joined_128c.2.2.2.1) rfl, ?_⟩
  refine List.forall_mem_cons.mpr ⟨(s_lloadn (am_dp pw_X0_joined_128 dd_X0_joined_128c.2.2.2.2.1) rfl).to, ?_⟩
  refine List.forall_mem_cons.mpr ⟨(s_lloadn (am_dp pw_X0_joined_128 dd_X0_joined_128c.2.2.2.2.2.1) rfl).to, ?_⟩
  refine List.forall_mem_cons.mpr ⟨(s_lor (am_dp pw_X0_joined_128 dd_X0_joined_128c.2.2.2.2.2.2.1)).to, ?_⟩
  refine List.forall_mem_cons.mpr ⟨s_lret (am_dp pw_X0_joined_128 dd_X0_joined_128c.2.2.2.2.2.2.2) rfl, ?_⟩
  exact fun _ h => absurd h List.not_mem_nil
theorem sn_tX0_joined : ∀ q ∈ tX0_joined, am_Snd am_P0 RX0 cX0_joined 5 (Option.some FieldType.long) "joined" q.1 q.2 := by
  unfold tX0_joined
  exact List.forall_mem_append.mpr ⟨sn_tX0_joined_0, sn_tX0_joined_1⟩
theorem sn_tX1_init : ∀ q ∈ tX1_init, am_Snd am_P0 RX1 cX1_init 1 (Option.none : Option FieldType) "<init>" q.1 q.2 := by
  unfold tX1_init
  refine List.forall_mem_cons.mpr ⟨(s_aloadn (am_dp pw_X1_init_0 dd_X1_init_0a.1) rfl).to, ?_⟩
  refine List.forall_mem_cons.mpr ⟨(s_obj (am_dp pw_X1_init_0 dd_X1_init_0a.2.1) wd512 wd160 wd161).to, ?_⟩
  refine List.forall_mem_cons.mpr ⟨(s_aloadn (am_dp pw_X1_init_0 dd_X1_init_0a.2.2.1) rfl).to, ?_⟩
  refine List.forall_mem_cons.mpr ⟨(s_bipush (am_dp pw_X1_init_0 dd_X1_init_0a.2.2.2.1) (by decide)).to, ?_⟩
  refine List.forall_mem_cons.mpr ⟨(s_newa (kd := 0) (ty := .int) (am_dp pw_X1_init_0 dd_X1_init_0a.2.2.2.2.1) rfl rfl wd195 (by decide) (by decide) (fun _ _ h => h)).to, ?_⟩
  refine List.forall_mem_cons.mpr ⟨(s_putF (ci := 1) (k := 0) (am_dp pw_X1_init_0 dd_X1_init_0a.2.2.2.2.2.1) rfl (by decide) wd513 inX1 tyX1_ok nmX1 rfl rfl rfl rfl).to, ?_⟩
  refine List.forall_mem_cons.mpr ⟨s_vret (am_dp pw_X1_init_0 dd_X1_init_0a.2.2.2.2.2.2) rfl, ?_⟩
  exact fun _ h => absurd h List.not_mem_nil
theorem sn_tX1_clear : ∀ q ∈ tX1_clear, am_Snd am_P0 RX1 cX1_clear 1 (Option.none : Option FieldType) "clear" q.1 q.2 := by
  unfold tX1_clear
  refine List.forall_mem_cons.mpr ⟨(s_aloadn (am_dp pw_X1_clear_0 dd_X1_clear_0a.1) rfl).to, ?_⟩
  refine List.forall_mem_cons.mpr ⟨(s_get (ci := 1) (k := 0) (am_dp pw_X1_clear_0 dd_X1_clear_0a.2.1) rfl (by decide) wd513 inX1 rfl).to, ?_⟩
  refine List.forall_mem_cons.mpr ⟨(s_iconst (am_dp pw_X1_clear_0 dd_X1_clear_0a.2.2.1) (by decide)).to, ?_⟩
  refine List.forall_mem_cons.mpr ⟨zw_cs324 (am_dp pw_X1_clear_0 dd_X1_clear_0a.2.2.2.1) wd945, ?_⟩
  refine List.forall_mem_cons.mpr ⟨s_vret (am_dp pw_X1_clear_0 dd_X1_clear_0a.2.2.2.2) rfl, ?_⟩
  exact fun _ h => absurd h List.not_mem_nil
theorem sn_tX1_put : ∀ q ∈ tX1_put, am_Snd am_P0 RX1 cX1_put 3 (Option.some FieldType.boolean) "put" q.1 q.2 := by
  unfold tX1_put
  refine List.forall_mem_cons.mpr ⟨(s_aloadn (am_dp pw_X1_put_0 dd_X1_put_0a.1) rfl).to, ?_⟩
  refine List.forall_mem_cons.mpr ⟨(s_get (ci := 1) (k := 0) (am_dp pw_X1_put_0 dd_X1_put_0a.2.1) rfl (by decide) wd513 inX1 rfl).to, ?_⟩
  refine List.forall_mem_cons.mpr ⟨(s_iloadn (am_dp pw_X1_put_0 dd_X1_put_0a.2.2.1) rfl).to, ?_⟩
  refine List.forall_mem_cons.mpr ⟨(s_iald (am_dp pw_X1_put_0 dd_X1_put_0a.2.2.2.1)).to, ?_⟩
  refine List.forall_mem_cons.mpr ⟨(s_iconst (am_dp pw_X1_put_0 dd_X1_put_0a.2.2.2.2.1) (by decide)).to, ?_⟩
  refine List.forall_mem_cons.mpr ⟨(s_icmp_eq (am_dp pw_X1_put_0 dd_X1_put_0a.2.2.2.2.2.1) (by decide)).to, ?_⟩
  refine List.forall_mem_cons.mpr ⟨(s_aloadn (am_dp pw_X1_put_0 dd_X1_put_0a.2.2.2.2.2.2.1) rfl).to, ?_⟩
  refine List.forall_mem_cons.mpr ⟨(s_get (ci := 1) (k := 0) (am_dp pw_X1_put_0 dd_X1_put_0a.2.2.2.2.2.2.2) rfl (by decide) wd513 inX1 rfl).to, ?_⟩
  refine List.forall_mem_cons.mpr ⟨(s_iloadn (am_dp pw_X1_put_0 dd_X1_put_0b.1) rfl).to, ?_⟩
  refine List.forall_mem_cons.mpr ⟨(s_iald (am_dp pw_X1_put_0 dd_X1_put_0b.2.1)).to, ?_⟩
  refine List.forall_mem_cons.mpr ⟨(s_iloadn (am_dp pw_X1_put_0 dd_X1_put_0b.2.2.1) rfl).to, ?_⟩
  refine List.forall_mem_cons.mpr ⟨(s_icmp_eq (am_dp pw_X1_put_0 dd_X1_put_0b.2.2.2.1) (by decide)).to, ?_⟩
  refine List.forall_mem_cons.mpr ⟨(s_iconst (am_dp pw_X1_put_0 dd_X1_put_0b.2.2.2.2.1) (by decide)).to, ?_⟩
  refine List.forall_mem_cons.mpr ⟨s_zret (am_dp pw_X1_put_0 dd_X1_put_0b.2.2.2.2.2.1) rfl, ?_⟩
  refine List.forall_mem_cons.mpr ⟨(s_aloadn (am_dp pw_X1_put_0 dd_X1_put_0b.2.2.2.2.2.2.1) rfl).to, ?_⟩
  refine List.forall_mem_cons.mpr ⟨(s_get (ci := 1) (k := 0) (am_dp pw_X1_put_0 dd_X1_put_0b.2.2.2.2.2.2.2) rfl (by decide) wd513 inX1 rfl).to, ?_⟩
  refine List.forall_mem_cons.mpr ⟨(s_iloadn (am_dp pw_X1_put_0 dd_X1_put_0c.1) rfl).to, ?_⟩
  refine List.forall_mem_cons.mpr ⟨(s_iloadn (am_dp pw_X1_put_0 dd_X1_put_0c.2.1) rfl).to, ?_⟩
  refine List.forall_mem_cons.mpr ⟨(s_iast (am_dp pw_X1_put_0 dd_X1_put_0c.2.2.1)).to, ?_⟩
  refine List.forall_mem_cons.mpr ⟨(s_iconst (am_dp pw_X1_put_0 dd_X1_put_0c.2.2.2.1) (by decide)).to, ?_⟩
  refine List.forall_mem_cons.mpr ⟨s_zret (am_dp pw_X1_put_0 dd_X1_put_0c.2.2.2.2) rfl, ?_⟩
  exact fun _ h => absurd h List.not_mem_nil
theorem sn_tX1_holds : ∀ q ∈ tX1_holds, am_Snd am_P0 RX1 cX1_holds 5 (Option.some FieldType.boolean) "holds" q.1 q.2 := by
  unfold tX1_holds
  refine List.forall_mem_cons.mpr ⟨(s_iconst (am_dp pw_X1_holds_0 dd_X1_holds_0a.1) (by decide)).to, ?_⟩
  refine List.forall_mem_cons.mpr ⟨(s_istoren (am_dp pw_X1_holds_0 dd_X1_holds_0a.2.1) rfl (by decide)).to, ?_⟩
  refine List.forall_mem_cons.mpr ⟨(s_iconst (am_dp pw_X1_holds_0 dd_X1_holds_0a.2.2.1) (by decide)).to, ?_⟩
  refine List.forall_mem_cons.mpr ⟨(s_istoren (am_dp pw_X1_holds_0 dd_X1_holds_0a.2.2.2.1) rfl (by decide)).to, ?_⟩
  refine List.forall_mem_cons.mpr ⟨(s_iloadn (am_dp pw_X1_holds_0 dd_X1_holds_0a.2.2.2.2.1) rfl).to, ?_⟩
  refine List.forall_mem_cons.mpr ⟨(s_bipush (am_dp pw_X1_holds_0 dd_X1_holds_0a.2.2.2.2.2.1) (by decide)).to, ?_⟩
  refine List.forall_mem_cons.mpr ⟨(s_icmp_ge (am_dp pw_X1_holds_0 dd_X1_holds_0a.2.2.2.2.2.2.1) (by decide)).to, ?_⟩
  refine List.forall_mem_cons.mpr ⟨(s_aloadn (am_dp pw_X1_holds_0 dd_X1_holds_0a.2.2.2.2.2.2.2) rfl).to, ?_⟩
  refine List.forall_mem_cons.mpr ⟨(s_get (ci := 1) (k := 0) (am_dp pw_X1_holds_0 dd_X1_holds_0b.1) rfl (by decide) wd513 inX1 rfl).to, ?_⟩
  refine List.forall_mem_cons.mpr ⟨(s_iloadn (am_dp pw_X1_holds_0 dd_X1_holds_0b.2.1) rfl).to, ?_⟩
  refine List.forall_mem_cons.mpr ⟨(s_iald (am_dp pw_X1_holds_0 dd_X1_holds_0b.2.2.1)).to, ?_⟩
  refine List.forall_mem_cons.mpr ⟨(s_istore (am_dp pw_X1_holds_0 dd_X1_holds_0b.2.2.2.1) (by decide)).to, ?_⟩
  refine List.forall_mem_cons.mpr ⟨(s_iload (am_dp pw_X1_holds_0 dd_X1_holds_0b.2.2.2.2.1)).to, ?_⟩
  refine List.forall_mem_cons.mpr ⟨(s_iconst (am_dp pw_X1_holds_0 dd_X1_holds_0b.2.2.2.2.2.1) (by decide)).to, ?_⟩
  refine List.forall_mem_cons.mpr ⟨(s_icmp_ne (am_dp pw_X1_holds_0 dd_X1_holds_0b.2.2.2.2.2.2.1) (by decide)).to, ?_⟩
  refine List.forall_mem_cons.mpr ⟨(s_goto (am_dp pw_X1_holds_0 dd_X1_holds_0b.2.2.2.2.2.2.2) (by decide)).to, ?_⟩
  refine List.forall_mem_cons.mpr ⟨(s_aloadn (am_dp pw_X1_holds_0 dd_X1_holds_0c.1) rfl).to, ?_⟩
  refine List.forall_mem_cons.mpr ⟨(s_iload (am_dp pw_X1_holds_0 dd_X1_holds_0c.2.1)).to, ?_⟩
  refine List.forall_mem_cons.mpr ⟨zw_cv103 (am_dp pw_X1_holds_0 dd_X1_holds_0c.2.2) wd954, ?_⟩
  refine List.forall_mem_cons.mpr ⟨(s_if_eq (am_dp pw_X1_holds_32 dd_X1_holds_32a.1) (by decide)).to, ?_⟩
  refine List.forall_mem_cons.mpr ⟨(s_iloadn (am_dp pw_X1_holds_32 dd_X1_holds_32a.2.1) rfl).to, ?_⟩
  refine List.forall_mem_cons.mpr ⟨(s_iconst (am_dp pw_X1_holds_32 dd_X1_holds_32a.2.2.1) (by decide)).to, ?_⟩
  refine List.forall_mem_cons.mpr ⟨(s_icmp_eq (am_dp pw_X1_holds_32 dd_X1_holds_32a.2.2.2.1) (by decide)).to, ?_⟩
  refine List.forall_mem_cons.mpr ⟨(s_aloadn (am_dp pw_X1_holds_32 dd_X1_holds_32a.2.2.2.2.1) rfl).to, ?_⟩
  refine List.forall_mem_cons.mpr ⟨(s_aloadn (am_dp pw_X1_holds_32 dd_X1_holds_32a.2.2.2.2.2.1) rfl).to, ?_⟩
  refine List.forall_mem_cons.mpr ⟨(s_get (ci := 1) (k := 0) (am_dp pw_X1_holds_32 dd_X1_holds_32a.2.2.2.2.2.2.1) rfl (by decide) wd513 inX1 rfl).to, ?_⟩
  refine List.forall_mem_cons.mpr ⟨(s_iloadn (am_dp pw_X1_holds_32 dd_X1_holds_32a.2.2.2.2.2.2.2) rfl).to, ?_⟩
  refine List.forall_mem_cons.mpr ⟨(s_iald (am_dp pw_X1_holds_32 dd_X1_holds_32b.1)).to, ?_⟩
  refine List.forall_mem_cons.mpr ⟨(s_iload (am_dp pw_X1_holds_32 dd_X1_holds_32b.2.1)).to, ?_⟩
  refine List.forall_mem_cons.mpr ⟨(s_iloadn (am_dp pw_X1_holds_32 dd_X1_holds_32b.2.2.1) rfl).to, ?_⟩
  refine List.forall_mem_cons.mpr ⟨(s_iloadn (am_dp pw_X1_holds_32 dd_X1_holds_32b.2.2.2.1) rfl).to, ?_⟩
  refine List.forall_mem_cons.mpr ⟨(s_isub (am_dp pw_X1_holds_32 dd_X1_holds_32b.2.2.2.2.1)).to, ?_⟩
  refine List.forall_mem_cons.mpr ⟨zw_cv104 (am_dp pw_X1_holds_32 dd_X1_holds_32b.2.2.2.2.2.1) wd958, ?_⟩
  refine List.forall_mem_cons.mpr ⟨(s_if_ne (am_dp pw_X1_holds_32 dd_X1_holds_32b.2.2.2.2.2.2.1) (by decide)).to, ?_⟩
  refine List.forall_mem_cons.mpr ⟨(s_iconst (am_dp pw_X1_holds_32 dd_X1_holds_32b.2.2.2.2.2.2.2) (by decide)).to, ?_⟩
  refine List.forall_mem_cons.mpr ⟨s_zret (am_dp pw_X1_holds_32 dd_X1_holds_32c.1) rfl, ?_⟩
  refine List.forall_mem_cons.mpr ⟨(s_iloadn (am_dp pw_X1_holds_32 dd_X1_holds_32c.2.1) rfl).to, ?_⟩
  refine List.forall_mem_cons.mpr ⟨(s_istoren (am_dp pw_X1_holds_32 dd_X1_holds_32c.2.2.1) rfl (by decide)).to, ?_⟩
  refine List.forall_mem_cons.mpr ⟨(s_iinc (am_dp pw_X1_holds_32 dd_X1_holds_32c.2.2.2) (by decide) (by decide)).to, ?_⟩
  refine List.forall_mem_cons.mpr ⟨(s_goto (am_dp pw_X1_holds_64 dd_X1_holds_64a.1) (by decide)).to, ?_⟩
  refine List.forall_mem_cons.mpr ⟨(s_iconst (am_dp pw_X1_holds_64 dd_X1_holds_64a.2.1) (by decide)).to, ?_⟩
  refine List.forall_mem_cons.mpr ⟨s_zret (am_dp pw_X1_holds_64 dd_X1_holds_64a.2.2) rfl, ?_⟩
  exact fun _ h => absurd h List.not_mem_nil
theorem sn_tX2_init : ∀ q ∈ tX2_init, am_Snd am_P0 RX2 cX2_init 2 (Option.none : Option FieldType) "<init>" q.1 q.2 := by
  unfold tX2_init
  refine List.forall_mem_cons.mpr ⟨(s_aloadn (am_dp pw_X2_init_0 dd_X2_init_0a.1) rfl).to, ?_⟩
  refine List.forall_mem_cons.mpr ⟨(s_obj (am_dp pw_X2_init_0 dd_X2_init_0a.2.1) wd372 wd160 wd161).to, ?_⟩
  refine List.forall_mem_cons.mpr ⟨(s_aloadn (am_dp pw_X2_init_0 dd_X2_init_0a.2.2.1) rfl).to, ?_⟩
  refine List.forall_mem_cons.mpr ⟨(s_new (ci := 3) (am_dp pw_X2_init_0 dd_X2_init_0a.2.2.2.1) rfl wd373 wd374 wd141 inX3 tyX3_ok (by decide)).to, ?_⟩
  refine List.forall_mem_cons.mpr ⟨(s_dup (am_dp pw_X2_init_0 dd_X2_init_0a.2.2.2.2.1)).to, ?_⟩
  refine List.forall_mem_cons.mpr ⟨z_ci (ci := 3) (am_dp pw_X2_init_0 dd_X2_init_0a.2.2.2.2.2.1) mt33 wd375 rfl rfl, ?_⟩
  refine List.forall_mem_cons.mpr ⟨(s_putF (ci := 2) (k := 0) (am_dp pw_X2_init_0 dd_X2_init_0a.2.2.2.2.2.2.1) rfl (by decide) wd467 inX2 tyX2_ok nmX2 rfl rfl rfl rfl).to, ?_⟩
  refine List.forall_mem_cons.mpr ⟨(s_aloadn (am_dp pw_X2_init_0 dd_X2_init_0a.2.2.2.2.2.2.2) rfl).to, ?_⟩
  refine List.forall_mem_cons.mpr ⟨(s_aloadn (am_dp pw_X2_init_0 dd_X2_init_0b.1) rfl).to, ?_⟩
  refine List.forall_mem_cons.mpr ⟨(s_put (ci := 2) (k := 1) (am_dp pw_X2_init_0 dd_X2_init_0b.2.1) rfl (by decide) wd469 inX2 tyX2_ok nmX2 rfl rfl).to, ?_⟩
  refine List.forall_mem_cons.mpr ⟨s_vret (am_dp pw_X2_init_0 dd_X2_init_0b.2.2) rfl, ?_⟩
  exact fun _ h => absurd h List.not_mem_nil
theorem sn_tX2_open : ∀ q ∈ tX2_open, am_Snd am_P0 RX2 cX2_open 4 (Option.none : Option FieldType) "open" q.1 q.2 := by
  unfold tX2_open
  refine List.forall_mem_cons.mpr ⟨(s_aloadn (am_dp pw_X2_open_0 dd_X2_open_0a.1) rfl).to, ?_⟩
  refine List.forall_mem_cons.mpr ⟨(s_aloadn (am_dp pw_X2_open_0 dd_X2_open_0a.2.1) rfl).to, ?_⟩
  refine List.forall_mem_cons.mpr ⟨(s_put (ci := 2) (k := 1) (am_dp pw_X2_open_0 dd_X2_open_0a.2.2.1) rfl (by decide) wd469 inX2 tyX2_ok nmX2 rfl rfl).to, ?_⟩
  refine List.forall_mem_cons.mpr ⟨(s_aloadn (am_dp pw_X2_open_0 dd_X2_open_0a.2.2.2.1) rfl).to, ?_⟩
  refine List.forall_mem_cons.mpr ⟨(s_get (ci := 2) (k := 1) (am_dp pw_X2_open_0 dd_X2_open_0a.2.2.2.2.1) rfl (by decide) wd469 inX2 rfl).to, ?_⟩
  refine List.forall_mem_cons.mpr ⟨zw_cv52 (am_dp pw_X2_open_0 dd_X2_open_0a.2.2.2.2.2.1) wd651, ?_⟩
  refine List.forall_mem_cons.mpr ⟨(s_aloadn (am_dp pw_X2_open_0 dd_X2_open_0a.2.2.2.2.2.2.1) rfl).to, ?_⟩
  refine List.forall_mem_cons.mpr ⟨(s_get (ci := 2) (k := 0) (am_dp pw_X2_open_0 dd_X2_open_0a.2.2.2.2.2.2.2) rfl (by decide) wd467 inX2 rfl).to, ?_⟩
  refine List.forall_mem_cons.mpr ⟨(s_aloadn (am_dp pw_X2_open_0 dd_X2_open_0b.1) rfl).to, ?_⟩
  refine List.forall_mem_cons.mpr ⟨(s_iloadn (am_dp pw_X2_open_0 dd_X2_open_0b.2.1) rfl).to, ?_⟩
  refine List.forall_mem_cons.mpr ⟨zw_cv34 (am_dp pw_X2_open_0 dd_X2_open_0b.2.2.1) wd655, ?_⟩
  refine List.forall_mem_cons.mpr ⟨s_vret (am_dp pw_X2_open_0 dd_X2_open_0b.2.2.2) rfl, ?_⟩
  exact fun _ h => absurd h List.not_mem_nil
theorem sn_tX2_readStatement_0 : ∀ q ∈ tX2_readStatement_0, am_Snd am_P0 RX2 cX2_readStatement 2 (Option.none : Option FieldType) "readStatement" q.1 q.2 := by
  unfold tX2_readStatement_0
  refine List.forall_mem_cons.mpr ⟨(s_iloadn (am_dp pw_X2_readStatement_0 dd_X2_readStatement_0a.1) rfl).to, ?_⟩
  refine List.forall_mem_cons.mpr ⟨(s_aloadn (am_dp pw_X2_readStatement_0 dd_X2_readStatement_0a.2.1) rfl).to, ?_⟩
  refine List.forall_mem_cons.mpr ⟨(s_get (ci := 2) (k := 0) (am_dp pw_X2_readStatement_0 dd_X2_readStatement_0a.2.2.1) rfl (by decide) wd467 inX2 rfl).to, ?_⟩
  refine List.forall_mem_cons.mpr ⟨(s_get (ci := 3) (k := 6) (am_dp pw_X2_readStatement_0 dd_X2_readStatement_0a.2.2.2.1) rfl (by decide) wd437 inX3 rfl).to, ?_⟩
  refine List.forall_mem_cons.mpr ⟨(s_if_ne (am_dp pw_X2_readStatement_0 dd_X2_readStatement_0a.2.2.2.2.1) (by decide)).to, ?_⟩
  refine List.forall_mem_cons.mpr ⟨(s_iconst (am_dp pw_X2_readStatement_0 dd_X2_readStatement_0a.2.2.2.2.2.1) (by decide)).to, ?_⟩
  refine List.forall_mem_cons.mpr ⟨(s_goto (am_dp pw_X2_readStatement_0 dd_X2_readStatement_0a.2.2.2.2.2.2.1) (by decide)).to, ?_⟩
  refine List.forall_mem_cons.mpr ⟨(s_iconst (am_dp pw_X2_readStatement_0 dd_X2_readStatement_0a.2.2.2.2.2.2.2) (by decide)).to, ?_⟩
  refine List.forall_mem_cons.mpr ⟨(s_icmp_eq (am_dp pw_X2_readStatement_0 dd_X2_readStatement_0b.1) (by decide)).to, ?_⟩
  refine List.forall_mem_cons.mpr ⟨(s_aloadn (am_dp pw_X2_readStatement_0 dd_X2_readStatement_0b.2.1) rfl).to, ?_⟩
  refine List.forall_mem_cons.mpr ⟨(s_get (ci := 2) (k := 0) (am_dp pw_X2_readStatement_0 dd_X2_readStatement_0b.2.2.1) rfl (by decide) wd467 inX2 rfl).to, ?_⟩
  refine List.forall_mem_cons.mpr ⟨(s_iconst (am_dp pw_X2_readStatement_0 dd_X2_readStatement_0b.2.2.2.1) (by decide)).to, ?_⟩
  refine List.forall_mem_cons.mpr ⟨zw_cv39 (am_dp pw_X2_readStatement_0 dd_X2_readStatement_0b.2.2.2.2.1) wd681, ?_⟩
  refine List.forall_mem_cons.mpr ⟨s_vret (am_dp pw_X2_readStatement_0 dd_X2_readStatement_0b.2.2.2.2.2.1) rfl, ?_⟩
  refine List.forall_mem_cons.mpr ⟨(s_aloadn (am_dp pw_X2_readStatement_0 dd_X2_readStatement_0b.2.2.2.2.2.2.1) rfl).to, ?_⟩
  refine List.forall_mem_cons.mpr ⟨(s_get (ci := 2) (k := 0) (am_dp pw_X2_readStatement_0 dd_X2_readStatement_0b.2.2.2.2.2.2.2) rfl (by decide) wd467 inX2 rfl).to, ?_⟩
  refine List.forall_mem_cons.mpr ⟨(s_get (ci := 3) (k := 6) (am_dp pw_X2_readStatement_32 dd_X2_readStatement_32a) rfl (by decide) wd437 inX3 rfl).to, ?_⟩
  refine List.forall_mem_cons.mpr ⟨(s_table (by decide +kernel : decode cX2_readStatement 35 = .ok (.tableswitch 192 0 17 #[85, 92, 107, 122, 137, 192, 192, 192, 192, 144, 192, 192, 151, 192, 192, 158, 192, 165], 85)) (by decide) (by decide) (by decide) (by decide)).to, ?_⟩
  refine List.forall_mem_cons.mpr ⟨(s_aloadn (am_dp pw_X2_readStatement_96 dd_X2_readStatement_96a.1) rfl).to, ?_⟩
  refine List.forall_mem_cons.mpr ⟨zw_cv12 (am_dp pw_X2_readStatement_96 dd_X2_readStatement_96a.2.1) wd685, ?_⟩
  refine List.forall_mem_cons.mpr ⟨(s_goto (am_dp pw_X2_readStatement_96 dd_X2_readStatement_96a.2.2.1) (by decide)).to, ?_⟩
  refine List.forall_mem_cons.mpr ⟨(s_aloadn (am_dp pw_X2_readStatement_96 dd_X2_readStatement_96a.2.2.2) rfl).to, ?_⟩
  refine List.forall_mem_cons.mpr ⟨(s_aloadn (am_dp pw_X2_readStatement_128 dd_X2_readStatement_128a.1) rfl).to, ?_⟩
  refine List.forall_mem_cons.mpr ⟨(s_get (ci := 2) (k := 1) (am_dp pw_X2_readStatement_128 dd_X2_readStatement_128a.2.1) rfl (by decide) wd469 inX2 rfl).to, ?_⟩
  refine List.forall_mem_cons.mpr ⟨(s_get (ci := 5) (k := 7) (am_dp pw_X2_readStatement_128 dd_X2_readStatement_128a.2.2.1) rfl (by decide) wd326 inX5 rfl).to, ?_⟩
  refine List.forall_mem_cons.mpr ⟨(s_iconst (am_dp pw_X2_readStatement_128 dd_X2_readStatement_128a.2.2.2.1) (by decide)).to, ?_⟩
  refine List.forall_mem_cons.mpr ⟨zw_cv14 (am_dp pw_X2_readStatement_128 dd_X2_readStatement_128a.2.2.2.2.1) wd699, ?_⟩
  refine List.forall_mem_cons.mpr ⟨(s_goto (am_dp pw_X2_readStatement_128 dd_X2_readStatement_128a.2.2.2.2.2.1) (by decide)).to, ?_⟩
  refine List.forall_mem_cons.mpr ⟨(s_aloadn (am_dp pw_X2_readStatement_128 dd_X2_readStatement_128a.2.2.2.2.2.2.1) rfl).to, ?_⟩
  refine List.forall_mem_cons.mpr ⟨(s_aloadn (am_dp pw_X2_readStatement_128 dd_X2_readStatement_128a.2.2.2.2.2.2.2) rfl).to, ?_⟩
  refine List.forall_mem_cons.mpr ⟨(s_get (ci := 2) (k := 1) (am_dp pw_X2_readStatement_128 dd_X2_readStatement_128b.1) rfl (by decide) wd469 inX2 rfl).to, ?_⟩
  refine List.forall_mem_cons.mpr ⟨(s_get (ci := 5) (k := 8) (am_dp pw_X2_readStatement_128 dd_X2_readStatement_128b.2.1) rfl (by decide) wd328 inX5 rfl).to, ?_⟩
  refine List.forall_mem_cons.mpr ⟨(s_iconst (am_dp pw_X2_readStatement_128 dd_X2_readStatement_128b.2.2.1) (by decide)).to, ?_⟩
  refine List.forall_mem_cons.mpr ⟨zw_cv14 (am_dp pw_X2_readStatement_128 dd_X2_readStatement_128b.2.2.2.1) wd699, ?_⟩
  refine List.forall_mem_cons.mpr ⟨(s_goto (am_dp pw_X2_readStatement_128 dd_X2_readStatement_128b.2.2.2.2.1) (by decide)).to, ?_⟩
  refine List.forall_mem_cons.mpr ⟨(s_aloadn (am_dp pw_X2_readStatement_128 dd_X2_readStatement_128b.2.2.2.2.2.1) rfl).to, ?_⟩
  refine List.forall_mem_cons.mpr ⟨(s_aloadn (am_dp pw_X2_readStatement_128 dd_X2_readStatement_128b.2.2.2.2.2.2.1) rfl).to, ?_⟩
  refine List.forall_mem_cons.mpr ⟨(s_get (ci := 2) (k := 1) (am_dp pw_X2_readStatement_128 dd_X2_readStatement_128b.2.2.2.2.2.2.2) rfl (by decide) wd469 inX2 rfl).to, ?_⟩
  refine List.forall_mem_cons.mpr ⟨(s_get (ci := 5) (k := 9) (am_dp pw_X2_readStatement_160 dd_X2_readStatement_160a.1) rfl (by decide) wd330 inX5 rfl).to, ?_⟩
  refine List.forall_mem_cons.mpr ⟨(s_iconst (am_dp pw_X2_readStatement_160 dd_X2_readStatement_160a.2.1) (by decide)).to, ?_⟩
  refine List.forall_mem_cons.mpr ⟨zw_cv14 (am_dp pw_X2_readStatement_160 dd_X2_readStatement_160a.2.2.1) wd699, ?_⟩
  refine List.forall_mem_cons.mpr ⟨(s_goto (am_dp pw_X2_readStatement_160 dd_X2_readStatement_160a.2.2.2.1) (by decide)).to, ?_⟩
  refine List.forall_mem_cons.mpr ⟨(s_aloadn (am_dp pw_X2_readStatement_160 dd_X2_readStatement_160a.2.2.2.2.1) rfl).to, ?_⟩
  refine List.forall_mem_cons.mpr ⟨zw_cv16 (am_dp pw_X2_readStatement_160 dd_X2_readStatement_160a.2.2.2.2.2.1) wd777, ?_⟩
  refine List.forall_mem_cons.mpr ⟨(s_goto (am_dp pw_X2_readStatement_160 dd_X2_readStatement_160a.2.2.2.2.2.2.1) (by decide)).to, ?_⟩
  refine List.forall_mem_cons.mpr ⟨(s_aloadn (am_dp pw_X2_readStatement_160 dd_X2_readStatement_160a.2.2.2.2.2.2.2) rfl).to, ?_⟩
  refine List.forall_mem_cons.mpr ⟨zw_cv19 (am_dp pw_X2_readStatement_160 dd_X2_readStatement_160b.1) wd797, ?_⟩
  refine List.forall_mem_cons.mpr ⟨(s_goto (am_dp pw_X2_readStatement_160 dd_X2_readStatement_160b.2.1) (by decide)).to, ?_⟩
  refine List.forall_mem_cons.mpr ⟨(s_aloadn (am_dp pw_X2_readStatement_160 dd_X2_readStatement_160b.2.2.1) rfl).to, ?_⟩
  refine List.forall_mem_cons.mpr ⟨zw_cv20 (am_dp pw_X2_readStatement_160 dd_X2_readStatement_160b.2.2.2.1) wd822, ?_⟩
  refine List.forall_mem_cons.mpr ⟨(s_goto (am_dp pw_X2_readStatement_160 dd_X2_readStatement_160b.2.2.2.2) (by decide)).to, ?_⟩
  refine List.forall_mem_cons.mpr ⟨(s_aloadn (am_dp pw_X2_readStatement_192 dd_X2_readStatement_192a.1) rfl).to, ?_⟩
  refine List.forall_mem_cons.mpr ⟨zw_cv21 (am_dp pw_X2_readStatement_192 dd_X2_readStatement_192a.2.1) wd834, ?_⟩
  refine List.forall_mem_cons.mpr ⟨(s_goto (am_dp pw_X2_readStatement_192 dd_X2_readStatement_192a.2.2.1) (by decide)).to, ?_⟩
  refine List.forall_mem_cons.mpr ⟨(s_aloadn (am_dp pw_X2_readStatement_192 dd_X2_readStatement_192a.2.2.2.1) rfl).to, ?_⟩
  refine List.forall_mem_cons.mpr ⟨(s_get (ci := 2) (k := 0) (am_dp pw_X2_readStatement_192 dd_X2_readStatement_192a.2.2.2.2.1) rfl (by decide) wd467 inX2 rfl).to, ?_⟩
  refine List.forall_mem_cons.mpr ⟨zw_cv35 (am_dp pw_X2_readStatement_192 dd_X2_readStatement_192a.2.2.2.2.2.1) wd689, ?_⟩
  refine List.forall_mem_cons.mpr ⟨(s_aloadn (am_dp pw_X2_readStatement_192 dd_X2_readStatement_192a.2.2.2.2.2.2.1) rfl).to, ?_⟩
  refine List.forall_mem_cons.mpr ⟨(s_get (ci := 2) (k := 1) (am_dp pw_X2_readStatement_192 dd_X2_readStatement_192a.2.2.2.2.2.2.2) rfl (by decide) wd469 inX2 rfl).to, ?_⟩
  refine List.forall_mem_cons.mpr ⟨(s_aloadn (am_dp pw_X2_readStatement_192 dd_X2_readStatement_192b.1) rfl).to, ?_⟩
  exact fun _ h => absurd h List.not_mem_nil
theorem sn_tX2_readStatement_1 : ∀ q ∈ tX2_readStatement_1, am_Snd am_P0 RX2 cX2_readStatement 2 (Option.none : Option FieldType) "readStatement" q.1 q.2 := by
  unfold tX2_readStatement_1
  refine List.forall_mem_cons.mpr ⟨(s_get (ci := 2) (k := 0) (am_dp pw_X2_readStatement_192 dd_X2_readStatement_192b.2.1) rfl (by decide) wd467 inX2 rfl).to, ?_⟩
  refine List.forall_mem_cons.mpr ⟨(s_iconst (am_dp pw_X2_readStatement_192 dd_X2_readStatement_192b.2.2.1) (by decide)).to, ?_⟩
  refine List.forall_mem_cons.mpr ⟨(s_bipush (am_dp pw_X2_readStatement_192 dd_X2_readStatement_192b.2.2.2.1) (by decide)).to, ?_⟩
  refine List.forall_mem_cons.mpr ⟨zw_cv44 (am_dp pw_X2_readStatement_192 dd_X2_readStatement_192b.2.2.2.2.1) wd690, ?_⟩
  refine List.forall_mem_cons.mpr ⟨(s_put (ci := 5) (k := 2) (am_dp pw_X2_readStatement_192 dd_X2_readStatement_192b.2.2.2.2.2) rfl (by decide) wd312 inX5 tyX5_ok nmX5 rfl rfl).to, ?_⟩
  refine List.forall_mem_cons.mpr ⟨(s_goto (am_dp pw_X2_readStatement_224 dd_X2_readStatement_224a.1) (by decide)).to, ?_⟩
  refine List.forall_mem_cons.mpr ⟨(s_aloadn (am_dp pw_X2_readStatement_224 dd_X2_readStatement_224a.2.1) rfl).to, ?_⟩
  refine List.forall_mem_cons.mpr ⟨(s_get (ci := 2) (k := 0) (am_dp pw_X2_readStatement_224 dd_X2_readStatement_224a.2.2.1) rfl (by decide) wd467 inX2 rfl).to, ?_⟩
  refine List.forall_mem_cons.mpr ⟨(s_iconst (am_dp pw_X2_readStatement_224 dd_X2_readStatement_224a.2.2.2.1) (by decide)).to, ?_⟩
  refine List.forall_mem_cons.mpr ⟨zw_cv39 (am_dp pw_X2_readStatement_224 dd_X2_readStatement_224a.2.2.2.2.1) wd681, ?_⟩
  refine List.forall_mem_cons.mpr ⟨s_vret (am_dp pw_X2_readStatement_224 dd_X2_readStatement_224a.2.2.2.2.2) rfl, ?_⟩
  exact fun _ h => absurd h List.not_mem_nil
theorem sn_tX2_readStatement : ∀ q ∈ tX2_readStatement, am_Snd am_P0 RX2 cX2_readStatement 2 (Option.none : Option FieldType) "readStatement" q.1 q.2 := by
  unfold tX2_readStatement
  exact List.forall_mem_append.mpr ⟨sn_tX2_readStatement_0, sn_tX2_readStatement_1⟩
theorem sn_tX2_readSize : ∀ q ∈ tX2_readSize, am_Snd am_P0 RX2 cX2_readSize 1 (Option.none : Option FieldType) "readSize" q.1 q.2 := by
  unfold tX2_readSize
  refine List.forall_mem_cons.mpr ⟨(s_aloadn (am_dp pw_X2_readSize_0 dd_X2_readSize_0a.1) rfl).to, ?_⟩
  refine List.forall_mem_cons.mpr ⟨(s_get (ci := 2) (k := 0) (am_dp pw_X2_readSize_0 dd_X2_readSize_0a.2.1) rfl (by decide) wd467 inX2 rfl).to, ?_⟩
  refine List.forall_mem_cons.mpr ⟨zw_cv35 (am_dp pw_X2_readSize_0 dd_X2_readSize_0a.2.2.1) wd689, ?_⟩
  refine List.forall_mem_cons.mpr ⟨(s_aloadn (am_dp pw_X2_readSize_0 dd_X2_readSize_0a.2.2.2.1) rfl).to, ?_⟩
  refine List.forall_mem_cons.mpr ⟨(s_get (ci := 2) (k := 1) (am_dp pw_X2_readSize_0 dd_X2_readSize_0a.2.2.2.2.1) rfl (by decide) wd469 inX2 rfl).to, ?_⟩
  refine List.forall_mem_cons.mpr ⟨(s_aloadn (am_dp pw_X2_readSize_0 dd_X2_readSize_0a.2.2.2.2.2.1) rfl).to, ?_⟩
  refine List.forall_mem_cons.mpr ⟨(s_get (ci := 2) (k := 0) (am_dp pw_X2_readSize_0 dd_X2_readSize_0a.2.2.2.2.2.2.1) rfl (by decide) wd467 inX2 rfl).to, ?_⟩
  refine List.forall_mem_cons.mpr ⟨(s_iconst (am_dp pw_X2_readSize_0 dd_X2_readSize_0a.2.2.2.2.2.2.2) (by decide)).to, ?_⟩
  refine List.forall_mem_cons.mpr ⟨(s_bipush (am_dp pw_X2_readSize_0 dd_X2_readSize_0b.1) (by decide)).to, ?_⟩
  refine List.forall_mem_cons.mpr ⟨zw_cv44 (am_dp pw_X2_readSize_0 dd_X2_readSize_0b.2.1) wd690, ?_⟩
  refine List.forall_mem_cons.mpr ⟨(s_put (ci := 5) (k := 0) (am_dp pw_X2_readSize_0 dd_X2_readSize_0b.2.2.1) rfl (by decide) wd306 inX5 tyX5_ok nmX5 rfl rfl).to, ?_⟩
  refine List.forall_mem_cons.mpr ⟨(s_aloadn (am_dp pw_X2_readSize_0 dd_X2_readSize_0b.2.2.2.1) rfl).to, ?_⟩
  refine List.forall_mem_cons.mpr ⟨(s_get (ci := 2) (k := 1) (am_dp pw_X2_readSize_0 dd_X2_readSize_0b.2.2.2.2.1) rfl (by decide) wd469 inX2 rfl).to, ?_⟩
  refine List.forall_mem_cons.mpr ⟨(s_aloadn (am_dp pw_X2_readSize_0 dd_X2_readSize_0b.2.2.2.2.2.1) rfl).to, ?_⟩
  refine List.forall_mem_cons.mpr ⟨(s_get (ci := 2) (k := 0) (am_dp pw_X2_readSize_0 dd_X2_readSize_0b.2.2.2.2.2.2) rfl (by decide) wd467 inX2 rfl).to, ?_⟩
  refine List.forall_mem_cons.mpr ⟨(s_iconst (am_dp pw_X2_readSize_32 dd_X2_readSize_32a.1) (by decide)).to, ?_⟩
  refine List.forall_mem_cons.mpr ⟨(s_bipush (am_dp pw_X2_readSize_32 dd_X2_readSize_32a.2.1) (by decide)).to, ?_⟩
  refine List.forall_mem_cons.mpr ⟨zw_cv44 (am_dp pw_X2_readSize_32 dd_X2_readSize_32a.2.2.1) wd690, ?_⟩
  refine List.forall_mem_cons.mpr ⟨(s_put (ci := 5) (k := 1) (am_dp pw_X2_readSize_32 dd_X2_readSize_32a.2.2.2.1) rfl (by decide) wd309 inX5 tyX5_ok nmX5 rfl rfl).to, ?_⟩
  refine List.forall_mem_cons.mpr ⟨s_vret (am_dp pw_X2_readSize_32 dd_X2_readSize_32a.2.2.2.2) rfl, ?_⟩
  exact fun _ h => absurd h List.not_mem_nil
theorem sn_tX2_beginStatement : ∀ q ∈ tX2_beginStatement, am_Snd am_P0 RX2 cX2_beginStatement 2 (Option.some FieldType.boolean) "beginStatement" q.1 q.2 := by
  unfold tX2_beginStatement
  refine List.forall_mem_cons.mpr ⟨(s_iloadn (am_dp pw_X2_beginStatement_0 dd_X2_beginStatement_0a.1) rfl).to, ?_⟩
  refine List.forall_mem_cons.mpr ⟨(s_if_eq (am_dp pw_X2_beginStatement_0 dd_X2_beginStatement_0a.2.1) (by decide)).to, ?_⟩
  refine List.forall_mem_cons.mpr ⟨(s_aloadn (am_dp pw_X2_beginStatement_0 dd_X2_beginStatement_0a.2.2.1) rfl).to, ?_⟩
  refine List.forall_mem_cons.mpr ⟨(s_get (ci := 2) (k := 0) (am_dp pw_X2_beginStatement_0 dd_X2_beginStatement_0a.2.2.2.1) rfl (by decide) wd467 inX2 rfl).to, ?_⟩
  refine List.forall_mem_cons.mpr ⟨(s_iconst (am_dp pw_X2_beginStatement_0 dd_X2_beginStatement_0a.2.2.2.2.1) (by decide)).to, ?_⟩
  refine List.forall_mem_cons.mpr ⟨zw_cv39 (am_dp pw_X2_beginStatement_0 dd_X2_beginStatement_0a.2.2.2.2.2.1) wd681, ?_⟩
  refine List.forall_mem_cons.mpr ⟨(s_iconst (am_dp pw_X2_beginStatement_0 dd_X2_beginStatement_0a.2.2.2.2.2.2.1) (by decide)).to, ?_⟩
  refine List.forall_mem_cons.mpr ⟨s_zret (am_dp pw_X2_beginStatement_0 dd_X2_beginStatement_0a.2.2.2.2.2.2.2) rfl, ?_⟩
  refine List.forall_mem_cons.mpr ⟨(s_aloadn (am_dp pw_X2_beginStatement_0 dd_X2_beginStatement_0b.1) rfl).to, ?_⟩
  refine List.forall_mem_cons.mpr ⟨(s_get (ci := 2) (k := 0) (am_dp pw_X2_beginStatement_0 dd_X2_beginStatement_0b.2.1) rfl (by decide) wd467 inX2 rfl).to, ?_⟩
  refine List.forall_mem_cons.mpr ⟨zw_cv35 (am_dp pw_X2_beginStatement_0 dd_X2_beginStatement_0b.2.2.1) wd689, ?_⟩
  refine List.forall_mem_cons.mpr ⟨(s_iconst (am_dp pw_X2_beginStatement_0 dd_X2_beginStatement_0b.2.2.2.1) (by decide)).to, ?_⟩
  refine List.forall_mem_cons.mpr ⟨s_zret (am_dp pw_X2_beginStatement_0 dd_X2_beginStatement_0b.2.2.2.2) rfl, ?_⟩
  exact fun _ h => absurd h List.not_mem_nil
theorem sn_tX2_readRule : ∀ q ∈ tX2_readRule, am_Snd am_P0 RX2 cX2_readRule 5 (Option.none : Option FieldType) "readRule" q.1 q.2 := by
  unfold tX2_readRule
  refine List.forall_mem_cons.mpr ⟨(s_aloadn (am_dp pw_X2_readRule_0 dd_X2_readRule_0a.1) rfl).to, ?_⟩
  refine List.forall_mem_cons.mpr ⟨(s_aloadn (am_dp pw_X2_readRule_0 dd_X2_readRule_0a.2.1) rfl).to, ?_⟩
  refine List.forall_mem_cons.mpr ⟨zw_cv47 (am_dp pw_X2_readRule_0 dd_X2_readRule_0a.2.2.1) wd703, ?_⟩
  refine List.forall_mem_cons.mpr ⟨zw_cv13 (am_dp pw_X2_readRule_0 dd_X2_readRule_0a.2.2.2.1) wd707, ?_⟩
  refine List.forall_mem_cons.mpr ⟨(s_if_ne (am_dp pw_X2_readRule_0 dd_X2_readRule_0a.2.2.2.2.1) (by decide)).to, ?_⟩
  refine List.forall_mem_cons.mpr ⟨s_vret (am_dp pw_X2_readRule_0 dd_X2_readRule_0a.2.2.2.2.2.1) rfl, ?_⟩
  refine List.forall_mem_cons.mpr ⟨(s_aloadn (am_dp pw_X2_readRule_0 dd_X2_readRule_0a.2.2.2.2.2.2.1) rfl).to, ?_⟩
  refine List.forall_mem_cons.mpr ⟨(s_get (ci := 2) (k := 1) (am_dp pw_X2_readRule_0 dd_X2_readRule_0a.2.2.2.2.2.2.2) rfl (by decide) wd469 inX2 rfl).to, ?_⟩
  refine List.forall_mem_cons.mpr ⟨(s_get (ci := 5) (k := 6) (am_dp pw_X2_readRule_0 dd_X2_readRule_0b.1) rfl (by decide) wd324 inX5 rfl).to, ?_⟩
  refine List.forall_mem_cons.mpr ⟨(s_get (ci := 0) (k := 1) (am_dp pw_X2_readRule_0 dd_X2_readRule_0b.2.1) rfl (by decide) wd205 inX0 rfl).to, ?_⟩
  refine List.forall_mem_cons.mpr ⟨(s_istoren (am_dp pw_X2_readRule_0 dd_X2_readRule_0b.2.2.1) rfl (by decide)).to, ?_⟩
  refine List.forall_mem_cons.mpr ⟨(s_iloadn (am_dp pw_X2_readRule_0 dd_X2_readRule_0b.2.2.2.1) rfl).to, ?_⟩
  refine List.forall_mem_cons.mpr ⟨(s_if_eq (am_dp pw_X2_readRule_0 dd_X2_readRule_0b.2.2.2.2.1) (by decide)).to, ?_⟩
  refine List.forall_mem_cons.mpr ⟨(s_aloadn (am_dp pw_X2_readRule_0 dd_X2_readRule_0b.2.2.2.2.2.1) rfl).to, ?_⟩
  refine List.forall_mem_cons.mpr ⟨(s_iconst (am_dp pw_X2_readRule_0 dd_X2_readRule_0b.2.2.2.2.2.2.1) (by decide)).to, ?_⟩
  refine List.forall_mem_cons.mpr ⟨zw_cv26 (am_dp pw_X2_readRule_0 dd_X2_readRule_0b.2.2.2.2.2.2.2) wd711, ?_⟩
  refine List.forall_mem_cons.mpr ⟨(s_aloadn (am_dp pw_X2_readRule_32 dd_X2_readRule_32a.1) rfl).to, ?_⟩
  refine List.forall_mem_cons.mpr ⟨(s_get (ci := 2) (k := 0) (am_dp pw_X2_readRule_32 dd_X2_readRule_32a.2.1) rfl (by decide) wd467 inX2 rfl).to, ?_⟩
  refine List.forall_mem_cons.mpr ⟨(s_bipush (am_dp pw_X2_readRule_32 dd_X2_readRule_32a.2.2.1) (by decide)).to, ?_⟩
  refine List.forall_mem_cons.mpr ⟨zw_cv42 (am_dp pw_X2_readRule_32 dd_X2_readRule_32a.2.2.2.1) wd752, ?_⟩
  refine List.forall_mem_cons.mpr ⟨(s_aloadn (am_dp pw_X2_readRule_32 dd_X2_readRule_32a.2.2.2.2.1) rfl).to, ?_⟩
  refine List.forall_mem_cons.mpr ⟨(s_get (ci := 2) (k := 1) (am_dp pw_X2_readRule_32 dd_X2_readRule_32a.2.2.2.2.2.1) rfl (by decide) wd469 inX2 rfl).to, ?_⟩
  refine List.forall_mem_cons.mpr ⟨(s_get (ci := 5) (k := 6) (am_dp pw_X2_readRule_32 dd_X2_readRule_32a.2.2.2.2.2.2.1) rfl (by decide) wd324 inX5 rfl).to, ?_⟩
  refine List.forall_mem_cons.mpr ⟨(s_get (ci := 0) (k := 1) (am_dp pw_X2_readRule_32 dd_X2_readRule_32a.2.2.2.2.2.2.2) rfl (by decide) wd205 inX0 rfl).to, ?_⟩
  refine List.forall_mem_cons.mpr ⟨(s_istore (am_dp pw_X2_readRule_32 dd_X2_readRule_32b.1) (by decide)).to, ?_⟩
  refine List.forall_mem_cons.mpr ⟨(s_aloadn (am_dp pw_X2_readRule_32 dd_X2_readRule_32b.2.1) rfl).to, ?_⟩
  refine List.forall_mem_cons.mpr ⟨(s_iconst (am_dp pw_X2_readRule_32 dd_X2_readRule_32b.2.2.1) (by decide)).to, ?_⟩
  refine List.forall_mem_cons.mpr ⟨zw_cv22 (am_dp pw_X2_readRule_32 dd_X2_readRule_32b.2.2.2.1) wd756, ?_⟩
  refine List.forall_mem_cons.mpr ⟨(s_aloadn (am_dp pw_X2_readRule_32 dd_X2_readRule_32b.2.2.2.2.1) rfl).to, ?_⟩
  refine List.forall_mem_cons.mpr ⟨(s_get (ci := 2) (k := 0) (am_dp pw_X2_readRule_32 dd_X2_readRule_32b.2.2.2.2.2.1) rfl (by decide) wd467 inX2 rfl).to, ?_⟩
  refine List.forall_mem_cons.mpr ⟨(s_get (ci := 3) (k := 8) (am_dp pw_X2_readRule_32 dd_X2_readRule_32b.2.2.2.2.2.2) rfl (by decide) wd442 inX3 rfl).to, ?_⟩
  refine List.forall_mem_cons.mpr ⟨(s_if_ne (am_dp pw_X2_readRule_64 dd_X2_readRule_64a.1) (by decide)).to, ?_⟩
  refine List.forall_mem_cons.mpr ⟨(s_aloadn (am_dp pw_X2_readRule_64 dd_X2_readRule_64a.2.1) rfl).to, ?_⟩
  refine List.forall_mem_cons.mpr ⟨(s_iloadn (am_dp pw_X2_readRule_64 dd_X2_readRule_64a.2.2.1) rfl).to, ?_⟩
  refine List.forall_mem_cons.mpr ⟨(s_iload (am_dp pw_X2_readRule_64 dd_X2_readRule_64a.2.2.2.1)).to, ?_⟩
  refine List.forall_mem_cons.mpr ⟨(s_aloadn (am_dp pw_X2_readRule_64 dd_X2_readRule_64a.2.2.2.2.1) rfl).to, ?_⟩
  refine List.forall_mem_cons.mpr ⟨(s_get (ci := 2) (k := 1) (am_dp pw_X2_readRule_64 dd_X2_readRule_64a.2.2.2.2.2.1) rfl (by decide) wd469 inX2 rfl).to, ?_⟩
  refine List.forall_mem_cons.mpr ⟨(s_get (ci := 5) (k := 6) (am_dp pw_X2_readRule_64 dd_X2_readRule_64a.2.2.2.2.2.2.1) rfl (by decide) wd324 inX5 rfl).to, ?_⟩
  refine List.forall_mem_cons.mpr ⟨(s_get (ci := 0) (k := 1) (am_dp pw_X2_readRule_64 dd_X2_readRule_64a.2.2.2.2.2.2.2) rfl (by decide) wd205 inX0 rfl).to, ?_⟩
  refine List.forall_mem_cons.mpr ⟨zw_cv48 (am_dp pw_X2_readRule_64 dd_X2_readRule_64b.1) wd772, ?_⟩
  refine List.forall_mem_cons.mpr ⟨s_vret (am_dp pw_X2_readRule_64 dd_X2_readRule_64b.2) rfl, ?_⟩
  exact fun _ h => absurd h List.not_mem_nil
theorem sn_tX2_takeAfter : ∀ q ∈ tX2_takeAfter, am_Snd am_P0 RX2 cX2_takeAfter 4 (Option.some FieldType.int) "takeAfter" q.1 q.2 := by
  unfold tX2_takeAfter
  refine List.forall_mem_cons.mpr ⟨(s_aloadn (am_dp pw_X2_takeAfter_0 dd_X2_takeAfter_0a.1) rfl).to, ?_⟩
  refine List.forall_mem_cons.mpr ⟨(s_get (ci := 2) (k := 0) (am_dp pw_X2_takeAfter_0 dd_X2_takeAfter_0a.2.1) rfl (by decide) wd467 inX2 rfl).to, ?_⟩
  refine List.forall_mem_cons.mpr ⟨(s_iloadn (am_dp pw_X2_takeAfter_0 dd_X2_takeAfter_0a.2.2.1) rfl).to, ?_⟩
  refine List.forall_mem_cons.mpr ⟨zw_cv42 (am_dp pw_X2_takeAfter_0 dd_X2_takeAfter_0a.2.2.2.1) wd752, ?_⟩
  refine List.forall_mem_cons.mpr ⟨(s_aloadn (am_dp pw_X2_takeAfter_0 dd_X2_takeAfter_0a.2.2.2.2.1) rfl).to, ?_⟩
  refine List.forall_mem_cons.mpr ⟨(s_get (ci := 2) (k := 0) (am_dp pw_X2_takeAfter_0 dd_X2_takeAfter_0a.2.2.2.2.2.1) rfl (by decide) wd467 inX2 rfl).to, ?_⟩
  refine List.forall_mem_cons.mpr ⟨(s_iloadn (am_dp pw_X2_takeAfter_0 dd_X2_takeAfter_0a.2.2.2.2.2.2.1) rfl).to, ?_⟩
  refine List.forall_mem_cons.mpr ⟨(s_iloadn (am_dp pw_X2_takeAfter_0 dd_X2_takeAfter_0a.2.2.2.2.2.2.2) rfl).to, ?_⟩
  refine List.forall_mem_cons.mpr ⟨zw_cv44 (am_dp pw_X2_takeAfter_0 dd_X2_takeAfter_0b.1) wd690, ?_⟩
  refine List.forall_mem_cons.mpr ⟨s_iret (am_dp pw_X2_takeAfter_0 dd_X2_takeAfter_0b.2) rfl, ?_⟩
  exact fun _ h => absurd h List.not_mem_nil
theorem sn_tX2_readShip_0 : ∀ q ∈ tX2_readShip_0, am_Snd am_P0 RX2 cX2_readShip 6 (Option.none : Option FieldType) "readShip" q.1 q.2 := by
  unfold tX2_readShip_0
  refine List.forall_mem_cons.mpr ⟨(s_aloadn (am_dp pw_X2_readShip_0 dd_X2_readShip_0a.1) rfl).to, ?_⟩
  refine List.forall_mem_cons.mpr ⟨(s_aloadn (am_dp pw_X2_readShip_0 dd_X2_readShip_0a.2.1) rfl).to, ?_⟩
  refine List.forall_mem_cons.mpr ⟨(s_get (ci := 2) (k := 1) (am_dp pw_X2_readShip_0 dd_X2_readShip_0a.2.2.1) rfl (by decide) wd469 inX2 rfl).to, ?_⟩
  refine List.forall_mem_cons.mpr ⟨(s_get (ci := 5) (k := 3) (am_dp pw_X2_readShip_0 dd_X2_readShip_0a.2.2.2.1) rfl (by decide) wd316 inX5 rfl).to, ?_⟩
  refine List.forall_mem_cons.mpr ⟨(s_bipush (am_dp pw_X2_readShip_0 dd_X2_readShip_0a.2.2.2.2.1) (by decide)).to, ?_⟩
  refine List.forall_mem_cons.mpr ⟨(s_icmp_lt (am_dp pw_X2_readShip_0 dd_X2_readShip_0a.2.2.2.2.2.1) (by decide)).to, ?_⟩
  refine List.forall_mem_cons.mpr ⟨(s_iconst (am_dp pw_X2_readShip_0 dd_X2_readShip_0a.2.2.2.2.2.2.1) (by decide)).to, ?_⟩
  refine List.forall_mem_cons.mpr ⟨(s_goto (am_dp pw_X2_readShip_0 dd_X2_readShip_0a.2.2.2.2.2.2.2) (by decide)).to, ?_⟩
  refine List.forall_mem_cons.mpr ⟨(s_iconst (am_dp pw_X2_readShip_0 dd_X2_readShip_0b.1) (by decide)).to, ?_⟩
  refine List.forall_mem_cons.mpr ⟨zw_cv13 (am_dp pw_X2_readShip_0 dd_X2_readShip_0b.2.1) wd707, ?_⟩
  refine List.forall_mem_cons.mpr ⟨(s_if_eq (am_dp pw_X2_readShip_0 dd_X2_readShip_0b.2.2.1) (by decide)).to, ?_⟩
  refine List.forall_mem_cons.mpr ⟨(s_aloadn (am_dp pw_X2_readShip_0 dd_X2_readShip_0b.2.2.2.1) rfl).to, ?_⟩
  refine List.forall_mem_cons.mpr ⟨(s_get (ci := 2) (k := 0) (am_dp pw_X2_readShip_0 dd_X2_readShip_0b.2.2.2.2.1) rfl (by decide) wd467 inX2 rfl).to, ?_⟩
  refine List.forall_mem_cons.mpr ⟨zw_cv45 (am_dp pw_X2_readShip_0 dd_X2_readShip_0b.2.2.2.2.2.1) wd781, ?_⟩
  refine List.forall_mem_cons.mpr ⟨(s_if_ne (am_dp pw_X2_readShip_0 dd_X2_readShip_0b.2.2.2.2.2.2) (by decide)).to, ?_⟩
  refine List.forall_mem_cons.mpr ⟨s_vret (am_dp pw_X2_readShip_32 dd_X2_readShip_32a.1) rfl, ?_⟩
  refine List.forall_mem_cons.mpr ⟨(s_aloadn (am_dp pw_X2_readShip_32 dd_X2_readShip_32a.2.1) rfl).to, ?_⟩
  refine List.forall_mem_cons.mpr ⟨(s_get (ci := 2) (k := 0) (am_dp pw_X2_readShip_32 dd_X2_readShip_32a.2.2.1) rfl (by decide) wd467 inX2 rfl).to, ?_⟩
  refine List.forall_mem_cons.mpr ⟨(s_get (ci := 3) (k := 5) (am_dp pw_X2_readShip_32 dd_X2_readShip_32a.2.2.2.1) rfl (by decide) wd436 inX3 rfl).to, ?_⟩
  refine List.forall_mem_cons.mpr ⟨(s_istoren (am_dp pw_X2_readShip_32 dd_X2_readShip_32a.2.2.2.2.1) rfl (by decide)).to, ?_⟩
  refine List.forall_mem_cons.mpr ⟨(s_aloadn (am_dp pw_X2_readShip_32 dd_X2_readShip_32a.2.2.2.2.2.1) rfl).to, ?_⟩
  refine List.forall_mem_cons.mpr ⟨(s_get (ci := 2) (k := 1) (am_dp pw_X2_readShip_32 dd_X2_readShip_32a.2.2.2.2.2.2.1) rfl (by decide) wd469 inX2 rfl).to, ?_⟩
  refine List.forall_mem_cons.mpr ⟨(s_iloadn (am_dp pw_X2_readShip_32 dd_X2_readShip_32a.2.2.2.2.2.2.2) rfl).to, ?_⟩
  refine List.forall_mem_cons.mpr ⟨zw_cv62 (am_dp pw_X2_readShip_32 dd_X2_readShip_32b.1) wd785, ?_⟩
  refine List.forall_mem_cons.mpr ⟨(s_iconst (am_dp pw_X2_readShip_32 dd_X2_readShip_32b.2.1) (by decide)).to, ?_⟩
  refine List.forall_mem_cons.mpr ⟨(s_icmp_eq (am_dp pw_X2_readShip_32 dd_X2_readShip_32b.2.2.1) (by decide)).to, ?_⟩
  refine List.forall_mem_cons.mpr ⟨(s_aloadn (am_dp pw_X2_readShip_32 dd_X2_readShip_32b.2.2.2.1) rfl).to, ?_⟩
  refine List.forall_mem_cons.mpr ⟨(s_get (ci := 2) (k := 0) (am_dp pw_X2_readShip_32 dd_X2_readShip_32b.2.2.2.2.1) rfl (by decide) wd467 inX2 rfl).to, ?_⟩
  refine List.forall_mem_cons.mpr ⟨(s_iconst (am_dp pw_X2_readShip_32 dd_X2_readShip_32b.2.2.2.2.2.1) (by decide)).to, ?_⟩
  refine List.forall_mem_cons.mpr ⟨zw_cv39 (am_dp pw_X2_readShip_32 dd_X2_readShip_32b.2.2.2.2.2.2.1) wd681, ?_⟩
  refine List.forall_mem_cons.mpr ⟨s_vret (am_dp pw_X2_readShip_32 dd_X2_readShip_32b.2.2.2.2.2.2.2) rfl, ?_⟩
  refine List.forall_mem_cons.mpr ⟨(s_aloadn (am_dp pw_X2_readShip_64 dd_X2_readShip_64a.1) rfl).to, ?_⟩
  refine List.forall_mem_cons.mpr ⟨(s_get (ci := 2) (k := 0) (am_dp pw_X2_readShip_64 dd_X2_readShip_64a.2.1) rfl (by decide) wd467 inX2 rfl).to, ?_⟩
  refine List.forall_mem_cons.mpr ⟨zw_cv35 (am_dp pw_X2_readShip_64 dd_X2_readShip_64a.2.2.1) wd689, ?_⟩
  refine List.forall_mem_cons.mpr ⟨(s_aloadn (am_dp pw_X2_readShip_64 dd_X2_readShip_64a.2.2.2.1) rfl).to, ?_⟩
  refine List.forall_mem_cons.mpr ⟨(s_iconst (am_dp pw_X2_readShip_64 dd_X2_readShip_64a.2.2.2.2.1) (by decide)).to, ?_⟩
  refine List.forall_mem_cons.mpr ⟨(s_iconst (am_dp pw_X2_readShip_64 dd_X2_readShip_64a.2.2.2.2.2.1) (by decide)).to, ?_⟩
  refine List.forall_mem_cons.mpr ⟨(s_iconst (am_dp pw_X2_readShip_64 dd_X2_readShip_64a.2.2.2.2.2.2.1) (by decide)).to, ?_⟩
  refine List.forall_mem_cons.mpr ⟨zw_cv15 (am_dp pw_X2_readShip_64 dd_X2_readShip_64a.2.2.2.2.2.2.2) wd789, ?_⟩
  refine List.forall_mem_cons.mpr ⟨(s_istoren (am_dp pw_X2_readShip_64 dd_X2_readShip_64b.1) rfl (by decide)).to, ?_⟩
  refine List.forall_mem_cons.mpr ⟨(s_aloadn (am_dp pw_X2_readShip_64 dd_X2_readShip_64b.2.1) rfl).to, ?_⟩
  refine List.forall_mem_cons.mpr ⟨(s_bipush (am_dp pw_X2_readShip_64 dd_X2_readShip_64b.2.2.1) (by decide)).to, ?_⟩
  refine List.forall_mem_cons.mpr ⟨(s_iconst (am_dp pw_X2_readShip_64 dd_X2_readShip_64b.2.2.2.1) (by decide)).to, ?_⟩
  refine List.forall_mem_cons.mpr ⟨(s_iconst (am_dp pw_X2_readShip_64 dd_X2_readShip_64b.2.2.2.2.1) (by decide)).to, ?_⟩
  refine List.forall_mem_cons.mpr ⟨zw_cv15 (am_dp pw_X2_readShip_64 dd_X2_readShip_64b.2.2.2.2.2.1) wd789, ?_⟩
  refine List.forall_mem_cons.mpr ⟨(s_istoren (am_dp pw_X2_readShip_64 dd_X2_readShip_64b.2.2.2.2.2.2.1) rfl (by decide)).to, ?_⟩
  refine List.forall_mem_cons.mpr ⟨(s_aloadn (am_dp pw_X2_readShip_64 dd_X2_readShip_64b.2.2.2.2.2.2.2) rfl).to, ?_⟩
  refine List.forall_mem_cons.mpr ⟨(s_bipush (am_dp pw_X2_readShip_64 dd_X2_readShip_64c.1) (by decide)).to, ?_⟩
  refine List.forall_mem_cons.mpr ⟨(s_iconst (am_dp pw_X2_readShip_64 dd_X2_readShip_64c.2.1) (by decide)).to, ?_⟩
  refine List.forall_mem_cons.mpr ⟨(s_bipush (am_dp pw_X2_readShip_64 dd_X2_readShip_64c.2.2.1) (by decide)).to, ?_⟩
  refine List.forall_mem_cons.mpr ⟨zw_cv15 (am_dp pw_X2_readShip_64 dd_X2_readShip_64c.2.2.2) wd789, ?_⟩
  refine List.forall_mem_cons.mpr ⟨(s_istore (am_dp pw_X2_readShip_96 dd_X2_readShip_96a.1) (by decide)).to, ?_⟩
  refine List.forall_mem_cons.mpr ⟨(s_aloadn (am_dp pw_X2_readShip_96 dd_X2_readShip_96a.2.1) rfl).to, ?_⟩
  refine List.forall_mem_cons.mpr ⟨(s_bipush (am_dp pw_X2_readShip_96 dd_X2_readShip_96a.2.2.1) (by decide)).to, ?_⟩
  refine List.forall_mem_cons.mpr ⟨(s_iconst (am_dp pw_X2_readShip_96 dd_X2_readShip_96a.2.2.2.1) (by decide)).to, ?_⟩
  refine List.forall_mem_cons.mpr ⟨(s_bipush (am_dp pw_X2_readShip_96 dd_X2_readShip_96a.2.2.2.2.1) (by decide)).to, ?_⟩
  refine List.forall_mem_cons.mpr ⟨zw_cv15 (am_dp pw_X2_readShip_96 dd_X2_readShip_96a.2.2.2.2.2.1) wd789, ?_⟩
  refine List.forall_mem_cons.mpr ⟨(s_istore (am_dp pw_X2_readShip_96 dd_X2_readShip_96a.2.2.2.2.2.2.1) (by decide)).to, ?_⟩
  refine List.forall_mem_cons.mpr ⟨(s_aloadn (am_dp pw_X2_readShip_96 dd_X2_readShip_96a.2.2.2.2.2.2.2) rfl).to, ?_⟩
  refine List.forall_mem_cons.mpr ⟨(s_get (ci := 2) (k := 0) (am_dp pw_X2_readShip_96 dd_X2_readShip_96b.1) rfl (by decide) wd467 inX2 rfl).to, ?_⟩
  exact fun _ h => absurd h List.not_mem_nil
theorem sn_tX2_readShip_1 : ∀ q ∈ tX2_readShip_1, am_Snd am_P0 RX2 cX2_readShip 6 (Option.none : Option FieldType) "readShip" q.1 q.2 := by
  unfold tX2_readShip_1
  refine List.forall_mem_cons.mpr ⟨(s_get (ci := 3) (k := 8) (am_dp pw_X2_readShip_96 dd_X2_readShip_96b.2.1) rfl (by decide) wd442 inX3 rfl).to, ?_⟩
  refine List.forall_mem_cons.mpr ⟨(s_if_ne (am_dp pw_X2_readShip_96 dd_X2_readShip_96b.2.2.1) (by decide)).to, ?_⟩
  refine List.forall_mem_cons.mpr ⟨(s_aloadn (am_dp pw_X2_readShip_96 dd_X2_readShip_96b.2.2.2.1) rfl).to, ?_⟩
  refine List.forall_mem_cons.mpr ⟨(s_get (ci := 2) (k := 1) (am_dp pw_X2_readShip_96 dd_X2_readShip_96b.2.2.2.2.1) rfl (by decide) wd469 inX2 rfl).to, ?_⟩
  refine List.forall_mem_cons.mpr ⟨(s_iloadn (am_dp pw_X2_readShip_96 dd_X2_readShip_96b.2.2.2.2.2.1) rfl).to, ?_⟩
  refine List.forall_mem_cons.mpr ⟨(s_iloadn (am_dp pw_X2_readShip_96 dd_X2_readShip_96b.2.2.2.2.2.2.1) rfl).to, ?_⟩
  refine List.forall_mem_cons.mpr ⟨(s_iloadn (am_dp pw_X2_readShip_96 dd_X2_readShip_96b.2.2.2.2.2.2.2) rfl).to, ?_⟩
  refine List.forall_mem_cons.mpr ⟨(s_iload (am_dp pw_X2_readShip_96 dd_X2_readShip_96c)).to, ?_⟩
  refine List.forall_mem_cons.mpr ⟨(s_iload (am_dp pw_X2_readShip_128 dd_X2_readShip_128a.1)).to, ?_⟩
  refine List.forall_mem_cons.mpr ⟨zw_cv63 (am_dp pw_X2_readShip_128 dd_X2_readShip_128a.2.1) wd793, ?_⟩
  refine List.forall_mem_cons.mpr ⟨s_vret (am_dp pw_X2_readShip_128 dd_X2_readShip_128a.2.2) rfl, ?_⟩
  exact fun _ h => absurd h List.not_mem_nil
theorem sn_tX2_readShip : ∀ q ∈ tX2_readShip, am_Snd am_P0 RX2 cX2_readShip 6 (Option.none : Option FieldType) "readShip" q.1 q.2 := by
  unfold tX2_readShip
  exact List.forall_mem_append.mpr ⟨sn_tX2_readShip_0, sn_tX2_readShip_1⟩
theorem sn_tX2_takeShip : ∀ q ∈ tX2_takeShip, am_Snd am_P0 RX2 cX2_takeShip 2 (Option.some FieldType.int) "takeShip" q.1 q.2 := by
  unfold tX2_takeShip
  refine List.forall_mem_cons.mpr ⟨(s_aloadn (am_dp pw_X2_takeShip_0 dd_X2_takeShip_0a.1) rfl).to, ?_⟩
  refine List.forall_mem_cons.mpr ⟨(s_get (ci := 2) (k := 0) (am_dp pw_X2_takeShip_0 dd_X2_takeShip_0a.2.1) rfl (by decide) wd467 inX2 rfl).to, ?_⟩
  refine List.forall_mem_cons.mpr ⟨zw_cv45 (am_dp pw_X2_takeShip_0 dd_X2_takeShip_0a.2.2.1) wd781, ?_⟩
  refine List.forall_mem_cons.mpr ⟨(s_if_ne (am_dp pw_X2_takeShip_0 dd_X2_takeShip_0a.2.2.2.1) (by decide)).to, ?_⟩
  refine List.forall_mem_cons.mpr ⟨(s_iconst (am_dp pw_X2_takeShip_0 dd_X2_takeShip_0a.2.2.2.2.1) (by decide)).to, ?_⟩
  refine List.forall_mem_cons.mpr ⟨s_iret (am_dp pw_X2_takeShip_0 dd_X2_takeShip_0a.2.2.2.2.2.1) rfl, ?_⟩
  refine List.forall_mem_cons.mpr ⟨(s_aloadn (am_dp pw_X2_takeShip_0 dd_X2_takeShip_0a.2.2.2.2.2.2.1) rfl).to, ?_⟩
  refine List.forall_mem_cons.mpr ⟨(s_get (ci := 2) (k := 1) (am_dp pw_X2_takeShip_0 dd_X2_takeShip_0a.2.2.2.2.2.2.2) rfl (by decide) wd469 inX2 rfl).to, ?_⟩
  refine List.forall_mem_cons.mpr ⟨(s_aloadn (am_dp pw_X2_takeShip_0 dd_X2_takeShip_0b.1) rfl).to, ?_⟩
  refine List.forall_mem_cons.mpr ⟨(s_get (ci := 2) (k := 0) (am_dp pw_X2_takeShip_0 dd_X2_takeShip_0b.2.1) rfl (by decide) wd467 inX2 rfl).to, ?_⟩
  refine List.forall_mem_cons.mpr ⟨(s_get (ci := 3) (k := 5) (am_dp pw_X2_takeShip_0 dd_X2_takeShip_0b.2.2.1) rfl (by decide) wd436 inX3 rfl).to, ?_⟩
  refine List.forall_mem_cons.mpr ⟨zw_cv62 (am_dp pw_X2_takeShip_0 dd_X2_takeShip_0b.2.2.2.1) wd785, ?_⟩
  refine List.forall_mem_cons.mpr ⟨(s_istoren (am_dp pw_X2_takeShip_0 dd_X2_takeShip_0b.2.2.2.2.1) rfl (by decide)).to, ?_⟩
  refine List.forall_mem_cons.mpr ⟨(s_iloadn (am_dp pw_X2_takeShip_0 dd_X2_takeShip_0b.2.2.2.2.2.1) rfl).to, ?_⟩
  refine List.forall_mem_cons.mpr ⟨(s_iconst (am_dp pw_X2_takeShip_0 dd_X2_takeShip_0b.2.2.2.2.2.2.1) (by decide)).to, ?_⟩
  refine List.forall_mem_cons.mpr ⟨(s_icmp_ne (am_dp pw_X2_takeShip_0 dd_X2_takeShip_0b.2.2.2.2.2.2.2) (by decide)).to, ?_⟩
  refine List.forall_mem_cons.mpr ⟨(s_aloadn (am_dp pw_X2_takeShip_32 dd_X2_takeShip_32a.1) rfl).to, ?_⟩
  refine List.forall_mem_cons.mpr ⟨(s_get (ci := 2) (k := 0) (am_dp pw_X2_takeShip_32 dd_X2_takeShip_32a.2.1) rfl (by decide) wd467 inX2 rfl).to, ?_⟩
  refine List.forall_mem_cons.mpr ⟨(s_iconst (am_dp pw_X2_takeShip_32 dd_X2_takeShip_32a.2.2.1) (by decide)).to, ?_⟩
  refine List.forall_mem_cons.mpr ⟨zw_cv39 (am_dp pw_X2_takeShip_32 dd_X2_takeShip_32a.2.2.2.1) wd681, ?_⟩
  refine List.forall_mem_cons.mpr ⟨(s_goto (am_dp pw_X2_takeShip_32 dd_X2_takeShip_32a.2.2.2.2.1) (by decide)).to, ?_⟩
  refine List.forall_mem_cons.mpr ⟨(s_aloadn (am_dp pw_X2_takeShip_32 dd_X2_takeShip_32a.2.2.2.2.2.1) rfl).to, ?_⟩
  refine List.forall_mem_cons.mpr ⟨(s_get (ci := 2) (k := 0) (am_dp pw_X2_takeShip_32 dd_X2_takeShip_32a.2.2.2.2.2.2.1) rfl (by decide) wd467 inX2 rfl).to, ?_⟩
  refine List.forall_mem_cons.mpr ⟨zw_cv35 (am_dp pw_X2_takeShip_32 dd_X2_takeShip_32a.2.2.2.2.2.2.2) wd689, ?_⟩
  refine List.forall_mem_cons.mpr ⟨(s_iloadn (am_dp pw_X2_takeShip_32 dd_X2_takeShip_32b.1) rfl).to, ?_⟩
  refine List.forall_mem_cons.mpr ⟨s_iret (am_dp pw_X2_takeShip_32 dd_X2_takeShip_32b.2) rfl, ?_⟩
  exact fun _ h => absurd h List.not_mem_nil
theorem sn_tX2_takePlace : ∀ q ∈ tX2_takePlace, am_Snd am_P0 RX2 cX2_takePlace 3 (Option.some FieldType.int) "takePlace" q.1 q.2 := by
  unfold tX2_takePlace
  refine List.forall_mem_cons.mpr ⟨(s_aloadn (am_dp pw_X2_takePlace_0 dd_X2_takePlace_0a.1) rfl).to, ?_⟩
  refine List.forall_mem_cons.mpr ⟨(s_get (ci := 2) (k := 0) (am_dp pw_X2_takePlace_0 dd_X2_takePlace_0a.2.1) rfl (by decide) wd467 inX2 rfl).to, ?_⟩
  refine List.forall_mem_cons.mpr ⟨(s_bipush (am_dp pw_X2_takePlace_0 dd_X2_takePlace_0a.2.2.1) (by decide)).to, ?_⟩
  refine List.forall_mem_cons.mpr ⟨zw_cv42 (am_dp pw_X2_takePlace_0 dd_X2_takePlace_0a.2.2.2.1) wd752, ?_⟩
  refine List.forall_mem_cons.mpr ⟨(s_aloadn (am_dp pw_X2_takePlace_0 dd_X2_takePlace_0a.2.2.2.2.1) rfl).to, ?_⟩
  refine List.forall_mem_cons.mpr ⟨(s_get (ci := 2) (k := 0) (am_dp pw_X2_takePlace_0 dd_X2_takePlace_0a.2.2.2.2.2.1) rfl (by decide) wd467 inX2 rfl).to, ?_⟩
  refine List.forall_mem_cons.mpr ⟨(s_iconst (am_dp pw_X2_takePlace_0 dd_X2_takePlace_0a.2.2.2.2.2.2.1) (by decide)).to, ?_⟩
  refine List.forall_mem_cons.mpr ⟨(s_aloadn (am_dp pw_X2_takePlace_0 dd_X2_takePlace_0a.2.2.2.2.2.2.2) rfl).to, ?_⟩
  refine List.forall_mem_cons.mpr ⟨(s_get (ci := 2) (k := 1) (am_dp pw_X2_takePlace_0 dd_X2_takePlace_0b.1) rfl (by decide) wd469 inX2 rfl).to, ?_⟩
  refine List.forall_mem_cons.mpr ⟨(s_get (ci := 5) (k := 0) (am_dp pw_X2_takePlace_0 dd_X2_takePlace_0b.2.1) rfl (by decide) wd306 inX5 rfl).to, ?_⟩
  refine List.forall_mem_cons.mpr ⟨(s_iconst (am_dp pw_X2_takePlace_0 dd_X2_takePlace_0b.2.2.1) (by decide)).to, ?_⟩
  refine List.forall_mem_cons.mpr ⟨(s_isub (am_dp pw_X2_takePlace_0 dd_X2_takePlace_0b.2.2.2.1)).to, ?_⟩
  refine List.forall_mem_cons.mpr ⟨zw_cv44 (am_dp pw_X2_takePlace_0 dd_X2_takePlace_0b.2.2.2.2.1) wd690, ?_⟩
  refine List.forall_mem_cons.mpr ⟨(s_istoren (am_dp pw_X2_takePlace_0 dd_X2_takePlace_0b.2.2.2.2.2.1) rfl (by decide)).to, ?_⟩
  refine List.forall_mem_cons.mpr ⟨(s_aloadn (am_dp pw_X2_takePlace_0 dd_X2_takePlace_0b.2.2.2.2.2.2.1) rfl).to, ?_⟩
  refine List.forall_mem_cons.mpr ⟨(s_get (ci := 2) (k := 0) (am_dp pw_X2_takePlace_0 dd_X2_takePlace_0b.2.2.2.2.2.2.2) rfl (by decide) wd467 inX2 rfl).to, ?_⟩
  refine List.forall_mem_cons.mpr ⟨(s_iconst (am_dp pw_X2_takePlace_0 dd_X2_takePlace_0c) (by decide)).to, ?_⟩
  refine List.forall_mem_cons.mpr ⟨(s_aloadn (am_dp pw_X2_takePlace_32 dd_X2_takePlace_32a.1) rfl).to, ?_⟩
  refine List.forall_mem_cons.mpr ⟨(s_get (ci := 2) (k := 1) (am_dp pw_X2_takePlace_32 dd_X2_takePlace_32a.2.1) rfl (by decide) wd469 inX2 rfl).to, ?_⟩
  refine List.forall_mem_cons.mpr ⟨(s_get (ci := 5) (k := 1) (am_dp pw_X2_takePlace_32 dd_X2_takePlace_32a.2.2.1) rfl (by decide) wd309 inX5 rfl).to, ?_⟩
  refine List.forall_mem_cons.mpr ⟨(s_iconst (am_dp pw_X2_takePlace_32 dd_X2_takePlace_32a.2.2.2.1) (by decide)).to, ?_⟩
  refine List.forall_mem_cons.mpr ⟨(s_isub (am_dp pw_X2_takePlace_32 dd_X2_takePlace_32a.2.2.2.2.1)).to, ?_⟩
  refine List.forall_mem_cons.mpr ⟨zw_cv44 (am_dp pw_X2_takePlace_32 dd_X2_takePlace_32a.2.2.2.2.2.1) wd690, ?_⟩
  refine List.forall_mem_cons.mpr ⟨(s_istoren (am_dp pw_X2_takePlace_32 dd_X2_takePlace_32a.2.2.2.2.2.2.1) rfl (by decide)).to, ?_⟩
  refine List.forall_mem_cons.mpr ⟨(s_iloadn (am_dp pw_X2_takePlace_32 dd_X2_takePlace_32a.2.2.2.2.2.2.2) rfl).to, ?_⟩
  refine List.forall_mem_cons.mpr ⟨(s_bipush (am_dp pw_X2_takePlace_32 dd_X2_takePlace_32b.1) (by decide)).to, ?_⟩
  refine List.forall_mem_cons.mpr ⟨(s_imul (am_dp pw_X2_takePlace_32 dd_X2_takePlace_32b.2.1)).to, ?_⟩
  refine List.forall_mem_cons.mpr ⟨(s_iloadn (am_dp pw_X2_takePlace_32 dd_X2_takePlace_32b.2.2.1) rfl).to, ?_⟩
  refine List.forall_mem_cons.mpr ⟨(s_iadd (am_dp pw_X2_takePlace_32 dd_X2_takePlace_32b.2.2.2.1)).to, ?_⟩
  refine List.forall_mem_cons.mpr ⟨s_iret (am_dp pw_X2_takePlace_32 dd_X2_takePlace_32b.2.2.2.2) rfl, ?_⟩
  exact fun _ h => absurd h List.not_mem_nil
theorem sn_tX2_readSaying_0 : ∀ q ∈ tX2_readSaying_0, am_Snd am_P0 RX2 cX2_readSaying 5 (Option.none : Option FieldType) "readSaying" q.1 q.2 := by
  unfold tX2_readSaying_0
  refine List.forall_mem_cons.mpr ⟨(s_aloadn (am_dp pw_X2_readSaying_0 dd_X2_readSaying_0a.1) rfl).to, ?_⟩
  refine List.forall_mem_cons.mpr ⟨(s_aloadn (am_dp pw_X2_readSaying_0 dd_X2_readSaying_0a.2.1) rfl).to, ?_⟩
  refine List.forall_mem_cons.mpr ⟨(s_get (ci := 2) (k := 1) (am_dp pw_X2_readSaying_0 dd_X2_readSaying_0a.2.2.1) rfl (by decide) wd469 inX2 rfl).to, ?_⟩
  refine List.forall_mem_cons.mpr ⟨zw_cv59 (am_dp pw_X2_readSaying_0 dd_X2_readSaying_0a.2.2.2.1) wd801, ?_⟩
  refine List.forall_mem_cons.mpr ⟨(s_bipush (am_dp pw_X2_readSaying_0 dd_X2_readSaying_0a.2.2.2.2.1) (by decide)).to, ?_⟩
  refine List.forall_mem_cons.mpr ⟨(s_icmp_lt (am_dp pw_X2_readSaying_0 dd_X2_readSaying_0a.2.2.2.2.2.1) (by decide)).to, ?_⟩
  refine List.forall_mem_cons.mpr ⟨(s_iconst (am_dp pw_X2_readSaying_0 dd_X2_readSaying_0a.2.2.2.2.2.2.1) (by decide)).to, ?_⟩
  refine List.forall_mem_cons.mpr ⟨(s_goto (am_dp pw_X2_readSaying_0 dd_X2_readSaying_0a.2.2.2.2.2.2.2) (by decide)).to, ?_⟩
  refine List.forall_mem_cons.mpr ⟨(s_iconst (am_dp pw_X2_readSaying_0 dd_X2_readSaying_0b.1) (by decide)).to, ?_⟩
  refine List.forall_mem_cons.mpr ⟨zw_cv13 (am_dp pw_X2_readSaying_0 dd_X2_readSaying_0b.2.1) wd707, ?_⟩
  refine List.forall_mem_cons.mpr ⟨(s_if_ne (am_dp pw_X2_readSaying_0 dd_X2_readSaying_0b.2.2.1) (by decide)).to, ?_⟩
  refine List.forall_mem_cons.mpr ⟨s_vret (am_dp pw_X2_readSaying_0 dd_X2_readSaying_0b.2.2.2.1) rfl, ?_⟩
  refine List.forall_mem_cons.mpr ⟨(s_aloadn (am_dp pw_X2_readSaying_0 dd_X2_readSaying_0b.2.2.2.2.1) rfl).to, ?_⟩
  refine List.forall_mem_cons.mpr ⟨zw_cv17 (am_dp pw_X2_readSaying_0 dd_X2_readSaying_0b.2.2.2.2.2.1) wd805, ?_⟩
  refine List.forall_mem_cons.mpr ⟨(s_istoren (am_dp pw_X2_readSaying_0 dd_X2_readSaying_0b.2.2.2.2.2.2.1) rfl (by decide)).to, ?_⟩
  refine List.forall_mem_cons.mpr ⟨(s_iloadn (am_dp pw_X2_readSaying_0 dd_X2_readSaying_0b.2.2.2.2.2.2.2) rfl).to, ?_⟩
  refine List.forall_mem_cons.mpr ⟨(s_iconst (am_dp pw_X2_readSaying_0 dd_X2_readSaying_0c) (by decide)).to, ?_⟩
  refine List.forall_mem_cons.mpr ⟨(s_icmp_eq (am_dp pw_X2_readSaying_32 dd_X2_readSaying_32a.1) (by decide)).to, ?_⟩
  refine List.forall_mem_cons.mpr ⟨(s_aloadn (am_dp pw_X2_readSaying_32 dd_X2_readSaying_32a.2.1) rfl).to, ?_⟩
  refine List.forall_mem_cons.mpr ⟨(s_get (ci := 2) (k := 0) (am_dp pw_X2_readSaying_32 dd_X2_readSaying_32a.2.2.1) rfl (by decide) wd467 inX2 rfl).to, ?_⟩
  refine List.forall_mem_cons.mpr ⟨(s_iconst (am_dp pw_X2_readSaying_32 dd_X2_readSaying_32a.2.2.2.1) (by decide)).to, ?_⟩
  refine List.forall_mem_cons.mpr ⟨(s_bipush (am_dp pw_X2_readSaying_32 dd_X2_readSaying_32a.2.2.2.2.1) (by decide)).to, ?_⟩
  refine List.forall_mem_cons.mpr ⟨zw_cv43 (am_dp pw_X2_readSaying_32 dd_X2_readSaying_32a.2.2.2.2.2.1) wd809, ?_⟩
  refine List.forall_mem_cons.mpr ⟨(s_if_ne (am_dp pw_X2_readSaying_32 dd_X2_readSaying_32a.2.2.2.2.2.2.1) (by decide)).to, ?_⟩
  refine List.forall_mem_cons.mpr ⟨s_vret (am_dp pw_X2_readSaying_32 dd_X2_readSaying_32a.2.2.2.2.2.2.2) rfl, ?_⟩
  refine List.forall_mem_cons.mpr ⟨(s_aloadn (am_dp pw_X2_readSaying_32 dd_X2_readSaying_32b.1) rfl).to, ?_⟩
  refine List.forall_mem_cons.mpr ⟨(s_get (ci := 2) (k := 0) (am_dp pw_X2_readSaying_32 dd_X2_readSaying_32b.2.1) rfl (by decide) wd467 inX2 rfl).to, ?_⟩
  refine List.forall_mem_cons.mpr ⟨(s_get (ci := 3) (k := 5) (am_dp pw_X2_readSaying_32 dd_X2_readSaying_32b.2.2.1) rfl (by decide) wd436 inX3 rfl).to, ?_⟩
  refine List.forall_mem_cons.mpr ⟨(s_istoren (am_dp pw_X2_readSaying_32 dd_X2_readSaying_32b.2.2.2.1) rfl (by decide)).to, ?_⟩
  refine List.forall_mem_cons.mpr ⟨(s_aloadn (am_dp pw_X2_readSaying_32 dd_X2_readSaying_32b.2.2.2.2.1) rfl).to, ?_⟩
  refine List.forall_mem_cons.mpr ⟨(s_get (ci := 2) (k := 1) (am_dp pw_X2_readSaying_32 dd_X2_readSaying_32b.2.2.2.2.2.1) rfl (by decide) wd469 inX2 rfl).to, ?_⟩
  refine List.forall_mem_cons.mpr ⟨(s_get (ci := 5) (k := 4) (am_dp pw_X2_readSaying_32 dd_X2_readSaying_32b.2.2.2.2.2.2) rfl (by decide) wd319 inX5 rfl).to, ?_⟩
  refine List.forall_mem_cons.mpr ⟨(s_iloadn (am_dp pw_X2_readSaying_64 dd_X2_readSaying_64a.1) rfl).to, ?_⟩
  refine List.forall_mem_cons.mpr ⟨(s_aald (am_dp pw_X2_readSaying_64 dd_X2_readSaying_64a.2.1)).to, ?_⟩
  refine List.forall_mem_cons.mpr ⟨(s_iloadn (am_dp pw_X2_readSaying_64 dd_X2_readSaying_64a.2.2.1) rfl).to, ?_⟩
  refine List.forall_mem_cons.mpr ⟨zw_cv65 (am_dp pw_X2_readSaying_64 dd_X2_readSaying_64a.2.2.2.1) wd810, ?_⟩
  refine List.forall_mem_cons.mpr ⟨(s_if_eq (am_dp pw_X2_readSaying_64 dd_X2_readSaying_64a.2.2.2.2.1) (by decide)).to, ?_⟩
  refine List.forall_mem_cons.mpr ⟨(s_aloadn (am_dp pw_X2_readSaying_64 dd_X2_readSaying_64a.2.2.2.2.2.1) rfl).to, ?_⟩
  refine List.forall_mem_cons.mpr ⟨(s_get (ci := 2) (k := 0) (am_dp pw_X2_readSaying_64 dd_X2_readSaying_64a.2.2.2.2.2.2.1) rfl (by decide) wd467 inX2 rfl).to, ?_⟩
  refine List.forall_mem_cons.mpr ⟨(s_iconst (am_dp pw_X2_readSaying_64 dd_X2_readSaying_64a.2.2.2.2.2.2.2) (by decide)).to, ?_⟩
  refine List.forall_mem_cons.mpr ⟨zw_cv39 (am_dp pw_X2_readSaying_64 dd_X2_readSaying_64b.1) wd681, ?_⟩
  refine List.forall_mem_cons.mpr ⟨s_vret (am_dp pw_X2_readSaying_64 dd_X2_readSaying_64b.2.1) rfl, ?_⟩
  refine List.forall_mem_cons.mpr ⟨(s_aloadn (am_dp pw_X2_readSaying_64 dd_X2_readSaying_64b.2.2.1) rfl).to, ?_⟩
  refine List.forall_mem_cons.mpr ⟨(s_get (ci := 2) (k := 0) (am_dp pw_X2_readSaying_64 dd_X2_readSaying_64b.2.2.2.1) rfl (by decide) wd467 inX2 rfl).to, ?_⟩
  refine List.forall_mem_cons.mpr ⟨zw_cv35 (am_dp pw_X2_readSaying_64 dd_X2_readSaying_64b.2.2.2.2.1) wd689, ?_⟩
  refine List.forall_mem_cons.mpr ⟨(s_aloadn (am_dp pw_X2_readSaying_64 dd_X2_readSaying_64b.2.2.2.2.2.1) rfl).to, ?_⟩
  refine List.forall_mem_cons.mpr ⟨zw_cv18 (am_dp pw_X2_readSaying_64 dd_X2_readSaying_64b.2.2.2.2.2.2.1) wd814, ?_⟩
  refine List.forall_mem_cons.mpr ⟨(s_istoren (am_dp pw_X2_readSaying_64 dd_X2_readSaying_64b.2.2.2.2.2.2.2) rfl (by decide)).to, ?_⟩
  refine List.forall_mem_cons.mpr ⟨(s_aloadn (am_dp pw_X2_readSaying_64 dd_X2_readSaying_64c.1) rfl).to, ?_⟩
  refine List.forall_mem_cons.mpr ⟨(s_bipush (am_dp pw_X2_readSaying_64 dd_X2_readSaying_64c.2) (by decide)).to, ?_⟩
  refine List.forall_mem_cons.mpr ⟨(s_iconst (am_dp pw_X2_readSaying_96 dd_X2_readSaying_96a.1) (by decide)).to, ?_⟩
  refine List.forall_mem_cons.mpr ⟨(s_iconst (am_dp pw_X2_readSaying_96 dd_X2_readSaying_96a.2.1) (by decide)).to, ?_⟩
  refine List.forall_mem_cons.mpr ⟨zw_cv15 (am_dp pw_X2_readSaying_96 dd_X2_readSaying_96a.2.2.1) wd789, ?_⟩
  refine List.forall_mem_cons.mpr ⟨(s_istore (am_dp pw_X2_readSaying_96 dd_X2_readSaying_96a.2.2.2.1) (by decide)).to, ?_⟩
  refine List.forall_mem_cons.mpr ⟨(s_aloadn (am_dp pw_X2_readSaying_96 dd_X2_readSaying_96a.2.2.2.2.1) rfl).to, ?_⟩
  refine List.forall_mem_cons.mpr ⟨(s_get (ci := 2) (k := 0) (am_dp pw_X2_readSaying_96 dd_X2_readSaying_96a.2.2.2.2.2.1) rfl (by decide) wd467 inX2 rfl).to, ?_⟩
  refine List.forall_mem_cons.mpr ⟨(s_get (ci := 3) (k := 8) (am_dp pw_X2_readSaying_96 dd_X2_readSaying_96a.2.2.2.2.2.2.1) rfl (by decide) wd442 inX3 rfl).to, ?_⟩
  refine List.forall_mem_cons.mpr ⟨(s_if_ne (am_dp pw_X2_readSaying_96 dd_X2_readSaying_96a.2.2.2.2.2.2.2) (by decide)).to, ?_⟩
  refine List.forall_mem_cons.mpr ⟨(s_aloadn (am_dp pw_X2_readSaying_96 dd_X2_readSaying_96b.1) rfl).to, ?_⟩
  refine List.forall_mem_cons.mpr ⟨(s_get (ci := 2) (k := 1) (am_dp pw_X2_readSaying_96 dd_X2_readSaying_96b.2.1) rfl (by decide) wd469 inX2 rfl).to, ?_⟩
  exact fun _ h => absurd h List.not_mem_nil
theorem sn_tX2_readSaying_1 : ∀ q ∈ tX2_readSaying_1, am_Snd am_P0 RX2 cX2_readSaying 5 (Option.none : Option FieldType) "readSaying" q.1 q.2 := by
  unfold tX2_readSaying_1
  refine List.forall_mem_cons.mpr ⟨(s_get (ci := 5) (k := 4) (am_dp pw_X2_readSaying_96 dd_X2_readSaying_96b.2.2.1) rfl (by decide) wd319 inX5 rfl).to, ?_⟩
  refine List.forall_mem_cons.mpr ⟨(s_iloadn (am_dp pw_X2_readSaying_96 dd_X2_readSaying_96b.2.2.2.1) rfl).to, ?_⟩
  refine List.forall_mem_cons.mpr ⟨(s_aald (am_dp pw_X2_readSaying_96 dd_X2_readSaying_96b.2.2.2.2.1)).to, ?_⟩
  refine List.forall_mem_cons.mpr ⟨(s_iloadn (am_dp pw_X2_readSaying_96 dd_X2_readSaying_96b.2.2.2.2.2.1) rfl).to, ?_⟩
  refine List.forall_mem_cons.mpr ⟨(s_iloadn (am_dp pw_X2_readSaying_96 dd_X2_readSaying_96b.2.2.2.2.2.2.1) rfl).to, ?_⟩
  refine List.forall_mem_cons.mpr ⟨(s_iload (am_dp pw_X2_readSaying_96 dd_X2_readSaying_96b.2.2.2.2.2.2.2)).to, ?_⟩
  refine List.forall_mem_cons.mpr ⟨(s_iconst (am_dp pw_X2_readSaying_96 dd_X2_readSaying_96c) (by decide)).to, ?_⟩
  refine List.forall_mem_cons.mpr ⟨(s_icmp_ne (am_dp pw_X2_readSaying_128 dd_X2_readSaying_128a.1) (by decide)).to, ?_⟩
  refine List.forall_mem_cons.mpr ⟨(s_iconst (am_dp pw_X2_readSaying_128 dd_X2_readSaying_128a.2.1) (by decide)).to, ?_⟩
  refine List.forall_mem_cons.mpr ⟨(s_goto (am_dp pw_X2_readSaying_128 dd_X2_readSaying_128a.2.2.1) (by decide)).to, ?_⟩
  refine List.forall_mem_cons.mpr ⟨(s_iconst (am_dp pw_X2_readSaying_128 dd_X2_readSaying_128a.2.2.2.1) (by decide)).to, ?_⟩
  refine List.forall_mem_cons.mpr ⟨zw_cv66 (am_dp pw_X2_readSaying_128 dd_X2_readSaying_128a.2.2.2.2.1) wd818, ?_⟩
  refine List.forall_mem_cons.mpr ⟨(s_pop (am_dp pw_X2_readSaying_128 dd_X2_readSaying_128a.2.2.2.2.2.1)).to, ?_⟩
  refine List.forall_mem_cons.mpr ⟨s_vret (am_dp pw_X2_readSaying_128 dd_X2_readSaying_128a.2.2.2.2.2.2) rfl, ?_⟩
  exact fun _ h => absurd h List.not_mem_nil
theorem sn_tX2_readSaying : ∀ q ∈ tX2_readSaying, am_Snd am_P0 RX2 cX2_readSaying 5 (Option.none : Option FieldType) "readSaying" q.1 q.2 := by
  unfold tX2_readSaying
  exact List.forall_mem_append.mpr ⟨sn_tX2_readSaying_0, sn_tX2_readSaying_1⟩
theorem sn_tX2_readBook : ∀ q ∈ tX2_readBook, am_Snd am_P0 RX2 cX2_readBook 5 (Option.none : Option FieldType) "readBook" q.1 q.2 := by
  unfold tX2_readBook
  refine List.forall_mem_cons.mpr ⟨(s_aloadn (am_dp pw_X2_readBook_0 dd_X2_readBook_0a.1) rfl).to, ?_⟩
  refine List.forall_mem_cons.mpr ⟨(s_aloadn (am_dp pw_X2_readBook_0 dd_X2_readBook_0a.2.1) rfl).to, ?_⟩
  refine List.forall_mem_cons.mpr ⟨(s_get (ci := 2) (k := 1) (am_dp pw_X2_readBook_0 dd_X2_readBook_0a.2.2.1) rfl (by decide) wd469 inX2 rfl).to, ?_⟩
  refine List.forall_mem_cons.mpr ⟨zw_cv61 (am_dp pw_X2_readBook_0 dd_X2_readBook_0a.2.2.2.1) wd826, ?_⟩
  refine List.forall_mem_cons.mpr ⟨(s_bipush (am_dp pw_X2_readBook_0 dd_X2_readBook_0a.2.2.2.2.1) (by decide)).to, ?_⟩
  refine List.forall_mem_cons.mpr ⟨(s_icmp_lt (am_dp pw_X2_readBook_0 dd_X2_readBook_0a.2.2.2.2.2.1) (by decide)).to, ?_⟩
  refine List.forall_mem_cons.mpr ⟨(s_iconst (am_dp pw_X2_readBook_0 dd_X2_readBook_0a.2.2.2.2.2.2.1) (by decide)).to, ?_⟩
  refine List.forall_mem_cons.mpr ⟨(s_goto (am_dp pw_X2_readBook_0 dd_X2_readBook_0a.2.2.2.2.2.2.2) (by decide)).to, ?_⟩
  refine List.forall_mem_cons.mpr ⟨(s_iconst (am_dp pw_X2_readBook_0 dd_X2_readBook_0b.1) (by decide)).to, ?_⟩
  refine List.forall_mem_cons.mpr ⟨zw_cv13 (am_dp pw_X2_readBook_0 dd_X2_readBook_0b.2.1) wd707, ?_⟩
  refine List.forall_mem_cons.mpr ⟨(s_if_ne (am_dp pw_X2_readBook_0 dd_X2_readBook_0b.2.2.1) (by decide)).to, ?_⟩
  refine List.forall_mem_cons.mpr ⟨s_vret (am_dp pw_X2_readBook_0 dd_X2_readBook_0b.2.2.2.1) rfl, ?_⟩
  refine List.forall_mem_cons.mpr ⟨(s_aloadn (am_dp pw_X2_readBook_0 dd_X2_readBook_0b.2.2.2.2.1) rfl).to, ?_⟩
  refine List.forall_mem_cons.mpr ⟨zw_cv17 (am_dp pw_X2_readBook_0 dd_X2_readBook_0b.2.2.2.2.2.1) wd805, ?_⟩
  refine List.forall_mem_cons.mpr ⟨(s_istoren (am_dp pw_X2_readBook_0 dd_X2_readBook_0b.2.2.2.2.2.2.1) rfl (by decide)).to, ?_⟩
  refine List.forall_mem_cons.mpr ⟨(s_aloadn (am_dp pw_X2_readBook_0 dd_X2_readBook_0b.2.2.2.2.2.2.2) rfl).to, ?_⟩
  refine List.forall_mem_cons.mpr ⟨zw_cv18 (am_dp pw_X2_readBook_0 dd_X2_readBook_0c) wd814, ?_⟩
  refine List.forall_mem_cons.mpr ⟨(s_istoren (am_dp pw_X2_readBook_32 dd_X2_readBook_32a.1) rfl (by decide)).to, ?_⟩
  refine List.forall_mem_cons.mpr ⟨(s_aloadn (am_dp pw_X2_readBook_32 dd_X2_readBook_32a.2.1) rfl).to, ?_⟩
  refine List.forall_mem_cons.mpr ⟨(s_bipush (am_dp pw_X2_readBook_32 dd_X2_readBook_32a.2.2.1) (by decide)).to, ?_⟩
  refine List.forall_mem_cons.mpr ⟨(s_iconst (am_dp pw_X2_readBook_32 dd_X2_readBook_32a.2.2.2.1) (by decide)).to, ?_⟩
  refine List.forall_mem_cons.mpr ⟨(s_bipush (am_dp pw_X2_readBook_32 dd_X2_readBook_32a.2.2.2.2.1) (by decide)).to, ?_⟩
  refine List.forall_mem_cons.mpr ⟨zw_cv15 (am_dp pw_X2_readBook_32 dd_X2_readBook_32a.2.2.2.2.2.1) wd789, ?_⟩
  refine List.forall_mem_cons.mpr ⟨(s_istoren (am_dp pw_X2_readBook_32 dd_X2_readBook_32a.2.2.2.2.2.2.1) rfl (by decide)).to, ?_⟩
  refine List.forall_mem_cons.mpr ⟨(s_aloadn (am_dp pw_X2_readBook_32 dd_X2_readBook_32a.2.2.2.2.2.2.2) rfl).to, ?_⟩
  refine List.forall_mem_cons.mpr ⟨(s_bipush (am_dp pw_X2_readBook_32 dd_X2_readBook_32b.1) (by decide)).to, ?_⟩
  refine List.forall_mem_cons.mpr ⟨(s_iloadn (am_dp pw_X2_readBook_32 dd_X2_readBook_32b.2.1) rfl).to, ?_⟩
  refine List.forall_mem_cons.mpr ⟨(s_bipush (am_dp pw_X2_readBook_32 dd_X2_readBook_32b.2.2.1) (by decide)).to, ?_⟩
  refine List.forall_mem_cons.mpr ⟨zw_cv15 (am_dp pw_X2_readBook_32 dd_X2_readBook_32b.2.2.2.1) wd789, ?_⟩
  refine List.forall_mem_cons.mpr ⟨(s_istore (am_dp pw_X2_readBook_32 dd_X2_readBook_32b.2.2.2.2.1) (by decide)).to, ?_⟩
  refine List.forall_mem_cons.mpr ⟨(s_aloadn (am_dp pw_X2_readBook_32 dd_X2_readBook_32b.2.2.2.2.2.1) rfl).to, ?_⟩
  refine List.forall_mem_cons.mpr ⟨(s_get (ci := 2) (k := 0) (am_dp pw_X2_readBook_32 dd_X2_readBook_32b.2.2.2.2.2.2.1) rfl (by decide) wd467 inX2 rfl).to, ?_⟩
  refine List.forall_mem_cons.mpr ⟨(s_get (ci := 3) (k := 8) (am_dp pw_X2_readBook_32 dd_X2_readBook_32b.2.2.2.2.2.2.2) rfl (by decide) wd442 inX3 rfl).to, ?_⟩
  refine List.forall_mem_cons.mpr ⟨(s_if_ne (am_dp pw_X2_readBook_32 dd_X2_readBook_32c) (by decide)).to, ?_⟩
  refine List.forall_mem_cons.mpr ⟨(s_iloadn (am_dp pw_X2_readBook_64 dd_X2_readBook_64a.1) rfl).to, ?_⟩
  refine List.forall_mem_cons.mpr ⟨(s_iconst (am_dp pw_X2_readBook_64 dd_X2_readBook_64a.2.1) (by decide)).to, ?_⟩
  refine List.forall_mem_cons.mpr ⟨(s_icmp_eq (am_dp pw_X2_readBook_64 dd_X2_readBook_64a.2.2.1) (by decide)).to, ?_⟩
  refine List.forall_mem_cons.mpr ⟨(s_aloadn (am_dp pw_X2_readBook_64 dd_X2_readBook_64a.2.2.2.1) rfl).to, ?_⟩
  refine List.forall_mem_cons.mpr ⟨(s_get (ci := 2) (k := 1) (am_dp pw_X2_readBook_64 dd_X2_readBook_64a.2.2.2.2.1) rfl (by decide) wd469 inX2 rfl).to, ?_⟩
  refine List.forall_mem_cons.mpr ⟨(s_get (ci := 5) (k := 4) (am_dp pw_X2_readBook_64 dd_X2_readBook_64a.2.2.2.2.2.1) rfl (by decide) wd319 inX5 rfl).to, ?_⟩
  refine List.forall_mem_cons.mpr ⟨(s_iloadn (am_dp pw_X2_readBook_64 dd_X2_readBook_64a.2.2.2.2.2.2.1) rfl).to, ?_⟩
  refine List.forall_mem_cons.mpr ⟨(s_aald (am_dp pw_X2_readBook_64 dd_X2_readBook_64a.2.2.2.2.2.2.2)).to, ?_⟩
  refine List.forall_mem_cons.mpr ⟨(s_iloadn (am_dp pw_X2_readBook_64 dd_X2_readBook_64b.1) rfl).to, ?_⟩
  refine List.forall_mem_cons.mpr ⟨(s_iloadn (am_dp pw_X2_readBook_64 dd_X2_readBook_64b.2.1) rfl).to, ?_⟩
  refine List.forall_mem_cons.mpr ⟨(s_iload (am_dp pw_X2_readBook_64 dd_X2_readBook_64b.2.2.1)).to, ?_⟩
  refine List.forall_mem_cons.mpr ⟨zw_cv68 (am_dp pw_X2_readBook_64 dd_X2_readBook_64b.2.2.2.1) wd830, ?_⟩
  refine List.forall_mem_cons.mpr ⟨s_vret (am_dp pw_X2_readBook_64 dd_X2_readBook_64b.2.2.2.2) rfl, ?_⟩
  exact fun _ h => absurd h List.not_mem_nil
theorem sn_tX2_readSighting : ∀ q ∈ tX2_readSighting, am_Snd am_P0 RX2 cX2_readSighting 4 (Option.none : Option FieldType) "readSighting" q.1 q.2 := by
  unfold tX2_readSighting
  refine List.forall_mem_cons.mpr ⟨(s_aloadn (am_dp pw_X2_readSighting_0 dd_X2_readSighting_0a.1) rfl).to, ?_⟩
  refine List.forall_mem_cons.mpr ⟨(s_aloadn (am_dp pw_X2_readSighting_0 dd_X2_readSighting_0a.2.1) rfl).to, ?_⟩
  refine List.forall_mem_cons.mpr ⟨(s_get (ci := 2) (k := 1) (am_dp pw_X2_readSighting_0 dd_X2_readSighting_0a.2.2.1) rfl (by decide) wd469 inX2 rfl).to, ?_⟩
  refine List.forall_mem_cons.mpr ⟨(s_get (ci := 5) (k := 5) (am_dp pw_X2_readSighting_0 dd_X2_readSighting_0a.2.2.2.1) rfl (by decide) wd322 inX5 rfl).to, ?_⟩
  refine List.forall_mem_cons.mpr ⟨(s_get (ci := 7) (k := 0) (am_dp pw_X2_readSighting_0 dd_X2_readSighting_0a.2.2.2.2.1) rfl (by decide) wd179 inX7 rfl).to, ?_⟩
  refine List.forall_mem_cons.mpr ⟨(s_bipush (am_dp pw_X2_readSighting_0 dd_X2_readSighting_0a.2.2.2.2.2.1) (by decide)).to, ?_⟩
  refine List.forall_mem_cons.mpr ⟨(s_icmp_lt (am_dp pw_X2_readSighting_0 dd_X2_readSighting_0a.2.2.2.2.2.2.1) (by decide)).to, ?_⟩
  refine List.forall_mem_cons.mpr ⟨(s_iconst (am_dp pw_X2_readSighting_0 dd_X2_readSighting_0a.2.2.2.2.2.2.2) (by decide)).to, ?_⟩
  refine List.forall_mem_cons.mpr ⟨(s_goto (am_dp pw_X2_readSighting_0 dd_X2_readSighting_0b.1) (by decide)).to, ?_⟩
  refine List.forall_mem_cons.mpr ⟨(s_iconst (am_dp pw_X2_readSighting_0 dd_X2_readSighting_0b.2.1) (by decide)).to, ?_⟩
  refine List.forall_mem_cons.mpr ⟨zw_cv13 (am_dp pw_X2_readSighting_0 dd_X2_readSighting_0b.2.2.1) wd707, ?_⟩
  refine List.forall_mem_cons.mpr ⟨(s_if_ne (am_dp pw_X2_readSighting_0 dd_X2_readSighting_0b.2.2.2.1) (by decide)).to, ?_⟩
  refine List.forall_mem_cons.mpr ⟨s_vret (am_dp pw_X2_readSighting_0 dd_X2_readSighting_0b.2.2.2.2.1) rfl, ?_⟩
  refine List.forall_mem_cons.mpr ⟨(s_aloadn (am_dp pw_X2_readSighting_0 dd_X2_readSighting_0b.2.2.2.2.2.1) rfl).to, ?_⟩
  refine List.forall_mem_cons.mpr ⟨(s_get (ci := 2) (k := 0) (am_dp pw_X2_readSighting_0 dd_X2_readSighting_0b.2.2.2.2.2.2) rfl (by decide) wd467 inX2 rfl).to, ?_⟩
  refine List.forall_mem_cons.mpr ⟨(s_iconst (am_dp pw_X2_readSighting_32 dd_X2_readSighting_32a.1) (by decide)).to, ?_⟩
  refine List.forall_mem_cons.mpr ⟨(s_iconst (am_dp pw_X2_readSighting_32 dd_X2_readSighting_32a.2.1) (by decide)).to, ?_⟩
  refine List.forall_mem_cons.mpr ⟨zw_cv44 (am_dp pw_X2_readSighting_32 dd_X2_readSighting_32a.2.2.1) wd690, ?_⟩
  refine List.forall_mem_cons.mpr ⟨(s_istoren (am_dp pw_X2_readSighting_32 dd_X2_readSighting_32a.2.2.2.1) rfl (by decide)).to, ?_⟩
  refine List.forall_mem_cons.mpr ⟨(s_aloadn (am_dp pw_X2_readSighting_32 dd_X2_readSighting_32a.2.2.2.2.1) rfl).to, ?_⟩
  refine List.forall_mem_cons.mpr ⟨zw_cv18 (am_dp pw_X2_readSighting_32 dd_X2_readSighting_32a.2.2.2.2.2.1) wd814, ?_⟩
  refine List.forall_mem_cons.mpr ⟨(s_istoren (am_dp pw_X2_readSighting_32 dd_X2_readSighting_32a.2.2.2.2.2.2.1) rfl (by decide)).to, ?_⟩
  refine List.forall_mem_cons.mpr ⟨(s_aloadn (am_dp pw_X2_readSighting_32 dd_X2_readSighting_32a.2.2.2.2.2.2.2) rfl).to, ?_⟩
  refine List.forall_mem_cons.mpr ⟨(s_bipush (am_dp pw_X2_readSighting_32 dd_X2_readSighting_32b.1) (by decide)).to, ?_⟩
  refine List.forall_mem_cons.mpr ⟨(s_iconst (am_dp pw_X2_readSighting_32 dd_X2_readSighting_32b.2.1) (by decide)).to, ?_⟩
  refine List.forall_mem_cons.mpr ⟨(s_bipush (am_dp pw_X2_readSighting_32 dd_X2_readSighting_32b.2.2.1) (by decide)).to, ?_⟩
  refine List.forall_mem_cons.mpr ⟨zw_cv15 (am_dp pw_X2_readSighting_32 dd_X2_readSighting_32b.2.2.2.1) wd789, ?_⟩
  refine List.forall_mem_cons.mpr ⟨(s_istoren (am_dp pw_X2_readSighting_32 dd_X2_readSighting_32b.2.2.2.2.1) rfl (by decide)).to, ?_⟩
  refine List.forall_mem_cons.mpr ⟨(s_aloadn (am_dp pw_X2_readSighting_32 dd_X2_readSighting_32b.2.2.2.2.2.1) rfl).to, ?_⟩
  refine List.forall_mem_cons.mpr ⟨(s_get (ci := 2) (k := 0) (am_dp pw_X2_readSighting_32 dd_X2_readSighting_32b.2.2.2.2.2.2.1) rfl (by decide) wd467 inX2 rfl).to, ?_⟩
  refine List.forall_mem_cons.mpr ⟨(s_get (ci := 3) (k := 8) (am_dp pw_X2_readSighting_32 dd_X2_readSighting_32b.2.2.2.2.2.2.2) rfl (by decide) wd442 inX3 rfl).to, ?_⟩
  refine List.forall_mem_cons.mpr ⟨(s_if_ne (am_dp pw_X2_readSighting_32 dd_X2_readSighting_32c.1) (by decide)).to, ?_⟩
  refine List.forall_mem_cons.mpr ⟨(s_aloadn (am_dp pw_X2_readSighting_32 dd_X2_readSighting_32c.2) rfl).to, ?_⟩
  refine List.forall_mem_cons.mpr ⟨(s_get (ci := 2) (k := 1) (am_dp pw_X2_readSighting_64 dd_X2_readSighting_64a.1) rfl (by decide) wd469 inX2 rfl).to, ?_⟩
  refine List.forall_mem_cons.mpr ⟨(s_get (ci := 5) (k := 5) (am_dp pw_X2_readSighting_64 dd_X2_readSighting_64a.2.1) rfl (by decide) wd322 inX5 rfl).to, ?_⟩
  refine List.forall_mem_cons.mpr ⟨(s_iloadn (am_dp pw_X2_readSighting_64 dd_X2_readSighting_64a.2.2.1) rfl).to, ?_⟩
  refine List.forall_mem_cons.mpr ⟨(s_iloadn (am_dp pw_X2_readSighting_64 dd_X2_readSighting_64a.2.2.2.1) rfl).to, ?_⟩
  refine List.forall_mem_cons.mpr ⟨(s_iloadn (am_dp pw_X2_readSighting_64 dd_X2_readSighting_64a.2.2.2.2.1) rfl).to, ?_⟩
  refine List.forall_mem_cons.mpr ⟨zw_cv71 (am_dp pw_X2_readSighting_64 dd_X2_readSighting_64a.2.2.2.2.2.1) wd838, ?_⟩
  refine List.forall_mem_cons.mpr ⟨s_vret (am_dp pw_X2_readSighting_64 dd_X2_readSighting_64a.2.2.2.2.2.2) rfl, ?_⟩
  exact fun _ h => absurd h List.not_mem_nil
theorem sn_tX2_readTest : ∀ q ∈ tX2_readTest, am_Snd am_P0 RX2 cX2_readTest 3 (Option.none : Option FieldType) "readTest" q.1 q.2 := by
  unfold tX2_readTest
  refine List.forall_mem_cons.mpr ⟨(s_aloadn (am_dp pw_X2_readTest_0 dd_X2_readTest_0a.1) rfl).to, ?_⟩
  refine List.forall_mem_cons.mpr ⟨(s_iloadn (am_dp pw_X2_readTest_0 dd_X2_readTest_0a.2.1) rfl).to, ?_⟩
  refine List.forall_mem_cons.mpr ⟨zw_cv23 (am_dp pw_X2_readTest_0 dd_X2_readTest_0a.2.2.1) wd760, ?_⟩
  refine List.forall_mem_cons.mpr ⟨(s_iconst (am_dp pw_X2_readTest_0 dd_X2_readTest_0a.2.2.2.1) (by decide)).to, ?_⟩
  refine List.forall_mem_cons.mpr ⟨(s_istoren (am_dp pw_X2_readTest_0 dd_X2_readTest_0a.2.2.2.2.1) rfl (by decide)).to, ?_⟩
  refine List.forall_mem_cons.mpr ⟨(s_iloadn (am_dp pw_X2_readTest_0 dd_X2_readTest_0a.2.2.2.2.2.1) rfl).to, ?_⟩
  refine List.forall_mem_cons.mpr ⟨(s_sipush (am_dp pw_X2_readTest_0 dd_X2_readTest_0a.2.2.2.2.2.2.1) (by decide)).to, ?_⟩
  refine List.forall_mem_cons.mpr ⟨(s_icmp_ge (am_dp pw_X2_readTest_0 dd_X2_readTest_0a.2.2.2.2.2.2.2) (by decide)).to, ?_⟩
  refine List.forall_mem_cons.mpr ⟨(s_aloadn (am_dp pw_X2_readTest_0 dd_X2_readTest_0b.1) rfl).to, ?_⟩
  refine List.forall_mem_cons.mpr ⟨(s_get (ci := 2) (k := 0) (am_dp pw_X2_readTest_0 dd_X2_readTest_0b.2.1) rfl (by decide) wd467 inX2 rfl).to, ?_⟩
  refine List.forall_mem_cons.mpr ⟨(s_get (ci := 3) (k := 6) (am_dp pw_X2_readTest_0 dd_X2_readTest_0b.2.2.1) rfl (by decide) wd437 inX3 rfl).to, ?_⟩
  refine List.forall_mem_cons.mpr ⟨(s_bipush (am_dp pw_X2_readTest_0 dd_X2_readTest_0b.2.2.2.1) (by decide)).to, ?_⟩
  refine List.forall_mem_cons.mpr ⟨(s_icmp_ne (am_dp pw_X2_readTest_0 dd_X2_readTest_0b.2.2.2.2.1) (by decide)).to, ?_⟩
  refine List.forall_mem_cons.mpr ⟨(s_aloadn (am_dp pw_X2_readTest_0 dd_X2_readTest_0b.2.2.2.2.2.1) rfl).to, ?_⟩
  refine List.forall_mem_cons.mpr ⟨(s_get (ci := 2) (k := 0) (am_dp pw_X2_readTest_0 dd_X2_readTest_0b.2.2.2.2.2.2.1) rfl (by decide) wd467 inX2 rfl).to, ?_⟩
  refine List.forall_mem_cons.mpr ⟨zw_cv35 (am_dp pw_X2_readTest_0 dd_X2_readTest_0b.2.2.2.2.2.2.2) wd689, ?_⟩
  refine List.forall_mem_cons.mpr ⟨(s_aloadn (am_dp pw_X2_readTest_32 dd_X2_readTest_32a.1) rfl).to, ?_⟩
  refine List.forall_mem_cons.mpr ⟨(s_iloadn (am_dp pw_X2_readTest_32 dd_X2_readTest_32a.2.1) rfl).to, ?_⟩
  refine List.forall_mem_cons.mpr ⟨zw_cv23 (am_dp pw_X2_readTest_32 dd_X2_readTest_32a.2.2.1) wd760, ?_⟩
  refine List.forall_mem_cons.mpr ⟨(s_aloadn (am_dp pw_X2_readTest_32 dd_X2_readTest_32a.2.2.2.1) rfl).to, ?_⟩
  refine List.forall_mem_cons.mpr ⟨(s_get (ci := 2) (k := 1) (am_dp pw_X2_readTest_32 dd_X2_readTest_32a.2.2.2.2.1) rfl (by decide) wd469 inX2 rfl).to, ?_⟩
  refine List.forall_mem_cons.mpr ⟨(s_get (ci := 5) (k := 6) (am_dp pw_X2_readTest_32 dd_X2_readTest_32a.2.2.2.2.2.1) rfl (by decide) wd324 inX5 rfl).to, ?_⟩
  refine List.forall_mem_cons.mpr ⟨(s_bipush (am_dp pw_X2_readTest_32 dd_X2_readTest_32a.2.2.2.2.2.2.1) (by decide)).to, ?_⟩
  refine List.forall_mem_cons.mpr ⟨zw_cv1 (am_dp pw_X2_readTest_32 dd_X2_readTest_32a.2.2.2.2.2.2.2) wd727, ?_⟩
  refine List.forall_mem_cons.mpr ⟨(s_iinc (am_dp pw_X2_readTest_32 dd_X2_readTest_32b.1) (by decide) (by decide)).to, ?_⟩
  refine List.forall_mem_cons.mpr ⟨(s_goto (am_dp pw_X2_readTest_32 dd_X2_readTest_32b.2.1) (by decide)).to, ?_⟩
  refine List.forall_mem_cons.mpr ⟨s_vret (am_dp pw_X2_readTest_32 dd_X2_readTest_32b.2.2) rfl, ?_⟩
  exact fun _ h => absurd h List.not_mem_nil
theorem sn_tX2_readBoth : ∀ q ∈ tX2_readBoth, am_Snd am_P0 RX2 cX2_readBoth 3 (Option.none : Option FieldType) "readBoth" q.1 q.2 := by
  unfold tX2_readBoth
  refine List.forall_mem_cons.mpr ⟨(s_aloadn (am_dp pw_X2_readBoth_0 dd_X2_readBoth_0a.1) rfl).to, ?_⟩
  refine List.forall_mem_cons.mpr ⟨(s_iloadn (am_dp pw_X2_readBoth_0 dd_X2_readBoth_0a.2.1) rfl).to, ?_⟩
  refine List.forall_mem_cons.mpr ⟨zw_cv24 (am_dp pw_X2_readBoth_0 dd_X2_readBoth_0a.2.2.1) wd764, ?_⟩
  refine List.forall_mem_cons.mpr ⟨(s_iconst (am_dp pw_X2_readBoth_0 dd_X2_readBoth_0a.2.2.2.1) (by decide)).to, ?_⟩
  refine List.forall_mem_cons.mpr ⟨(s_istoren (am_dp pw_X2_readBoth_0 dd_X2_readBoth_0a.2.2.2.2.1) rfl (by decide)).to, ?_⟩
  refine List.forall_mem_cons.mpr ⟨(s_iloadn (am_dp pw_X2_readBoth_0 dd_X2_readBoth_0a.2.2.2.2.2.1) rfl).to, ?_⟩
  refine List.forall_mem_cons.mpr ⟨(s_sipush (am_dp pw_X2_readBoth_0 dd_X2_readBoth_0a.2.2.2.2.2.2.1) (by decide)).to, ?_⟩
  refine List.forall_mem_cons.mpr ⟨(s_icmp_ge (am_dp pw_X2_readBoth_0 dd_X2_readBoth_0a.2.2.2.2.2.2.2) (by decide)).to, ?_⟩
  refine List.forall_mem_cons.mpr ⟨(s_aloadn (am_dp pw_X2_readBoth_0 dd_X2_readBoth_0b.1) rfl).to, ?_⟩
  refine List.forall_mem_cons.mpr ⟨(s_get (ci := 2) (k := 0) (am_dp pw_X2_readBoth_0 dd_X2_readBoth_0b.2.1) rfl (by decide) wd467 inX2 rfl).to, ?_⟩
  refine List.forall_mem_cons.mpr ⟨(s_get (ci := 3) (k := 6) (am_dp pw_X2_readBoth_0 dd_X2_readBoth_0b.2.2.1) rfl (by decide) wd437 inX3 rfl).to, ?_⟩
  refine List.forall_mem_cons.mpr ⟨(s_bipush (am_dp pw_X2_readBoth_0 dd_X2_readBoth_0b.2.2.2.1) (by decide)).to, ?_⟩
  refine List.forall_mem_cons.mpr ⟨(s_icmp_ne (am_dp pw_X2_readBoth_0 dd_X2_readBoth_0b.2.2.2.2.1) (by decide)).to, ?_⟩
  refine List.forall_mem_cons.mpr ⟨(s_aloadn (am_dp pw_X2_readBoth_0 dd_X2_readBoth_0b.2.2.2.2.2.1) rfl).to, ?_⟩
  refine List.forall_mem_cons.mpr ⟨(s_get (ci := 2) (k := 0) (am_dp pw_X2_readBoth_0 dd_X2_readBoth_0b.2.2.2.2.2.2.1) rfl (by decide) wd467 inX2 rfl).to, ?_⟩
  refine List.forall_mem_cons.mpr ⟨zw_cv35 (am_dp pw_X2_readBoth_0 dd_X2_readBoth_0b.2.2.2.2.2.2.2) wd689, ?_⟩
  refine List.forall_mem_cons.mpr ⟨(s_aloadn (am_dp pw_X2_readBoth_32 dd_X2_readBoth_32a.1) rfl).to, ?_⟩
  refine List.forall_mem_cons.mpr ⟨(s_iloadn (am_dp pw_X2_readBoth_32 dd_X2_readBoth_32a.2.1) rfl).to, ?_⟩
  refine List.forall_mem_cons.mpr ⟨zw_cv24 (am_dp pw_X2_readBoth_32 dd_X2_readBoth_32a.2.2.1) wd764, ?_⟩
  refine List.forall_mem_cons.mpr ⟨(s_aloadn (am_dp pw_X2_readBoth_32 dd_X2_readBoth_32a.2.2.2.1) rfl).to, ?_⟩
  refine List.forall_mem_cons.mpr ⟨(s_get (ci := 2) (k := 1) (am_dp pw_X2_readBoth_32 dd_X2_readBoth_32a.2.2.2.2.1) rfl (by decide) wd469 inX2 rfl).to, ?_⟩
  refine List.forall_mem_cons.mpr ⟨(s_get (ci := 5) (k := 6) (am_dp pw_X2_readBoth_32 dd_X2_readBoth_32a.2.2.2.2.2.1) rfl (by decide) wd324 inX5 rfl).to, ?_⟩
  refine List.forall_mem_cons.mpr ⟨(s_bipush (am_dp pw_X2_readBoth_32 dd_X2_readBoth_32a.2.2.2.2.2.2.1) (by decide)).to, ?_⟩
  refine List.forall_mem_cons.mpr ⟨zw_cv1 (am_dp pw_X2_readBoth_32 dd_X2_readBoth_32a.2.2.2.2.2.2.2) wd727, ?_⟩
  refine List.forall_mem_cons.mpr ⟨(s_iinc (am_dp pw_X2_readBoth_32 dd_X2_readBoth_32b.1) (by decide) (by decide)).to, ?_⟩
  refine List.forall_mem_cons.mpr ⟨(s_goto (am_dp pw_X2_readBoth_32 dd_X2_readBoth_32b.2.1) (by decide)).to, ?_⟩
  refine List.forall_mem_cons.mpr ⟨s_vret (am_dp pw_X2_readBoth_32 dd_X2_readBoth_32b.2.2) rfl, ?_⟩
  exact fun _ h => absurd h List.not_mem_nil
theorem sn_tX2_readFact_0 : ∀ q ∈ tX2_readFact_0, am_Snd am_P0 RX2 cX2_readFact 4 (Option.none : Option FieldType) "readFact" q.1 q.2 := by
  unfold tX2_readFact_0
  refine List.forall_mem_cons.mpr ⟨(s_iconst (am_dp pw_X2_readFact_0 dd_X2_readFact_0a.1) (by decide)).to, ?_⟩
  refine List.forall_mem_cons.mpr ⟨(s_istoren (am_dp pw_X2_readFact_0 dd_X2_readFact_0a.2.1) rfl (by decide)).to, ?_⟩
  refine List.forall_mem_cons.mpr ⟨(s_iconst (am_dp pw_X2_readFact_0 dd_X2_readFact_0a.2.2.1) (by decide)).to, ?_⟩
  refine List.forall_mem_cons.mpr ⟨(s_istoren (am_dp pw_X2_readFact_0 dd_X2_readFact_0a.2.2.2.1) rfl (by decide)).to, ?_⟩
  refine List.forall_mem_cons.mpr ⟨(s_iloadn (am_dp pw_X2_readFact_0 dd_X2_readFact_0a.2.2.2.2.1) rfl).to, ?_⟩
  refine List.forall_mem_cons.mpr ⟨(s_sipush (am_dp pw_X2_readFact_0 dd_X2_readFact_0a.2.2.2.2.2.1) (by decide)).to, ?_⟩
  refine List.forall_mem_cons.mpr ⟨(s_icmp_ge (am_dp pw_X2_readFact_0 dd_X2_readFact_0a.2.2.2.2.2.2.1) (by decide)).to, ?_⟩
  refine List.forall_mem_cons.mpr ⟨(s_aloadn (am_dp pw_X2_readFact_0 dd_X2_readFact_0a.2.2.2.2.2.2.2) rfl).to, ?_⟩
  refine List.forall_mem_cons.mpr ⟨(s_get (ci := 2) (k := 0) (am_dp pw_X2_readFact_0 dd_X2_readFact_0b.1) rfl (by decide) wd467 inX2 rfl).to, ?_⟩
  refine List.forall_mem_cons.mpr ⟨(s_get (ci := 3) (k := 6) (am_dp pw_X2_readFact_0 dd_X2_readFact_0b.2.1) rfl (by decide) wd437 inX3 rfl).to, ?_⟩
  refine List.forall_mem_cons.mpr ⟨(s_bipush (am_dp pw_X2_readFact_0 dd_X2_readFact_0b.2.2.1) (by decide)).to, ?_⟩
  refine List.forall_mem_cons.mpr ⟨(s_icmp_ne (am_dp pw_X2_readFact_0 dd_X2_readFact_0b.2.2.2.1) (by decide)).to, ?_⟩
  refine List.forall_mem_cons.mpr ⟨(s_aloadn (am_dp pw_X2_readFact_0 dd_X2_readFact_0b.2.2.2.2.1) rfl).to, ?_⟩
  refine List.forall_mem_cons.mpr ⟨(s_get (ci := 2) (k := 0) (am_dp pw_X2_readFact_0 dd_X2_readFact_0b.2.2.2.2.2.1) rfl (by decide) wd467 inX2 rfl).to, ?_⟩
  refine List.forall_mem_cons.mpr ⟨zw_cv35 (am_dp pw_X2_readFact_0 dd_X2_readFact_0b.2.2.2.2.2.2.1) wd689, ?_⟩
  refine List.forall_mem_cons.mpr ⟨(s_iloadn (am_dp pw_X2_readFact_0 dd_X2_readFact_0b.2.2.2.2.2.2.2) rfl).to, ?_⟩
  refine List.forall_mem_cons.mpr ⟨(s_if_ne (am_dp pw_X2_readFact_0 dd_X2_readFact_0c) (by decide)).to, ?_⟩
  refine List.forall_mem_cons.mpr ⟨(s_iconst (am_dp pw_X2_readFact_32 dd_X2_readFact_32a.1) (by decide)).to, ?_⟩
  refine List.forall_mem_cons.mpr ⟨(s_goto (am_dp pw_X2_readFact_32 dd_X2_readFact_32a.2.1) (by decide)).to, ?_⟩
  refine List.forall_mem_cons.mpr ⟨(s_iconst (am_dp pw_X2_readFact_32 dd_X2_readFact_32a.2.2.1) (by decide)).to, ?_⟩
  refine List.forall_mem_cons.mpr ⟨(s_istoren (am_dp pw_X2_readFact_32 dd_X2_readFact_32a.2.2.2.1) rfl (by decide)).to, ?_⟩
  refine List.forall_mem_cons.mpr ⟨(s_iinc (am_dp pw_X2_readFact_32 dd_X2_readFact_32a.2.2.2.2.1) (by decide) (by decide)).to, ?_⟩
  refine List.forall_mem_cons.mpr ⟨(s_goto (am_dp pw_X2_readFact_32 dd_X2_readFact_32a.2.2.2.2.2.1) (by decide)).to, ?_⟩
  refine List.forall_mem_cons.mpr ⟨(s_aloadn (am_dp pw_X2_readFact_32 dd_X2_readFact_32a.2.2.2.2.2.2.1) rfl).to, ?_⟩
  refine List.forall_mem_cons.mpr ⟨(s_get (ci := 2) (k := 0) (am_dp pw_X2_readFact_32 dd_X2_readFact_32a.2.2.2.2.2.2.2) rfl (by decide) wd467 inX2 rfl).to, ?_⟩
  refine List.forall_mem_cons.mpr ⟨(s_bipush (am_dp pw_X2_readFact_32 dd_X2_readFact_32b.1) (by decide)).to, ?_⟩
  refine List.forall_mem_cons.mpr ⟨zw_cv40 (am_dp pw_X2_readFact_32 dd_X2_readFact_32b.2.1) wd731, ?_⟩
  refine List.forall_mem_cons.mpr ⟨(s_if_eq (am_dp pw_X2_readFact_32 dd_X2_readFact_32b.2.2.1) (by decide)).to, ?_⟩
  refine List.forall_mem_cons.mpr ⟨(s_aloadn (am_dp pw_X2_readFact_32 dd_X2_readFact_32b.2.2.2.1) rfl).to, ?_⟩
  refine List.forall_mem_cons.mpr ⟨(s_bipush (am_dp pw_X2_readFact_32 dd_X2_readFact_32b.2.2.2.2.1) (by decide)).to, ?_⟩
  refine List.forall_mem_cons.mpr ⟨(s_iloadn (am_dp pw_X2_readFact_32 dd_X2_readFact_32b.2.2.2.2.2.1) rfl).to, ?_⟩
  refine List.forall_mem_cons.mpr ⟨zw_cv32 (am_dp pw_X2_readFact_32 dd_X2_readFact_32b.2.2.2.2.2.2) wd735, ?_⟩
  refine List.forall_mem_cons.mpr ⟨(s_if_eq (am_dp pw_X2_readFact_64 dd_X2_readFact_64a.1) (by decide)).to, ?_⟩
  refine List.forall_mem_cons.mpr ⟨(s_aloadn (am_dp pw_X2_readFact_64 dd_X2_readFact_64a.2.1) rfl).to, ?_⟩
  refine List.forall_mem_cons.mpr ⟨(s_iloadn (am_dp pw_X2_readFact_64 dd_X2_readFact_64a.2.2.1) rfl).to, ?_⟩
  refine List.forall_mem_cons.mpr ⟨(s_iconst (am_dp pw_X2_readFact_64 dd_X2_readFact_64a.2.2.2.1) (by decide)).to, ?_⟩
  refine List.forall_mem_cons.mpr ⟨(s_iadd (am_dp pw_X2_readFact_64 dd_X2_readFact_64a.2.2.2.2.1)).to, ?_⟩
  refine List.forall_mem_cons.mpr ⟨zw_cv22 (am_dp pw_X2_readFact_64 dd_X2_readFact_64a.2.2.2.2.2.1) wd756, ?_⟩
  refine List.forall_mem_cons.mpr ⟨(s_aloadn (am_dp pw_X2_readFact_64 dd_X2_readFact_64a.2.2.2.2.2.2.1) rfl).to, ?_⟩
  refine List.forall_mem_cons.mpr ⟨(s_get (ci := 2) (k := 0) (am_dp pw_X2_readFact_64 dd_X2_readFact_64a.2.2.2.2.2.2.2) rfl (by decide) wd467 inX2 rfl).to, ?_⟩
  refine List.forall_mem_cons.mpr ⟨(s_bipush (am_dp pw_X2_readFact_64 dd_X2_readFact_64b.1) (by decide)).to, ?_⟩
  refine List.forall_mem_cons.mpr ⟨zw_cv41 (am_dp pw_X2_readFact_64 dd_X2_readFact_64b.2.1) wd739, ?_⟩
  refine List.forall_mem_cons.mpr ⟨(s_goto (am_dp pw_X2_readFact_64 dd_X2_readFact_64b.2.2.1) (by decide)).to, ?_⟩
  refine List.forall_mem_cons.mpr ⟨(s_aloadn (am_dp pw_X2_readFact_64 dd_X2_readFact_64b.2.2.2.1) rfl).to, ?_⟩
  refine List.forall_mem_cons.mpr ⟨(s_get (ci := 2) (k := 0) (am_dp pw_X2_readFact_64 dd_X2_readFact_64b.2.2.2.2.1) rfl (by decide) wd467 inX2 rfl).to, ?_⟩
  refine List.forall_mem_cons.mpr ⟨(s_get (ci := 3) (k := 6) (am_dp pw_X2_readFact_64 dd_X2_readFact_64b.2.2.2.2.2.1) rfl (by decide) wd437 inX3 rfl).to, ?_⟩
  refine List.forall_mem_cons.mpr ⟨(s_bipush (am_dp pw_X2_readFact_64 dd_X2_readFact_64b.2.2.2.2.2.2) (by decide)).to, ?_⟩
  refine List.forall_mem_cons.mpr ⟨(s_icmp_ne (am_dp pw_X2_readFact_96 dd_X2_readFact_96a.1) (by decide)).to, ?_⟩
  refine List.forall_mem_cons.mpr ⟨(s_aloadn (am_dp pw_X2_readFact_96 dd_X2_readFact_96a.2.1) rfl).to, ?_⟩
  refine List.forall_mem_cons.mpr ⟨(s_get (ci := 2) (k := 0) (am_dp pw_X2_readFact_96 dd_X2_readFact_96a.2.2.1) rfl (by decide) wd467 inX2 rfl).to, ?_⟩
  refine List.forall_mem_cons.mpr ⟨zw_cv35 (am_dp pw_X2_readFact_96 dd_X2_readFact_96a.2.2.2.1) wd689, ?_⟩
  refine List.forall_mem_cons.mpr ⟨(s_aloadn (am_dp pw_X2_readFact_96 dd_X2_readFact_96a.2.2.2.2.1) rfl).to, ?_⟩
  refine List.forall_mem_cons.mpr ⟨(s_get (ci := 2) (k := 1) (am_dp pw_X2_readFact_96 dd_X2_readFact_96a.2.2.2.2.2.1) rfl (by decide) wd469 inX2 rfl).to, ?_⟩
  refine List.forall_mem_cons.mpr ⟨(s_get (ci := 5) (k := 6) (am_dp pw_X2_readFact_96 dd_X2_readFact_96a.2.2.2.2.2.2.1) rfl (by decide) wd324 inX5 rfl).to, ?_⟩
  refine List.forall_mem_cons.mpr ⟨(s_iconst (am_dp pw_X2_readFact_96 dd_X2_readFact_96a.2.2.2.2.2.2.2) (by decide)).to, ?_⟩
  refine List.forall_mem_cons.mpr ⟨zw_cv1 (am_dp pw_X2_readFact_96 dd_X2_readFact_96b.1) wd727, ?_⟩
  refine List.forall_mem_cons.mpr ⟨(s_goto (am_dp pw_X2_readFact_96 dd_X2_readFact_96b.2.1) (by decide)).to, ?_⟩
  refine List.forall_mem_cons.mpr ⟨(s_aloadn (am_dp pw_X2_readFact_96 dd_X2_readFact_96b.2.2.1) rfl).to, ?_⟩
  refine List.forall_mem_cons.mpr ⟨(s_iloadn (am_dp pw_X2_readFact_96 dd_X2_readFact_96b.2.2.2.1) rfl).to, ?_⟩
  refine List.forall_mem_cons.mpr ⟨zw_cv26 (am_dp pw_X2_readFact_96 dd_X2_readFact_96b.2.2.2.2.1) wd711, ?_⟩
  exact fun _ h => absurd h List.not_mem_nil
theorem sn_tX2_readFact_1 : ∀ q ∈ tX2_readFact_1, am_Snd am_P0 RX2 cX2_readFact 4 (Option.none : Option FieldType) "readFact" q.1 q.2 := by
  unfold tX2_readFact_1
  refine List.forall_mem_cons.mpr ⟨(s_aloadn (am_dp pw_X2_readFact_96 dd_X2_readFact_96b.2.2.2.2.2.1) rfl).to, ?_⟩
  refine List.forall_mem_cons.mpr ⟨zw_cv25 (am_dp pw_X2_readFact_96 dd_X2_readFact_96b.2.2.2.2.2.2) wd768, ?_⟩
  refine List.forall_mem_cons.mpr ⟨(s_istoren (am_dp pw_X2_readFact_128 dd_X2_readFact_128a.1) rfl (by decide)).to, ?_⟩
  refine List.forall_mem_cons.mpr ⟨(s_aloadn (am_dp pw_X2_readFact_128 dd_X2_readFact_128a.2.1) rfl).to, ?_⟩
  refine List.forall_mem_cons.mpr ⟨(s_iloadn (am_dp pw_X2_readFact_128 dd_X2_readFact_128a.2.2.1) rfl).to, ?_⟩
  refine List.forall_mem_cons.mpr ⟨zw_cv26 (am_dp pw_X2_readFact_128 dd_X2_readFact_128a.2.2.2.1) wd711, ?_⟩
  refine List.forall_mem_cons.mpr ⟨(s_aloadn (am_dp pw_X2_readFact_128 dd_X2_readFact_128a.2.2.2.2.1) rfl).to, ?_⟩
  refine List.forall_mem_cons.mpr ⟨(s_get (ci := 2) (k := 1) (am_dp pw_X2_readFact_128 dd_X2_readFact_128a.2.2.2.2.2.1) rfl (by decide) wd469 inX2 rfl).to, ?_⟩
  refine List.forall_mem_cons.mpr ⟨(s_get (ci := 5) (k := 6) (am_dp pw_X2_readFact_128 dd_X2_readFact_128a.2.2.2.2.2.2.1) rfl (by decide) wd324 inX5 rfl).to, ?_⟩
  refine List.forall_mem_cons.mpr ⟨(s_iloadn (am_dp pw_X2_readFact_128 dd_X2_readFact_128a.2.2.2.2.2.2.2) rfl).to, ?_⟩
  refine List.forall_mem_cons.mpr ⟨zw_cv1 (am_dp pw_X2_readFact_128 dd_X2_readFact_128b.1) wd727, ?_⟩
  refine List.forall_mem_cons.mpr ⟨(s_iloadn (am_dp pw_X2_readFact_128 dd_X2_readFact_128b.2.1) rfl).to, ?_⟩
  refine List.forall_mem_cons.mpr ⟨(s_if_eq (am_dp pw_X2_readFact_128 dd_X2_readFact_128b.2.2.1) (by decide)).to, ?_⟩
  refine List.forall_mem_cons.mpr ⟨(s_aloadn (am_dp pw_X2_readFact_128 dd_X2_readFact_128b.2.2.2.1) rfl).to, ?_⟩
  refine List.forall_mem_cons.mpr ⟨(s_get (ci := 2) (k := 1) (am_dp pw_X2_readFact_128 dd_X2_readFact_128b.2.2.2.2.1) rfl (by decide) wd469 inX2 rfl).to, ?_⟩
  refine List.forall_mem_cons.mpr ⟨(s_get (ci := 5) (k := 6) (am_dp pw_X2_readFact_128 dd_X2_readFact_128b.2.2.2.2.2.1) rfl (by decide) wd324 inX5 rfl).to, ?_⟩
  refine List.forall_mem_cons.mpr ⟨(s_bipush (am_dp pw_X2_readFact_128 dd_X2_readFact_128b.2.2.2.2.2.2.1) (by decide)).to, ?_⟩
  refine List.forall_mem_cons.mpr ⟨zw_cv1 (am_dp pw_X2_readFact_128 dd_X2_readFact_128b.2.2.2.2.2.2.2) wd727, ?_⟩
  refine List.forall_mem_cons.mpr ⟨s_vret (am_dp pw_X2_readFact_160 dd_X2_readFact_160a) rfl, ?_⟩
  exact fun _ h => absurd h List.not_mem_nil
theorem sn_tX2_readFact : ∀ q ∈ tX2_readFact, am_Snd am_P0 RX2 cX2_readFact 4 (Option.none : Option FieldType) "readFact" q.1 q.2 := by
  unfold tX2_readFact
  exact List.forall_mem_append.mpr ⟨sn_tX2_readFact_0, sn_tX2_readFact_1⟩
theorem sn_tX2_takeComparison : ∀ q ∈ tX2_takeComparison, am_Snd am_P0 RX2 cX2_takeComparison 1 (Option.some FieldType.int) "takeComparison" q.1 q.2 := by
  unfold tX2_takeComparison
  refine List.forall_mem_cons.mpr ⟨(s_aloadn (am_dp pw_X2_takeComparison_0 dd_X2_takeComparison_0a.1) rfl).to, ?_⟩
  refine List.forall_mem_cons.mpr ⟨(s_get (ci := 2) (k := 0) (am_dp pw_X2_takeComparison_0 dd_X2_takeComparison_0a.2.1) rfl (by decide) wd467 inX2 rfl).to, ?_⟩
  refine List.forall_mem_cons.mpr ⟨(s_bipush (am_dp pw_X2_takeComparison_0 dd_X2_takeComparison_0a.2.2.1) (by decide)).to, ?_⟩
  refine List.forall_mem_cons.mpr ⟨zw_cv40 (am_dp pw_X2_takeComparison_0 dd_X2_takeComparison_0a.2.2.2.1) wd731, ?_⟩
  refine List.forall_mem_cons.mpr ⟨(s_if_eq (am_dp pw_X2_takeComparison_0 dd_X2_takeComparison_0a.2.2.2.2.1) (by decide)).to, ?_⟩
  refine List.forall_mem_cons.mpr ⟨(s_aloadn (am_dp pw_X2_takeComparison_0 dd_X2_takeComparison_0a.2.2.2.2.2.1) rfl).to, ?_⟩
  refine List.forall_mem_cons.mpr ⟨(s_get (ci := 2) (k := 0) (am_dp pw_X2_takeComparison_0 dd_X2_takeComparison_0a.2.2.2.2.2.2.1) rfl (by decide) wd467 inX2 rfl).to, ?_⟩
  refine List.forall_mem_cons.mpr ⟨zw_cv35 (am_dp pw_X2_takeComparison_0 dd_X2_takeComparison_0a.2.2.2.2.2.2.2) wd689, ?_⟩
  refine List.forall_mem_cons.mpr ⟨(s_bipush (am_dp pw_X2_takeComparison_0 dd_X2_takeComparison_0b.1) (by decide)).to, ?_⟩
  refine List.forall_mem_cons.mpr ⟨s_iret (am_dp pw_X2_takeComparison_0 dd_X2_takeComparison_0b.2.1) rfl, ?_⟩
  refine List.forall_mem_cons.mpr ⟨(s_aloadn (am_dp pw_X2_takeComparison_0 dd_X2_takeComparison_0b.2.2.1) rfl).to, ?_⟩
  refine List.forall_mem_cons.mpr ⟨(s_get (ci := 2) (k := 0) (am_dp pw_X2_takeComparison_0 dd_X2_takeComparison_0b.2.2.2.1) rfl (by decide) wd467 inX2 rfl).to, ?_⟩
  refine List.forall_mem_cons.mpr ⟨(s_bipush (am_dp pw_X2_takeComparison_0 dd_X2_takeComparison_0b.2.2.2.2.1) (by decide)).to, ?_⟩
  refine List.forall_mem_cons.mpr ⟨zw_cv40 (am_dp pw_X2_takeComparison_0 dd_X2_takeComparison_0b.2.2.2.2.2.1) wd731, ?_⟩
  refine List.forall_mem_cons.mpr ⟨(s_if_eq (am_dp pw_X2_takeComparison_0 dd_X2_takeComparison_0b.2.2.2.2.2.2) (by decide)).to, ?_⟩
  refine List.forall_mem_cons.mpr ⟨(s_aloadn (am_dp pw_X2_takeComparison_32 dd_X2_takeComparison_32a.1) rfl).to, ?_⟩
  refine List.forall_mem_cons.mpr ⟨(s_get (ci := 2) (k := 0) (am_dp pw_X2_takeComparison_32 dd_X2_takeComparison_32a.2.1) rfl (by decide) wd467 inX2 rfl).to, ?_⟩
  refine List.forall_mem_cons.mpr ⟨zw_cv35 (am_dp pw_X2_takeComparison_32 dd_X2_takeComparison_32a.2.2.1) wd689, ?_⟩
  refine List.forall_mem_cons.mpr ⟨(s_bipush (am_dp pw_X2_takeComparison_32 dd_X2_takeComparison_32a.2.2.2.1) (by decide)).to, ?_⟩
  refine List.forall_mem_cons.mpr ⟨s_iret (am_dp pw_X2_takeComparison_32 dd_X2_takeComparison_32a.2.2.2.2.1) rfl, ?_⟩
  refine List.forall_mem_cons.mpr ⟨(s_aloadn (am_dp pw_X2_takeComparison_32 dd_X2_takeComparison_32a.2.2.2.2.2.1) rfl).to, ?_⟩
  refine List.forall_mem_cons.mpr ⟨(s_get (ci := 2) (k := 0) (am_dp pw_X2_takeComparison_32 dd_X2_takeComparison_32a.2.2.2.2.2.2.1) rfl (by decide) wd467 inX2 rfl).to, ?_⟩
  refine List.forall_mem_cons.mpr ⟨(s_bipush (am_dp pw_X2_takeComparison_32 dd_X2_takeComparison_32a.2.2.2.2.2.2.2) (by decide)).to, ?_⟩
  refine List.forall_mem_cons.mpr ⟨zw_cv41 (am_dp pw_X2_takeComparison_32 dd_X2_takeComparison_32b.1) wd739, ?_⟩
  refine List.forall_mem_cons.mpr ⟨(s_bipush (am_dp pw_X2_takeComparison_32 dd_X2_takeComparison_32b.2.1) (by decide)).to, ?_⟩
  refine List.forall_mem_cons.mpr ⟨s_iret (am_dp pw_X2_takeComparison_32 dd_X2_takeComparison_32b.2.2) rfl, ?_⟩
  exact fun _ h => absurd h List.not_mem_nil
end
section
/-! the machine follows each instruction (by program: gen_prog.py) -/
theorem sn_tX2_readSum : ∀ q ∈ tX2_readSum, am_Snd am_P0 RX2 cX2_readSum 4 (Option.none : Option FieldType) "readSum" q.1 q.2 := by
  unfold tX2_readSum
  refine List.forall_mem_cons.mpr ⟨(s_aloadn (am_dp pw_X2_readSum_0 dd_X2_readSum_0a.1) rfl).to, ?_⟩
  refine List.forall_mem_cons.mpr ⟨(s_iloadn (am_dp pw_X2_readSum_0 dd_X2_readSum_0a.2.1) rfl).to, ?_⟩
  refine List.forall_mem_cons.mpr ⟨zw_cv27 (am_dp pw_X2_readSum_0 dd_X2_readSum_0a.2.2.1) wd715, ?_⟩
  refine List.forall_mem_cons.mpr ⟨(s_iconst (am_dp pw_X2_readSum_0 dd_X2_readSum_0a.2.2.2.1) (by decide)).to, ?_⟩
  refine List.forall_mem_cons.mpr ⟨(s_istoren (am_dp pw_X2_readSum_0 dd_X2_readSum_0a.2.2.2.2.1) rfl (by decide)).to, ?_⟩
  refine List.forall_mem_cons.mpr ⟨(s_iloadn (am_dp pw_X2_readSum_0 dd_X2_readSum_0a.2.2.2.2.2.1) rfl).to, ?_⟩
  refine List.forall_mem_cons.mpr ⟨(s_sipush (am_dp pw_X2_readSum_0 dd_X2_readSum_0a.2.2.2.2.2.2.1) (by decide)).to, ?_⟩
  refine List.forall_mem_cons.mpr ⟨(s_icmp_ge (am_dp pw_X2_readSum_0 dd_X2_readSum_0a.2.2.2.2.2.2.2) (by decide)).to, ?_⟩
  refine List.forall_mem_cons.mpr ⟨(s_aloadn (am_dp pw_X2_readSum_0 dd_X2_readSum_0b.1) rfl).to, ?_⟩
  refine List.forall_mem_cons.mpr ⟨(s_get (ci := 2) (k := 0) (am_dp pw_X2_readSum_0 dd_X2_readSum_0b.2.1) rfl (by decide) wd467 inX2 rfl).to, ?_⟩
  refine List.forall_mem_cons.mpr ⟨(s_bipush (am_dp pw_X2_readSum_0 dd_X2_readSum_0b.2.2.1) (by decide)).to, ?_⟩
  refine List.forall_mem_cons.mpr ⟨zw_cv40 (am_dp pw_X2_readSum_0 dd_X2_readSum_0b.2.2.2.1) wd731, ?_⟩
  refine List.forall_mem_cons.mpr ⟨(s_if_ne (am_dp pw_X2_readSum_0 dd_X2_readSum_0b.2.2.2.2.1) (by decide)).to, ?_⟩
  refine List.forall_mem_cons.mpr ⟨(s_aloadn (am_dp pw_X2_readSum_0 dd_X2_readSum_0b.2.2.2.2.2.1) rfl).to, ?_⟩
  refine List.forall_mem_cons.mpr ⟨(s_get (ci := 2) (k := 0) (am_dp pw_X2_readSum_0 dd_X2_readSum_0b.2.2.2.2.2.2.1) rfl (by decide) wd467 inX2 rfl).to, ?_⟩
  refine List.forall_mem_cons.mpr ⟨(s_bipush (am_dp pw_X2_readSum_0 dd_X2_readSum_0b.2.2.2.2.2.2.2) (by decide)).to, ?_⟩
  refine List.forall_mem_cons.mpr ⟨zw_cv40 (am_dp pw_X2_readSum_32 dd_X2_readSum_32a.1) wd731, ?_⟩
  refine List.forall_mem_cons.mpr ⟨(s_if_eq (am_dp pw_X2_readSum_32 dd_X2_readSum_32a.2.1) (by decide)).to, ?_⟩
  refine List.forall_mem_cons.mpr ⟨(s_aloadn (am_dp pw_X2_readSum_32 dd_X2_readSum_32a.2.2.1) rfl).to, ?_⟩
  refine List.forall_mem_cons.mpr ⟨(s_get (ci := 2) (k := 0) (am_dp pw_X2_readSum_32 dd_X2_readSum_32a.2.2.2.1) rfl (by decide) wd467 inX2 rfl).to, ?_⟩
  refine List.forall_mem_cons.mpr ⟨(s_bipush (am_dp pw_X2_readSum_32 dd_X2_readSum_32a.2.2.2.2.1) (by decide)).to, ?_⟩
  refine List.forall_mem_cons.mpr ⟨zw_cv40 (am_dp pw_X2_readSum_32 dd_X2_readSum_32a.2.2.2.2.2.1) wd731, ?_⟩
  refine List.forall_mem_cons.mpr ⟨(s_if_eq (am_dp pw_X2_readSum_32 dd_X2_readSum_32a.2.2.2.2.2.2.1) (by decide)).to, ?_⟩
  refine List.forall_mem_cons.mpr ⟨(s_bipush (am_dp pw_X2_readSum_32 dd_X2_readSum_32a.2.2.2.2.2.2.2) (by decide)).to, ?_⟩
  refine List.forall_mem_cons.mpr ⟨(s_goto (am_dp pw_X2_readSum_32 dd_X2_readSum_32b.1) (by decide)).to, ?_⟩
  refine List.forall_mem_cons.mpr ⟨(s_bipush (am_dp pw_X2_readSum_32 dd_X2_readSum_32b.2.1) (by decide)).to, ?_⟩
  refine List.forall_mem_cons.mpr ⟨(s_istoren (am_dp pw_X2_readSum_32 dd_X2_readSum_32b.2.2.1) rfl (by decide)).to, ?_⟩
  refine List.forall_mem_cons.mpr ⟨(s_aloadn (am_dp pw_X2_readSum_32 dd_X2_readSum_32b.2.2.2.1) rfl).to, ?_⟩
  refine List.forall_mem_cons.mpr ⟨(s_get (ci := 2) (k := 0) (am_dp pw_X2_readSum_32 dd_X2_readSum_32b.2.2.2.2.1) rfl (by decide) wd467 inX2 rfl).to, ?_⟩
  refine List.forall_mem_cons.mpr ⟨zw_cv35 (am_dp pw_X2_readSum_32 dd_X2_readSum_32b.2.2.2.2.2) wd689, ?_⟩
  refine List.forall_mem_cons.mpr ⟨(s_aloadn (am_dp pw_X2_readSum_64 dd_X2_readSum_64a.1) rfl).to, ?_⟩
  refine List.forall_mem_cons.mpr ⟨(s_iloadn (am_dp pw_X2_readSum_64 dd_X2_readSum_64a.2.1) rfl).to, ?_⟩
  refine List.forall_mem_cons.mpr ⟨zw_cv27 (am_dp pw_X2_readSum_64 dd_X2_readSum_64a.2.2.1) wd715, ?_⟩
  refine List.forall_mem_cons.mpr ⟨(s_aloadn (am_dp pw_X2_readSum_64 dd_X2_readSum_64a.2.2.2.1) rfl).to, ?_⟩
  refine List.forall_mem_cons.mpr ⟨(s_get (ci := 2) (k := 1) (am_dp pw_X2_readSum_64 dd_X2_readSum_64a.2.2.2.2.1) rfl (by decide) wd469 inX2 rfl).to, ?_⟩
  refine List.forall_mem_cons.mpr ⟨(s_get (ci := 5) (k := 6) (am_dp pw_X2_readSum_64 dd_X2_readSum_64a.2.2.2.2.2.1) rfl (by decide) wd324 inX5 rfl).to, ?_⟩
  refine List.forall_mem_cons.mpr ⟨(s_iloadn (am_dp pw_X2_readSum_64 dd_X2_readSum_64a.2.2.2.2.2.2.1) rfl).to, ?_⟩
  refine List.forall_mem_cons.mpr ⟨zw_cv1 (am_dp pw_X2_readSum_64 dd_X2_readSum_64a.2.2.2.2.2.2.2) wd727, ?_⟩
  refine List.forall_mem_cons.mpr ⟨(s_iinc (am_dp pw_X2_readSum_64 dd_X2_readSum_64b.1) (by decide) (by decide)).to, ?_⟩
  refine List.forall_mem_cons.mpr ⟨(s_goto (am_dp pw_X2_readSum_64 dd_X2_readSum_64b.2.1) (by decide)).to, ?_⟩
  refine List.forall_mem_cons.mpr ⟨s_vret (am_dp pw_X2_readSum_64 dd_X2_readSum_64b.2.2) rfl, ?_⟩
  exact fun _ h => absurd h List.not_mem_nil
theorem sn_tX2_readProduct : ∀ q ∈ tX2_readProduct, am_Snd am_P0 RX2 cX2_readProduct 4 (Option.none : Option FieldType) "readProduct" q.1 q.2 := by
  unfold tX2_readProduct
  refine List.forall_mem_cons.mpr ⟨(s_aloadn (am_dp pw_X2_readProduct_0 dd_X2_readProduct_0a.1) rfl).to, ?_⟩
  refine List.forall_mem_cons.mpr ⟨(s_iloadn (am_dp pw_X2_readProduct_0 dd_X2_readProduct_0a.2.1) rfl).to, ?_⟩
  refine List.forall_mem_cons.mpr ⟨zw_cv29 (am_dp pw_X2_readProduct_0 dd_X2_readProduct_0a.2.2.1) wd719, ?_⟩
  refine List.forall_mem_cons.mpr ⟨(s_iconst (am_dp pw_X2_readProduct_0 dd_X2_readProduct_0a.2.2.2.1) (by decide)).to, ?_⟩
  refine List.forall_mem_cons.mpr ⟨(s_istoren (am_dp pw_X2_readProduct_0 dd_X2_readProduct_0a.2.2.2.2.1) rfl (by decide)).to, ?_⟩
  refine List.forall_mem_cons.mpr ⟨(s_iloadn (am_dp pw_X2_readProduct_0 dd_X2_readProduct_0a.2.2.2.2.2.1) rfl).to, ?_⟩
  refine List.forall_mem_cons.mpr ⟨(s_sipush (am_dp pw_X2_readProduct_0 dd_X2_readProduct_0a.2.2.2.2.2.2.1) (by decide)).to, ?_⟩
  refine List.forall_mem_cons.mpr ⟨(s_icmp_ge (am_dp pw_X2_readProduct_0 dd_X2_readProduct_0a.2.2.2.2.2.2.2) (by decide)).to, ?_⟩
  refine List.forall_mem_cons.mpr ⟨(s_aloadn (am_dp pw_X2_readProduct_0 dd_X2_readProduct_0b.1) rfl).to, ?_⟩
  refine List.forall_mem_cons.mpr ⟨zw_cv28 (am_dp pw_X2_readProduct_0 dd_X2_readProduct_0b.2.1) wd748, ?_⟩
  refine List.forall_mem_cons.mpr ⟨(s_if_eq (am_dp pw_X2_readProduct_0 dd_X2_readProduct_0b.2.2.1) (by decide)).to, ?_⟩
  refine List.forall_mem_cons.mpr ⟨(s_aloadn (am_dp pw_X2_readProduct_0 dd_X2_readProduct_0b.2.2.2.1) rfl).to, ?_⟩
  refine List.forall_mem_cons.mpr ⟨zw_cv28 (am_dp pw_X2_readProduct_0 dd_X2_readProduct_0b.2.2.2.2.1) wd748, ?_⟩
  refine List.forall_mem_cons.mpr ⟨(s_istoren (am_dp pw_X2_readProduct_0 dd_X2_readProduct_0b.2.2.2.2.2.1) rfl (by decide)).to, ?_⟩
  refine List.forall_mem_cons.mpr ⟨(s_aloadn (am_dp pw_X2_readProduct_0 dd_X2_readProduct_0b.2.2.2.2.2.2.1) rfl).to, ?_⟩
  refine List.forall_mem_cons.mpr ⟨(s_get (ci := 2) (k := 0) (am_dp pw_X2_readProduct_0 dd_X2_readProduct_0b.2.2.2.2.2.2.2) rfl (by decide) wd467 inX2 rfl).to, ?_⟩
  refine List.forall_mem_cons.mpr ⟨zw_cv35 (am_dp pw_X2_readProduct_0 dd_X2_readProduct_0c) wd689, ?_⟩
  refine List.forall_mem_cons.mpr ⟨(s_aloadn (am_dp pw_X2_readProduct_32 dd_X2_readProduct_32a.1) rfl).to, ?_⟩
  refine List.forall_mem_cons.mpr ⟨(s_iloadn (am_dp pw_X2_readProduct_32 dd_X2_readProduct_32a.2.1) rfl).to, ?_⟩
  refine List.forall_mem_cons.mpr ⟨zw_cv29 (am_dp pw_X2_readProduct_32 dd_X2_readProduct_32a.2.2.1) wd719, ?_⟩
  refine List.forall_mem_cons.mpr ⟨(s_aloadn (am_dp pw_X2_readProduct_32 dd_X2_readProduct_32a.2.2.2.1) rfl).to, ?_⟩
  refine List.forall_mem_cons.mpr ⟨(s_get (ci := 2) (k := 1) (am_dp pw_X2_readProduct_32 dd_X2_readProduct_32a.2.2.2.2.1) rfl (by decide) wd469 inX2 rfl).to, ?_⟩
  refine List.forall_mem_cons.mpr ⟨(s_get (ci := 5) (k := 6) (am_dp pw_X2_readProduct_32 dd_X2_readProduct_32a.2.2.2.2.2.1) rfl (by decide) wd324 inX5 rfl).to, ?_⟩
  refine List.forall_mem_cons.mpr ⟨(s_iloadn (am_dp pw_X2_readProduct_32 dd_X2_readProduct_32a.2.2.2.2.2.2.1) rfl).to, ?_⟩
  refine List.forall_mem_cons.mpr ⟨zw_cv1 (am_dp pw_X2_readProduct_32 dd_X2_readProduct_32a.2.2.2.2.2.2.2) wd727, ?_⟩
  refine List.forall_mem_cons.mpr ⟨(s_iinc (am_dp pw_X2_readProduct_32 dd_X2_readProduct_32b.1) (by decide) (by decide)).to, ?_⟩
  refine List.forall_mem_cons.mpr ⟨(s_goto (am_dp pw_X2_readProduct_32 dd_X2_readProduct_32b.2.1) (by decide)).to, ?_⟩
  refine List.forall_mem_cons.mpr ⟨s_vret (am_dp pw_X2_readProduct_32 dd_X2_readProduct_32b.2.2) rfl, ?_⟩
  exact fun _ h => absurd h List.not_mem_nil
theorem sn_tX2_timesSign : ∀ q ∈ tX2_timesSign, am_Snd am_P0 RX2 cX2_timesSign 1 (Option.some FieldType.int) "timesSign" q.1 q.2 := by
  unfold tX2_timesSign
  refine List.forall_mem_cons.mpr ⟨(s_aloadn (am_dp pw_X2_timesSign_0 dd_X2_timesSign_0a.1) rfl).to, ?_⟩
  refine List.forall_mem_cons.mpr ⟨(s_get (ci := 2) (k := 0) (am_dp pw_X2_timesSign_0 dd_X2_timesSign_0a.2.1) rfl (by decide) wd467 inX2 rfl).to, ?_⟩
  refine List.forall_mem_cons.mpr ⟨(s_bipush (am_dp pw_X2_timesSign_0 dd_X2_timesSign_0a.2.2.1) (by decide)).to, ?_⟩
  refine List.forall_mem_cons.mpr ⟨zw_cv40 (am_dp pw_X2_timesSign_0 dd_X2_timesSign_0a.2.2.2.1) wd731, ?_⟩
  refine List.forall_mem_cons.mpr ⟨(s_if_eq (am_dp pw_X2_timesSign_0 dd_X2_timesSign_0a.2.2.2.2.1) (by decide)).to, ?_⟩
  refine List.forall_mem_cons.mpr ⟨(s_bipush (am_dp pw_X2_timesSign_0 dd_X2_timesSign_0a.2.2.2.2.2.1) (by decide)).to, ?_⟩
  refine List.forall_mem_cons.mpr ⟨s_iret (am_dp pw_X2_timesSign_0 dd_X2_timesSign_0a.2.2.2.2.2.2.1) rfl, ?_⟩
  refine List.forall_mem_cons.mpr ⟨(s_aloadn (am_dp pw_X2_timesSign_0 dd_X2_timesSign_0a.2.2.2.2.2.2.2) rfl).to, ?_⟩
  refine List.forall_mem_cons.mpr ⟨(s_get (ci := 2) (k := 0) (am_dp pw_X2_timesSign_0 dd_X2_timesSign_0b.1) rfl (by decide) wd467 inX2 rfl).to, ?_⟩
  refine List.forall_mem_cons.mpr ⟨(s_bipush (am_dp pw_X2_timesSign_0 dd_X2_timesSign_0b.2.1) (by decide)).to, ?_⟩
  refine List.forall_mem_cons.mpr ⟨zw_cv40 (am_dp pw_X2_timesSign_0 dd_X2_timesSign_0b.2.2.1) wd731, ?_⟩
  refine List.forall_mem_cons.mpr ⟨(s_if_eq (am_dp pw_X2_timesSign_0 dd_X2_timesSign_0b.2.2.2.1) (by decide)).to, ?_⟩
  refine List.forall_mem_cons.mpr ⟨(s_bipush (am_dp pw_X2_timesSign_0 dd_X2_timesSign_0b.2.2.2.2.1) (by decide)).to, ?_⟩
  refine List.forall_mem_cons.mpr ⟨s_iret (am_dp pw_X2_timesSign_0 dd_X2_timesSign_0b.2.2.2.2.2.1) rfl, ?_⟩
  refine List.forall_mem_cons.mpr ⟨(s_aloadn (am_dp pw_X2_timesSign_0 dd_X2_timesSign_0b.2.2.2.2.2.2.1) rfl).to, ?_⟩
  refine List.forall_mem_cons.mpr ⟨(s_get (ci := 2) (k := 0) (am_dp pw_X2_timesSign_0 dd_X2_timesSign_0b.2.2.2.2.2.2.2) rfl (by decide) wd467 inX2 rfl).to, ?_⟩
  refine List.forall_mem_cons.mpr ⟨(s_bipush (am_dp pw_X2_timesSign_32 dd_X2_timesSign_32a.1) (by decide)).to, ?_⟩
  refine List.forall_mem_cons.mpr ⟨zw_cv40 (am_dp pw_X2_timesSign_32 dd_X2_timesSign_32a.2.1) wd731, ?_⟩
  refine List.forall_mem_cons.mpr ⟨(s_if_eq (am_dp pw_X2_timesSign_32 dd_X2_timesSign_32a.2.2.1) (by decide)).to, ?_⟩
  refine List.forall_mem_cons.mpr ⟨(s_bipush (am_dp pw_X2_timesSign_32 dd_X2_timesSign_32a.2.2.2.1) (by decide)).to, ?_⟩
  refine List.forall_mem_cons.mpr ⟨(s_goto (am_dp pw_X2_timesSign_32 dd_X2_timesSign_32a.2.2.2.2.1) (by decide)).to, ?_⟩
  refine List.forall_mem_cons.mpr ⟨(s_iconst (am_dp pw_X2_timesSign_32 dd_X2_timesSign_32a.2.2.2.2.2.1) (by decide)).to, ?_⟩
  refine List.forall_mem_cons.mpr ⟨s_iret (am_dp pw_X2_timesSign_32 dd_X2_timesSign_32a.2.2.2.2.2.2) rfl, ?_⟩
  exact fun _ h => absurd h List.not_mem_nil
theorem sn_tX2_readPart_0 : ∀ q ∈ tX2_readPart_0, am_Snd am_P0 RX2 cX2_readPart 2 (Option.none : Option FieldType) "readPart" q.1 q.2 := by
  unfold tX2_readPart_0
  refine List.forall_mem_cons.mpr ⟨(s_aloadn (am_dp pw_X2_readPart_0 dd_X2_readPart_0a.1) rfl).to, ?_⟩
  refine List.forall_mem_cons.mpr ⟨(s_get (ci := 2) (k := 0) (am_dp pw_X2_readPart_0 dd_X2_readPart_0a.2.1) rfl (by decide) wd467 inX2 rfl).to, ?_⟩
  refine List.forall_mem_cons.mpr ⟨(s_get (ci := 3) (k := 4) (am_dp pw_X2_readPart_0 dd_X2_readPart_0a.2.2.1) rfl (by decide) wd434 inX3 rfl).to, ?_⟩
  refine List.forall_mem_cons.mpr ⟨(s_iconst (am_dp pw_X2_readPart_0 dd_X2_readPart_0a.2.2.2.1) (by decide)).to, ?_⟩
  refine List.forall_mem_cons.mpr ⟨(s_icmp_ne (am_dp pw_X2_readPart_0 dd_X2_readPart_0a.2.2.2.2.1) (by decide)).to, ?_⟩
  refine List.forall_mem_cons.mpr ⟨(s_aloadn (am_dp pw_X2_readPart_0 dd_X2_readPart_0a.2.2.2.2.2.1) rfl).to, ?_⟩
  refine List.forall_mem_cons.mpr ⟨(s_aloadn (am_dp pw_X2_readPart_0 dd_X2_readPart_0a.2.2.2.2.2.2.1) rfl).to, ?_⟩
  refine List.forall_mem_cons.mpr ⟨(s_get (ci := 2) (k := 0) (am_dp pw_X2_readPart_0 dd_X2_readPart_0a.2.2.2.2.2.2.2) rfl (by decide) wd467 inX2 rfl).to, ?_⟩
  refine List.forall_mem_cons.mpr ⟨(s_get (ci := 3) (k := 5) (am_dp pw_X2_readPart_0 dd_X2_readPart_0b.1) rfl (by decide) wd436 inX3 rfl).to, ?_⟩
  refine List.forall_mem_cons.mpr ⟨zw_cv30 (am_dp pw_X2_readPart_0 dd_X2_readPart_0b.2.1) wd723, ?_⟩
  refine List.forall_mem_cons.mpr ⟨s_vret (am_dp pw_X2_readPart_0 dd_X2_readPart_0b.2.2.1) rfl, ?_⟩
  refine List.forall_mem_cons.mpr ⟨(s_aloadn (am_dp pw_X2_readPart_0 dd_X2_readPart_0b.2.2.2.1) rfl).to, ?_⟩
  refine List.forall_mem_cons.mpr ⟨(s_get (ci := 2) (k := 0) (am_dp pw_X2_readPart_0 dd_X2_readPart_0b.2.2.2.2.1) rfl (by decide) wd467 inX2 rfl).to, ?_⟩
  refine List.forall_mem_cons.mpr ⟨(s_bipush (am_dp pw_X2_readPart_0 dd_X2_readPart_0b.2.2.2.2.2.1) (by decide)).to, ?_⟩
  refine List.forall_mem_cons.mpr ⟨zw_cv40 (am_dp pw_X2_readPart_0 dd_X2_readPart_0b.2.2.2.2.2.2) wd731, ?_⟩
  refine List.forall_mem_cons.mpr ⟨(s_if_eq (am_dp pw_X2_readPart_32 dd_X2_readPart_32a.1) (by decide)).to, ?_⟩
  refine List.forall_mem_cons.mpr ⟨(s_aloadn (am_dp pw_X2_readPart_32 dd_X2_readPart_32a.2.1) rfl).to, ?_⟩
  refine List.forall_mem_cons.mpr ⟨(s_bipush (am_dp pw_X2_readPart_32 dd_X2_readPart_32a.2.2.1) (by decide)).to, ?_⟩
  refine List.forall_mem_cons.mpr ⟨(s_iloadn (am_dp pw_X2_readPart_32 dd_X2_readPart_32a.2.2.2.1) rfl).to, ?_⟩
  refine List.forall_mem_cons.mpr ⟨zw_cv32 (am_dp pw_X2_readPart_32 dd_X2_readPart_32a.2.2.2.2.1) wd735, ?_⟩
  refine List.forall_mem_cons.mpr ⟨(s_if_eq (am_dp pw_X2_readPart_32 dd_X2_readPart_32a.2.2.2.2.2.1) (by decide)).to, ?_⟩
  refine List.forall_mem_cons.mpr ⟨(s_aloadn (am_dp pw_X2_readPart_32 dd_X2_readPart_32a.2.2.2.2.2.2.1) rfl).to, ?_⟩
  refine List.forall_mem_cons.mpr ⟨(s_iloadn (am_dp pw_X2_readPart_32 dd_X2_readPart_32a.2.2.2.2.2.2.2) rfl).to, ?_⟩
  refine List.forall_mem_cons.mpr ⟨(s_iconst (am_dp pw_X2_readPart_32 dd_X2_readPart_32b.1) (by decide)).to, ?_⟩
  refine List.forall_mem_cons.mpr ⟨(s_iadd (am_dp pw_X2_readPart_32 dd_X2_readPart_32b.2.1)).to, ?_⟩
  refine List.forall_mem_cons.mpr ⟨zw_cv26 (am_dp pw_X2_readPart_32 dd_X2_readPart_32b.2.2.1) wd711, ?_⟩
  refine List.forall_mem_cons.mpr ⟨(s_aloadn (am_dp pw_X2_readPart_32 dd_X2_readPart_32b.2.2.2.1) rfl).to, ?_⟩
  refine List.forall_mem_cons.mpr ⟨(s_get (ci := 2) (k := 0) (am_dp pw_X2_readPart_32 dd_X2_readPart_32b.2.2.2.2.1) rfl (by decide) wd467 inX2 rfl).to, ?_⟩
  refine List.forall_mem_cons.mpr ⟨(s_bipush (am_dp pw_X2_readPart_32 dd_X2_readPart_32b.2.2.2.2.2.1) (by decide)).to, ?_⟩
  refine List.forall_mem_cons.mpr ⟨zw_cv41 (am_dp pw_X2_readPart_32 dd_X2_readPart_32b.2.2.2.2.2.2.1) wd739, ?_⟩
  refine List.forall_mem_cons.mpr ⟨s_vret (am_dp pw_X2_readPart_32 dd_X2_readPart_32b.2.2.2.2.2.2.2) rfl, ?_⟩
  refine List.forall_mem_cons.mpr ⟨(s_aloadn (am_dp pw_X2_readPart_32 dd_X2_readPart_32c.1) rfl).to, ?_⟩
  refine List.forall_mem_cons.mpr ⟨(s_get (ci := 2) (k := 0) (am_dp pw_X2_readPart_32 dd_X2_readPart_32c.2) rfl (by decide) wd467 inX2 rfl).to, ?_⟩
  refine List.forall_mem_cons.mpr ⟨(s_get (ci := 3) (k := 6) (am_dp pw_X2_readPart_64 dd_X2_readPart_64a) rfl (by decide) wd437 inX3 rfl).to, ?_⟩
  refine List.forall_mem_cons.mpr ⟨(s_look (by decide +kernel : decode cX2_readPart 69 = .ok (.lookupswitch 114 #[(1, 85), (16, 76), (23, 59), (24, 67), (25, 94), (26, 104)], 59)) (by decide) (by decide) (by decide)).to, ?_⟩
  refine List.forall_mem_cons.mpr ⟨(s_aloadn (am_dp pw_X2_readPart_128 dd_X2_readPart_128a.1) rfl).to, ?_⟩
  refine List.forall_mem_cons.mpr ⟨(s_iconst (am_dp pw_X2_readPart_128 dd_X2_readPart_128a.2.1) (by decide)).to, ?_⟩
  refine List.forall_mem_cons.mpr ⟨zw_cv30 (am_dp pw_X2_readPart_128 dd_X2_readPart_128a.2.2.1) wd723, ?_⟩
  refine List.forall_mem_cons.mpr ⟨(s_goto (am_dp pw_X2_readPart_128 dd_X2_readPart_128a.2.2.2.1) (by decide)).to, ?_⟩
  refine List.forall_mem_cons.mpr ⟨(s_aloadn (am_dp pw_X2_readPart_128 dd_X2_readPart_128a.2.2.2.2.1) rfl).to, ?_⟩
  refine List.forall_mem_cons.mpr ⟨(s_bipush (am_dp pw_X2_readPart_128 dd_X2_readPart_128a.2.2.2.2.2.1) (by decide)).to, ?_⟩
  refine List.forall_mem_cons.mpr ⟨zw_cv30 (am_dp pw_X2_readPart_128 dd_X2_readPart_128a.2.2.2.2.2.2.1) wd723, ?_⟩
  refine List.forall_mem_cons.mpr ⟨(s_goto (am_dp pw_X2_readPart_128 dd_X2_readPart_128a.2.2.2.2.2.2.2) (by decide)).to, ?_⟩
  refine List.forall_mem_cons.mpr ⟨(s_aloadn (am_dp pw_X2_readPart_128 dd_X2_readPart_128b.1) rfl).to, ?_⟩
  refine List.forall_mem_cons.mpr ⟨(s_bipush (am_dp pw_X2_readPart_128 dd_X2_readPart_128b.2.1) (by decide)).to, ?_⟩
  refine List.forall_mem_cons.mpr ⟨zw_cv30 (am_dp pw_X2_readPart_128 dd_X2_readPart_128b.2.2.1) wd723, ?_⟩
  refine List.forall_mem_cons.mpr ⟨(s_goto (am_dp pw_X2_readPart_128 dd_X2_readPart_128b.2.2.2.1) (by decide)).to, ?_⟩
  refine List.forall_mem_cons.mpr ⟨(s_aloadn (am_dp pw_X2_readPart_128 dd_X2_readPart_128b.2.2.2.2.1) rfl).to, ?_⟩
  refine List.forall_mem_cons.mpr ⟨(s_bipush (am_dp pw_X2_readPart_128 dd_X2_readPart_128b.2.2.2.2.2.1) (by decide)).to, ?_⟩
  refine List.forall_mem_cons.mpr ⟨zw_cv30 (am_dp pw_X2_readPart_128 dd_X2_readPart_128b.2.2.2.2.2.2) wd723, ?_⟩
  refine List.forall_mem_cons.mpr ⟨(s_goto (am_dp pw_X2_readPart_160 dd_X2_readPart_160a.1) (by decide)).to, ?_⟩
  refine List.forall_mem_cons.mpr ⟨(s_aloadn (am_dp pw_X2_readPart_160 dd_X2_readPart_160a.2.1) rfl).to, ?_⟩
  refine List.forall_mem_cons.mpr ⟨(s_bipush (am_dp pw_X2_readPart_160 dd_X2_readPart_160a.2.2.1) (by decide)).to, ?_⟩
  refine List.forall_mem_cons.mpr ⟨(s_iloadn (am_dp pw_X2_readPart_160 dd_X2_readPart_160a.2.2.2.1) rfl).to, ?_⟩
  refine List.forall_mem_cons.mpr ⟨zw_cv31 (am_dp pw_X2_readPart_160 dd_X2_readPart_160a.2.2.2.2.1) wd744, ?_⟩
  refine List.forall_mem_cons.mpr ⟨(s_goto (am_dp pw_X2_readPart_160 dd_X2_readPart_160a.2.2.2.2.2.1) (by decide)).to, ?_⟩
  refine List.forall_mem_cons.mpr ⟨(s_aloadn (am_dp pw_X2_readPart_160 dd_X2_readPart_160a.2.2.2.2.2.2.1) rfl).to, ?_⟩
  refine List.forall_mem_cons.mpr ⟨(s_bipush (am_dp pw_X2_readPart_160 dd_X2_readPart_160a.2.2.2.2.2.2.2) (by decide)).to, ?_⟩
  refine List.forall_mem_cons.mpr ⟨(s_iloadn (am_dp pw_X2_readPart_160 dd_X2_readPart_160b.1) rfl).to, ?_⟩
  refine List.forall_mem_cons.mpr ⟨zw_cv31 (am_dp pw_X2_readPart_160 dd_X2_readPart_160b.2.1) wd744, ?_⟩
  exact fun _ h => absurd h List.not_mem_nil
theorem sn_tX2_readPart_1 : ∀ q ∈ tX2_readPart_1, am_Snd am_P0 RX2 cX2_readPart 2 (Option.none : Option FieldType) "readPart" q.1 q.2 := by
  unfold tX2_readPart_1
  refine List.forall_mem_cons.mpr ⟨(s_goto (am_dp pw_X2_readPart_160 dd_X2_readPart_160b.2.2.1) (by decide)).to, ?_⟩
  refine List.forall_mem_cons.mpr ⟨(s_aloadn (am_dp pw_X2_readPart_160 dd_X2_readPart_160b.2.2.2.1) rfl).to, ?_⟩
  refine List.forall_mem_cons.mpr ⟨(s_get (ci := 2) (k := 0) (am_dp pw_X2_readPart_160 dd_X2_readPart_160b.2.2.2.2.1) rfl (by decide) wd467 inX2 rfl).to, ?_⟩
  refine List.forall_mem_cons.mpr ⟨(s_iconst (am_dp pw_X2_readPart_160 dd_X2_readPart_160b.2.2.2.2.2.1) (by decide)).to, ?_⟩
  refine List.forall_mem_cons.mpr ⟨zw_cv39 (am_dp pw_X2_readPart_160 dd_X2_readPart_160b.2.2.2.2.2.2.1) wd681, ?_⟩
  refine List.forall_mem_cons.mpr ⟨s_vret (am_dp pw_X2_readPart_160 dd_X2_readPart_160b.2.2.2.2.2.2.2) rfl, ?_⟩
  exact fun _ h => absurd h List.not_mem_nil
theorem sn_tX2_readPart : ∀ q ∈ tX2_readPart, am_Snd am_P0 RX2 cX2_readPart 2 (Option.none : Option FieldType) "readPart" q.1 q.2 := by
  unfold tX2_readPart
  exact List.forall_mem_append.mpr ⟨sn_tX2_readPart_0, sn_tX2_readPart_1⟩
theorem sn_tX2_readLeaf : ∀ q ∈ tX2_readLeaf, am_Snd am_P0 RX2 cX2_readLeaf 2 (Option.none : Option FieldType) "readLeaf" q.1 q.2 := by
  unfold tX2_readLeaf
  refine List.forall_mem_cons.mpr ⟨(s_aloadn (am_dp pw_X2_readLeaf_0 dd_X2_readLeaf_0a.1) rfl).to, ?_⟩
  refine List.forall_mem_cons.mpr ⟨(s_get (ci := 2) (k := 1) (am_dp pw_X2_readLeaf_0 dd_X2_readLeaf_0a.2.1) rfl (by decide) wd469 inX2 rfl).to, ?_⟩
  refine List.forall_mem_cons.mpr ⟨(s_get (ci := 5) (k := 6) (am_dp pw_X2_readLeaf_0 dd_X2_readLeaf_0a.2.2.1) rfl (by decide) wd324 inX5 rfl).to, ?_⟩
  refine List.forall_mem_cons.mpr ⟨(s_iloadn (am_dp pw_X2_readLeaf_0 dd_X2_readLeaf_0a.2.2.2.1) rfl).to, ?_⟩
  refine List.forall_mem_cons.mpr ⟨zw_cv1 (am_dp pw_X2_readLeaf_0 dd_X2_readLeaf_0a.2.2.2.2.1) wd727, ?_⟩
  refine List.forall_mem_cons.mpr ⟨(s_aloadn (am_dp pw_X2_readLeaf_0 dd_X2_readLeaf_0a.2.2.2.2.2.1) rfl).to, ?_⟩
  refine List.forall_mem_cons.mpr ⟨(s_get (ci := 2) (k := 0) (am_dp pw_X2_readLeaf_0 dd_X2_readLeaf_0a.2.2.2.2.2.2.1) rfl (by decide) wd467 inX2 rfl).to, ?_⟩
  refine List.forall_mem_cons.mpr ⟨zw_cv35 (am_dp pw_X2_readLeaf_0 dd_X2_readLeaf_0a.2.2.2.2.2.2.2) wd689, ?_⟩
  refine List.forall_mem_cons.mpr ⟨s_vret (am_dp pw_X2_readLeaf_0 dd_X2_readLeaf_0b) rfl, ?_⟩
  exact fun _ h => absurd h List.not_mem_nil
theorem sn_tX2_readChoice : ∀ q ∈ tX2_readChoice, am_Snd am_P0 RX2 cX2_readChoice 3 (Option.none : Option FieldType) "readChoice" q.1 q.2 := by
  unfold tX2_readChoice
  refine List.forall_mem_cons.mpr ⟨(s_aloadn (am_dp pw_X2_readChoice_0 dd_X2_readChoice_0a.1) rfl).to, ?_⟩
  refine List.forall_mem_cons.mpr ⟨(s_get (ci := 2) (k := 0) (am_dp pw_X2_readChoice_0 dd_X2_readChoice_0a.2.1) rfl (by decide) wd467 inX2 rfl).to, ?_⟩
  refine List.forall_mem_cons.mpr ⟨zw_cv35 (am_dp pw_X2_readChoice_0 dd_X2_readChoice_0a.2.2.1) wd689, ?_⟩
  refine List.forall_mem_cons.mpr ⟨(s_aloadn (am_dp pw_X2_readChoice_0 dd_X2_readChoice_0a.2.2.2.1) rfl).to, ?_⟩
  refine List.forall_mem_cons.mpr ⟨(s_bipush (am_dp pw_X2_readChoice_0 dd_X2_readChoice_0a.2.2.2.2.1) (by decide)).to, ?_⟩
  refine List.forall_mem_cons.mpr ⟨(s_iloadn (am_dp pw_X2_readChoice_0 dd_X2_readChoice_0a.2.2.2.2.2.1) rfl).to, ?_⟩
  refine List.forall_mem_cons.mpr ⟨zw_cv32 (am_dp pw_X2_readChoice_0 dd_X2_readChoice_0a.2.2.2.2.2.2.1) wd735, ?_⟩
  refine List.forall_mem_cons.mpr ⟨(s_if_ne (am_dp pw_X2_readChoice_0 dd_X2_readChoice_0a.2.2.2.2.2.2.2) (by decide)).to, ?_⟩
  refine List.forall_mem_cons.mpr ⟨s_vret (am_dp pw_X2_readChoice_0 dd_X2_readChoice_0b.1) rfl, ?_⟩
  refine List.forall_mem_cons.mpr ⟨(s_aloadn (am_dp pw_X2_readChoice_0 dd_X2_readChoice_0b.2.1) rfl).to, ?_⟩
  refine List.forall_mem_cons.mpr ⟨(s_iloadn (am_dp pw_X2_readChoice_0 dd_X2_readChoice_0b.2.2.1) rfl).to, ?_⟩
  refine List.forall_mem_cons.mpr ⟨(s_iconst (am_dp pw_X2_readChoice_0 dd_X2_readChoice_0b.2.2.2.1) (by decide)).to, ?_⟩
  refine List.forall_mem_cons.mpr ⟨(s_iadd (am_dp pw_X2_readChoice_0 dd_X2_readChoice_0b.2.2.2.2.1)).to, ?_⟩
  refine List.forall_mem_cons.mpr ⟨zw_cv26 (am_dp pw_X2_readChoice_0 dd_X2_readChoice_0b.2.2.2.2.2.1) wd711, ?_⟩
  refine List.forall_mem_cons.mpr ⟨(s_aloadn (am_dp pw_X2_readChoice_0 dd_X2_readChoice_0b.2.2.2.2.2.2.1) rfl).to, ?_⟩
  refine List.forall_mem_cons.mpr ⟨(s_get (ci := 2) (k := 0) (am_dp pw_X2_readChoice_0 dd_X2_readChoice_0b.2.2.2.2.2.2.2) rfl (by decide) wd467 inX2 rfl).to, ?_⟩
  refine List.forall_mem_cons.mpr ⟨(s_bipush (am_dp pw_X2_readChoice_0 dd_X2_readChoice_0c.1) (by decide)).to, ?_⟩
  refine List.forall_mem_cons.mpr ⟨zw_cv41 (am_dp pw_X2_readChoice_0 dd_X2_readChoice_0c.2) wd739, ?_⟩
  refine List.forall_mem_cons.mpr ⟨(s_aloadn (am_dp pw_X2_readChoice_32 dd_X2_readChoice_32a.1) rfl).to, ?_⟩
  refine List.forall_mem_cons.mpr ⟨(s_iloadn (am_dp pw_X2_readChoice_32 dd_X2_readChoice_32a.2.1) rfl).to, ?_⟩
  refine List.forall_mem_cons.mpr ⟨(s_iconst (am_dp pw_X2_readChoice_32 dd_X2_readChoice_32a.2.2.1) (by decide)).to, ?_⟩
  refine List.forall_mem_cons.mpr ⟨(s_iadd (am_dp pw_X2_readChoice_32 dd_X2_readChoice_32a.2.2.2.1)).to, ?_⟩
  refine List.forall_mem_cons.mpr ⟨zw_cv26 (am_dp pw_X2_readChoice_32 dd_X2_readChoice_32a.2.2.2.2.1) wd711, ?_⟩
  refine List.forall_mem_cons.mpr ⟨(s_aloadn (am_dp pw_X2_readChoice_32 dd_X2_readChoice_32a.2.2.2.2.2.1) rfl).to, ?_⟩
  refine List.forall_mem_cons.mpr ⟨(s_get (ci := 2) (k := 0) (am_dp pw_X2_readChoice_32 dd_X2_readChoice_32a.2.2.2.2.2.2.1) rfl (by decide) wd467 inX2 rfl).to, ?_⟩
  refine List.forall_mem_cons.mpr ⟨(s_bipush (am_dp pw_X2_readChoice_32 dd_X2_readChoice_32a.2.2.2.2.2.2.2) (by decide)).to, ?_⟩
  refine List.forall_mem_cons.mpr ⟨zw_cv41 (am_dp pw_X2_readChoice_32 dd_X2_readChoice_32b.1) wd739, ?_⟩
  refine List.forall_mem_cons.mpr ⟨(s_aloadn (am_dp pw_X2_readChoice_32 dd_X2_readChoice_32b.2.1) rfl).to, ?_⟩
  refine List.forall_mem_cons.mpr ⟨(s_get (ci := 2) (k := 1) (am_dp pw_X2_readChoice_32 dd_X2_readChoice_32b.2.2.1) rfl (by decide) wd469 inX2 rfl).to, ?_⟩
  refine List.forall_mem_cons.mpr ⟨(s_get (ci := 5) (k := 6) (am_dp pw_X2_readChoice_32 dd_X2_readChoice_32b.2.2.2.1) rfl (by decide) wd324 inX5 rfl).to, ?_⟩
  refine List.forall_mem_cons.mpr ⟨(s_iloadn (am_dp pw_X2_readChoice_32 dd_X2_readChoice_32b.2.2.2.2.1) rfl).to, ?_⟩
  refine List.forall_mem_cons.mpr ⟨zw_cv1 (am_dp pw_X2_readChoice_32 dd_X2_readChoice_32b.2.2.2.2.2.1) wd727, ?_⟩
  refine List.forall_mem_cons.mpr ⟨s_vret (am_dp pw_X2_readChoice_32 dd_X2_readChoice_32b.2.2.2.2.2.2) rfl, ?_⟩
  exact fun _ h => absurd h List.not_mem_nil
theorem sn_tX2_takeOpening : ∀ q ∈ tX2_takeOpening, am_Snd am_P0 RX2 cX2_takeOpening 3 (Option.some FieldType.boolean) "takeOpening" q.1 q.2 := by
  unfold tX2_takeOpening
  refine List.forall_mem_cons.mpr ⟨(s_aloadn (am_dp pw_X2_takeOpening_0 dd_X2_takeOpening_0a.1) rfl).to, ?_⟩
  refine List.forall_mem_cons.mpr ⟨(s_get (ci := 2) (k := 0) (am_dp pw_X2_takeOpening_0 dd_X2_takeOpening_0a.2.1) rfl (by decide) wd467 inX2 rfl).to, ?_⟩
  refine List.forall_mem_cons.mpr ⟨(s_iloadn (am_dp pw_X2_takeOpening_0 dd_X2_takeOpening_0a.2.2.1) rfl).to, ?_⟩
  refine List.forall_mem_cons.mpr ⟨zw_cv40 (am_dp pw_X2_takeOpening_0 dd_X2_takeOpening_0a.2.2.2.1) wd731, ?_⟩
  refine List.forall_mem_cons.mpr ⟨(s_if_ne (am_dp pw_X2_takeOpening_0 dd_X2_takeOpening_0a.2.2.2.2.1) (by decide)).to, ?_⟩
  refine List.forall_mem_cons.mpr ⟨(s_aloadn (am_dp pw_X2_takeOpening_0 dd_X2_takeOpening_0a.2.2.2.2.2.1) rfl).to, ?_⟩
  refine List.forall_mem_cons.mpr ⟨(s_get (ci := 2) (k := 0) (am_dp pw_X2_takeOpening_0 dd_X2_takeOpening_0a.2.2.2.2.2.2.1) rfl (by decide) wd467 inX2 rfl).to, ?_⟩
  refine List.forall_mem_cons.mpr ⟨(s_iconst (am_dp pw_X2_takeOpening_0 dd_X2_takeOpening_0a.2.2.2.2.2.2.2) (by decide)).to, ?_⟩
  refine List.forall_mem_cons.mpr ⟨zw_cv39 (am_dp pw_X2_takeOpening_0 dd_X2_takeOpening_0b.1) wd681, ?_⟩
  refine List.forall_mem_cons.mpr ⟨(s_iconst (am_dp pw_X2_takeOpening_0 dd_X2_takeOpening_0b.2.1) (by decide)).to, ?_⟩
  refine List.forall_mem_cons.mpr ⟨s_zret (am_dp pw_X2_takeOpening_0 dd_X2_takeOpening_0b.2.2.1) rfl, ?_⟩
  refine List.forall_mem_cons.mpr ⟨(s_iloadn (am_dp pw_X2_takeOpening_0 dd_X2_takeOpening_0b.2.2.2.1) rfl).to, ?_⟩
  refine List.forall_mem_cons.mpr ⟨(s_bipush (am_dp pw_X2_takeOpening_0 dd_X2_takeOpening_0b.2.2.2.2.1) (by decide)).to, ?_⟩
  refine List.forall_mem_cons.mpr ⟨(s_icmp_lt (am_dp pw_X2_takeOpening_0 dd_X2_takeOpening_0b.2.2.2.2.2.1) (by decide)).to, ?_⟩
  refine List.forall_mem_cons.mpr ⟨(s_aloadn (am_dp pw_X2_takeOpening_0 dd_X2_takeOpening_0b.2.2.2.2.2.2.1) rfl).to, ?_⟩
  refine List.forall_mem_cons.mpr ⟨(s_get (ci := 2) (k := 0) (am_dp pw_X2_takeOpening_0 dd_X2_takeOpening_0b.2.2.2.2.2.2.2) rfl (by decide) wd467 inX2 rfl).to, ?_⟩
  refine List.forall_mem_cons.mpr ⟨(s_iconst (am_dp pw_X2_takeOpening_0 dd_X2_takeOpening_0c) (by decide)).to, ?_⟩
  refine List.forall_mem_cons.mpr ⟨zw_cv39 (am_dp pw_X2_takeOpening_32 dd_X2_takeOpening_32a.1) wd681, ?_⟩
  refine List.forall_mem_cons.mpr ⟨(s_iconst (am_dp pw_X2_takeOpening_32 dd_X2_takeOpening_32a.2.1) (by decide)).to, ?_⟩
  refine List.forall_mem_cons.mpr ⟨s_zret (am_dp pw_X2_takeOpening_32 dd_X2_takeOpening_32a.2.2.1) rfl, ?_⟩
  refine List.forall_mem_cons.mpr ⟨(s_aloadn (am_dp pw_X2_takeOpening_32 dd_X2_takeOpening_32a.2.2.2.1) rfl).to, ?_⟩
  refine List.forall_mem_cons.mpr ⟨(s_get (ci := 2) (k := 0) (am_dp pw_X2_takeOpening_32 dd_X2_takeOpening_32a.2.2.2.2.1) rfl (by decide) wd467 inX2 rfl).to, ?_⟩
  refine List.forall_mem_cons.mpr ⟨zw_cv35 (am_dp pw_X2_takeOpening_32 dd_X2_takeOpening_32a.2.2.2.2.2.1) wd689, ?_⟩
  refine List.forall_mem_cons.mpr ⟨(s_iconst (am_dp pw_X2_takeOpening_32 dd_X2_takeOpening_32a.2.2.2.2.2.2.1) (by decide)).to, ?_⟩
  refine List.forall_mem_cons.mpr ⟨s_zret (am_dp pw_X2_takeOpening_32 dd_X2_takeOpening_32a.2.2.2.2.2.2.2) rfl, ?_⟩
  exact fun _ h => absurd h List.not_mem_nil
theorem sn_tX3_init : ∀ q ∈ tX3_init, am_Snd am_P0 RX3 cX3_init 4 (Option.none : Option FieldType) "<init>" q.1 q.2 := by
  unfold tX3_init
  refine List.forall_mem_cons.mpr ⟨(s_aloadn (am_dp pw_X3_init_0 dd_X3_init_0a.1) rfl).to, ?_⟩
  refine List.forall_mem_cons.mpr ⟨(s_obj (am_dp pw_X3_init_0 dd_X3_init_0a.2.1) wd378 wd160 wd161).to, ?_⟩
  refine List.forall_mem_cons.mpr ⟨(s_aloadn (am_dp pw_X3_init_0 dd_X3_init_0a.2.2.1) rfl).to, ?_⟩
  refine List.forall_mem_cons.mpr ⟨(s_bipush (am_dp pw_X3_init_0 dd_X3_init_0a.2.2.2.1) (by decide)).to, ?_⟩
  refine List.forall_mem_cons.mpr ⟨(s_newa (kd := 0) (ty := .int) (am_dp pw_X3_init_0 dd_X3_init_0a.2.2.2.2.1) rfl rfl wd195 (by decide) (by decide) (fun _ _ h => h)).to, ?_⟩
  refine List.forall_mem_cons.mpr ⟨(s_putF (ci := 3) (k := 0) (am_dp pw_X3_init_0 dd_X3_init_0a.2.2.2.2.2.1) rfl (by decide) wd428 inX3 tyX3_ok nmX3 rfl rfl rfl rfl).to, ?_⟩
  refine List.forall_mem_cons.mpr ⟨(s_aloadn (am_dp pw_X3_init_0 dd_X3_init_0a.2.2.2.2.2.2.1) rfl).to, ?_⟩
  refine List.forall_mem_cons.mpr ⟨(s_iconst (am_dp pw_X3_init_0 dd_X3_init_0a.2.2.2.2.2.2.2) (by decide)).to, ?_⟩
  refine List.forall_mem_cons.mpr ⟨(s_newa (kd := 0) (ty := .int) (am_dp pw_X3_init_0 dd_X3_init_0b.1) rfl rfl wd195 (by decide) (by decide) (fun _ _ h => h)).to, ?_⟩
  refine List.forall_mem_cons.mpr ⟨(s_put (ci := 3) (k := 1) (am_dp pw_X3_init_0 dd_X3_init_0b.2.1) rfl (by decide) wd429 inX3 tyX3_ok nmX3 rfl rfl).to, ?_⟩
  refine List.forall_mem_cons.mpr ⟨(s_iconst (am_dp pw_X3_init_0 dd_X3_init_0b.2.2.1) (by decide)).to, ?_⟩
  refine List.forall_mem_cons.mpr ⟨(s_istoren (am_dp pw_X3_init_0 dd_X3_init_0b.2.2.2.1) rfl (by decide)).to, ?_⟩
  refine List.forall_mem_cons.mpr ⟨(s_iconst (am_dp pw_X3_init_0 dd_X3_init_0b.2.2.2.2.1) (by decide)).to, ?_⟩
  refine List.forall_mem_cons.mpr ⟨(s_istoren (am_dp pw_X3_init_0 dd_X3_init_0b.2.2.2.2.2.1) rfl (by decide)).to, ?_⟩
  refine List.forall_mem_cons.mpr ⟨(s_iconst (am_dp pw_X3_init_0 dd_X3_init_0b.2.2.2.2.2.2.1) (by decide)).to, ?_⟩
  refine List.forall_mem_cons.mpr ⟨(s_istoren (am_dp pw_X3_init_0 dd_X3_init_0b.2.2.2.2.2.2.2) rfl (by decide)).to, ?_⟩
  refine List.forall_mem_cons.mpr ⟨(s_iloadn (am_dp pw_X3_init_0 dd_X3_init_0c.1) rfl).to, ?_⟩
  refine List.forall_mem_cons.mpr ⟨(s_ldS (am_dp pw_X3_init_0 dd_X3_init_0c.2.1) rfl).to, ?_⟩
  refine List.forall_mem_cons.mpr ⟨z_cvS (am_dp pw_X3_init_0 dd_X3_init_0c.2.2.1) mt311 wd380 (by decide), ?_⟩
  refine List.forall_mem_cons.mpr ⟨(s_icmp_ge (am_dp pw_X3_init_0 dd_X3_init_0c.2.2.2) (by decide)).to, ?_⟩
  refine List.forall_mem_cons.mpr ⟨(s_iloadn (am_dp pw_X3_init_32 dd_X3_init_32a.1) rfl).to, ?_⟩
  refine List.forall_mem_cons.mpr ⟨(s_bipush (am_dp pw_X3_init_32 dd_X3_init_32a.2.1) (by decide)).to, ?_⟩
  refine List.forall_mem_cons.mpr ⟨(s_icmp_ge (am_dp pw_X3_init_32 dd_X3_init_32a.2.2.1) (by decide)).to, ?_⟩
  refine List.forall_mem_cons.mpr ⟨(s_ldS (am_dp pw_X3_init_32 dd_X3_init_32a.2.2.2.1) rfl).to, ?_⟩
  refine List.forall_mem_cons.mpr ⟨(s_iloadn (am_dp pw_X3_init_32 dd_X3_init_32a.2.2.2.2.1) rfl).to, ?_⟩
  refine List.forall_mem_cons.mpr ⟨z_cvS (am_dp pw_X3_init_32 dd_X3_init_32a.2.2.2.2.2.1) mt312 wd390 (by decide), ?_⟩
  refine List.forall_mem_cons.mpr ⟨(s_bipush (am_dp pw_X3_init_32 dd_X3_init_32a.2.2.2.2.2.2.1) (by decide)).to, ?_⟩
  refine List.forall_mem_cons.mpr ⟨(s_icmp_ne (am_dp pw_X3_init_32 dd_X3_init_32a.2.2.2.2.2.2.2) (by decide)).to, ?_⟩
  refine List.forall_mem_cons.mpr ⟨(s_iinc (am_dp pw_X3_init_32 dd_X3_init_32b.1) (by decide) (by decide)).to, ?_⟩
  refine List.forall_mem_cons.mpr ⟨(s_iconst (am_dp pw_X3_init_32 dd_X3_init_32b.2.1) (by decide)).to, ?_⟩
  refine List.forall_mem_cons.mpr ⟨(s_istoren (am_dp pw_X3_init_32 dd_X3_init_32b.2.2.1) rfl (by decide)).to, ?_⟩
  refine List.forall_mem_cons.mpr ⟨(s_goto (am_dp pw_X3_init_32 dd_X3_init_32b.2.2.2.1) (by decide)).to, ?_⟩
  refine List.forall_mem_cons.mpr ⟨(s_aloadn (am_dp pw_X3_init_32 dd_X3_init_32b.2.2.2.2.1) rfl).to, ?_⟩
  refine List.forall_mem_cons.mpr ⟨(s_get (ci := 3) (k := 0) (am_dp pw_X3_init_32 dd_X3_init_32b.2.2.2.2.2.1) rfl (by decide) wd428 inX3 rfl).to, ?_⟩
  refine List.forall_mem_cons.mpr ⟨(s_iloadn (am_dp pw_X3_init_32 dd_X3_init_32b.2.2.2.2.2.2) rfl).to, ?_⟩
  refine List.forall_mem_cons.mpr ⟨(s_dup2 (am_dp pw_X3_init_64 dd_X3_init_64a.1)).to, ?_⟩
  refine List.forall_mem_cons.mpr ⟨(s_iald (am_dp pw_X3_init_64 dd_X3_init_64a.2.1)).to, ?_⟩
  refine List.forall_mem_cons.mpr ⟨(s_ldS (am_dp pw_X3_init_64 dd_X3_init_64a.2.2.1) rfl).to, ?_⟩
  refine List.forall_mem_cons.mpr ⟨(s_iloadn (am_dp pw_X3_init_64 dd_X3_init_64a.2.2.2.1) rfl).to, ?_⟩
  refine List.forall_mem_cons.mpr ⟨z_cvS (am_dp pw_X3_init_64 dd_X3_init_64a.2.2.2.2.1) mt312 wd390 (by decide), ?_⟩
  refine List.forall_mem_cons.mpr ⟨(s_bipush (am_dp pw_X3_init_64 dd_X3_init_64a.2.2.2.2.2.1) (by decide)).to, ?_⟩
  refine List.forall_mem_cons.mpr ⟨(s_isub (am_dp pw_X3_init_64 dd_X3_init_64a.2.2.2.2.2.2.1)).to, ?_⟩
  refine List.forall_mem_cons.mpr ⟨(s_iconst (am_dp pw_X3_init_64 dd_X3_init_64a.2.2.2.2.2.2.2) (by decide)).to, ?_⟩
  refine List.forall_mem_cons.mpr ⟨(s_iloadn (am_dp pw_X3_init_64 dd_X3_init_64b.1) rfl).to, ?_⟩
  refine List.forall_mem_cons.mpr ⟨(s_imul (am_dp pw_X3_init_64 dd_X3_init_64b.2.1)).to, ?_⟩
  refine List.forall_mem_cons.mpr ⟨(s_ishl (am_dp pw_X3_init_64 dd_X3_init_64b.2.2.1)).to, ?_⟩
  refine List.forall_mem_cons.mpr ⟨(s_ior (am_dp pw_X3_init_64 dd_X3_init_64b.2.2.2.1)).to, ?_⟩
  refine List.forall_mem_cons.mpr ⟨(s_iast (am_dp pw_X3_init_64 dd_X3_init_64b.2.2.2.2.1)).to, ?_⟩
  refine List.forall_mem_cons.mpr ⟨(s_iinc (am_dp pw_X3_init_64 dd_X3_init_64b.2.2.2.2.2.1) (by decide) (by decide)).to, ?_⟩
  refine List.forall_mem_cons.mpr ⟨(s_iinc (am_dp pw_X3_init_64 dd_X3_init_64b.2.2.2.2.2.2.1) (by decide) (by decide)).to, ?_⟩
  refine List.forall_mem_cons.mpr ⟨(s_goto (am_dp pw_X3_init_64 dd_X3_init_64b.2.2.2.2.2.2.2) (by decide)).to, ?_⟩
  refine List.forall_mem_cons.mpr ⟨s_vret (am_dp pw_X3_init_64 dd_X3_init_64c) rfl, ?_⟩
  exact fun _ h => absurd h List.not_mem_nil
theorem sn_tX3_open : ∀ q ∈ tX3_open, am_Snd am_P0 RX3 cX3_open 3 (Option.none : Option FieldType) "open" q.1 q.2 := by
  unfold tX3_open
  refine List.forall_mem_cons.mpr ⟨(s_aloadn (am_dp pw_X3_open_0 dd_X3_open_0a.1) rfl).to, ?_⟩
  refine List.forall_mem_cons.mpr ⟨(s_aloadn (am_dp pw_X3_open_0 dd_X3_open_0a.2.1) rfl).to, ?_⟩
  refine List.forall_mem_cons.mpr ⟨(s_put (ci := 3) (k := 1) (am_dp pw_X3_open_0 dd_X3_open_0a.2.2.1) rfl (by decide) wd429 inX3 tyX3_ok nmX3 rfl rfl).to, ?_⟩
  refine List.forall_mem_cons.mpr ⟨(s_aloadn (am_dp pw_X3_open_0 dd_X3_open_0a.2.2.2.1) rfl).to, ?_⟩
  refine List.forall_mem_cons.mpr ⟨(s_iloadn (am_dp pw_X3_open_0 dd_X3_open_0a.2.2.2.2.1) rfl).to, ?_⟩
  refine List.forall_mem_cons.mpr ⟨(s_aloadn (am_dp pw_X3_open_0 dd_X3_open_0a.2.2.2.2.2.1) rfl).to, ?_⟩
  refine List.forall_mem_cons.mpr ⟨(s_len (am_dp pw_X3_open_0 dd_X3_open_0a.2.2.2.2.2.2.1)).to, ?_⟩
  refine List.forall_mem_cons.mpr ⟨zw_cs309 (am_dp pw_X3_open_0 dd_X3_open_0a.2.2.2.2.2.2.2) wd659, ?_⟩
  refine List.forall_mem_cons.mpr ⟨(s_put (ci := 3) (k := 2) (am_dp pw_X3_open_0 dd_X3_open_0b.1) rfl (by decide) wd430 inX3 tyX3_ok nmX3 rfl rfl).to, ?_⟩
  refine List.forall_mem_cons.mpr ⟨(s_aloadn (am_dp pw_X3_open_0 dd_X3_open_0b.2.1) rfl).to, ?_⟩
  refine List.forall_mem_cons.mpr ⟨(s_iconst (am_dp pw_X3_open_0 dd_X3_open_0b.2.2.1) (by decide)).to, ?_⟩
  refine List.forall_mem_cons.mpr ⟨(s_put (ci := 3) (k := 3) (am_dp pw_X3_open_0 dd_X3_open_0b.2.2.2.1) rfl (by decide) wd431 inX3 tyX3_ok nmX3 rfl rfl).to, ?_⟩
  refine List.forall_mem_cons.mpr ⟨(s_aloadn (am_dp pw_X3_open_0 dd_X3_open_0b.2.2.2.2.1) rfl).to, ?_⟩
  refine List.forall_mem_cons.mpr ⟨(s_iconst (am_dp pw_X3_open_0 dd_X3_open_0b.2.2.2.2.2.1) (by decide)).to, ?_⟩
  refine List.forall_mem_cons.mpr ⟨(s_put (ci := 3) (k := 8) (am_dp pw_X3_open_0 dd_X3_open_0b.2.2.2.2.2.2.1) rfl (by decide) wd440 inX3 tyX3_ok nmX3 rfl rfl).to, ?_⟩
  refine List.forall_mem_cons.mpr ⟨(s_aloadn (am_dp pw_X3_open_0 dd_X3_open_0b.2.2.2.2.2.2.2) rfl).to, ?_⟩
  refine List.forall_mem_cons.mpr ⟨(s_iconst (am_dp pw_X3_open_0 dd_X3_open_0c.1) (by decide)).to, ?_⟩
  refine List.forall_mem_cons.mpr ⟨(s_put (ci := 3) (k := 9) (am_dp pw_X3_open_0 dd_X3_open_0c.2.1) rfl (by decide) wd443 inX3 tyX3_ok nmX3 rfl rfl).to, ?_⟩
  refine List.forall_mem_cons.mpr ⟨(s_aloadn (am_dp pw_X3_open_0 dd_X3_open_0c.2.2.1) rfl).to, ?_⟩
  refine List.forall_mem_cons.mpr ⟨(s_iconst (am_dp pw_X3_open_0 dd_X3_open_0c.2.2.2) (by decide)).to, ?_⟩
  refine List.forall_mem_cons.mpr ⟨(s_put (ci := 3) (k := 4) (am_dp pw_X3_open_32 dd_X3_open_32a.1) rfl (by decide) wd432 inX3 tyX3_ok nmX3 rfl rfl).to, ?_⟩
  refine List.forall_mem_cons.mpr ⟨(s_aloadn (am_dp pw_X3_open_32 dd_X3_open_32a.2.1) rfl).to, ?_⟩
  refine List.forall_mem_cons.mpr ⟨zw_cv35 (am_dp pw_X3_open_32 dd_X3_open_32a.2.2.1) wd662, ?_⟩
  refine List.forall_mem_cons.mpr ⟨s_vret (am_dp pw_X3_open_32 dd_X3_open_32a.2.2.2) rfl, ?_⟩
  exact fun _ h => absurd h List.not_mem_nil
theorem sn_tX3_step_0 : ∀ q ∈ tX3_step_0, am_Snd am_P0 RX3 cX3_step 3 (Option.none : Option FieldType) "step" q.1 q.2 := by
  unfold tX3_step_0
  refine List.forall_mem_cons.mpr ⟨(s_aloadn (am_dp pw_X3_step_0 dd_X3_step_0a.1) rfl).to, ?_⟩
  refine List.forall_mem_cons.mpr ⟨(s_get (ci := 3) (k := 8) (am_dp pw_X3_step_0 dd_X3_step_0a.2.1) rfl (by decide) wd440 inX3 rfl).to, ?_⟩
  refine List.forall_mem_cons.mpr ⟨(s_if_eq (am_dp pw_X3_step_0 dd_X3_step_0a.2.2.1) (by decide)).to, ?_⟩
  refine List.forall_mem_cons.mpr ⟨s_vret (am_dp pw_X3_step_0 dd_X3_step_0a.2.2.2.1) rfl, ?_⟩
  refine List.forall_mem_cons.mpr ⟨(s_aloadn (am_dp pw_X3_step_0 dd_X3_step_0a.2.2.2.2.1) rfl).to, ?_⟩
  refine List.forall_mem_cons.mpr ⟨(s_get (ci := 3) (k := 4) (am_dp pw_X3_step_0 dd_X3_step_0a.2.2.2.2.2.1) rfl (by decide) wd432 inX3 rfl).to, ?_⟩
  refine List.forall_mem_cons.mpr ⟨(s_iconst (am_dp pw_X3_step_0 dd_X3_step_0a.2.2.2.2.2.2.1) (by decide)).to, ?_⟩
  refine List.forall_mem_cons.mpr ⟨(s_icmp_eq (am_dp pw_X3_step_0 dd_X3_step_0a.2.2.2.2.2.2.2) (by decide)).to, ?_⟩
  refine List.forall_mem_cons.mpr ⟨(s_aloadn (am_dp pw_X3_step_0 dd_X3_step_0b.1) rfl).to, ?_⟩
  refine List.forall_mem_cons.mpr ⟨(s_get (ci := 3) (k := 4) (am_dp pw_X3_step_0 dd_X3_step_0b.2.1) rfl (by decide) wd432 inX3 rfl).to, ?_⟩
  refine List.forall_mem_cons.mpr ⟨(s_iconst (am_dp pw_X3_step_0 dd_X3_step_0b.2.2.1) (by decide)).to, ?_⟩
  refine List.forall_mem_cons.mpr ⟨(s_icmp_ne (am_dp pw_X3_step_0 dd_X3_step_0b.2.2.2.1) (by decide)).to, ?_⟩
  refine List.forall_mem_cons.mpr ⟨(s_aloadn (am_dp pw_X3_step_0 dd_X3_step_0b.2.2.2.2.1) rfl).to, ?_⟩
  refine List.forall_mem_cons.mpr ⟨(s_get (ci := 3) (k := 3) (am_dp pw_X3_step_0 dd_X3_step_0b.2.2.2.2.2.1) rfl (by decide) wd431 inX3 rfl).to, ?_⟩
  refine List.forall_mem_cons.mpr ⟨(s_goto (am_dp pw_X3_step_0 dd_X3_step_0b.2.2.2.2.2.2.1) (by decide)).to, ?_⟩
  refine List.forall_mem_cons.mpr ⟨(s_iconst (am_dp pw_X3_step_0 dd_X3_step_0b.2.2.2.2.2.2.2) (by decide)).to, ?_⟩
  refine List.forall_mem_cons.mpr ⟨(s_istoren (am_dp pw_X3_step_32 dd_X3_step_32a.1) rfl (by decide)).to, ?_⟩
  refine List.forall_mem_cons.mpr ⟨(s_aloadn (am_dp pw_X3_step_32 dd_X3_step_32a.2.1) rfl).to, ?_⟩
  refine List.forall_mem_cons.mpr ⟨(s_get (ci := 3) (k := 3) (am_dp pw_X3_step_32 dd_X3_step_32a.2.2.1) rfl (by decide) wd431 inX3 rfl).to, ?_⟩
  refine List.forall_mem_cons.mpr ⟨(s_aloadn (am_dp pw_X3_step_32 dd_X3_step_32a.2.2.2.1) rfl).to, ?_⟩
  refine List.forall_mem_cons.mpr ⟨(s_get (ci := 3) (k := 2) (am_dp pw_X3_step_32 dd_X3_step_32a.2.2.2.2.1) rfl (by decide) wd430 inX3 rfl).to, ?_⟩
  refine List.forall_mem_cons.mpr ⟨(s_icmp_ge (am_dp pw_X3_step_32 dd_X3_step_32a.2.2.2.2.2.1) (by decide)).to, ?_⟩
  refine List.forall_mem_cons.mpr ⟨(s_aloadn (am_dp pw_X3_step_32 dd_X3_step_32a.2.2.2.2.2.2.1) rfl).to, ?_⟩
  refine List.forall_mem_cons.mpr ⟨(s_get (ci := 3) (k := 1) (am_dp pw_X3_step_32 dd_X3_step_32a.2.2.2.2.2.2.2) rfl (by decide) wd429 inX3 rfl).to, ?_⟩
  refine List.forall_mem_cons.mpr ⟨(s_aloadn (am_dp pw_X3_step_32 dd_X3_step_32b.1) rfl).to, ?_⟩
  refine List.forall_mem_cons.mpr ⟨(s_get (ci := 3) (k := 3) (am_dp pw_X3_step_32 dd_X3_step_32b.2.1) rfl (by decide) wd431 inX3 rfl).to, ?_⟩
  refine List.forall_mem_cons.mpr ⟨(s_iald (am_dp pw_X3_step_32 dd_X3_step_32b.2.2.1)).to, ?_⟩
  refine List.forall_mem_cons.mpr ⟨(s_bipush (am_dp pw_X3_step_32 dd_X3_step_32b.2.2.2.1) (by decide)).to, ?_⟩
  refine List.forall_mem_cons.mpr ⟨(s_icmp_eq (am_dp pw_X3_step_32 dd_X3_step_32b.2.2.2.2.1) (by decide)).to, ?_⟩
  refine List.forall_mem_cons.mpr ⟨(s_aloadn (am_dp pw_X3_step_32 dd_X3_step_32b.2.2.2.2.2.1) rfl).to, ?_⟩
  refine List.forall_mem_cons.mpr ⟨(s_get (ci := 3) (k := 1) (am_dp pw_X3_step_32 dd_X3_step_32b.2.2.2.2.2.2.1) rfl (by decide) wd429 inX3 rfl).to, ?_⟩
  refine List.forall_mem_cons.mpr ⟨(s_aloadn (am_dp pw_X3_step_32 dd_X3_step_32b.2.2.2.2.2.2.2) rfl).to, ?_⟩
  refine List.forall_mem_cons.mpr ⟨(s_get (ci := 3) (k := 3) (am_dp pw_X3_step_32 dd_X3_step_32c) rfl (by decide) wd431 inX3 rfl).to, ?_⟩
  refine List.forall_mem_cons.mpr ⟨(s_iald (am_dp pw_X3_step_64 dd_X3_step_64a.1)).to, ?_⟩
  refine List.forall_mem_cons.mpr ⟨(s_bipush (am_dp pw_X3_step_64 dd_X3_step_64a.2.1) (by decide)).to, ?_⟩
  refine List.forall_mem_cons.mpr ⟨(s_icmp_ne (am_dp pw_X3_step_64 dd_X3_step_64a.2.2.1) (by decide)).to, ?_⟩
  refine List.forall_mem_cons.mpr ⟨(s_aloadn (am_dp pw_X3_step_64 dd_X3_step_64a.2.2.2.1) rfl).to, ?_⟩
  refine List.forall_mem_cons.mpr ⟨(s_dup (am_dp pw_X3_step_64 dd_X3_step_64a.2.2.2.2.1)).to, ?_⟩
  refine List.forall_mem_cons.mpr ⟨(s_get (ci := 3) (k := 3) (am_dp pw_X3_step_64 dd_X3_step_64a.2.2.2.2.2.1) rfl (by decide) wd431 inX3 rfl).to, ?_⟩
  refine List.forall_mem_cons.mpr ⟨(s_iconst (am_dp pw_X3_step_64 dd_X3_step_64a.2.2.2.2.2.2.1) (by decide)).to, ?_⟩
  refine List.forall_mem_cons.mpr ⟨(s_iadd (am_dp pw_X3_step_64 dd_X3_step_64a.2.2.2.2.2.2.2)).to, ?_⟩
  refine List.forall_mem_cons.mpr ⟨(s_put (ci := 3) (k := 3) (am_dp pw_X3_step_64 dd_X3_step_64b.1) rfl (by decide) wd431 inX3 tyX3_ok nmX3 rfl rfl).to, ?_⟩
  refine List.forall_mem_cons.mpr ⟨(s_goto (am_dp pw_X3_step_64 dd_X3_step_64b.2.1) (by decide)).to, ?_⟩
  refine List.forall_mem_cons.mpr ⟨(s_aloadn (am_dp pw_X3_step_64 dd_X3_step_64b.2.2.1) rfl).to, ?_⟩
  refine List.forall_mem_cons.mpr ⟨(s_aloadn (am_dp pw_X3_step_64 dd_X3_step_64b.2.2.2.1) rfl).to, ?_⟩
  refine List.forall_mem_cons.mpr ⟨(s_get (ci := 3) (k := 3) (am_dp pw_X3_step_64 dd_X3_step_64b.2.2.2.2.1) rfl (by decide) wd431 inX3 rfl).to, ?_⟩
  refine List.forall_mem_cons.mpr ⟨(s_put (ci := 3) (k := 7) (am_dp pw_X3_step_64 dd_X3_step_64b.2.2.2.2.2.1) rfl (by decide) wd439 inX3 tyX3_ok nmX3 rfl rfl).to, ?_⟩
  refine List.forall_mem_cons.mpr ⟨(s_aloadn (am_dp pw_X3_step_64 dd_X3_step_64b.2.2.2.2.2.2.1) rfl).to, ?_⟩
  refine List.forall_mem_cons.mpr ⟨(s_iconst (am_dp pw_X3_step_64 dd_X3_step_64b.2.2.2.2.2.2.2) (by decide)).to, ?_⟩
  refine List.forall_mem_cons.mpr ⟨(s_put (ci := 3) (k := 5) (am_dp pw_X3_step_64 dd_X3_step_64c) rfl (by decide) wd435 inX3 tyX3_ok nmX3 rfl rfl).to, ?_⟩
  refine List.forall_mem_cons.mpr ⟨(s_aloadn (am_dp pw_X3_step_96 dd_X3_step_96a.1) rfl).to, ?_⟩
  refine List.forall_mem_cons.mpr ⟨(s_iconst (am_dp pw_X3_step_96 dd_X3_step_96a.2.1) (by decide)).to, ?_⟩
  refine List.forall_mem_cons.mpr ⟨(s_put (ci := 3) (k := 6) (am_dp pw_X3_step_96 dd_X3_step_96a.2.2.1) rfl (by decide) wd438 inX3 tyX3_ok nmX3 rfl rfl).to, ?_⟩
  refine List.forall_mem_cons.mpr ⟨(s_aloadn (am_dp pw_X3_step_96 dd_X3_step_96a.2.2.2.1) rfl).to, ?_⟩
  refine List.forall_mem_cons.mpr ⟨(s_aloadn (am_dp pw_X3_step_96 dd_X3_step_96a.2.2.2.2.1) rfl).to, ?_⟩
  refine List.forall_mem_cons.mpr ⟨(s_get (ci := 3) (k := 3) (am_dp pw_X3_step_96 dd_X3_step_96a.2.2.2.2.2.1) rfl (by decide) wd431 inX3 rfl).to, ?_⟩
  refine List.forall_mem_cons.mpr ⟨(s_aloadn (am_dp pw_X3_step_96 dd_X3_step_96a.2.2.2.2.2.2.1) rfl).to, ?_⟩
  refine List.forall_mem_cons.mpr ⟨(s_get (ci := 3) (k := 2) (am_dp pw_X3_step_96 dd_X3_step_96a.2.2.2.2.2.2.2) rfl (by decide) wd430 inX3 rfl).to, ?_⟩
  refine List.forall_mem_cons.mpr ⟨(s_icmp_ge (am_dp pw_X3_step_96 dd_X3_step_96b.1) (by decide)).to, ?_⟩
  refine List.forall_mem_cons.mpr ⟨(s_aloadn (am_dp pw_X3_step_96 dd_X3_step_96b.2.1) rfl).to, ?_⟩
  exact fun _ h => absurd h List.not_mem_nil
theorem sn_tX3_step_1 : ∀ q ∈ tX3_step_1, am_Snd am_P0 RX3 cX3_step 3 (Option.none : Option FieldType) "step" q.1 q.2 := by
  unfold tX3_step_1
  refine List.forall_mem_cons.mpr ⟨(s_get (ci := 3) (k := 1) (am_dp pw_X3_step_96 dd_X3_step_96b.2.2.1) rfl (by decide) wd429 inX3 rfl).to, ?_⟩
  refine List.forall_mem_cons.mpr ⟨(s_aloadn (am_dp pw_X3_step_96 dd_X3_step_96b.2.2.2.1) rfl).to, ?_⟩
  refine List.forall_mem_cons.mpr ⟨(s_get (ci := 3) (k := 3) (am_dp pw_X3_step_96 dd_X3_step_96b.2.2.2.2.1) rfl (by decide) wd431 inX3 rfl).to, ?_⟩
  refine List.forall_mem_cons.mpr ⟨(s_iald (am_dp pw_X3_step_96 dd_X3_step_96b.2.2.2.2.2.1)).to, ?_⟩
  refine List.forall_mem_cons.mpr ⟨zw_cs37 (am_dp pw_X3_step_96 dd_X3_step_96b.2.2.2.2.2.2.1) wd666, ?_⟩
  refine List.forall_mem_cons.mpr ⟨(s_goto (am_dp pw_X3_step_96 dd_X3_step_96b.2.2.2.2.2.2.2) (by decide)).to, ?_⟩
  refine List.forall_mem_cons.mpr ⟨(s_iconst (am_dp pw_X3_step_128 dd_X3_step_128a.1) (by decide)).to, ?_⟩
  refine List.forall_mem_cons.mpr ⟨(s_put (ci := 3) (k := 4) (am_dp pw_X3_step_128 dd_X3_step_128a.2.1) rfl (by decide) wd432 inX3 tyX3_ok nmX3 rfl rfl).to, ?_⟩
  refine List.forall_mem_cons.mpr ⟨(s_aloadn (am_dp pw_X3_step_128 dd_X3_step_128a.2.2.1) rfl).to, ?_⟩
  refine List.forall_mem_cons.mpr ⟨(s_get (ci := 3) (k := 4) (am_dp pw_X3_step_128 dd_X3_step_128a.2.2.2.1) rfl (by decide) wd432 inX3 rfl).to, ?_⟩
  refine List.forall_mem_cons.mpr ⟨(s_if_ne (am_dp pw_X3_step_128 dd_X3_step_128a.2.2.2.2.1) (by decide)).to, ?_⟩
  refine List.forall_mem_cons.mpr ⟨s_vret (am_dp pw_X3_step_128 dd_X3_step_128a.2.2.2.2.2.1) rfl, ?_⟩
  refine List.forall_mem_cons.mpr ⟨(s_aloadn (am_dp pw_X3_step_128 dd_X3_step_128a.2.2.2.2.2.2.1) rfl).to, ?_⟩
  refine List.forall_mem_cons.mpr ⟨(s_get (ci := 3) (k := 4) (am_dp pw_X3_step_128 dd_X3_step_128a.2.2.2.2.2.2.2) rfl (by decide) wd432 inX3 rfl).to, ?_⟩
  refine List.forall_mem_cons.mpr ⟨(s_iconst (am_dp pw_X3_step_128 dd_X3_step_128b.1) (by decide)).to, ?_⟩
  refine List.forall_mem_cons.mpr ⟨(s_icmp_ne (am_dp pw_X3_step_128 dd_X3_step_128b.2.1) (by decide)).to, ?_⟩
  refine List.forall_mem_cons.mpr ⟨(s_aloadn (am_dp pw_X3_step_128 dd_X3_step_128b.2.2.1) rfl).to, ?_⟩
  refine List.forall_mem_cons.mpr ⟨(s_aloadn (am_dp pw_X3_step_128 dd_X3_step_128b.2.2.2.1) rfl).to, ?_⟩
  refine List.forall_mem_cons.mpr ⟨(s_get (ci := 3) (k := 1) (am_dp pw_X3_step_128 dd_X3_step_128b.2.2.2.2.1) rfl (by decide) wd429 inX3 rfl).to, ?_⟩
  refine List.forall_mem_cons.mpr ⟨(s_aloadn (am_dp pw_X3_step_128 dd_X3_step_128b.2.2.2.2.2.1) rfl).to, ?_⟩
  refine List.forall_mem_cons.mpr ⟨(s_get (ci := 3) (k := 3) (am_dp pw_X3_step_128 dd_X3_step_128b.2.2.2.2.2.2.1) rfl (by decide) wd431 inX3 rfl).to, ?_⟩
  refine List.forall_mem_cons.mpr ⟨(s_iald (am_dp pw_X3_step_128 dd_X3_step_128b.2.2.2.2.2.2.2)).to, ?_⟩
  refine List.forall_mem_cons.mpr ⟨(s_put (ci := 3) (k := 5) (am_dp pw_X3_step_160 dd_X3_step_160a.1) rfl (by decide) wd435 inX3 tyX3_ok nmX3 rfl rfl).to, ?_⟩
  refine List.forall_mem_cons.mpr ⟨(s_aloadn (am_dp pw_X3_step_160 dd_X3_step_160a.2.1) rfl).to, ?_⟩
  refine List.forall_mem_cons.mpr ⟨(s_dup (am_dp pw_X3_step_160 dd_X3_step_160a.2.2.1)).to, ?_⟩
  refine List.forall_mem_cons.mpr ⟨(s_get (ci := 3) (k := 3) (am_dp pw_X3_step_160 dd_X3_step_160a.2.2.2.1) rfl (by decide) wd431 inX3 rfl).to, ?_⟩
  refine List.forall_mem_cons.mpr ⟨(s_iconst (am_dp pw_X3_step_160 dd_X3_step_160a.2.2.2.2.1) (by decide)).to, ?_⟩
  refine List.forall_mem_cons.mpr ⟨(s_iadd (am_dp pw_X3_step_160 dd_X3_step_160a.2.2.2.2.2.1)).to, ?_⟩
  refine List.forall_mem_cons.mpr ⟨(s_put (ci := 3) (k := 3) (am_dp pw_X3_step_160 dd_X3_step_160a.2.2.2.2.2.2.1) rfl (by decide) wd431 inX3 tyX3_ok nmX3 rfl rfl).to, ?_⟩
  refine List.forall_mem_cons.mpr ⟨s_vret (am_dp pw_X3_step_160 dd_X3_step_160a.2.2.2.2.2.2.2) rfl, ?_⟩
  refine List.forall_mem_cons.mpr ⟨(s_aloadn (am_dp pw_X3_step_160 dd_X3_step_160b.1) rfl).to, ?_⟩
  refine List.forall_mem_cons.mpr ⟨(s_get (ci := 3) (k := 4) (am_dp pw_X3_step_160 dd_X3_step_160b.2.1) rfl (by decide) wd432 inX3 rfl).to, ?_⟩
  refine List.forall_mem_cons.mpr ⟨(s_iconst (am_dp pw_X3_step_160 dd_X3_step_160b.2.2.1) (by decide)).to, ?_⟩
  refine List.forall_mem_cons.mpr ⟨(s_icmp_ne (am_dp pw_X3_step_160 dd_X3_step_160b.2.2.2.1) (by decide)).to, ?_⟩
  refine List.forall_mem_cons.mpr ⟨(s_bipush (am_dp pw_X3_step_160 dd_X3_step_160b.2.2.2.2.1) (by decide)).to, ?_⟩
  refine List.forall_mem_cons.mpr ⟨(s_goto (am_dp pw_X3_step_160 dd_X3_step_160b.2.2.2.2.2.1) (by decide)).to, ?_⟩
  refine List.forall_mem_cons.mpr ⟨(s_iconst (am_dp pw_X3_step_160 dd_X3_step_160b.2.2.2.2.2.2.1) (by decide)).to, ?_⟩
  refine List.forall_mem_cons.mpr ⟨(s_istoren (am_dp pw_X3_step_160 dd_X3_step_160b.2.2.2.2.2.2.2) rfl (by decide)).to, ?_⟩
  refine List.forall_mem_cons.mpr ⟨(s_aloadn (am_dp pw_X3_step_160 dd_X3_step_160c.1) rfl).to, ?_⟩
  refine List.forall_mem_cons.mpr ⟨(s_get (ci := 3) (k := 3) (am_dp pw_X3_step_160 dd_X3_step_160c.2) rfl (by decide) wd431 inX3 rfl).to, ?_⟩
  refine List.forall_mem_cons.mpr ⟨(s_aloadn (am_dp pw_X3_step_192 dd_X3_step_192a.1) rfl).to, ?_⟩
  refine List.forall_mem_cons.mpr ⟨(s_get (ci := 3) (k := 2) (am_dp pw_X3_step_192 dd_X3_step_192a.2.1) rfl (by decide) wd430 inX3 rfl).to, ?_⟩
  refine List.forall_mem_cons.mpr ⟨(s_icmp_ge (am_dp pw_X3_step_192 dd_X3_step_192a.2.2.1) (by decide)).to, ?_⟩
  refine List.forall_mem_cons.mpr ⟨(s_aloadn (am_dp pw_X3_step_192 dd_X3_step_192a.2.2.2.1) rfl).to, ?_⟩
  refine List.forall_mem_cons.mpr ⟨(s_get (ci := 3) (k := 1) (am_dp pw_X3_step_192 dd_X3_step_192a.2.2.2.2.1) rfl (by decide) wd429 inX3 rfl).to, ?_⟩
  refine List.forall_mem_cons.mpr ⟨(s_aloadn (am_dp pw_X3_step_192 dd_X3_step_192a.2.2.2.2.2.1) rfl).to, ?_⟩
  refine List.forall_mem_cons.mpr ⟨(s_get (ci := 3) (k := 3) (am_dp pw_X3_step_192 dd_X3_step_192a.2.2.2.2.2.2.1) rfl (by decide) wd431 inX3 rfl).to, ?_⟩
  refine List.forall_mem_cons.mpr ⟨(s_iald (am_dp pw_X3_step_192 dd_X3_step_192a.2.2.2.2.2.2.2)).to, ?_⟩
  refine List.forall_mem_cons.mpr ⟨zw_cs37 (am_dp pw_X3_step_192 dd_X3_step_192b.1) wd666, ?_⟩
  refine List.forall_mem_cons.mpr ⟨(s_aloadn (am_dp pw_X3_step_192 dd_X3_step_192b.2.1) rfl).to, ?_⟩
  refine List.forall_mem_cons.mpr ⟨(s_get (ci := 3) (k := 4) (am_dp pw_X3_step_192 dd_X3_step_192b.2.2.1) rfl (by decide) wd432 inX3 rfl).to, ?_⟩
  refine List.forall_mem_cons.mpr ⟨(s_icmp_ne (am_dp pw_X3_step_192 dd_X3_step_192b.2.2.2.1) (by decide)).to, ?_⟩
  refine List.forall_mem_cons.mpr ⟨(s_aloadn (am_dp pw_X3_step_192 dd_X3_step_192b.2.2.2.2.1) rfl).to, ?_⟩
  refine List.forall_mem_cons.mpr ⟨(s_get (ci := 3) (k := 3) (am_dp pw_X3_step_192 dd_X3_step_192b.2.2.2.2.2.1) rfl (by decide) wd431 inX3 rfl).to, ?_⟩
  refine List.forall_mem_cons.mpr ⟨(s_aloadn (am_dp pw_X3_step_192 dd_X3_step_192b.2.2.2.2.2.2) rfl).to, ?_⟩
  refine List.forall_mem_cons.mpr ⟨(s_get (ci := 3) (k := 7) (am_dp pw_X3_step_224 dd_X3_step_224a.1) rfl (by decide) wd439 inX3 rfl).to, ?_⟩
  refine List.forall_mem_cons.mpr ⟨(s_isub (am_dp pw_X3_step_224 dd_X3_step_224a.2.1)).to, ?_⟩
  refine List.forall_mem_cons.mpr ⟨(s_iloadn (am_dp pw_X3_step_224 dd_X3_step_224a.2.2.1) rfl).to, ?_⟩
  refine List.forall_mem_cons.mpr ⟨(s_icmp_lt (am_dp pw_X3_step_224 dd_X3_step_224a.2.2.2.1) (by decide)).to, ?_⟩
  refine List.forall_mem_cons.mpr ⟨(s_aloadn (am_dp pw_X3_step_224 dd_X3_step_224a.2.2.2.2.1) rfl).to, ?_⟩
  exact fun _ h => absurd h List.not_mem_nil
theorem sn_tX3_step_2 : ∀ q ∈ tX3_step_2, am_Snd am_P0 RX3 cX3_step 3 (Option.none : Option FieldType) "step" q.1 q.2 := by
  unfold tX3_step_2
  refine List.forall_mem_cons.mpr ⟨(s_iconst (am_dp pw_X3_step_224 dd_X3_step_224a.2.2.2.2.2.1) (by decide)).to, ?_⟩
  refine List.forall_mem_cons.mpr ⟨(s_aloadn (am_dp pw_X3_step_224 dd_X3_step_224a.2.2.2.2.2.2.1) rfl).to, ?_⟩
  refine List.forall_mem_cons.mpr ⟨(s_get (ci := 3) (k := 3) (am_dp pw_X3_step_224 dd_X3_step_224a.2.2.2.2.2.2.2) rfl (by decide) wd431 inX3 rfl).to, ?_⟩
  refine List.forall_mem_cons.mpr ⟨zw_cv38 (am_dp pw_X3_step_224 dd_X3_step_224b.1) wd669, ?_⟩
  refine List.forall_mem_cons.mpr ⟨s_vret (am_dp pw_X3_step_224 dd_X3_step_224b.2.1) rfl, ?_⟩
  refine List.forall_mem_cons.mpr ⟨(s_aloadn (am_dp pw_X3_step_224 dd_X3_step_224b.2.2.1) rfl).to, ?_⟩
  refine List.forall_mem_cons.mpr ⟨(s_aloadn (am_dp pw_X3_step_224 dd_X3_step_224b.2.2.2.1) rfl).to, ?_⟩
  refine List.forall_mem_cons.mpr ⟨(s_get (ci := 3) (k := 4) (am_dp pw_X3_step_224 dd_X3_step_224b.2.2.2.2.1) rfl (by decide) wd432 inX3 rfl).to, ?_⟩
  refine List.forall_mem_cons.mpr ⟨(s_iconst (am_dp pw_X3_step_224 dd_X3_step_224b.2.2.2.2.2.1) (by decide)).to, ?_⟩
  refine List.forall_mem_cons.mpr ⟨(s_icmp_ne (am_dp pw_X3_step_224 dd_X3_step_224b.2.2.2.2.2.2.1) (by decide)).to, ?_⟩
  refine List.forall_mem_cons.mpr ⟨(s_aloadn (am_dp pw_X3_step_224 dd_X3_step_224b.2.2.2.2.2.2.2) rfl).to, ?_⟩
  refine List.forall_mem_cons.mpr ⟨(s_get (ci := 3) (k := 5) (am_dp pw_X3_step_224 dd_X3_step_224c.1) rfl (by decide) wd435 inX3 rfl).to, ?_⟩
  refine List.forall_mem_cons.mpr ⟨(s_bipush (am_dp pw_X3_step_224 dd_X3_step_224c.2) (by decide)).to, ?_⟩
  refine List.forall_mem_cons.mpr ⟨(s_imul (am_dp pw_X3_step_256 dd_X3_step_256a.1)).to, ?_⟩
  refine List.forall_mem_cons.mpr ⟨(s_aloadn (am_dp pw_X3_step_256 dd_X3_step_256a.2.1) rfl).to, ?_⟩
  refine List.forall_mem_cons.mpr ⟨(s_get (ci := 3) (k := 1) (am_dp pw_X3_step_256 dd_X3_step_256a.2.2.1) rfl (by decide) wd429 inX3 rfl).to, ?_⟩
  refine List.forall_mem_cons.mpr ⟨(s_aloadn (am_dp pw_X3_step_256 dd_X3_step_256a.2.2.2.1) rfl).to, ?_⟩
  refine List.forall_mem_cons.mpr ⟨(s_get (ci := 3) (k := 3) (am_dp pw_X3_step_256 dd_X3_step_256a.2.2.2.2.1) rfl (by decide) wd431 inX3 rfl).to, ?_⟩
  refine List.forall_mem_cons.mpr ⟨(s_iald (am_dp pw_X3_step_256 dd_X3_step_256a.2.2.2.2.2.1)).to, ?_⟩
  refine List.forall_mem_cons.mpr ⟨(s_iadd (am_dp pw_X3_step_256 dd_X3_step_256a.2.2.2.2.2.2.1)).to, ?_⟩
  refine List.forall_mem_cons.mpr ⟨(s_bipush (am_dp pw_X3_step_256 dd_X3_step_256a.2.2.2.2.2.2.2) (by decide)).to, ?_⟩
  refine List.forall_mem_cons.mpr ⟨(s_isub (am_dp pw_X3_step_256 dd_X3_step_256b.1)).to, ?_⟩
  refine List.forall_mem_cons.mpr ⟨(s_goto (am_dp pw_X3_step_256 dd_X3_step_256b.2.1) (by decide)).to, ?_⟩
  refine List.forall_mem_cons.mpr ⟨(s_aloadn (am_dp pw_X3_step_256 dd_X3_step_256b.2.2.1) rfl).to, ?_⟩
  refine List.forall_mem_cons.mpr ⟨(s_get (ci := 3) (k := 5) (am_dp pw_X3_step_256 dd_X3_step_256b.2.2.2.1) rfl (by decide) wd435 inX3 rfl).to, ?_⟩
  refine List.forall_mem_cons.mpr ⟨(s_aloadn (am_dp pw_X3_step_256 dd_X3_step_256b.2.2.2.2.1) rfl).to, ?_⟩
  refine List.forall_mem_cons.mpr ⟨(s_get (ci := 3) (k := 1) (am_dp pw_X3_step_256 dd_X3_step_256b.2.2.2.2.2.1) rfl (by decide) wd429 inX3 rfl).to, ?_⟩
  refine List.forall_mem_cons.mpr ⟨(s_aloadn (am_dp pw_X3_step_256 dd_X3_step_256b.2.2.2.2.2.2.1) rfl).to, ?_⟩
  refine List.forall_mem_cons.mpr ⟨(s_get (ci := 3) (k := 3) (am_dp pw_X3_step_256 dd_X3_step_256b.2.2.2.2.2.2.2) rfl (by decide) wd431 inX3 rfl).to, ?_⟩
  refine List.forall_mem_cons.mpr ⟨(s_iald (am_dp pw_X3_step_256 dd_X3_step_256c.1)).to, ?_⟩
  refine List.forall_mem_cons.mpr ⟨(s_bipush (am_dp pw_X3_step_256 dd_X3_step_256c.2) (by decide)).to, ?_⟩
  refine List.forall_mem_cons.mpr ⟨(s_isub (am_dp pw_X3_step_288 dd_X3_step_288a.1)).to, ?_⟩
  refine List.forall_mem_cons.mpr ⟨(s_iconst (am_dp pw_X3_step_288 dd_X3_step_288a.2.1) (by decide)).to, ?_⟩
  refine List.forall_mem_cons.mpr ⟨(s_aloadn (am_dp pw_X3_step_288 dd_X3_step_288a.2.2.1) rfl).to, ?_⟩
  refine List.forall_mem_cons.mpr ⟨(s_get (ci := 3) (k := 3) (am_dp pw_X3_step_288 dd_X3_step_288a.2.2.2.1) rfl (by decide) wd431 inX3 rfl).to, ?_⟩
  refine List.forall_mem_cons.mpr ⟨(s_aloadn (am_dp pw_X3_step_288 dd_X3_step_288a.2.2.2.2.1) rfl).to, ?_⟩
  refine List.forall_mem_cons.mpr ⟨(s_get (ci := 3) (k := 7) (am_dp pw_X3_step_288 dd_X3_step_288a.2.2.2.2.2.1) rfl (by decide) wd439 inX3 rfl).to, ?_⟩
  refine List.forall_mem_cons.mpr ⟨(s_isub (am_dp pw_X3_step_288 dd_X3_step_288a.2.2.2.2.2.2.1)).to, ?_⟩
  refine List.forall_mem_cons.mpr ⟨(s_imul (am_dp pw_X3_step_288 dd_X3_step_288a.2.2.2.2.2.2.2)).to, ?_⟩
  refine List.forall_mem_cons.mpr ⟨(s_ishl (am_dp pw_X3_step_288 dd_X3_step_288b.1)).to, ?_⟩
  refine List.forall_mem_cons.mpr ⟨(s_ior (am_dp pw_X3_step_288 dd_X3_step_288b.2.1)).to, ?_⟩
  refine List.forall_mem_cons.mpr ⟨(s_put (ci := 3) (k := 5) (am_dp pw_X3_step_288 dd_X3_step_288b.2.2.1) rfl (by decide) wd435 inX3 tyX3_ok nmX3 rfl rfl).to, ?_⟩
  refine List.forall_mem_cons.mpr ⟨(s_aloadn (am_dp pw_X3_step_288 dd_X3_step_288b.2.2.2.1) rfl).to, ?_⟩
  refine List.forall_mem_cons.mpr ⟨(s_dup (am_dp pw_X3_step_288 dd_X3_step_288b.2.2.2.2.1)).to, ?_⟩
  refine List.forall_mem_cons.mpr ⟨(s_get (ci := 3) (k := 3) (am_dp pw_X3_step_288 dd_X3_step_288b.2.2.2.2.2.1) rfl (by decide) wd431 inX3 rfl).to, ?_⟩
  refine List.forall_mem_cons.mpr ⟨(s_iconst (am_dp pw_X3_step_288 dd_X3_step_288b.2.2.2.2.2.2.1) (by decide)).to, ?_⟩
  refine List.forall_mem_cons.mpr ⟨(s_iadd (am_dp pw_X3_step_288 dd_X3_step_288b.2.2.2.2.2.2.2)).to, ?_⟩
  refine List.forall_mem_cons.mpr ⟨(s_put (ci := 3) (k := 3) (am_dp pw_X3_step_288 dd_X3_step_288c.1) rfl (by decide) wd431 inX3 tyX3_ok nmX3 rfl rfl).to, ?_⟩
  refine List.forall_mem_cons.mpr ⟨(s_goto (am_dp pw_X3_step_288 dd_X3_step_288c.2.1) (by decide)).to, ?_⟩
  refine List.forall_mem_cons.mpr ⟨(s_aloadn (am_dp pw_X3_step_288 dd_X3_step_288c.2.2) rfl).to, ?_⟩
  refine List.forall_mem_cons.mpr ⟨(s_get (ci := 3) (k := 7) (am_dp pw_X3_step_320 dd_X3_step_320a.1) rfl (by decide) wd439 inX3 rfl).to, ?_⟩
  refine List.forall_mem_cons.mpr ⟨(s_iloadn (am_dp pw_X3_step_320 dd_X3_step_320a.2.1) rfl).to, ?_⟩
  refine List.forall_mem_cons.mpr ⟨(s_icmp_ne (am_dp pw_X3_step_320 dd_X3_step_320a.2.2.1) (by decide)).to, ?_⟩
  refine List.forall_mem_cons.mpr ⟨(s_aloadn (am_dp pw_X3_step_320 dd_X3_step_320a.2.2.2.1) rfl).to, ?_⟩
  refine List.forall_mem_cons.mpr ⟨(s_iconst (am_dp pw_X3_step_320 dd_X3_step_320a.2.2.2.2.1) (by decide)).to, ?_⟩
  refine List.forall_mem_cons.mpr ⟨(s_aloadn (am_dp pw_X3_step_320 dd_X3_step_320a.2.2.2.2.2.1) rfl).to, ?_⟩
  refine List.forall_mem_cons.mpr ⟨(s_get (ci := 3) (k := 7) (am_dp pw_X3_step_320 dd_X3_step_320a.2.2.2.2.2.2.1) rfl (by decide) wd439 inX3 rfl).to, ?_⟩
  refine List.forall_mem_cons.mpr ⟨zw_cv38 (am_dp pw_X3_step_320 dd_X3_step_320a.2.2.2.2.2.2.2) wd669, ?_⟩
  refine List.forall_mem_cons.mpr ⟨s_vret (am_dp pw_X3_step_320 dd_X3_step_320b.1) rfl, ?_⟩
  refine List.forall_mem_cons.mpr ⟨(s_aloadn (am_dp pw_X3_step_320 dd_X3_step_320b.2.1) rfl).to, ?_⟩
  exact fun _ h => absurd h List.not_mem_nil
theorem sn_tX3_step_3 : ∀ q ∈ tX3_step_3, am_Snd am_P0 RX3 cX3_step 3 (Option.none : Option FieldType) "step" q.1 q.2 := by
  unfold tX3_step_3
  refine List.forall_mem_cons.mpr ⟨(s_aloadn (am_dp pw_X3_step_320 dd_X3_step_320b.2.2.1) rfl).to, ?_⟩
  refine List.forall_mem_cons.mpr ⟨(s_get (ci := 3) (k := 4) (am_dp pw_X3_step_320 dd_X3_step_320b.2.2.2.1) rfl (by decide) wd432 inX3 rfl).to, ?_⟩
  refine List.forall_mem_cons.mpr ⟨(s_iconst (am_dp pw_X3_step_320 dd_X3_step_320b.2.2.2.2.1) (by decide)).to, ?_⟩
  refine List.forall_mem_cons.mpr ⟨(s_icmp_ne (am_dp pw_X3_step_320 dd_X3_step_320b.2.2.2.2.2.1) (by decide)).to, ?_⟩
  refine List.forall_mem_cons.mpr ⟨(s_aloadn (am_dp pw_X3_step_320 dd_X3_step_320b.2.2.2.2.2.2.1) rfl).to, ?_⟩
  refine List.forall_mem_cons.mpr ⟨(s_aloadn (am_dp pw_X3_step_320 dd_X3_step_320b.2.2.2.2.2.2.2) rfl).to, ?_⟩
  refine List.forall_mem_cons.mpr ⟨(s_get (ci := 3) (k := 5) (am_dp pw_X3_step_320 dd_X3_step_320c.1) rfl (by decide) wd435 inX3 rfl).to, ?_⟩
  refine List.forall_mem_cons.mpr ⟨zw_cv36 (am_dp pw_X3_step_320 dd_X3_step_320c.2) wd673, ?_⟩
  refine List.forall_mem_cons.mpr ⟨(s_goto (am_dp pw_X3_step_352 dd_X3_step_352a.1) (by decide)).to, ?_⟩
  refine List.forall_mem_cons.mpr ⟨(s_iconst (am_dp pw_X3_step_352 dd_X3_step_352a.2.1) (by decide)).to, ?_⟩
  refine List.forall_mem_cons.mpr ⟨(s_put (ci := 3) (k := 6) (am_dp pw_X3_step_352 dd_X3_step_352a.2.2.1) rfl (by decide) wd438 inX3 tyX3_ok nmX3 rfl rfl).to, ?_⟩
  refine List.forall_mem_cons.mpr ⟨s_vret (am_dp pw_X3_step_352 dd_X3_step_352a.2.2.2) rfl, ?_⟩
  exact fun _ h => absurd h List.not_mem_nil
theorem sn_tX3_step : ∀ q ∈ tX3_step, am_Snd am_P0 RX3 cX3_step 3 (Option.none : Option FieldType) "step" q.1 q.2 := by
  unfold tX3_step
  exact List.forall_mem_append.mpr ⟨List.forall_mem_append.mpr ⟨List.forall_mem_append.mpr ⟨sn_tX3_step_0, sn_tX3_step_1⟩, sn_tX3_step_2⟩, sn_tX3_step_3⟩
theorem sn_tX3_ownWord : ∀ q ∈ tX3_ownWord, am_Snd am_P0 RX3 cX3_ownWord 3 (Option.some FieldType.int) "ownWord" q.1 q.2 := by
  unfold tX3_ownWord
  refine List.forall_mem_cons.mpr ⟨(s_iconst (am_dp pw_X3_ownWord_0 dd_X3_ownWord_0a.1) (by decide)).to, ?_⟩
  refine List.forall_mem_cons.mpr ⟨(s_istoren (am_dp pw_X3_ownWord_0 dd_X3_ownWord_0a.2.1) rfl (by decide)).to, ?_⟩
  refine List.forall_mem_cons.mpr ⟨(s_iloadn (am_dp pw_X3_ownWord_0 dd_X3_ownWord_0a.2.2.1) rfl).to, ?_⟩
  refine List.forall_mem_cons.mpr ⟨(s_bipush (am_dp pw_X3_ownWord_0 dd_X3_ownWord_0a.2.2.2.1) (by decide)).to, ?_⟩
  refine List.forall_mem_cons.mpr ⟨(s_icmp_ge (am_dp pw_X3_ownWord_0 dd_X3_ownWord_0a.2.2.2.2.1) (by decide)).to, ?_⟩
  refine List.forall_mem_cons.mpr ⟨(s_aloadn (am_dp pw_X3_ownWord_0 dd_X3_ownWord_0a.2.2.2.2.2.1) rfl).to, ?_⟩
  refine List.forall_mem_cons.mpr ⟨(s_get (ci := 3) (k := 0) (am_dp pw_X3_ownWord_0 dd_X3_ownWord_0a.2.2.2.2.2.2.1) rfl (by decide) wd428 inX3 rfl).to, ?_⟩
  refine List.forall_mem_cons.mpr ⟨(s_iloadn (am_dp pw_X3_ownWord_0 dd_X3_ownWord_0a.2.2.2.2.2.2.2) rfl).to, ?_⟩
  refine List.forall_mem_cons.mpr ⟨(s_iald (am_dp pw_X3_ownWord_0 dd_X3_ownWord_0b.1)).to, ?_⟩
  refine List.forall_mem_cons.mpr ⟨(s_iloadn (am_dp pw_X3_ownWord_0 dd_X3_ownWord_0b.2.1) rfl).to, ?_⟩
  refine List.forall_mem_cons.mpr ⟨(s_icmp_ne (am_dp pw_X3_ownWord_0 dd_X3_ownWord_0b.2.2.1) (by decide)).to, ?_⟩
  refine List.forall_mem_cons.mpr ⟨(s_iloadn (am_dp pw_X3_ownWord_0 dd_X3_ownWord_0b.2.2.2.1) rfl).to, ?_⟩
  refine List.forall_mem_cons.mpr ⟨s_iret (am_dp pw_X3_ownWord_0 dd_X3_ownWord_0b.2.2.2.2.1) rfl, ?_⟩
  refine List.forall_mem_cons.mpr ⟨(s_iinc (am_dp pw_X3_ownWord_0 dd_X3_ownWord_0b.2.2.2.2.2.1) (by decide) (by decide)).to, ?_⟩
  refine List.forall_mem_cons.mpr ⟨(s_goto (am_dp pw_X3_ownWord_0 dd_X3_ownWord_0b.2.2.2.2.2.2.1) (by decide)).to, ?_⟩
  refine List.forall_mem_cons.mpr ⟨(s_iconst (am_dp pw_X3_ownWord_0 dd_X3_ownWord_0b.2.2.2.2.2.2.2) (by decide)).to, ?_⟩
  refine List.forall_mem_cons.mpr ⟨s_iret (am_dp pw_X3_ownWord_0 dd_X3_ownWord_0c) rfl, ?_⟩
  exact fun _ h => absurd h List.not_mem_nil
theorem sn_tX3_kindOf : ∀ q ∈ tX3_kindOf, am_Snd am_P0 RX3 cX3_kindOf 1 (Option.some FieldType.int) "kindOf" q.1 q.2 := by
  unfold tX3_kindOf
  refine List.forall_mem_cons.mpr ⟨(s_iloadn (am_dp pw_X3_kindOf_0 dd_X3_kindOf_0a.1) rfl).to, ?_⟩
  refine List.forall_mem_cons.mpr ⟨(s_bipush (am_dp pw_X3_kindOf_0 dd_X3_kindOf_0a.2.1) (by decide)).to, ?_⟩
  refine List.forall_mem_cons.mpr ⟨(s_icmp_lt (am_dp pw_X3_kindOf_0 dd_X3_kindOf_0a.2.2.1) (by decide)).to, ?_⟩
  refine List.forall_mem_cons.mpr ⟨(s_iloadn (am_dp pw_X3_kindOf_0 dd_X3_kindOf_0a.2.2.2.1) rfl).to, ?_⟩
  refine List.forall_mem_cons.mpr ⟨(s_bipush (am_dp pw_X3_kindOf_0 dd_X3_kindOf_0a.2.2.2.2.1) (by decide)).to, ?_⟩
  refine List.forall_mem_cons.mpr ⟨(s_icmp_gt (am_dp pw_X3_kindOf_0 dd_X3_kindOf_0a.2.2.2.2.2.1) (by decide)).to, ?_⟩
  refine List.forall_mem_cons.mpr ⟨(s_iconst (am_dp pw_X3_kindOf_0 dd_X3_kindOf_0a.2.2.2.2.2.2.1) (by decide)).to, ?_⟩
  refine List.forall_mem_cons.mpr ⟨s_iret (am_dp pw_X3_kindOf_0 dd_X3_kindOf_0a.2.2.2.2.2.2.2) rfl, ?_⟩
  refine List.forall_mem_cons.mpr ⟨(s_iloadn (am_dp pw_X3_kindOf_0 dd_X3_kindOf_0b.1) rfl).to, ?_⟩
  refine List.forall_mem_cons.mpr ⟨(s_bipush (am_dp pw_X3_kindOf_0 dd_X3_kindOf_0b.2.1) (by decide)).to, ?_⟩
  refine List.forall_mem_cons.mpr ⟨(s_icmp_lt (am_dp pw_X3_kindOf_0 dd_X3_kindOf_0b.2.2.1) (by decide)).to, ?_⟩
  refine List.forall_mem_cons.mpr ⟨(s_iloadn (am_dp pw_X3_kindOf_0 dd_X3_kindOf_0b.2.2.2.1) rfl).to, ?_⟩
  refine List.forall_mem_cons.mpr ⟨(s_bipush (am_dp pw_X3_kindOf_0 dd_X3_kindOf_0b.2.2.2.2.1) (by decide)).to, ?_⟩
  refine List.forall_mem_cons.mpr ⟨(s_icmp_gt (am_dp pw_X3_kindOf_0 dd_X3_kindOf_0b.2.2.2.2.2.1) (by decide)).to, ?_⟩
  refine List.forall_mem_cons.mpr ⟨(s_iconst (am_dp pw_X3_kindOf_0 dd_X3_kindOf_0b.2.2.2.2.2.2.1) (by decide)).to, ?_⟩
  refine List.forall_mem_cons.mpr ⟨(s_goto (am_dp pw_X3_kindOf_0 dd_X3_kindOf_0b.2.2.2.2.2.2.2) (by decide)).to, ?_⟩
  refine List.forall_mem_cons.mpr ⟨(s_iconst (am_dp pw_X3_kindOf_0 dd_X3_kindOf_0c.1) (by decide)).to, ?_⟩
  refine List.forall_mem_cons.mpr ⟨s_iret (am_dp pw_X3_kindOf_0 dd_X3_kindOf_0c.2) rfl, ?_⟩
  exact fun _ h => absurd h List.not_mem_nil
theorem sn_tX3_refuseAt : ∀ q ∈ tX3_refuseAt, am_Snd am_P0 RX3 cX3_refuseAt 3 (Option.none : Option FieldType) "refuseAt" q.1 q.2 := by
  unfold tX3_refuseAt
  refine List.forall_mem_cons.mpr ⟨(s_aloadn (am_dp pw_X3_refuseAt_0 dd_X3_refuseAt_0a.1) rfl).to, ?_⟩
  refine List.forall_mem_cons.mpr ⟨(s_get (ci := 3) (k := 8) (am_dp pw_X3_refuseAt_0 dd_X3_refuseAt_0a.2.1) rfl (by decide) wd440 inX3 rfl).to, ?_⟩
  refine List.forall_mem_cons.mpr ⟨(s_if_ne (am_dp pw_X3_refuseAt_0 dd_X3_refuseAt_0a.2.2.1) (by decide)).to, ?_⟩
  refine List.forall_mem_cons.mpr ⟨(s_aloadn (am_dp pw_X3_refuseAt_0 dd_X3_refuseAt_0a.2.2.2.1) rfl).to, ?_⟩
  refine List.forall_mem_cons.mpr ⟨(s_iloadn (am_dp pw_X3_refuseAt_0 dd_X3_refuseAt_0a.2.2.2.2.1) rfl).to, ?_⟩
  refine List.forall_mem_cons.mpr ⟨(s_put (ci := 3) (k := 8) (am_dp pw_X3_refuseAt_0 dd_X3_refuseAt_0a.2.2.2.2.2.1) rfl (by decide) wd440 inX3 tyX3_ok nmX3 rfl rfl).to, ?_⟩
  refine List.forall_mem_cons.mpr ⟨(s_aloadn (am_dp pw_X3_refuseAt_0 dd_X3_refuseAt_0a.2.2.2.2.2.2.1) rfl).to, ?_⟩
  refine List.forall_mem_cons.mpr ⟨(s_iloadn (am_dp pw_X3_refuseAt_0 dd_X3_refuseAt_0a.2.2.2.2.2.2.2) rfl).to, ?_⟩
  refine List.forall_mem_cons.mpr ⟨(s_put (ci := 3) (k := 9) (am_dp pw_X3_refuseAt_0 dd_X3_refuseAt_0b.1) rfl (by decide) wd443 inX3 tyX3_ok nmX3 rfl rfl).to, ?_⟩
  refine List.forall_mem_cons.mpr ⟨(s_aloadn (am_dp pw_X3_refuseAt_0 dd_X3_refuseAt_0b.2.1) rfl).to, ?_⟩
  refine List.forall_mem_cons.mpr ⟨(s_iconst (am_dp pw_X3_refuseAt_0 dd_X3_refuseAt_0b.2.2.1) (by decide)).to, ?_⟩
  refine List.forall_mem_cons.mpr ⟨(s_put (ci := 3) (k := 4) (am_dp pw_X3_refuseAt_0 dd_X3_refuseAt_0b.2.2.2.1) rfl (by decide) wd432 inX3 tyX3_ok nmX3 rfl rfl).to, ?_⟩
  refine List.forall_mem_cons.mpr ⟨(s_aloadn (am_dp pw_X3_refuseAt_0 dd_X3_refuseAt_0b.2.2.2.2.1) rfl).to, ?_⟩
  refine List.forall_mem_cons.mpr ⟨(s_iconst (am_dp pw_X3_refuseAt_0 dd_X3_refuseAt_0b.2.2.2.2.2.1) (by decide)).to, ?_⟩
  refine List.forall_mem_cons.mpr ⟨(s_put (ci := 3) (k := 6) (am_dp pw_X3_refuseAt_0 dd_X3_refuseAt_0b.2.2.2.2.2.2.1) rfl (by decide) wd438 inX3 tyX3_ok nmX3 rfl rfl).to, ?_⟩
  refine List.forall_mem_cons.mpr ⟨s_vret (am_dp pw_X3_refuseAt_0 dd_X3_refuseAt_0b.2.2.2.2.2.2.2) rfl, ?_⟩
  exact fun _ h => absurd h List.not_mem_nil
theorem sn_tX3_refuse : ∀ q ∈ tX3_refuse, am_Snd am_P0 RX3 cX3_refuse 2 (Option.none : Option FieldType) "refuse" q.1 q.2 := by
  unfold tX3_refuse
  refine List.forall_mem_cons.mpr ⟨(s_aloadn (am_dp pw_X3_refuse_0 dd_X3_refuse_0a.1) rfl).to, ?_⟩
  refine List.forall_mem_cons.mpr ⟨(s_iloadn (am_dp pw_X3_refuse_0 dd_X3_refuse_0a.2.1) rfl).to, ?_⟩
  refine List.forall_mem_cons.mpr ⟨(s_aloadn (am_dp pw_X3_refuse_0 dd_X3_refuse_0a.2.2.1) rfl).to, ?_⟩
  refine List.forall_mem_cons.mpr ⟨(s_get (ci := 3) (k := 7) (am_dp pw_X3_refuse_0 dd_X3_refuse_0a.2.2.2.1) rfl (by decide) wd439 inX3 rfl).to, ?_⟩
  refine List.forall_mem_cons.mpr ⟨zw_cv38 (am_dp pw_X3_refuse_0 dd_X3_refuse_0a.2.2.2.2.1) wd669, ?_⟩
  refine List.forall_mem_cons.mpr ⟨s_vret (am_dp pw_X3_refuse_0 dd_X3_refuse_0a.2.2.2.2.2) rfl, ?_⟩
  exact fun _ h => absurd h List.not_mem_nil
theorem sn_tX3_isSign : ∀ q ∈ tX3_isSign, am_Snd am_P0 RX3 cX3_isSign 2 (Option.some FieldType.boolean) "isSign" q.1 q.2 := by
  unfold tX3_isSign
  refine List.forall_mem_cons.mpr ⟨(s_aloadn (am_dp pw_X3_isSign_0 dd_X3_isSign_0a.1) rfl).to, ?_⟩
  refine List.forall_mem_cons.mpr ⟨(s_get (ci := 3) (k := 4) (am_dp pw_X3_isSign_0 dd_X3_isSign_0a.2.1) rfl (by decide) wd432 inX3 rfl).to, ?_⟩
  refine List.forall_mem_cons.mpr ⟨(s_iconst (am_dp pw_X3_isSign_0 dd_X3_isSign_0a.2.2.1) (by decide)).to, ?_⟩
  refine List.forall_mem_cons.mpr ⟨(s_icmp_ne (am_dp pw_X3_isSign_0 dd_X3_isSign_0a.2.2.2.1) (by decide)).to, ?_⟩
  refine List.forall_mem_cons.mpr ⟨(s_aloadn (am_dp pw_X3_isSign_0 dd_X3_isSign_0a.2.2.2.2.1) rfl).to, ?_⟩
  refine List.forall_mem_cons.mpr ⟨(s_get (ci := 3) (k := 5) (am_dp pw_X3_isSign_0 dd_X3_isSign_0a.2.2.2.2.2.1) rfl (by decide) wd435 inX3 rfl).to, ?_⟩
  refine List.forall_mem_cons.mpr ⟨(s_iloadn (am_dp pw_X3_isSign_0 dd_X3_isSign_0a.2.2.2.2.2.2.1) rfl).to, ?_⟩
  refine List.forall_mem_cons.mpr ⟨(s_icmp_ne (am_dp pw_X3_isSign_0 dd_X3_isSign_0a.2.2.2.2.2.2.2) (by decide)).to, ?_⟩
  refine List.forall_mem_cons.mpr ⟨(s_iconst (am_dp pw_X3_isSign_0 dd_X3_isSign_0b.1) (by decide)).to, ?_⟩
  refine List.forall_mem_cons.mpr ⟨(s_goto (am_dp pw_X3_isSign_0 dd_X3_isSign_0b.2.1) (by decide)).to, ?_⟩
  refine List.forall_mem_cons.mpr ⟨(s_iconst (am_dp pw_X3_isSign_0 dd_X3_isSign_0b.2.2.1) (by decide)).to, ?_⟩
  refine List.forall_mem_cons.mpr ⟨s_zret (am_dp pw_X3_isSign_0 dd_X3_isSign_0b.2.2.2) rfl, ?_⟩
  exact fun _ h => absurd h List.not_mem_nil
theorem sn_tX3_takeSign : ∀ q ∈ tX3_takeSign, am_Snd am_P0 RX3 cX3_takeSign 2 (Option.none : Option FieldType) "takeSign" q.1 q.2 := by
  unfold tX3_takeSign
  refine List.forall_mem_cons.mpr ⟨(s_aloadn (am_dp pw_X3_takeSign_0 dd_X3_takeSign_0a.1) rfl).to, ?_⟩
  refine List.forall_mem_cons.mpr ⟨(s_iloadn (am_dp pw_X3_takeSign_0 dd_X3_takeSign_0a.2.1) rfl).to, ?_⟩
  refine List.forall_mem_cons.mpr ⟨zw_cv40 (am_dp pw_X3_takeSign_0 dd_X3_takeSign_0a.2.2.1) wd743, ?_⟩
  refine List.forall_mem_cons.mpr ⟨(s_if_eq (am_dp pw_X3_takeSign_0 dd_X3_takeSign_0a.2.2.2.1) (by decide)).to, ?_⟩
  refine List.forall_mem_cons.mpr ⟨(s_aloadn (am_dp pw_X3_takeSign_0 dd_X3_takeSign_0a.2.2.2.2.1) rfl).to, ?_⟩
  refine List.forall_mem_cons.mpr ⟨zw_cv35 (am_dp pw_X3_takeSign_0 dd_X3_takeSign_0a.2.2.2.2.2.1) wd662, ?_⟩
  refine List.forall_mem_cons.mpr ⟨(s_goto (am_dp pw_X3_takeSign_0 dd_X3_takeSign_0a.2.2.2.2.2.2.1) (by decide)).to, ?_⟩
  refine List.forall_mem_cons.mpr ⟨(s_aloadn (am_dp pw_X3_takeSign_0 dd_X3_takeSign_0a.2.2.2.2.2.2.2) rfl).to, ?_⟩
  refine List.forall_mem_cons.mpr ⟨(s_iconst (am_dp pw_X3_takeSign_0 dd_X3_takeSign_0b.1) (by decide)).to, ?_⟩
  refine List.forall_mem_cons.mpr ⟨zw_cv39 (am_dp pw_X3_takeSign_0 dd_X3_takeSign_0b.2.1) wd698, ?_⟩
  refine List.forall_mem_cons.mpr ⟨s_vret (am_dp pw_X3_takeSign_0 dd_X3_takeSign_0b.2.2) rfl, ?_⟩
  exact fun _ h => absurd h List.not_mem_nil
theorem sn_tX3_takeWord : ∀ q ∈ tX3_takeWord, am_Snd am_P0 RX3 cX3_takeWord 2 (Option.none : Option FieldType) "takeWord" q.1 q.2 := by
  unfold tX3_takeWord
  refine List.forall_mem_cons.mpr ⟨(s_aloadn (am_dp pw_X3_takeWord_0 dd_X3_takeWord_0a.1) rfl).to, ?_⟩
  refine List.forall_mem_cons.mpr ⟨(s_get (ci := 3) (k := 6) (am_dp pw_X3_takeWord_0 dd_X3_takeWord_0a.2.1) rfl (by decide) wd438 inX3 rfl).to, ?_⟩
  refine List.forall_mem_cons.mpr ⟨(s_iloadn (am_dp pw_X3_takeWord_0 dd_X3_takeWord_0a.2.2.1) rfl).to, ?_⟩
  refine List.forall_mem_cons.mpr ⟨(s_icmp_ne (am_dp pw_X3_takeWord_0 dd_X3_takeWord_0a.2.2.2.1) (by decide)).to, ?_⟩
  refine List.forall_mem_cons.mpr ⟨(s_aloadn (am_dp pw_X3_takeWord_0 dd_X3_takeWord_0a.2.2.2.2.1) rfl).to, ?_⟩
  refine List.forall_mem_cons.mpr ⟨zw_cv35 (am_dp pw_X3_takeWord_0 dd_X3_takeWord_0a.2.2.2.2.2.1) wd662, ?_⟩
  refine List.forall_mem_cons.mpr ⟨(s_goto (am_dp pw_X3_takeWord_0 dd_X3_takeWord_0a.2.2.2.2.2.2.1) (by decide)).to, ?_⟩
  refine List.forall_mem_cons.mpr ⟨(s_aloadn (am_dp pw_X3_takeWord_0 dd_X3_takeWord_0a.2.2.2.2.2.2.2) rfl).to, ?_⟩
  refine List.forall_mem_cons.mpr ⟨(s_iconst (am_dp pw_X3_takeWord_0 dd_X3_takeWord_0b.1) (by decide)).to, ?_⟩
  refine List.forall_mem_cons.mpr ⟨zw_cv39 (am_dp pw_X3_takeWord_0 dd_X3_takeWord_0b.2.1) wd698, ?_⟩
  refine List.forall_mem_cons.mpr ⟨s_vret (am_dp pw_X3_takeWord_0 dd_X3_takeWord_0b.2.2) rfl, ?_⟩
  exact fun _ h => absurd h List.not_mem_nil
theorem sn_tX3_checkNumber : ∀ q ∈ tX3_checkNumber, am_Snd am_P0 RX3 cX3_checkNumber 3 (Option.some FieldType.boolean) "checkNumber" q.1 q.2 := by
  unfold tX3_checkNumber
  refine List.forall_mem_cons.mpr ⟨(s_aloadn (am_dp pw_X3_checkNumber_0 dd_X3_checkNumber_0a.1) rfl).to, ?_⟩
  refine List.forall_mem_cons.mpr ⟨(s_get (ci := 3) (k := 4) (am_dp pw_X3_checkNumber_0 dd_X3_checkNumber_0a.2.1) rfl (by decide) wd432 inX3 rfl).to, ?_⟩
  refine List.forall_mem_cons.mpr ⟨(s_iconst (am_dp pw_X3_checkNumber_0 dd_X3_checkNumber_0a.2.2.1) (by decide)).to, ?_⟩
  refine List.forall_mem_cons.mpr ⟨(s_icmp_eq (am_dp pw_X3_checkNumber_0 dd_X3_checkNumber_0a.2.2.2.1) (by decide)).to, ?_⟩
  refine List.forall_mem_cons.mpr ⟨(s_aloadn (am_dp pw_X3_checkNumber_0 dd_X3_checkNumber_0a.2.2.2.2.1) rfl).to, ?_⟩
  refine List.forall_mem_cons.mpr ⟨(s_iconst (am_dp pw_X3_checkNumber_0 dd_X3_checkNumber_0a.2.2.2.2.2.1) (by decide)).to, ?_⟩
  refine List.forall_mem_cons.mpr ⟨zw_cv39 (am_dp pw_X3_checkNumber_0 dd_X3_checkNumber_0a.2.2.2.2.2.2.1) wd698, ?_⟩
  refine List.forall_mem_cons.mpr ⟨(s_iconst (am_dp pw_X3_checkNumber_0 dd_X3_checkNumber_0a.2.2.2.2.2.2.2) (by decide)).to, ?_⟩
  refine List.forall_mem_cons.mpr ⟨s_zret (am_dp pw_X3_checkNumber_0 dd_X3_checkNumber_0b.1) rfl, ?_⟩
  refine List.forall_mem_cons.mpr ⟨(s_aloadn (am_dp pw_X3_checkNumber_0 dd_X3_checkNumber_0b.2.1) rfl).to, ?_⟩
  refine List.forall_mem_cons.mpr ⟨(s_get (ci := 3) (k := 5) (am_dp pw_X3_checkNumber_0 dd_X3_checkNumber_0b.2.2.1) rfl (by decide) wd435 inX3 rfl).to, ?_⟩
  refine List.forall_mem_cons.mpr ⟨(s_iloadn (am_dp pw_X3_checkNumber_0 dd_X3_checkNumber_0b.2.2.2.1) rfl).to, ?_⟩
  refine List.forall_mem_cons.mpr ⟨(s_icmp_lt (am_dp pw_X3_checkNumber_0 dd_X3_checkNumber_0b.2.2.2.2.1) (by decide)).to, ?_⟩
  refine List.forall_mem_cons.mpr ⟨(s_aloadn (am_dp pw_X3_checkNumber_0 dd_X3_checkNumber_0b.2.2.2.2.2.1) rfl).to, ?_⟩
  refine List.forall_mem_cons.mpr ⟨(s_get (ci := 3) (k := 5) (am_dp pw_X3_checkNumber_0 dd_X3_checkNumber_0b.2.2.2.2.2.2.1) rfl (by decide) wd435 inX3 rfl).to, ?_⟩
  refine List.forall_mem_cons.mpr ⟨(s_iloadn (am_dp pw_X3_checkNumber_0 dd_X3_checkNumber_0b.2.2.2.2.2.2.2) rfl).to, ?_⟩
  refine List.forall_mem_cons.mpr ⟨(s_icmp_le (am_dp pw_X3_checkNumber_0 dd_X3_checkNumber_0c.1) (by decide)).to, ?_⟩
  refine List.forall_mem_cons.mpr ⟨(s_aloadn (am_dp pw_X3_checkNumber_0 dd_X3_checkNumber_0c.2) rfl).to, ?_⟩
  refine List.forall_mem_cons.mpr ⟨(s_iconst (am_dp pw_X3_checkNumber_32 dd_X3_checkNumber_32a.1) (by decide)).to, ?_⟩
  refine List.forall_mem_cons.mpr ⟨zw_cv39 (am_dp pw_X3_checkNumber_32 dd_X3_checkNumber_32a.2.1) wd698, ?_⟩
  refine List.forall_mem_cons.mpr ⟨(s_iconst (am_dp pw_X3_checkNumber_32 dd_X3_checkNumber_32a.2.2.1) (by decide)).to, ?_⟩
  refine List.forall_mem_cons.mpr ⟨s_zret (am_dp pw_X3_checkNumber_32 dd_X3_checkNumber_32a.2.2.2.1) rfl, ?_⟩
  refine List.forall_mem_cons.mpr ⟨(s_iconst (am_dp pw_X3_checkNumber_32 dd_X3_checkNumber_32a.2.2.2.2.1) (by decide)).to, ?_⟩
  refine List.forall_mem_cons.mpr ⟨s_zret (am_dp pw_X3_checkNumber_32 dd_X3_checkNumber_32a.2.2.2.2.2) rfl, ?_⟩
  exact fun _ h => absurd h List.not_mem_nil
theorem sn_tX3_takeNumber : ∀ q ∈ tX3_takeNumber, am_Snd am_P0 RX3 cX3_takeNumber 4 (Option.some FieldType.int) "takeNumber" q.1 q.2 := by
  unfold tX3_takeNumber
  refine List.forall_mem_cons.mpr ⟨(s_aloadn (am_dp pw_X3_takeNumber_0 dd_X3_takeNumber_0a.1) rfl).to, ?_⟩
  refine List.forall_mem_cons.mpr ⟨(s_iloadn (am_dp pw_X3_takeNumber_0 dd_X3_takeNumber_0a.2.1) rfl).to, ?_⟩
  refine List.forall_mem_cons.mpr ⟨(s_iloadn (am_dp pw_X3_takeNumber_0 dd_X3_takeNumber_0a.2.2.1) rfl).to, ?_⟩
  refine List.forall_mem_cons.mpr ⟨zw_cv43 (am_dp pw_X3_takeNumber_0 dd_X3_takeNumber_0a.2.2.2.1) wd694, ?_⟩
  refine List.forall_mem_cons.mpr ⟨(s_if_ne (am_dp pw_X3_takeNumber_0 dd_X3_takeNumber_0a.2.2.2.2.1) (by decide)).to, ?_⟩
  refine List.forall_mem_cons.mpr ⟨(s_iloadn (am_dp pw_X3_takeNumber_0 dd_X3_takeNumber_0a.2.2.2.2.2.1) rfl).to, ?_⟩
  refine List.forall_mem_cons.mpr ⟨s_iret (am_dp pw_X3_takeNumber_0 dd_X3_takeNumber_0a.2.2.2.2.2.2.1) rfl, ?_⟩
  refine List.forall_mem_cons.mpr ⟨(s_aloadn (am_dp pw_X3_takeNumber_0 dd_X3_takeNumber_0a.2.2.2.2.2.2.2) rfl).to, ?_⟩
  refine List.forall_mem_cons.mpr ⟨(s_get (ci := 3) (k := 5) (am_dp pw_X3_takeNumber_0 dd_X3_takeNumber_0b.1) rfl (by decide) wd435 inX3 rfl).to, ?_⟩
  refine List.forall_mem_cons.mpr ⟨(s_istoren (am_dp pw_X3_takeNumber_0 dd_X3_takeNumber_0b.2.1) rfl (by decide)).to, ?_⟩
  refine List.forall_mem_cons.mpr ⟨(s_aloadn (am_dp pw_X3_takeNumber_0 dd_X3_takeNumber_0b.2.2.1) rfl).to, ?_⟩
  refine List.forall_mem_cons.mpr ⟨zw_cv35 (am_dp pw_X3_takeNumber_0 dd_X3_takeNumber_0b.2.2.2.1) wd662, ?_⟩
  refine List.forall_mem_cons.mpr ⟨(s_iloadn (am_dp pw_X3_takeNumber_0 dd_X3_takeNumber_0b.2.2.2.2.1) rfl).to, ?_⟩
  refine List.forall_mem_cons.mpr ⟨s_iret (am_dp pw_X3_takeNumber_0 dd_X3_takeNumber_0b.2.2.2.2.2) rfl, ?_⟩
  exact fun _ h => absurd h List.not_mem_nil
theorem sn_tX3_checkName : ∀ q ∈ tX3_checkName, am_Snd am_P0 RX3 cX3_checkName 1 (Option.some FieldType.boolean) "checkName" q.1 q.2 := by
  unfold tX3_checkName
  refine List.forall_mem_cons.mpr ⟨(s_aloadn (am_dp pw_X3_checkName_0 dd_X3_checkName_0a.1) rfl).to, ?_⟩
  refine List.forall_mem_cons.mpr ⟨(s_get (ci := 3) (k := 4) (am_dp pw_X3_checkName_0 dd_X3_checkName_0a.2.1) rfl (by decide) wd432 inX3 rfl).to, ?_⟩
  refine List.forall_mem_cons.mpr ⟨(s_iconst (am_dp pw_X3_checkName_0 dd_X3_checkName_0a.2.2.1) (by decide)).to, ?_⟩
  refine List.forall_mem_cons.mpr ⟨(s_icmp_ne (am_dp pw_X3_checkName_0 dd_X3_checkName_0a.2.2.2.1) (by decide)).to, ?_⟩
  refine List.forall_mem_cons.mpr ⟨(s_aloadn (am_dp pw_X3_checkName_0 dd_X3_checkName_0a.2.2.2.2.1) rfl).to, ?_⟩
  refine List.forall_mem_cons.mpr ⟨(s_get (ci := 3) (k := 6) (am_dp pw_X3_checkName_0 dd_X3_checkName_0a.2.2.2.2.2.1) rfl (by decide) wd438 inX3 rfl).to, ?_⟩
  refine List.forall_mem_cons.mpr ⟨(s_iconst (am_dp pw_X3_checkName_0 dd_X3_checkName_0a.2.2.2.2.2.2.1) (by decide)).to, ?_⟩
  refine List.forall_mem_cons.mpr ⟨(s_icmp_eq (am_dp pw_X3_checkName_0 dd_X3_checkName_0a.2.2.2.2.2.2.2) (by decide)).to, ?_⟩
  refine List.forall_mem_cons.mpr ⟨(s_aloadn (am_dp pw_X3_checkName_0 dd_X3_checkName_0b.1) rfl).to, ?_⟩
  refine List.forall_mem_cons.mpr ⟨(s_iconst (am_dp pw_X3_checkName_0 dd_X3_checkName_0b.2.1) (by decide)).to, ?_⟩
  refine List.forall_mem_cons.mpr ⟨zw_cv39 (am_dp pw_X3_checkName_0 dd_X3_checkName_0b.2.2.1) wd698, ?_⟩
  refine List.forall_mem_cons.mpr ⟨(s_iconst (am_dp pw_X3_checkName_0 dd_X3_checkName_0b.2.2.2.1) (by decide)).to, ?_⟩
  refine List.forall_mem_cons.mpr ⟨s_zret (am_dp pw_X3_checkName_0 dd_X3_checkName_0b.2.2.2.2.1) rfl, ?_⟩
  refine List.forall_mem_cons.mpr ⟨(s_iconst (am_dp pw_X3_checkName_0 dd_X3_checkName_0b.2.2.2.2.2.1) (by decide)).to, ?_⟩
  refine List.forall_mem_cons.mpr ⟨s_zret (am_dp pw_X3_checkName_0 dd_X3_checkName_0b.2.2.2.2.2.2) rfl, ?_⟩
  exact fun _ h => absurd h List.not_mem_nil
theorem sn_tX4_init : ∀ q ∈ tX4_init, am_Snd am_P0 RX4 cX4_init 2 (Option.none : Option FieldType) "<init>" q.1 q.2 := by
  unfold tX4_init
  refine List.forall_mem_cons.mpr ⟨(s_aloadn (am_dp pw_X4_init_0 dd_X4_init_0a.1) rfl).to, ?_⟩
  refine List.forall_mem_cons.mpr ⟨(s_obj (am_dp pw_X4_init_0 dd_X4_init_0a.2.1) wd219 wd160 wd161).to, ?_⟩
  refine List.forall_mem_cons.mpr ⟨(s_aloadn (am_dp pw_X4_init_0 dd_X4_init_0a.2.2.1) rfl).to, ?_⟩
  refine List.forall_mem_cons.mpr ⟨(s_iloadn (am_dp pw_X4_init_0 dd_X4_init_0a.2.2.2.1) rfl).to, ?_⟩
  refine List.forall_mem_cons.mpr ⟨(s_newa (kd := 0) (ty := .int) (am_dp pw_X4_init_0 dd_X4_init_0a.2.2.2.2.1) rfl rfl wd195 (by decide) (by decide) (fun _ _ h => h)).to, ?_⟩
  refine List.forall_mem_cons.mpr ⟨(s_putF (ci := 4) (k := 1) (am_dp pw_X4_init_0 dd_X4_init_0a.2.2.2.2.2.1) rfl (by decide) wd222 inX4 tyX4_ok nmX4 rfl rfl rfl rfl).to, ?_⟩
  refine List.forall_mem_cons.mpr ⟨(s_aloadn (am_dp pw_X4_init_0 dd_X4_init_0a.2.2.2.2.2.2.1) rfl).to, ?_⟩
  refine List.forall_mem_cons.mpr ⟨(s_iloadn (am_dp pw_X4_init_0 dd_X4_init_0a.2.2.2.2.2.2.2) rfl).to, ?_⟩
  refine List.forall_mem_cons.mpr ⟨(s_newa (kd := 0) (ty := .int) (am_dp pw_X4_init_0 dd_X4_init_0b.1) rfl rfl wd195 (by decide) (by decide) (fun _ _ h => h)).to, ?_⟩
  refine List.forall_mem_cons.mpr ⟨(s_putF (ci := 4) (k := 2) (am_dp pw_X4_init_0 dd_X4_init_0b.2.1) rfl (by decide) wd223 inX4 tyX4_ok nmX4 rfl rfl rfl rfl).to, ?_⟩
  refine List.forall_mem_cons.mpr ⟨(s_aloadn (am_dp pw_X4_init_0 dd_X4_init_0b.2.2.1) rfl).to, ?_⟩
  refine List.forall_mem_cons.mpr ⟨(s_iloadn (am_dp pw_X4_init_0 dd_X4_init_0b.2.2.2.1) rfl).to, ?_⟩
  refine List.forall_mem_cons.mpr ⟨(s_newa (kd := 0) (ty := .int) (am_dp pw_X4_init_0 dd_X4_init_0b.2.2.2.2.1) rfl rfl wd195 (by decide) (by decide) (fun _ _ h => h)).to, ?_⟩
  refine List.forall_mem_cons.mpr ⟨(s_putF (ci := 4) (k := 3) (am_dp pw_X4_init_0 dd_X4_init_0b.2.2.2.2.2.1) rfl (by decide) wd224 inX4 tyX4_ok nmX4 rfl rfl rfl rfl).to, ?_⟩
  refine List.forall_mem_cons.mpr ⟨s_vret (am_dp pw_X4_init_0 dd_X4_init_0b.2.2.2.2.2.2) rfl, ?_⟩
  exact fun _ h => absurd h List.not_mem_nil
theorem sn_tX4_isFull : ∀ q ∈ tX4_isFull, am_Snd am_P0 RX4 cX4_isFull 1 (Option.some FieldType.boolean) "isFull" q.1 q.2 := by
  unfold tX4_isFull
  refine List.forall_mem_cons.mpr ⟨(s_aloadn (am_dp pw_X4_isFull_0 dd_X4_isFull_0a.1) rfl).to, ?_⟩
  refine List.forall_mem_cons.mpr ⟨(s_get (ci := 4) (k := 0) (am_dp pw_X4_isFull_0 dd_X4_isFull_0a.2.1) rfl (by decide) wd220 inX4 rfl).to, ?_⟩
  refine List.forall_mem_cons.mpr ⟨(s_aloadn (am_dp pw_X4_isFull_0 dd_X4_isFull_0a.2.2.1) rfl).to, ?_⟩
  refine List.forall_mem_cons.mpr ⟨(s_get (ci := 4) (k := 1) (am_dp pw_X4_isFull_0 dd_X4_isFull_0a.2.2.2.1) rfl (by decide) wd222 inX4 rfl).to, ?_⟩
  refine List.forall_mem_cons.mpr ⟨(s_len (am_dp pw_X4_isFull_0 dd_X4_isFull_0a.2.2.2.2.1)).to, ?_⟩
  refine List.forall_mem_cons.mpr ⟨(s_icmp_lt (am_dp pw_X4_isFull_0 dd_X4_isFull_0a.2.2.2.2.2.1) (by decide)).to, ?_⟩
  refine List.forall_mem_cons.mpr ⟨(s_iconst (am_dp pw_X4_isFull_0 dd_X4_isFull_0a.2.2.2.2.2.2.1) (by decide)).to, ?_⟩
  refine List.forall_mem_cons.mpr ⟨(s_goto (am_dp pw_X4_isFull_0 dd_X4_isFull_0a.2.2.2.2.2.2.2) (by decide)).to, ?_⟩
  refine List.forall_mem_cons.mpr ⟨(s_iconst (am_dp pw_X4_isFull_0 dd_X4_isFull_0b.1) (by decide)).to, ?_⟩
  refine List.forall_mem_cons.mpr ⟨s_zret (am_dp pw_X4_isFull_0 dd_X4_isFull_0b.2) rfl, ?_⟩
  exact fun _ h => absurd h List.not_mem_nil
theorem sn_tX4_append : ∀ q ∈ tX4_append, am_Snd am_P0 RX4 cX4_append 4 (Option.none : Option FieldType) "append" q.1 q.2 := by
  unfold tX4_append
  refine List.forall_mem_cons.mpr ⟨(s_aloadn (am_dp pw_X4_append_0 dd_X4_append_0a.1) rfl).to, ?_⟩
  refine List.forall_mem_cons.mpr ⟨zw_cv47 (am_dp pw_X4_append_0 dd_X4_append_0a.2.1) wd776, ?_⟩
  refine List.forall_mem_cons.mpr ⟨(s_if_ne (am_dp pw_X4_append_0 dd_X4_append_0a.2.2.1) (by decide)).to, ?_⟩
  refine List.forall_mem_cons.mpr ⟨(s_aloadn (am_dp pw_X4_append_0 dd_X4_append_0a.2.2.2.1) rfl).to, ?_⟩
  refine List.forall_mem_cons.mpr ⟨(s_get (ci := 4) (k := 1) (am_dp pw_X4_append_0 dd_X4_append_0a.2.2.2.2.1) rfl (by decide) wd222 inX4 rfl).to, ?_⟩
  refine List.forall_mem_cons.mpr ⟨(s_aloadn (am_dp pw_X4_append_0 dd_X4_append_0a.2.2.2.2.2.1) rfl).to, ?_⟩
  refine List.forall_mem_cons.mpr ⟨(s_get (ci := 4) (k := 0) (am_dp pw_X4_append_0 dd_X4_append_0a.2.2.2.2.2.2.1) rfl (by decide) wd220 inX4 rfl).to, ?_⟩
  refine List.forall_mem_cons.mpr ⟨(s_iloadn (am_dp pw_X4_append_0 dd_X4_append_0a.2.2.2.2.2.2.2) rfl).to, ?_⟩
  refine List.forall_mem_cons.mpr ⟨(s_iast (am_dp pw_X4_append_0 dd_X4_append_0b.1)).to, ?_⟩
  refine List.forall_mem_cons.mpr ⟨(s_aloadn (am_dp pw_X4_append_0 dd_X4_append_0b.2.1) rfl).to, ?_⟩
  refine List.forall_mem_cons.mpr ⟨(s_get (ci := 4) (k := 2) (am_dp pw_X4_append_0 dd_X4_append_0b.2.2.1) rfl (by decide) wd223 inX4 rfl).to, ?_⟩
  refine List.forall_mem_cons.mpr ⟨(s_aloadn (am_dp pw_X4_append_0 dd_X4_append_0b.2.2.2.1) rfl).to, ?_⟩
  refine List.forall_mem_cons.mpr ⟨(s_get (ci := 4) (k := 0) (am_dp pw_X4_append_0 dd_X4_append_0b.2.2.2.2.1) rfl (by decide) wd220 inX4 rfl).to, ?_⟩
  refine List.forall_mem_cons.mpr ⟨(s_iloadn (am_dp pw_X4_append_0 dd_X4_append_0b.2.2.2.2.2.1) rfl).to, ?_⟩
  refine List.forall_mem_cons.mpr ⟨(s_iast (am_dp pw_X4_append_0 dd_X4_append_0b.2.2.2.2.2.2.1)).to, ?_⟩
  refine List.forall_mem_cons.mpr ⟨(s_aloadn (am_dp pw_X4_append_0 dd_X4_append_0b.2.2.2.2.2.2.2) rfl).to, ?_⟩
  refine List.forall_mem_cons.mpr ⟨(s_get (ci := 4) (k := 3) (am_dp pw_X4_append_0 dd_X4_append_0c.1) rfl (by decide) wd224 inX4 rfl).to, ?_⟩
  refine List.forall_mem_cons.mpr ⟨(s_aloadn (am_dp pw_X4_append_0 dd_X4_append_0c.2) rfl).to, ?_⟩
  refine List.forall_mem_cons.mpr ⟨(s_get (ci := 4) (k := 0) (am_dp pw_X4_append_32 dd_X4_append_32a.1) rfl (by decide) wd220 inX4 rfl).to, ?_⟩
  refine List.forall_mem_cons.mpr ⟨(s_iloadn (am_dp pw_X4_append_32 dd_X4_append_32a.2.1) rfl).to, ?_⟩
  refine List.forall_mem_cons.mpr ⟨(s_iast (am_dp pw_X4_append_32 dd_X4_append_32a.2.2.1)).to, ?_⟩
  refine List.forall_mem_cons.mpr ⟨(s_aloadn (am_dp pw_X4_append_32 dd_X4_append_32a.2.2.2.1) rfl).to, ?_⟩
  refine List.forall_mem_cons.mpr ⟨(s_dup (am_dp pw_X4_append_32 dd_X4_append_32a.2.2.2.2.1)).to, ?_⟩
  refine List.forall_mem_cons.mpr ⟨(s_get (ci := 4) (k := 0) (am_dp pw_X4_append_32 dd_X4_append_32a.2.2.2.2.2.1) rfl (by decide) wd220 inX4 rfl).to, ?_⟩
  refine List.forall_mem_cons.mpr ⟨(s_iconst (am_dp pw_X4_append_32 dd_X4_append_32a.2.2.2.2.2.2.1) (by decide)).to, ?_⟩
  refine List.forall_mem_cons.mpr ⟨(s_iadd (am_dp pw_X4_append_32 dd_X4_append_32a.2.2.2.2.2.2.2)).to, ?_⟩
  refine List.forall_mem_cons.mpr ⟨(s_put (ci := 4) (k := 0) (am_dp pw_X4_append_32 dd_X4_append_32b.1) rfl (by decide) wd220 inX4 tyX4_ok nmX4 rfl rfl).to, ?_⟩
  refine List.forall_mem_cons.mpr ⟨s_vret (am_dp pw_X4_append_32 dd_X4_append_32b.2) rfl, ?_⟩
  exact fun _ h => absurd h List.not_mem_nil
theorem sn_tX4_firstHolding : ∀ q ∈ tX4_firstHolding, am_Snd am_P0 RX4 cX4_firstHolding 6 (Option.some FieldType.int) "firstHolding" q.1 q.2 := by
  unfold tX4_firstHolding
  refine List.forall_mem_cons.mpr ⟨(s_iconst (am_dp pw_X4_firstHolding_0 dd_X4_firstHolding_0a.1) (by decide)).to, ?_⟩
  refine List.forall_mem_cons.mpr ⟨(s_istore (am_dp pw_X4_firstHolding_0 dd_X4_firstHolding_0a.2.1) (by decide)).to, ?_⟩
  refine List.forall_mem_cons.mpr ⟨(s_iload (am_dp pw_X4_firstHolding_0 dd_X4_firstHolding_0a.2.2.1)).to, ?_⟩
  refine List.forall_mem_cons.mpr ⟨(s_aloadn (am_dp pw_X4_firstHolding_0 dd_X4_firstHolding_0a.2.2.2.1) rfl).to, ?_⟩
  refine List.forall_mem_cons.mpr ⟨(s_get (ci := 4) (k := 0) (am_dp pw_X4_firstHolding_0 dd_X4_firstHolding_0a.2.2.2.2.1) rfl (by decide) wd220 inX4 rfl).to, ?_⟩
  refine List.forall_mem_cons.mpr ⟨(s_icmp_ge (am_dp pw_X4_firstHolding_0 dd_X4_firstHolding_0a.2.2.2.2.2.1) (by decide)).to, ?_⟩
  refine List.forall_mem_cons.mpr ⟨(s_aloadn (am_dp pw_X4_firstHolding_0 dd_X4_firstHolding_0a.2.2.2.2.2.2.1) rfl).to, ?_⟩
  refine List.forall_mem_cons.mpr ⟨(s_aloadn (am_dp pw_X4_firstHolding_0 dd_X4_firstHolding_0a.2.2.2.2.2.2.2) rfl).to, ?_⟩
  refine List.forall_mem_cons.mpr ⟨(s_get (ci := 4) (k := 2) (am_dp pw_X4_firstHolding_0 dd_X4_firstHolding_0b.1) rfl (by decide) wd223 inX4 rfl).to, ?_⟩
  refine List.forall_mem_cons.mpr ⟨(s_iload (am_dp pw_X4_firstHolding_0 dd_X4_firstHolding_0b.2.1)).to, ?_⟩
  refine List.forall_mem_cons.mpr ⟨(s_iald (am_dp pw_X4_firstHolding_0 dd_X4_firstHolding_0b.2.2.1)).to, ?_⟩
  refine List.forall_mem_cons.mpr ⟨(s_aloadn (am_dp pw_X4_firstHolding_0 dd_X4_firstHolding_0b.2.2.2.1) rfl).to, ?_⟩
  refine List.forall_mem_cons.mpr ⟨(s_get (ci := 4) (k := 3) (am_dp pw_X4_firstHolding_0 dd_X4_firstHolding_0b.2.2.2.2.1) rfl (by decide) wd224 inX4 rfl).to, ?_⟩
  refine List.forall_mem_cons.mpr ⟨(s_iload (am_dp pw_X4_firstHolding_0 dd_X4_firstHolding_0b.2.2.2.2.2.1)).to, ?_⟩
  refine List.forall_mem_cons.mpr ⟨(s_iald (am_dp pw_X4_firstHolding_0 dd_X4_firstHolding_0b.2.2.2.2.2.2.1)).to, ?_⟩
  refine List.forall_mem_cons.mpr ⟨(s_iloadn (am_dp pw_X4_firstHolding_0 dd_X4_firstHolding_0b.2.2.2.2.2.2.2) rfl).to, ?_⟩
  refine List.forall_mem_cons.mpr ⟨(s_iloadn (am_dp pw_X4_firstHolding_0 dd_X4_firstHolding_0c.1) rfl).to, ?_⟩
  refine List.forall_mem_cons.mpr ⟨(s_iload (am_dp pw_X4_firstHolding_0 dd_X4_firstHolding_0c.2.1)).to, ?_⟩
  refine List.forall_mem_cons.mpr ⟨zw_cv2 (am_dp pw_X4_firstHolding_0 dd_X4_firstHolding_0c.2.2) wd861, ?_⟩
  refine List.forall_mem_cons.mpr ⟨(s_if_eq (am_dp pw_X4_firstHolding_32 dd_X4_firstHolding_32a.1) (by decide)).to, ?_⟩
  refine List.forall_mem_cons.mpr ⟨(s_iload (am_dp pw_X4_firstHolding_32 dd_X4_firstHolding_32a.2.1)).to, ?_⟩
  refine List.forall_mem_cons.mpr ⟨s_iret (am_dp pw_X4_firstHolding_32 dd_X4_firstHolding_32a.2.2.1) rfl, ?_⟩
  refine List.forall_mem_cons.mpr ⟨(s_iinc (am_dp pw_X4_firstHolding_32 dd_X4_firstHolding_32a.2.2.2.1) (by decide) (by decide)).to, ?_⟩
  refine List.forall_mem_cons.mpr ⟨(s_goto (am_dp pw_X4_firstHolding_32 dd_X4_firstHolding_32a.2.2.2.2.1) (by decide)).to, ?_⟩
  refine List.forall_mem_cons.mpr ⟨(s_iconst (am_dp pw_X4_firstHolding_32 dd_X4_firstHolding_32a.2.2.2.2.2.1) (by decide)).to, ?_⟩
  refine List.forall_mem_cons.mpr ⟨s_iret (am_dp pw_X4_firstHolding_32 dd_X4_firstHolding_32a.2.2.2.2.2.2) rfl, ?_⟩
  exact fun _ h => absurd h List.not_mem_nil
theorem sn_tX4_firstSum : ∀ q ∈ tX4_firstSum, am_Snd am_P0 RX4 cX4_firstSum 6 (Option.some FieldType.int) "firstSum" q.1 q.2 := by
  unfold tX4_firstSum
  refine List.forall_mem_cons.mpr ⟨(s_aloadn (am_dp pw_X4_firstSum_0 dd_X4_firstSum_0a.1) rfl).to, ?_⟩
  refine List.forall_mem_cons.mpr ⟨(s_aloadn (am_dp pw_X4_firstSum_0 dd_X4_firstSum_0a.2.1) rfl).to, ?_⟩
  refine List.forall_mem_cons.mpr ⟨(s_iloadn (am_dp pw_X4_firstSum_0 dd_X4_firstSum_0a.2.2.1) rfl).to, ?_⟩
  refine List.forall_mem_cons.mpr ⟨(s_iconst (am_dp pw_X4_firstSum_0 dd_X4_firstSum_0a.2.2.2.1) (by decide)).to, ?_⟩
  refine List.forall_mem_cons.mpr ⟨(s_iloadn (am_dp pw_X4_firstSum_0 dd_X4_firstSum_0a.2.2.2.2.1) rfl).to, ?_⟩
  refine List.forall_mem_cons.mpr ⟨zw_cv49 (am_dp pw_X4_firstSum_0 dd_X4_firstSum_0a.2.2.2.2.2.1) wd857, ?_⟩
  refine List.forall_mem_cons.mpr ⟨(s_istore (am_dp pw_X4_firstSum_0 dd_X4_firstSum_0a.2.2.2.2.2.2.1) (by decide)).to, ?_⟩
  refine List.forall_mem_cons.mpr ⟨(s_iload (am_dp pw_X4_firstSum_0 dd_X4_firstSum_0a.2.2.2.2.2.2.2)).to, ?_⟩
  refine List.forall_mem_cons.mpr ⟨(s_iconst (am_dp pw_X4_firstSum_0 dd_X4_firstSum_0b.1) (by decide)).to, ?_⟩
  refine List.forall_mem_cons.mpr ⟨(s_icmp_ne (am_dp pw_X4_firstSum_0 dd_X4_firstSum_0b.2.1) (by decide)).to, ?_⟩
  refine List.forall_mem_cons.mpr ⟨(s_iconst (am_dp pw_X4_firstSum_0 dd_X4_firstSum_0b.2.2.1) (by decide)).to, ?_⟩
  refine List.forall_mem_cons.mpr ⟨s_iret (am_dp pw_X4_firstSum_0 dd_X4_firstSum_0b.2.2.2.1) rfl, ?_⟩
  refine List.forall_mem_cons.mpr ⟨(s_aloadn (am_dp pw_X4_firstSum_0 dd_X4_firstSum_0b.2.2.2.2.1) rfl).to, ?_⟩
  refine List.forall_mem_cons.mpr ⟨(s_aloadn (am_dp pw_X4_firstSum_0 dd_X4_firstSum_0b.2.2.2.2.2.1) rfl).to, ?_⟩
  refine List.forall_mem_cons.mpr ⟨(s_get (ci := 4) (k := 1) (am_dp pw_X4_firstSum_0 dd_X4_firstSum_0b.2.2.2.2.2.2.1) rfl (by decide) wd222 inX4 rfl).to, ?_⟩
  refine List.forall_mem_cons.mpr ⟨(s_iload (am_dp pw_X4_firstSum_0 dd_X4_firstSum_0b.2.2.2.2.2.2.2)).to, ?_⟩
  refine List.forall_mem_cons.mpr ⟨(s_iald (am_dp pw_X4_firstSum_0 dd_X4_firstSum_0c.1)).to, ?_⟩
  refine List.forall_mem_cons.mpr ⟨(s_aloadn (am_dp pw_X4_firstSum_0 dd_X4_firstSum_0c.2.1) rfl).to, ?_⟩
  refine List.forall_mem_cons.mpr ⟨(s_get (ci := 4) (k := 2) (am_dp pw_X4_firstSum_0 dd_X4_firstSum_0c.2.2.1) rfl (by decide) wd223 inX4 rfl).to, ?_⟩
  refine List.forall_mem_cons.mpr ⟨(s_iload (am_dp pw_X4_firstSum_0 dd_X4_firstSum_0c.2.2.2)).to, ?_⟩
  refine List.forall_mem_cons.mpr ⟨(s_iald (am_dp pw_X4_firstSum_32 dd_X4_firstSum_32a.1)).to, ?_⟩
  refine List.forall_mem_cons.mpr ⟨(s_iloadn (am_dp pw_X4_firstSum_32 dd_X4_firstSum_32a.2.1) rfl).to, ?_⟩
  refine List.forall_mem_cons.mpr ⟨(s_iconst (am_dp pw_X4_firstSum_32 dd_X4_firstSum_32a.2.2.1) (by decide)).to, ?_⟩
  refine List.forall_mem_cons.mpr ⟨(s_iloadn (am_dp pw_X4_firstSum_32 dd_X4_firstSum_32a.2.2.2.1) rfl).to, ?_⟩
  refine List.forall_mem_cons.mpr ⟨zw_cv2 (am_dp pw_X4_firstSum_32 dd_X4_firstSum_32a.2.2.2.2.1) wd861, ?_⟩
  refine List.forall_mem_cons.mpr ⟨(s_istore (am_dp pw_X4_firstSum_32 dd_X4_firstSum_32a.2.2.2.2.2.1) (by decide)).to, ?_⟩
  refine List.forall_mem_cons.mpr ⟨(s_iconst (am_dp pw_X4_firstSum_32 dd_X4_firstSum_32a.2.2.2.2.2.2.1) (by decide)).to, ?_⟩
  refine List.forall_mem_cons.mpr ⟨(s_bipush (am_dp pw_X4_firstSum_32 dd_X4_firstSum_32a.2.2.2.2.2.2.2) (by decide)).to, ?_⟩
  refine List.forall_mem_cons.mpr ⟨(s_iload (am_dp pw_X4_firstSum_32 dd_X4_firstSum_32b.1)).to, ?_⟩
  refine List.forall_mem_cons.mpr ⟨zw_cs309 (am_dp pw_X4_firstSum_32 dd_X4_firstSum_32b.2.1) wd885, ?_⟩
  refine List.forall_mem_cons.mpr ⟨zw_cs307 (am_dp pw_X4_firstSum_32 dd_X4_firstSum_32b.2.2.1) wd886, ?_⟩
  refine List.forall_mem_cons.mpr ⟨s_iret (am_dp pw_X4_firstSum_32 dd_X4_firstSum_32b.2.2.2) rfl, ?_⟩
  exact fun _ h => absurd h List.not_mem_nil
theorem sn_tX5_init_0 : ∀ q ∈ tX5_init_0, am_Snd am_P0 RX5 cX5_init 2 (Option.none : Option FieldType) "<init>" q.1 q.2 := by
  unfold tX5_init_0
  refine List.forall_mem_cons.mpr ⟨(s_aloadn (am_dp pw_X5_init_0 dd_X5_init_0a.1) rfl).to, ?_⟩
  refine List.forall_mem_cons.mpr ⟨(s_obj (am_dp pw_X5_init_0 dd_X5_init_0a.2.1) wd167 wd160 wd161).to, ?_⟩
  refine List.forall_mem_cons.mpr ⟨(s_aloadn (am_dp pw_X5_init_0 dd_X5_init_0a.2.2.1) rfl).to, ?_⟩
  refine List.forall_mem_cons.mpr ⟨(s_bipush (am_dp pw_X5_init_0 dd_X5_init_0a.2.2.2.1) (by decide)).to, ?_⟩
  refine List.forall_mem_cons.mpr ⟨(s_put (ci := 5) (k := 2) (am_dp pw_X5_init_0 dd_X5_init_0a.2.2.2.2.1) rfl (by decide) wd311 inX5 tyX5_ok nmX5 rfl rfl).to, ?_⟩
  refine List.forall_mem_cons.mpr ⟨(s_aloadn (am_dp pw_X5_init_0 dd_X5_init_0a.2.2.2.2.2.1) rfl).to, ?_⟩
  refine List.forall_mem_cons.mpr ⟨(s_bipush (am_dp pw_X5_init_0 dd_X5_init_0a.2.2.2.2.2.2.1) (by decide)).to, ?_⟩
  refine List.forall_mem_cons.mpr ⟨(s_newq (kd := 3) (am_dp pw_X5_init_0 dd_X5_init_0a.2.2.2.2.2.2.2) rfl wd168 (fun _ _ h => h.2.2.2.1)).to, ?_⟩
  refine List.forall_mem_cons.mpr ⟨(s_putF (ci := 5) (k := 4) (am_dp pw_X5_init_0 dd_X5_init_0b.1) rfl (by decide) wd317 inX5 tyX5_ok nmX5 rfl rfl rfl rfl).to, ?_⟩
  refine List.forall_mem_cons.mpr ⟨(s_aloadn (am_dp pw_X5_init_0 dd_X5_init_0b.2.1) rfl).to, ?_⟩
  refine List.forall_mem_cons.mpr ⟨(s_new (ci := 7) (am_dp pw_X5_init_0 dd_X5_init_0b.2.2.1) rfl wd170 wd171 wd136 inX7 tyX7_ok (by decide)).to, ?_⟩
  refine List.forall_mem_cons.mpr ⟨(s_dup (am_dp pw_X5_init_0 dd_X5_init_0b.2.2.2.1)).to, ?_⟩
  refine List.forall_mem_cons.mpr ⟨z_cin (ci := 7) (am_dp pw_X5_init_0 dd_X5_init_0b.2.2.2.2.1) mt70 wd172 rfl rfl, ?_⟩
  refine List.forall_mem_cons.mpr ⟨(s_putF (ci := 5) (k := 5) (am_dp pw_X5_init_0 dd_X5_init_0b.2.2.2.2.2.1) rfl (by decide) wd320 inX5 tyX5_ok nmX5 rfl rfl rfl rfl).to, ?_⟩
  refine List.forall_mem_cons.mpr ⟨(s_aloadn (am_dp pw_X5_init_0 dd_X5_init_0b.2.2.2.2.2.2.1) rfl).to, ?_⟩
  refine List.forall_mem_cons.mpr ⟨(s_new (ci := 0) (am_dp pw_X5_init_0 dd_X5_init_0b.2.2.2.2.2.2.2) rfl wd196 wd197 wd137 inX0 tyX0_ok (by decide)).to, ?_⟩
  refine List.forall_mem_cons.mpr ⟨(s_dup (am_dp pw_X5_init_32 dd_X5_init_32a.1)).to, ?_⟩
  refine List.forall_mem_cons.mpr ⟨z_cin (ci := 0) (am_dp pw_X5_init_32 dd_X5_init_32a.2.1) mt0 wd198 rfl rfl, ?_⟩
  refine List.forall_mem_cons.mpr ⟨(s_putF (ci := 5) (k := 6) (am_dp pw_X5_init_32 dd_X5_init_32a.2.2.1) rfl (by decide) wd323 inX5 tyX5_ok nmX5 rfl rfl rfl rfl).to, ?_⟩
  refine List.forall_mem_cons.mpr ⟨(s_aloadn (am_dp pw_X5_init_32 dd_X5_init_32a.2.2.2.1) rfl).to, ?_⟩
  refine List.forall_mem_cons.mpr ⟨(s_new (ci := 4) (am_dp pw_X5_init_32 dd_X5_init_32a.2.2.2.2.1) rfl wd214 wd215 wd138 inX4 tyX4_ok (by decide)).to, ?_⟩
  refine List.forall_mem_cons.mpr ⟨(s_dup (am_dp pw_X5_init_32 dd_X5_init_32a.2.2.2.2.2.1)).to, ?_⟩
  refine List.forall_mem_cons.mpr ⟨(s_bipush (am_dp pw_X5_init_32 dd_X5_init_32a.2.2.2.2.2.2.1) (by decide)).to, ?_⟩
  refine List.forall_mem_cons.mpr ⟨z_ci (ci := 4) (am_dp pw_X5_init_32 dd_X5_init_32a.2.2.2.2.2.2.2) mt46 wd216 rfl rfl, ?_⟩
  refine List.forall_mem_cons.mpr ⟨(s_putF (ci := 5) (k := 7) (am_dp pw_X5_init_32 dd_X5_init_32b.1) rfl (by decide) wd325 inX5 tyX5_ok nmX5 rfl rfl rfl rfl).to, ?_⟩
  refine List.forall_mem_cons.mpr ⟨(s_aloadn (am_dp pw_X5_init_32 dd_X5_init_32b.2.1) rfl).to, ?_⟩
  refine List.forall_mem_cons.mpr ⟨(s_new (ci := 4) (am_dp pw_X5_init_32 dd_X5_init_32b.2.2.1) rfl wd214 wd215 wd138 inX4 tyX4_ok (by decide)).to, ?_⟩
  refine List.forall_mem_cons.mpr ⟨(s_dup (am_dp pw_X5_init_32 dd_X5_init_32b.2.2.2.1)).to, ?_⟩
  refine List.forall_mem_cons.mpr ⟨(s_bipush (am_dp pw_X5_init_32 dd_X5_init_32b.2.2.2.2.1) (by decide)).to, ?_⟩
  refine List.forall_mem_cons.mpr ⟨z_ci (ci := 4) (am_dp pw_X5_init_32 dd_X5_init_32b.2.2.2.2.2) mt46 wd216 rfl rfl, ?_⟩
  refine List.forall_mem_cons.mpr ⟨(s_putF (ci := 5) (k := 8) (am_dp pw_X5_init_64 dd_X5_init_64a.1) rfl (by decide) wd327 inX5 tyX5_ok nmX5 rfl rfl rfl rfl).to, ?_⟩
  refine List.forall_mem_cons.mpr ⟨(s_aloadn (am_dp pw_X5_init_64 dd_X5_init_64a.2.1) rfl).to, ?_⟩
  refine List.forall_mem_cons.mpr ⟨(s_new (ci := 4) (am_dp pw_X5_init_64 dd_X5_init_64a.2.2.1) rfl wd214 wd215 wd138 inX4 tyX4_ok (by decide)).to, ?_⟩
  refine List.forall_mem_cons.mpr ⟨(s_dup (am_dp pw_X5_init_64 dd_X5_init_64a.2.2.2.1)).to, ?_⟩
  refine List.forall_mem_cons.mpr ⟨(s_bipush (am_dp pw_X5_init_64 dd_X5_init_64a.2.2.2.2.1) (by decide)).to, ?_⟩
  refine List.forall_mem_cons.mpr ⟨z_ci (ci := 4) (am_dp pw_X5_init_64 dd_X5_init_64a.2.2.2.2.2.1) mt46 wd216 rfl rfl, ?_⟩
  refine List.forall_mem_cons.mpr ⟨(s_putF (ci := 5) (k := 9) (am_dp pw_X5_init_64 dd_X5_init_64a.2.2.2.2.2.2.1) rfl (by decide) wd329 inX5 tyX5_ok nmX5 rfl rfl rfl rfl).to, ?_⟩
  refine List.forall_mem_cons.mpr ⟨(s_aloadn (am_dp pw_X5_init_64 dd_X5_init_64a.2.2.2.2.2.2.2) rfl).to, ?_⟩
  refine List.forall_mem_cons.mpr ⟨(s_sipush (am_dp pw_X5_init_64 dd_X5_init_64b.1) (by decide)).to, ?_⟩
  refine List.forall_mem_cons.mpr ⟨(s_newa (kd := 0) (ty := .int) (am_dp pw_X5_init_64 dd_X5_init_64b.2.1) rfl rfl wd195 (by decide) (by decide) (fun _ _ h => h)).to, ?_⟩
  refine List.forall_mem_cons.mpr ⟨(s_putF (ci := 5) (k := 10) (am_dp pw_X5_init_64 dd_X5_init_64b.2.2.1) rfl (by decide) wd331 inX5 tyX5_ok nmX5 rfl rfl rfl rfl).to, ?_⟩
  refine List.forall_mem_cons.mpr ⟨(s_aloadn (am_dp pw_X5_init_64 dd_X5_init_64b.2.2.2.1) rfl).to, ?_⟩
  refine List.forall_mem_cons.mpr ⟨(s_sipush (am_dp pw_X5_init_64 dd_X5_init_64b.2.2.2.2.1) (by decide)).to, ?_⟩
  refine List.forall_mem_cons.mpr ⟨(s_newa (kd := 0) (ty := .int) (am_dp pw_X5_init_64 dd_X5_init_64b.2.2.2.2.2.1) rfl rfl wd195 (by decide) (by decide) (fun _ _ h => h)).to, ?_⟩
  refine List.forall_mem_cons.mpr ⟨(s_putF (ci := 5) (k := 11) (am_dp pw_X5_init_64 dd_X5_init_64b.2.2.2.2.2.2) rfl (by decide) wd335 inX5 tyX5_ok nmX5 rfl rfl rfl rfl).to, ?_⟩
  refine List.forall_mem_cons.mpr ⟨(s_aloadn (am_dp pw_X5_init_96 dd_X5_init_96a.1) rfl).to, ?_⟩
  refine List.forall_mem_cons.mpr ⟨(s_sipush (am_dp pw_X5_init_96 dd_X5_init_96a.2.1) (by decide)).to, ?_⟩
  refine List.forall_mem_cons.mpr ⟨(s_newa (kd := 1) (ty := .long) (am_dp pw_X5_init_96 dd_X5_init_96a.2.2.1) rfl rfl wd303 (by decide) (by decide) (fun _ _ h => h)).to, ?_⟩
  refine List.forall_mem_cons.mpr ⟨(s_putF (ci := 5) (k := 12) (am_dp pw_X5_init_96 dd_X5_init_96a.2.2.2.1) rfl (by decide) wd336 inX5 tyX5_ok nmX5 rfl rfl rfl rfl).to, ?_⟩
  refine List.forall_mem_cons.mpr ⟨(s_aloadn (am_dp pw_X5_init_96 dd_X5_init_96a.2.2.2.2.1) rfl).to, ?_⟩
  refine List.forall_mem_cons.mpr ⟨(s_sipush (am_dp pw_X5_init_96 dd_X5_init_96a.2.2.2.2.2.1) (by decide)).to, ?_⟩
  refine List.forall_mem_cons.mpr ⟨(s_newa (kd := 1) (ty := .long) (am_dp pw_X5_init_96 dd_X5_init_96a.2.2.2.2.2.2.1) rfl rfl wd303 (by decide) (by decide) (fun _ _ h => h)).to, ?_⟩
  refine List.forall_mem_cons.mpr ⟨(s_putF (ci := 5) (k := 13) (am_dp pw_X5_init_96 dd_X5_init_96a.2.2.2.2.2.2.2) rfl (by decide) wd337 inX5 tyX5_ok nmX5 rfl rfl rfl rfl).to, ?_⟩
  refine List.forall_mem_cons.mpr ⟨(s_iconst (am_dp pw_X5_init_96 dd_X5_init_96b.1) (by decide)).to, ?_⟩
  refine List.forall_mem_cons.mpr ⟨(s_istoren (am_dp pw_X5_init_96 dd_X5_init_96b.2.1) rfl (by decide)).to, ?_⟩
  refine List.forall_mem_cons.mpr ⟨(s_iloadn (am_dp pw_X5_init_96 dd_X5_init_96b.2.2.1) rfl).to, ?_⟩
  refine List.forall_mem_cons.mpr ⟨(s_bipush (am_dp pw_X5_init_96 dd_X5_init_96b.2.2.2.1) (by decide)).to, ?_⟩
  refine List.forall_mem_cons.mpr ⟨(s_icmp_ge (am_dp pw_X5_init_96 dd_X5_init_96b.2.2.2.2.1) (by decide)).to, ?_⟩
  refine List.forall_mem_cons.mpr ⟨(s_aloadn (am_dp pw_X5_init_96 dd_X5_init_96b.2.2.2.2.2.1) rfl).to, ?_⟩
  refine List.forall_mem_cons.mpr ⟨(s_get (ci := 5) (k := 4) (am_dp pw_X5_init_96 dd_X5_init_96b.2.2.2.2.2.2) rfl (by decide) wd317 inX5 rfl).to, ?_⟩
  exact fun _ h => absurd h List.not_mem_nil
theorem sn_tX5_init_1 : ∀ q ∈ tX5_init_1, am_Snd am_P0 RX5 cX5_init 2 (Option.none : Option FieldType) "<init>" q.1 q.2 := by
  unfold tX5_init_1
  refine List.forall_mem_cons.mpr ⟨(s_iloadn (am_dp pw_X5_init_128 dd_X5_init_128a.1) rfl).to, ?_⟩
  refine List.forall_mem_cons.mpr ⟨(s_new (ci := 6) (am_dp pw_X5_init_128 dd_X5_init_128a.2.1) rfl wd168 wd234 wd139 inX6 tyX6_ok (by decide)).to, ?_⟩
  refine List.forall_mem_cons.mpr ⟨(s_dup (am_dp pw_X5_init_128 dd_X5_init_128a.2.2.1)).to, ?_⟩
  refine List.forall_mem_cons.mpr ⟨z_cin (ci := 6) (am_dp pw_X5_init_128 dd_X5_init_128a.2.2.2.1) mt64 wd235 rfl rfl, ?_⟩
  refine List.forall_mem_cons.mpr ⟨(s_aas (am_dp pw_X5_init_128 dd_X5_init_128a.2.2.2.2.1)).to, ?_⟩
  refine List.forall_mem_cons.mpr ⟨(s_iinc (am_dp pw_X5_init_128 dd_X5_init_128a.2.2.2.2.2.1) (by decide) (by decide)).to, ?_⟩
  refine List.forall_mem_cons.mpr ⟨(s_goto (am_dp pw_X5_init_128 dd_X5_init_128a.2.2.2.2.2.2.1) (by decide)).to, ?_⟩
  refine List.forall_mem_cons.mpr ⟨s_vret (am_dp pw_X5_init_128 dd_X5_init_128a.2.2.2.2.2.2.2) rfl, ?_⟩
  exact fun _ h => absurd h List.not_mem_nil
theorem sn_tX5_init : ∀ q ∈ tX5_init, am_Snd am_P0 RX5 cX5_init 2 (Option.none : Option FieldType) "<init>" q.1 q.2 := by
  unfold tX5_init
  exact List.forall_mem_append.mpr ⟨sn_tX5_init_0, sn_tX5_init_1⟩
theorem sn_tX5_clear : ∀ q ∈ tX5_clear, am_Snd am_P0 RX5 cX5_clear 1 (Option.none : Option FieldType) "clear" q.1 q.2 := by
  unfold tX5_clear
  refine List.forall_mem_cons.mpr ⟨(s_aloadn (am_dp pw_X5_clear_0 dd_X5_clear_0a.1) rfl).to, ?_⟩
  refine List.forall_mem_cons.mpr ⟨(s_iconst (am_dp pw_X5_clear_0 dd_X5_clear_0a.2.1) (by decide)).to, ?_⟩
  refine List.forall_mem_cons.mpr ⟨(s_put (ci := 5) (k := 0) (am_dp pw_X5_clear_0 dd_X5_clear_0a.2.2.1) rfl (by decide) wd305 inX5 tyX5_ok nmX5 rfl rfl).to, ?_⟩
  refine List.forall_mem_cons.mpr ⟨(s_aloadn (am_dp pw_X5_clear_0 dd_X5_clear_0a.2.2.2.1) rfl).to, ?_⟩
  refine List.forall_mem_cons.mpr ⟨(s_iconst (am_dp pw_X5_clear_0 dd_X5_clear_0a.2.2.2.2.1) (by decide)).to, ?_⟩
  refine List.forall_mem_cons.mpr ⟨(s_put (ci := 5) (k := 1) (am_dp pw_X5_clear_0 dd_X5_clear_0a.2.2.2.2.2.1) rfl (by decide) wd308 inX5 tyX5_ok nmX5 rfl rfl).to, ?_⟩
  refine List.forall_mem_cons.mpr ⟨(s_aloadn (am_dp pw_X5_clear_0 dd_X5_clear_0a.2.2.2.2.2.2.1) rfl).to, ?_⟩
  refine List.forall_mem_cons.mpr ⟨(s_bipush (am_dp pw_X5_clear_0 dd_X5_clear_0a.2.2.2.2.2.2.2) (by decide)).to, ?_⟩
  refine List.forall_mem_cons.mpr ⟨(s_put (ci := 5) (k := 2) (am_dp pw_X5_clear_0 dd_X5_clear_0b.1) rfl (by decide) wd311 inX5 tyX5_ok nmX5 rfl rfl).to, ?_⟩
  refine List.forall_mem_cons.mpr ⟨(s_aloadn (am_dp pw_X5_clear_0 dd_X5_clear_0b.2.1) rfl).to, ?_⟩
  refine List.forall_mem_cons.mpr ⟨(s_iconst (am_dp pw_X5_clear_0 dd_X5_clear_0b.2.2.1) (by decide)).to, ?_⟩
  refine List.forall_mem_cons.mpr ⟨(s_put (ci := 5) (k := 3) (am_dp pw_X5_clear_0 dd_X5_clear_0b.2.2.2.1) rfl (by decide) wd314 inX5 tyX5_ok nmX5 rfl rfl).to, ?_⟩
  refine List.forall_mem_cons.mpr ⟨(s_aloadn (am_dp pw_X5_clear_0 dd_X5_clear_0b.2.2.2.2.1) rfl).to, ?_⟩
  refine List.forall_mem_cons.mpr ⟨(s_get (ci := 5) (k := 5) (am_dp pw_X5_clear_0 dd_X5_clear_0b.2.2.2.2.2.1) rfl (by decide) wd320 inX5 rfl).to, ?_⟩
  refine List.forall_mem_cons.mpr ⟨(s_iconst (am_dp pw_X5_clear_0 dd_X5_clear_0b.2.2.2.2.2.2.1) (by decide)).to, ?_⟩
  refine List.forall_mem_cons.mpr ⟨(s_put (ci := 7) (k := 0) (am_dp pw_X5_clear_0 dd_X5_clear_0b.2.2.2.2.2.2.2) rfl (by decide) wd177 inX7 tyX7_ok nmX7 rfl rfl).to, ?_⟩
  refine List.forall_mem_cons.mpr ⟨(s_aloadn (am_dp pw_X5_clear_0 dd_X5_clear_0c.1) rfl).to, ?_⟩
  refine List.forall_mem_cons.mpr ⟨(s_get (ci := 5) (k := 6) (am_dp pw_X5_clear_0 dd_X5_clear_0c.2) rfl (by decide) wd323 inX5 rfl).to, ?_⟩
  refine List.forall_mem_cons.mpr ⟨(s_iconst (am_dp pw_X5_clear_32 dd_X5_clear_32a.1) (by decide)).to, ?_⟩
  refine List.forall_mem_cons.mpr ⟨(s_put (ci := 0) (k := 1) (am_dp pw_X5_clear_32 dd_X5_clear_32a.2.1) rfl (by decide) wd204 inX0 tyX0_ok nmX0 rfl rfl).to, ?_⟩
  refine List.forall_mem_cons.mpr ⟨(s_aloadn (am_dp pw_X5_clear_32 dd_X5_clear_32a.2.2.1) rfl).to, ?_⟩
  refine List.forall_mem_cons.mpr ⟨(s_get (ci := 5) (k := 7) (am_dp pw_X5_clear_32 dd_X5_clear_32a.2.2.2.1) rfl (by decide) wd325 inX5 rfl).to, ?_⟩
  refine List.forall_mem_cons.mpr ⟨(s_iconst (am_dp pw_X5_clear_32 dd_X5_clear_32a.2.2.2.2.1) (by decide)).to, ?_⟩
  refine List.forall_mem_cons.mpr ⟨(s_put (ci := 4) (k := 0) (am_dp pw_X5_clear_32 dd_X5_clear_32a.2.2.2.2.2.1) rfl (by decide) wd221 inX4 tyX4_ok nmX4 rfl rfl).to, ?_⟩
  refine List.forall_mem_cons.mpr ⟨(s_aloadn (am_dp pw_X5_clear_32 dd_X5_clear_32a.2.2.2.2.2.2.1) rfl).to, ?_⟩
  refine List.forall_mem_cons.mpr ⟨(s_get (ci := 5) (k := 8) (am_dp pw_X5_clear_32 dd_X5_clear_32a.2.2.2.2.2.2.2) rfl (by decide) wd327 inX5 rfl).to, ?_⟩
  refine List.forall_mem_cons.mpr ⟨(s_iconst (am_dp pw_X5_clear_32 dd_X5_clear_32b.1) (by decide)).to, ?_⟩
  refine List.forall_mem_cons.mpr ⟨(s_put (ci := 4) (k := 0) (am_dp pw_X5_clear_32 dd_X5_clear_32b.2.1) rfl (by decide) wd221 inX4 tyX4_ok nmX4 rfl rfl).to, ?_⟩
  refine List.forall_mem_cons.mpr ⟨(s_aloadn (am_dp pw_X5_clear_32 dd_X5_clear_32b.2.2.1) rfl).to, ?_⟩
  refine List.forall_mem_cons.mpr ⟨(s_get (ci := 5) (k := 9) (am_dp pw_X5_clear_32 dd_X5_clear_32b.2.2.2.1) rfl (by decide) wd329 inX5 rfl).to, ?_⟩
  refine List.forall_mem_cons.mpr ⟨(s_iconst (am_dp pw_X5_clear_32 dd_X5_clear_32b.2.2.2.2.1) (by decide)).to, ?_⟩
  refine List.forall_mem_cons.mpr ⟨(s_put (ci := 4) (k := 0) (am_dp pw_X5_clear_32 dd_X5_clear_32b.2.2.2.2.2.1) rfl (by decide) wd221 inX4 tyX4_ok nmX4 rfl rfl).to, ?_⟩
  refine List.forall_mem_cons.mpr ⟨s_vret (am_dp pw_X5_clear_32 dd_X5_clear_32b.2.2.2.2.2.2) rfl, ?_⟩
  exact fun _ h => absurd h List.not_mem_nil
theorem sn_tX5_measure : ∀ q ∈ tX5_measure, am_Snd am_P0 RX5 cX5_measure 4 (Option.none : Option FieldType) "measure" q.1 q.2 := by
  unfold tX5_measure
  refine List.forall_mem_cons.mpr ⟨(s_aloadn (am_dp pw_X5_measure_0 dd_X5_measure_0a.1) rfl).to, ?_⟩
  refine List.forall_mem_cons.mpr ⟨(s_get (ci := 5) (k := 10) (am_dp pw_X5_measure_0 dd_X5_measure_0a.2.1) rfl (by decide) wd331 inX5 rfl).to, ?_⟩
  refine List.forall_mem_cons.mpr ⟨(s_iconst (am_dp pw_X5_measure_0 dd_X5_measure_0a.2.2.1) (by decide)).to, ?_⟩
  refine List.forall_mem_cons.mpr ⟨zw_cs324 (am_dp pw_X5_measure_0 dd_X5_measure_0a.2.2.2.1) wd847, ?_⟩
  refine List.forall_mem_cons.mpr ⟨(s_aloadn (am_dp pw_X5_measure_0 dd_X5_measure_0a.2.2.2.2.1) rfl).to, ?_⟩
  refine List.forall_mem_cons.mpr ⟨(s_get (ci := 5) (k := 11) (am_dp pw_X5_measure_0 dd_X5_measure_0a.2.2.2.2.2.1) rfl (by decide) wd335 inX5 rfl).to, ?_⟩
  refine List.forall_mem_cons.mpr ⟨(s_iconst (am_dp pw_X5_measure_0 dd_X5_measure_0a.2.2.2.2.2.2.1) (by decide)).to, ?_⟩
  refine List.forall_mem_cons.mpr ⟨zw_cs324 (am_dp pw_X5_measure_0 dd_X5_measure_0a.2.2.2.2.2.2.2) wd847, ?_⟩
  refine List.forall_mem_cons.mpr ⟨(s_aloadn (am_dp pw_X5_measure_0 dd_X5_measure_0b.1) rfl).to, ?_⟩
  refine List.forall_mem_cons.mpr ⟨(s_get (ci := 5) (k := 12) (am_dp pw_X5_measure_0 dd_X5_measure_0b.2.1) rfl (by decide) wd336 inX5 rfl).to, ?_⟩
  refine List.forall_mem_cons.mpr ⟨(s_lconst (am_dp pw_X5_measure_0 dd_X5_measure_0b.2.2.1) (by decide)).to, ?_⟩
  refine List.forall_mem_cons.mpr ⟨zw_cs322 (am_dp pw_X5_measure_0 dd_X5_measure_0b.2.2.2.1) wd850, ?_⟩
  refine List.forall_mem_cons.mpr ⟨(s_aloadn (am_dp pw_X5_measure_0 dd_X5_measure_0b.2.2.2.2.1) rfl).to, ?_⟩
  refine List.forall_mem_cons.mpr ⟨(s_get (ci := 5) (k := 13) (am_dp pw_X5_measure_0 dd_X5_measure_0b.2.2.2.2.2.1) rfl (by decide) wd337 inX5 rfl).to, ?_⟩
  refine List.forall_mem_cons.mpr ⟨(s_lconst (am_dp pw_X5_measure_0 dd_X5_measure_0b.2.2.2.2.2.2.1) (by decide)).to, ?_⟩
  refine List.forall_mem_cons.mpr ⟨zw_cs322 (am_dp pw_X5_measure_0 dd_X5_measure_0b.2.2.2.2.2.2.2) wd850, ?_⟩
  refine List.forall_mem_cons.mpr ⟨(s_iconst (am_dp pw_X5_measure_32 dd_X5_measure_32a.1) (by decide)).to, ?_⟩
  refine List.forall_mem_cons.mpr ⟨(s_istoren (am_dp pw_X5_measure_32 dd_X5_measure_32a.2.1) rfl (by decide)).to, ?_⟩
  refine List.forall_mem_cons.mpr ⟨(s_iloadn (am_dp pw_X5_measure_32 dd_X5_measure_32a.2.2.1) rfl).to, ?_⟩
  refine List.forall_mem_cons.mpr ⟨(s_aloadn (am_dp pw_X5_measure_32 dd_X5_measure_32a.2.2.2.1) rfl).to, ?_⟩
  refine List.forall_mem_cons.mpr ⟨(s_get (ci := 5) (k := 1) (am_dp pw_X5_measure_32 dd_X5_measure_32a.2.2.2.2.1) rfl (by decide) wd308 inX5 rfl).to, ?_⟩
  refine List.forall_mem_cons.mpr ⟨(s_icmp_ge (am_dp pw_X5_measure_32 dd_X5_measure_32a.2.2.2.2.2.1) (by decide)).to, ?_⟩
  refine List.forall_mem_cons.mpr ⟨(s_iconst (am_dp pw_X5_measure_32 dd_X5_measure_32a.2.2.2.2.2.2.1) (by decide)).to, ?_⟩
  refine List.forall_mem_cons.mpr ⟨(s_istoren (am_dp pw_X5_measure_32 dd_X5_measure_32a.2.2.2.2.2.2.2) rfl (by decide)).to, ?_⟩
  refine List.forall_mem_cons.mpr ⟨(s_iloadn (am_dp pw_X5_measure_32 dd_X5_measure_32b.1) rfl).to, ?_⟩
  refine List.forall_mem_cons.mpr ⟨(s_aloadn (am_dp pw_X5_measure_32 dd_X5_measure_32b.2.1) rfl).to, ?_⟩
  refine List.forall_mem_cons.mpr ⟨(s_get (ci := 5) (k := 0) (am_dp pw_X5_measure_32 dd_X5_measure_32b.2.2.1) rfl (by decide) wd305 inX5 rfl).to, ?_⟩
  refine List.forall_mem_cons.mpr ⟨(s_icmp_ge (am_dp pw_X5_measure_32 dd_X5_measure_32b.2.2.2.1) (by decide)).to, ?_⟩
  refine List.forall_mem_cons.mpr ⟨(s_iloadn (am_dp pw_X5_measure_32 dd_X5_measure_32b.2.2.2.2.1) rfl).to, ?_⟩
  refine List.forall_mem_cons.mpr ⟨(s_bipush (am_dp pw_X5_measure_32 dd_X5_measure_32b.2.2.2.2.2.1) (by decide)).to, ?_⟩
  refine List.forall_mem_cons.mpr ⟨(s_imul (am_dp pw_X5_measure_32 dd_X5_measure_32b.2.2.2.2.2.2.1)).to, ?_⟩
  refine List.forall_mem_cons.mpr ⟨(s_iloadn (am_dp pw_X5_measure_32 dd_X5_measure_32b.2.2.2.2.2.2.2) rfl).to, ?_⟩
  refine List.forall_mem_cons.mpr ⟨(s_iadd (am_dp pw_X5_measure_32 dd_X5_measure_32c.1)).to, ?_⟩
  refine List.forall_mem_cons.mpr ⟨(s_istoren (am_dp pw_X5_measure_32 dd_X5_measure_32c.2.1) rfl (by decide)).to, ?_⟩
  refine List.forall_mem_cons.mpr ⟨(s_aloadn (am_dp pw_X5_measure_32 dd_X5_measure_32c.2.2.1) rfl).to, ?_⟩
  refine List.forall_mem_cons.mpr ⟨(s_get (ci := 5) (k := 10) (am_dp pw_X5_measure_32 dd_X5_measure_32c.2.2.2.1) rfl (by decide) wd331 inX5 rfl).to, ?_⟩
  refine List.forall_mem_cons.mpr ⟨(s_iloadn (am_dp pw_X5_measure_32 dd_X5_measure_32c.2.2.2.2) rfl).to, ?_⟩
  refine List.forall_mem_cons.mpr ⟨(s_aloadn (am_dp pw_X5_measure_64 dd_X5_measure_64a.1) rfl).to, ?_⟩
  refine List.forall_mem_cons.mpr ⟨(s_get (ci := 5) (k := 7) (am_dp pw_X5_measure_64 dd_X5_measure_64a.2.1) rfl (by decide) wd325 inX5 rfl).to, ?_⟩
  refine List.forall_mem_cons.mpr ⟨(s_aloadn (am_dp pw_X5_measure_64 dd_X5_measure_64a.2.2.1) rfl).to, ?_⟩
  refine List.forall_mem_cons.mpr ⟨(s_get (ci := 5) (k := 6) (am_dp pw_X5_measure_64 dd_X5_measure_64a.2.2.2.1) rfl (by decide) wd323 inX5 rfl).to, ?_⟩
  refine List.forall_mem_cons.mpr ⟨(s_iloadn (am_dp pw_X5_measure_64 dd_X5_measure_64a.2.2.2.2.1) rfl).to, ?_⟩
  refine List.forall_mem_cons.mpr ⟨(s_iconst (am_dp pw_X5_measure_64 dd_X5_measure_64a.2.2.2.2.2.1) (by decide)).to, ?_⟩
  refine List.forall_mem_cons.mpr ⟨zw_cv50 (am_dp pw_X5_measure_64 dd_X5_measure_64a.2.2.2.2.2.2.1) wd853, ?_⟩
  refine List.forall_mem_cons.mpr ⟨(s_iast (am_dp pw_X5_measure_64 dd_X5_measure_64a.2.2.2.2.2.2.2)).to, ?_⟩
  refine List.forall_mem_cons.mpr ⟨(s_iinc (am_dp pw_X5_measure_64 dd_X5_measure_64b.1) (by decide) (by decide)).to, ?_⟩
  refine List.forall_mem_cons.mpr ⟨(s_goto (am_dp pw_X5_measure_64 dd_X5_measure_64b.2.1) (by decide)).to, ?_⟩
  refine List.forall_mem_cons.mpr ⟨(s_iinc (am_dp pw_X5_measure_64 dd_X5_measure_64b.2.2.1) (by decide) (by decide)).to, ?_⟩
  refine List.forall_mem_cons.mpr ⟨(s_goto (am_dp pw_X5_measure_64 dd_X5_measure_64b.2.2.2.1) (by decide)).to, ?_⟩
  refine List.forall_mem_cons.mpr ⟨s_vret (am_dp pw_X5_measure_64 dd_X5_measure_64b.2.2.2.2) rfl, ?_⟩
  exact fun _ h => absurd h List.not_mem_nil
theorem sn_tX5_costAt : ∀ q ∈ tX5_costAt, am_Snd am_P0 RX5 cX5_costAt 2 (Option.some FieldType.int) "costAt" q.1 q.2 := by
  unfold tX5_costAt
  refine List.forall_mem_cons.mpr ⟨(s_aloadn (am_dp pw_X5_costAt_0 dd_X5_costAt_0a.1) rfl).to, ?_⟩
  refine List.forall_mem_cons.mpr ⟨(s_get (ci := 5) (k := 11) (am_dp pw_X5_costAt_0 dd_X5_costAt_0a.2.1) rfl (by decide) wd335 inX5 rfl).to, ?_⟩
  refine List.forall_mem_cons.mpr ⟨(s_iloadn (am_dp pw_X5_costAt_0 dd_X5_costAt_0a.2.2.1) rfl).to, ?_⟩
  refine List.forall_mem_cons.mpr ⟨(s_iald (am_dp pw_X5_costAt_0 dd_X5_costAt_0a.2.2.2.1)).to, ?_⟩
  refine List.forall_mem_cons.mpr ⟨(s_iconst (am_dp pw_X5_costAt_0 dd_X5_costAt_0a.2.2.2.2.1) (by decide)).to, ?_⟩
  refine List.forall_mem_cons.mpr ⟨(s_icmp_ne (am_dp pw_X5_costAt_0 dd_X5_costAt_0a.2.2.2.2.2.1) (by decide)).to, ?_⟩
  refine List.forall_mem_cons.mpr ⟨(s_aloadn (am_dp pw_X5_costAt_0 dd_X5_costAt_0a.2.2.2.2.2.2.1) rfl).to, ?_⟩
  refine List.forall_mem_cons.mpr ⟨(s_get (ci := 5) (k := 11) (am_dp pw_X5_costAt_0 dd_X5_costAt_0a.2.2.2.2.2.2.2) rfl (by decide) wd335 inX5 rfl).to, ?_⟩
  refine List.forall_mem_cons.mpr ⟨(s_iloadn (am_dp pw_X5_costAt_0 dd_X5_costAt_0b.1) rfl).to, ?_⟩
  refine List.forall_mem_cons.mpr ⟨(s_aloadn (am_dp pw_X5_costAt_0 dd_X5_costAt_0b.2.1) rfl).to, ?_⟩
  refine List.forall_mem_cons.mpr ⟨(s_get (ci := 5) (k := 8) (am_dp pw_X5_costAt_0 dd_X5_costAt_0b.2.2.1) rfl (by decide) wd327 inX5 rfl).to, ?_⟩
  refine List.forall_mem_cons.mpr ⟨(s_aloadn (am_dp pw_X5_costAt_0 dd_X5_costAt_0b.2.2.2.1) rfl).to, ?_⟩
  refine List.forall_mem_cons.mpr ⟨(s_get (ci := 5) (k := 6) (am_dp pw_X5_costAt_0 dd_X5_costAt_0b.2.2.2.2.1) rfl (by decide) wd323 inX5 rfl).to, ?_⟩
  refine List.forall_mem_cons.mpr ⟨(s_iloadn (am_dp pw_X5_costAt_0 dd_X5_costAt_0b.2.2.2.2.2.1) rfl).to, ?_⟩
  refine List.forall_mem_cons.mpr ⟨(s_aloadn (am_dp pw_X5_costAt_0 dd_X5_costAt_0b.2.2.2.2.2.2.1) rfl).to, ?_⟩
  refine List.forall_mem_cons.mpr ⟨(s_get (ci := 5) (k := 10) (am_dp pw_X5_costAt_0 dd_X5_costAt_0b.2.2.2.2.2.2.2) rfl (by decide) wd331 inX5 rfl).to, ?_⟩
  refine List.forall_mem_cons.mpr ⟨(s_iloadn (am_dp pw_X5_costAt_0 dd_X5_costAt_0c.1) rfl).to, ?_⟩
  refine List.forall_mem_cons.mpr ⟨(s_iald (am_dp pw_X5_costAt_0 dd_X5_costAt_0c.2.1)).to, ?_⟩
  refine List.forall_mem_cons.mpr ⟨zw_cv50 (am_dp pw_X5_costAt_0 dd_X5_costAt_0c.2.2) wd853, ?_⟩
  refine List.forall_mem_cons.mpr ⟨(s_iast (am_dp pw_X5_costAt_32 dd_X5_costAt_32a.1)).to, ?_⟩
  refine List.forall_mem_cons.mpr ⟨(s_aloadn (am_dp pw_X5_costAt_32 dd_X5_costAt_32a.2.1) rfl).to, ?_⟩
  refine List.forall_mem_cons.mpr ⟨(s_get (ci := 5) (k := 11) (am_dp pw_X5_costAt_32 dd_X5_costAt_32a.2.2.1) rfl (by decide) wd335 inX5 rfl).to, ?_⟩
  refine List.forall_mem_cons.mpr ⟨(s_iloadn (am_dp pw_X5_costAt_32 dd_X5_costAt_32a.2.2.2.1) rfl).to, ?_⟩
  refine List.forall_mem_cons.mpr ⟨(s_iald (am_dp pw_X5_costAt_32 dd_X5_costAt_32a.2.2.2.2.1)).to, ?_⟩
  refine List.forall_mem_cons.mpr ⟨s_iret (am_dp pw_X5_costAt_32 dd_X5_costAt_32a.2.2.2.2.2) rfl, ?_⟩
  exact fun _ h => absurd h List.not_mem_nil
theorem sn_tX5_isQuiet_0 : ∀ q ∈ tX5_isQuiet_0, am_Snd am_P0 RX5 cX5_isQuiet 6 (Option.some FieldType.boolean) "isQuiet" q.1 q.2 := by
  unfold tX5_isQuiet_0
  refine List.forall_mem_cons.mpr ⟨(s_iloadn (am_dp pw_X5_isQuiet_0 dd_X5_isQuiet_0a.1) rfl).to, ?_⟩
  refine List.forall_mem_cons.mpr ⟨(s_iconst (am_dp pw_X5_isQuiet_0 dd_X5_isQuiet_0a.2.1) (by decide)).to, ?_⟩
  refine List.forall_mem_cons.mpr ⟨(s_imul (am_dp pw_X5_isQuiet_0 dd_X5_isQuiet_0a.2.2.1)).to, ?_⟩
  refine List.forall_mem_cons.mpr ⟨(s_iloadn (am_dp pw_X5_isQuiet_0 dd_X5_isQuiet_0a.2.2.2.1) rfl).to, ?_⟩
  refine List.forall_mem_cons.mpr ⟨(s_bipush (am_dp pw_X5_isQuiet_0 dd_X5_isQuiet_0a.2.2.2.2.1) (by decide)).to, ?_⟩
  refine List.forall_mem_cons.mpr ⟨(s_ishr (am_dp pw_X5_isQuiet_0 dd_X5_isQuiet_0a.2.2.2.2.2.1)).to, ?_⟩
  refine List.forall_mem_cons.mpr ⟨(s_iadd (am_dp pw_X5_isQuiet_0 dd_X5_isQuiet_0a.2.2.2.2.2.2.1)).to, ?_⟩
  refine List.forall_mem_cons.mpr ⟨(s_istoren (am_dp pw_X5_isQuiet_0 dd_X5_isQuiet_0a.2.2.2.2.2.2.2) rfl (by decide)).to, ?_⟩
  refine List.forall_mem_cons.mpr ⟨(s_lconst (am_dp pw_X5_isQuiet_0 dd_X5_isQuiet_0b.1) (by decide)).to, ?_⟩
  refine List.forall_mem_cons.mpr ⟨(s_iloadn (am_dp pw_X5_isQuiet_0 dd_X5_isQuiet_0b.2.1) rfl).to, ?_⟩
  refine List.forall_mem_cons.mpr ⟨(s_bipush (am_dp pw_X5_isQuiet_0 dd_X5_isQuiet_0b.2.2.1) (by decide)).to, ?_⟩
  refine List.forall_mem_cons.mpr ⟨(s_iand (am_dp pw_X5_isQuiet_0 dd_X5_isQuiet_0b.2.2.2.1)).to, ?_⟩
  refine List.forall_mem_cons.mpr ⟨(s_lshl (am_dp pw_X5_isQuiet_0 dd_X5_isQuiet_0b.2.2.2.2.1)).to, ?_⟩
  refine List.forall_mem_cons.mpr ⟨(s_lstore (am_dp pw_X5_isQuiet_0 dd_X5_isQuiet_0b.2.2.2.2.2.1) (by decide)).to, ?_⟩
  refine List.forall_mem_cons.mpr ⟨(s_aloadn (am_dp pw_X5_isQuiet_0 dd_X5_isQuiet_0b.2.2.2.2.2.2.1) rfl).to, ?_⟩
  refine List.forall_mem_cons.mpr ⟨(s_get (ci := 5) (k := 12) (am_dp pw_X5_isQuiet_0 dd_X5_isQuiet_0b.2.2.2.2.2.2.2) rfl (by decide) wd336 inX5 rfl).to, ?_⟩
  refine List.forall_mem_cons.mpr ⟨(s_iloadn (am_dp pw_X5_isQuiet_0 dd_X5_isQuiet_0c.1) rfl).to, ?_⟩
  refine List.forall_mem_cons.mpr ⟨(s_lald (am_dp pw_X5_isQuiet_0 dd_X5_isQuiet_0c.2.1)).to, ?_⟩
  refine List.forall_mem_cons.mpr ⟨(s_lload (am_dp pw_X5_isQuiet_0 dd_X5_isQuiet_0c.2.2.1)).to, ?_⟩
  refine List.forall_mem_cons.mpr ⟨(s_land (am_dp pw_X5_isQuiet_0 dd_X5_isQuiet_0c.2.2.2.1)).to, ?_⟩
  refine List.forall_mem_cons.mpr ⟨(s_lconst (am_dp pw_X5_isQuiet_0 dd_X5_isQuiet_0c.2.2.2.2.1) (by decide)).to, ?_⟩
  refine List.forall_mem_cons.mpr ⟨(s_lcmp (am_dp pw_X5_isQuiet_0 dd_X5_isQuiet_0c.2.2.2.2.2.1)).to, ?_⟩
  refine List.forall_mem_cons.mpr ⟨(s_if_ne (am_dp pw_X5_isQuiet_0 dd_X5_isQuiet_0c.2.2.2.2.2.2.1) (by decide)).to, ?_⟩
  refine List.forall_mem_cons.mpr ⟨(s_aloadn (am_dp pw_X5_isQuiet_0 dd_X5_isQuiet_0c.2.2.2.2.2.2.2) rfl).to, ?_⟩
  refine List.forall_mem_cons.mpr ⟨(s_get (ci := 5) (k := 12) (am_dp pw_X5_isQuiet_32 dd_X5_isQuiet_32a.1) rfl (by decide) wd336 inX5 rfl).to, ?_⟩
  refine List.forall_mem_cons.mpr ⟨(s_iloadn (am_dp pw_X5_isQuiet_32 dd_X5_isQuiet_32a.2.1) rfl).to, ?_⟩
  refine List.forall_mem_cons.mpr ⟨(s_dup2 (am_dp pw_X5_isQuiet_32 dd_X5_isQuiet_32a.2.2.1)).to, ?_⟩
  refine List.forall_mem_cons.mpr ⟨(s_lald (am_dp pw_X5_isQuiet_32 dd_X5_isQuiet_32a.2.2.2.1)).to, ?_⟩
  refine List.forall_mem_cons.mpr ⟨(s_lload (am_dp pw_X5_isQuiet_32 dd_X5_isQuiet_32a.2.2.2.2.1)).to, ?_⟩
  refine List.forall_mem_cons.mpr ⟨(s_lor (am_dp pw_X5_isQuiet_32 dd_X5_isQuiet_32a.2.2.2.2.2.1)).to, ?_⟩
  refine List.forall_mem_cons.mpr ⟨(s_last (am_dp pw_X5_isQuiet_32 dd_X5_isQuiet_32a.2.2.2.2.2.2.1)).to, ?_⟩
  refine List.forall_mem_cons.mpr ⟨(s_aloadn (am_dp pw_X5_isQuiet_32 dd_X5_isQuiet_32a.2.2.2.2.2.2.2) rfl).to, ?_⟩
  refine List.forall_mem_cons.mpr ⟨(s_get (ci := 5) (k := 9) (am_dp pw_X5_isQuiet_32 dd_X5_isQuiet_32b.1) rfl (by decide) wd329 inX5 rfl).to, ?_⟩
  refine List.forall_mem_cons.mpr ⟨(s_aloadn (am_dp pw_X5_isQuiet_32 dd_X5_isQuiet_32b.2.1) rfl).to, ?_⟩
  refine List.forall_mem_cons.mpr ⟨(s_get (ci := 5) (k := 6) (am_dp pw_X5_isQuiet_32 dd_X5_isQuiet_32b.2.2.1) rfl (by decide) wd323 inX5 rfl).to, ?_⟩
  refine List.forall_mem_cons.mpr ⟨(s_iloadn (am_dp pw_X5_isQuiet_32 dd_X5_isQuiet_32b.2.2.2.1) rfl).to, ?_⟩
  refine List.forall_mem_cons.mpr ⟨(s_iloadn (am_dp pw_X5_isQuiet_32 dd_X5_isQuiet_32b.2.2.2.2.1) rfl).to, ?_⟩
  refine List.forall_mem_cons.mpr ⟨(s_aloadn (am_dp pw_X5_isQuiet_32 dd_X5_isQuiet_32b.2.2.2.2.2.1) rfl).to, ?_⟩
  refine List.forall_mem_cons.mpr ⟨(s_get (ci := 5) (k := 10) (am_dp pw_X5_isQuiet_32 dd_X5_isQuiet_32b.2.2.2.2.2.2.1) rfl (by decide) wd331 inX5 rfl).to, ?_⟩
  refine List.forall_mem_cons.mpr ⟨(s_iloadn (am_dp pw_X5_isQuiet_32 dd_X5_isQuiet_32b.2.2.2.2.2.2.2) rfl).to, ?_⟩
  refine List.forall_mem_cons.mpr ⟨(s_iald (am_dp pw_X5_isQuiet_32 dd_X5_isQuiet_32c.1)).to, ?_⟩
  refine List.forall_mem_cons.mpr ⟨zw_cv49 (am_dp pw_X5_isQuiet_32 dd_X5_isQuiet_32c.2.1) wd1039, ?_⟩
  refine List.forall_mem_cons.mpr ⟨(s_iconst (am_dp pw_X5_isQuiet_32 dd_X5_isQuiet_32c.2.2.1) (by decide)).to, ?_⟩
  refine List.forall_mem_cons.mpr ⟨(s_icmp_eq (am_dp pw_X5_isQuiet_32 dd_X5_isQuiet_32c.2.2.2) (by decide)).to, ?_⟩
  refine List.forall_mem_cons.mpr ⟨(s_aloadn (am_dp pw_X5_isQuiet_64 dd_X5_isQuiet_64a.1) rfl).to, ?_⟩
  refine List.forall_mem_cons.mpr ⟨(s_get (ci := 5) (k := 13) (am_dp pw_X5_isQuiet_64 dd_X5_isQuiet_64a.2.1) rfl (by decide) wd337 inX5 rfl).to, ?_⟩
  refine List.forall_mem_cons.mpr ⟨(s_iloadn (am_dp pw_X5_isQuiet_64 dd_X5_isQuiet_64a.2.2.1) rfl).to, ?_⟩
  refine List.forall_mem_cons.mpr ⟨(s_dup2 (am_dp pw_X5_isQuiet_64 dd_X5_isQuiet_64a.2.2.2.1)).to, ?_⟩
  refine List.forall_mem_cons.mpr ⟨(s_lald (am_dp pw_X5_isQuiet_64 dd_X5_isQuiet_64a.2.2.2.2.1)).to, ?_⟩
  refine List.forall_mem_cons.mpr ⟨(s_lload (am_dp pw_X5_isQuiet_64 dd_X5_isQuiet_64a.2.2.2.2.2.1)).to, ?_⟩
  refine List.forall_mem_cons.mpr ⟨(s_lor (am_dp pw_X5_isQuiet_64 dd_X5_isQuiet_64a.2.2.2.2.2.2.1)).to, ?_⟩
  refine List.forall_mem_cons.mpr ⟨(s_last (am_dp pw_X5_isQuiet_64 dd_X5_isQuiet_64a.2.2.2.2.2.2.2)).to, ?_⟩
  refine List.forall_mem_cons.mpr ⟨(s_aloadn (am_dp pw_X5_isQuiet_64 dd_X5_isQuiet_64b.1) rfl).to, ?_⟩
  refine List.forall_mem_cons.mpr ⟨(s_get (ci := 5) (k := 13) (am_dp pw_X5_isQuiet_64 dd_X5_isQuiet_64b.2.1) rfl (by decide) wd337 inX5 rfl).to, ?_⟩
  refine List.forall_mem_cons.mpr ⟨(s_iloadn (am_dp pw_X5_isQuiet_64 dd_X5_isQuiet_64b.2.2.1) rfl).to, ?_⟩
  refine List.forall_mem_cons.mpr ⟨(s_lald (am_dp pw_X5_isQuiet_64 dd_X5_isQuiet_64b.2.2.2.1)).to, ?_⟩
  refine List.forall_mem_cons.mpr ⟨(s_lload (am_dp pw_X5_isQuiet_64 dd_X5_isQuiet_64b.2.2.2.2.1)).to, ?_⟩
  refine List.forall_mem_cons.mpr ⟨(s_land (am_dp pw_X5_isQuiet_64 dd_X5_isQuiet_64b.2.2.2.2.2.1)).to, ?_⟩
  refine List.forall_mem_cons.mpr ⟨(s_lconst (am_dp pw_X5_isQuiet_64 dd_X5_isQuiet_64b.2.2.2.2.2.2.1) (by decide)).to, ?_⟩
  refine List.forall_mem_cons.mpr ⟨(s_lcmp (am_dp pw_X5_isQuiet_64 dd_X5_isQuiet_64b.2.2.2.2.2.2.2)).to, ?_⟩
  exact fun _ h => absurd h List.not_mem_nil
theorem sn_tX5_isQuiet_1 : ∀ q ∈ tX5_isQuiet_1, am_Snd am_P0 RX5 cX5_isQuiet 6 (Option.some FieldType.boolean) "isQuiet" q.1 q.2 := by
  unfold tX5_isQuiet_1
  refine List.forall_mem_cons.mpr ⟨(s_if_eq (am_dp pw_X5_isQuiet_64 dd_X5_isQuiet_64c.1) (by decide)).to, ?_⟩
  refine List.forall_mem_cons.mpr ⟨(s_iconst (am_dp pw_X5_isQuiet_64 dd_X5_isQuiet_64c.2.1) (by decide)).to, ?_⟩
  refine List.forall_mem_cons.mpr ⟨(s_goto (am_dp pw_X5_isQuiet_64 dd_X5_isQuiet_64c.2.2.1) (by decide)).to, ?_⟩
  refine List.forall_mem_cons.mpr ⟨(s_iconst (am_dp pw_X5_isQuiet_64 dd_X5_isQuiet_64c.2.2.2.1) (by decide)).to, ?_⟩
  refine List.forall_mem_cons.mpr ⟨s_zret (am_dp pw_X5_isQuiet_64 dd_X5_isQuiet_64c.2.2.2.2) rfl, ?_⟩
  exact fun _ h => absurd h List.not_mem_nil
theorem sn_tX5_isQuiet : ∀ q ∈ tX5_isQuiet, am_Snd am_P0 RX5 cX5_isQuiet 6 (Option.some FieldType.boolean) "isQuiet" q.1 q.2 := by
  unfold tX5_isQuiet
  exact List.forall_mem_append.mpr ⟨sn_tX5_isQuiet_0, sn_tX5_isQuiet_1⟩
theorem sn_tX5_placeAt : ∀ q ∈ tX5_placeAt, am_Snd am_P0 RX5 cX5_placeAt 3 (Option.some FieldType.int) "placeAt" q.1 q.2 := by
  unfold tX5_placeAt
  refine List.forall_mem_cons.mpr ⟨(s_iloadn (am_dp pw_X5_placeAt_0 dd_X5_placeAt_0a.1) rfl).to, ?_⟩
  refine List.forall_mem_cons.mpr ⟨(s_if_lt (am_dp pw_X5_placeAt_0 dd_X5_placeAt_0a.2.1) (by decide)).to, ?_⟩
  refine List.forall_mem_cons.mpr ⟨(s_iloadn (am_dp pw_X5_placeAt_0 dd_X5_placeAt_0a.2.2.1) rfl).to, ?_⟩
  refine List.forall_mem_cons.mpr ⟨(s_aloadn (am_dp pw_X5_placeAt_0 dd_X5_placeAt_0a.2.2.2.1) rfl).to, ?_⟩
  refine List.forall_mem_cons.mpr ⟨(s_get (ci := 5) (k := 0) (am_dp pw_X5_placeAt_0 dd_X5_placeAt_0a.2.2.2.2.1) rfl (by decide) wd305 inX5 rfl).to, ?_⟩
  refine List.forall_mem_cons.mpr ⟨(s_icmp_ge (am_dp pw_X5_placeAt_0 dd_X5_placeAt_0a.2.2.2.2.2.1) (by decide)).to, ?_⟩
  refine List.forall_mem_cons.mpr ⟨(s_iloadn (am_dp pw_X5_placeAt_0 dd_X5_placeAt_0a.2.2.2.2.2.2.1) rfl).to, ?_⟩
  refine List.forall_mem_cons.mpr ⟨(s_if_lt (am_dp pw_X5_placeAt_0 dd_X5_placeAt_0a.2.2.2.2.2.2.2) (by decide)).to, ?_⟩
  refine List.forall_mem_cons.mpr ⟨(s_iloadn (am_dp pw_X5_placeAt_0 dd_X5_placeAt_0b.1) rfl).to, ?_⟩
  refine List.forall_mem_cons.mpr ⟨(s_aloadn (am_dp pw_X5_placeAt_0 dd_X5_placeAt_0b.2.1) rfl).to, ?_⟩
  refine List.forall_mem_cons.mpr ⟨(s_get (ci := 5) (k := 1) (am_dp pw_X5_placeAt_0 dd_X5_placeAt_0b.2.2.1) rfl (by decide) wd308 inX5 rfl).to, ?_⟩
  refine List.forall_mem_cons.mpr ⟨(s_icmp_lt (am_dp pw_X5_placeAt_0 dd_X5_placeAt_0b.2.2.2.1) (by decide)).to, ?_⟩
  refine List.forall_mem_cons.mpr ⟨(s_iconst (am_dp pw_X5_placeAt_0 dd_X5_placeAt_0b.2.2.2.2.1) (by decide)).to, ?_⟩
  refine List.forall_mem_cons.mpr ⟨s_iret (am_dp pw_X5_placeAt_0 dd_X5_placeAt_0b.2.2.2.2.2.1) rfl, ?_⟩
  refine List.forall_mem_cons.mpr ⟨(s_iloadn (am_dp pw_X5_placeAt_0 dd_X5_placeAt_0b.2.2.2.2.2.2.1) rfl).to, ?_⟩
  refine List.forall_mem_cons.mpr ⟨(s_bipush (am_dp pw_X5_placeAt_0 dd_X5_placeAt_0b.2.2.2.2.2.2.2) (by decide)).to, ?_⟩
  refine List.forall_mem_cons.mpr ⟨(s_imul (am_dp pw_X5_placeAt_0 dd_X5_placeAt_0c.1)).to, ?_⟩
  refine List.forall_mem_cons.mpr ⟨(s_iloadn (am_dp pw_X5_placeAt_0 dd_X5_placeAt_0c.2.1) rfl).to, ?_⟩
  refine List.forall_mem_cons.mpr ⟨(s_iadd (am_dp pw_X5_placeAt_0 dd_X5_placeAt_0c.2.2)).to, ?_⟩
  refine List.forall_mem_cons.mpr ⟨s_iret (am_dp pw_X5_placeAt_32 dd_X5_placeAt_32a) rfl, ?_⟩
  exact fun _ h => absurd h List.not_mem_nil
theorem sn_tX5_placeOf : ∀ q ∈ tX5_placeOf, am_Snd am_P0 RX5 cX5_placeOf 2 (Option.some FieldType.int) "placeOf" q.1 q.2 := by
  unfold tX5_placeOf
  refine List.forall_mem_cons.mpr ⟨(s_aloadn (am_dp pw_X5_placeOf_0 dd_X5_placeOf_0a.1) rfl).to, ?_⟩
  refine List.forall_mem_cons.mpr ⟨(s_get (ci := 5) (k := 0) (am_dp pw_X5_placeOf_0 dd_X5_placeOf_0a.2.1) rfl (by decide) wd305 inX5 rfl).to, ?_⟩
  refine List.forall_mem_cons.mpr ⟨(s_if_eq (am_dp pw_X5_placeOf_0 dd_X5_placeOf_0a.2.2.1) (by decide)).to, ?_⟩
  refine List.forall_mem_cons.mpr ⟨(s_iloadn (am_dp pw_X5_placeOf_0 dd_X5_placeOf_0a.2.2.2.1) rfl).to, ?_⟩
  refine List.forall_mem_cons.mpr ⟨(s_if_lt (am_dp pw_X5_placeOf_0 dd_X5_placeOf_0a.2.2.2.2.1) (by decide)).to, ?_⟩
  refine List.forall_mem_cons.mpr ⟨(s_iloadn (am_dp pw_X5_placeOf_0 dd_X5_placeOf_0a.2.2.2.2.2.1) rfl).to, ?_⟩
  refine List.forall_mem_cons.mpr ⟨(s_aloadn (am_dp pw_X5_placeOf_0 dd_X5_placeOf_0a.2.2.2.2.2.2.1) rfl).to, ?_⟩
  refine List.forall_mem_cons.mpr ⟨(s_get (ci := 5) (k := 0) (am_dp pw_X5_placeOf_0 dd_X5_placeOf_0a.2.2.2.2.2.2.2) rfl (by decide) wd305 inX5 rfl).to, ?_⟩
  refine List.forall_mem_cons.mpr ⟨(s_aloadn (am_dp pw_X5_placeOf_0 dd_X5_placeOf_0b.1) rfl).to, ?_⟩
  refine List.forall_mem_cons.mpr ⟨(s_get (ci := 5) (k := 1) (am_dp pw_X5_placeOf_0 dd_X5_placeOf_0b.2.1) rfl (by decide) wd308 inX5 rfl).to, ?_⟩
  refine List.forall_mem_cons.mpr ⟨(s_imul (am_dp pw_X5_placeOf_0 dd_X5_placeOf_0b.2.2.1)).to, ?_⟩
  refine List.forall_mem_cons.mpr ⟨(s_icmp_lt (am_dp pw_X5_placeOf_0 dd_X5_placeOf_0b.2.2.2.1) (by decide)).to, ?_⟩
  refine List.forall_mem_cons.mpr ⟨(s_iconst (am_dp pw_X5_placeOf_0 dd_X5_placeOf_0b.2.2.2.2.1) (by decide)).to, ?_⟩
  refine List.forall_mem_cons.mpr ⟨s_iret (am_dp pw_X5_placeOf_0 dd_X5_placeOf_0b.2.2.2.2.2.1) rfl, ?_⟩
  refine List.forall_mem_cons.mpr ⟨(s_iloadn (am_dp pw_X5_placeOf_0 dd_X5_placeOf_0b.2.2.2.2.2.2.1) rfl).to, ?_⟩
  refine List.forall_mem_cons.mpr ⟨(s_aloadn (am_dp pw_X5_placeOf_0 dd_X5_placeOf_0b.2.2.2.2.2.2.2) rfl).to, ?_⟩
  refine List.forall_mem_cons.mpr ⟨(s_get (ci := 5) (k := 0) (am_dp pw_X5_placeOf_0 dd_X5_placeOf_0c.1) rfl (by decide) wd305 inX5 rfl).to, ?_⟩
  refine List.forall_mem_cons.mpr ⟨(s_idiv (am_dp pw_X5_placeOf_0 dd_X5_placeOf_0c.2)).to, ?_⟩
  refine List.forall_mem_cons.mpr ⟨(s_bipush (am_dp pw_X5_placeOf_32 dd_X5_placeOf_32a.1) (by decide)).to, ?_⟩
  refine List.forall_mem_cons.mpr ⟨(s_imul (am_dp pw_X5_placeOf_32 dd_X5_placeOf_32a.2.1)).to, ?_⟩
  refine List.forall_mem_cons.mpr ⟨(s_iloadn (am_dp pw_X5_placeOf_32 dd_X5_placeOf_32a.2.2.1) rfl).to, ?_⟩
  refine List.forall_mem_cons.mpr ⟨(s_aloadn (am_dp pw_X5_placeOf_32 dd_X5_placeOf_32a.2.2.2.1) rfl).to, ?_⟩
  refine List.forall_mem_cons.mpr ⟨(s_get (ci := 5) (k := 0) (am_dp pw_X5_placeOf_32 dd_X5_placeOf_32a.2.2.2.2.1) rfl (by decide) wd305 inX5 rfl).to, ?_⟩
  refine List.forall_mem_cons.mpr ⟨(s_irem (am_dp pw_X5_placeOf_32 dd_X5_placeOf_32a.2.2.2.2.2.1)).to, ?_⟩
  refine List.forall_mem_cons.mpr ⟨(s_iadd (am_dp pw_X5_placeOf_32 dd_X5_placeOf_32a.2.2.2.2.2.2.1)).to, ?_⟩
  refine List.forall_mem_cons.mpr ⟨s_iret (am_dp pw_X5_placeOf_32 dd_X5_placeOf_32a.2.2.2.2.2.2.2) rfl, ?_⟩
  exact fun _ h => absurd h List.not_mem_nil
theorem sn_tX5_numberOf : ∀ q ∈ tX5_numberOf, am_Snd am_P0 RX5 cX5_numberOf 2 (Option.some FieldType.int) "numberOf" q.1 q.2 := by
  unfold tX5_numberOf
  refine List.forall_mem_cons.mpr ⟨(s_iloadn (am_dp pw_X5_numberOf_0 dd_X5_numberOf_0a.1) rfl).to, ?_⟩
  refine List.forall_mem_cons.mpr ⟨(s_bipush (am_dp pw_X5_numberOf_0 dd_X5_numberOf_0a.2.1) (by decide)).to, ?_⟩
  refine List.forall_mem_cons.mpr ⟨(s_idiv (am_dp pw_X5_numberOf_0 dd_X5_numberOf_0a.2.2.1)).to, ?_⟩
  refine List.forall_mem_cons.mpr ⟨(s_aloadn (am_dp pw_X5_numberOf_0 dd_X5_numberOf_0a.2.2.2.1) rfl).to, ?_⟩
  refine List.forall_mem_cons.mpr ⟨(s_get (ci := 5) (k := 0) (am_dp pw_X5_numberOf_0 dd_X5_numberOf_0a.2.2.2.2.1) rfl (by decide) wd305 inX5 rfl).to, ?_⟩
  refine List.forall_mem_cons.mpr ⟨(s_imul (am_dp pw_X5_numberOf_0 dd_X5_numberOf_0a.2.2.2.2.2.1)).to, ?_⟩
  refine List.forall_mem_cons.mpr ⟨(s_iloadn (am_dp pw_X5_numberOf_0 dd_X5_numberOf_0a.2.2.2.2.2.2.1) rfl).to, ?_⟩
  refine List.forall_mem_cons.mpr ⟨(s_bipush (am_dp pw_X5_numberOf_0 dd_X5_numberOf_0a.2.2.2.2.2.2.2) (by decide)).to, ?_⟩
  refine List.forall_mem_cons.mpr ⟨(s_irem (am_dp pw_X5_numberOf_0 dd_X5_numberOf_0b.1)).to, ?_⟩
  refine List.forall_mem_cons.mpr ⟨(s_iadd (am_dp pw_X5_numberOf_0 dd_X5_numberOf_0b.2.1)).to, ?_⟩
  refine List.forall_mem_cons.mpr ⟨s_iret (am_dp pw_X5_numberOf_0 dd_X5_numberOf_0b.2.2) rfl, ?_⟩
  exact fun _ h => absurd h List.not_mem_nil
theorem sn_tX5_countSayings : ∀ q ∈ tX5_countSayings, am_Snd am_P0 RX5 cX5_countSayings 3 (Option.some FieldType.int) "countSayings" q.1 q.2 := by
  unfold tX5_countSayings
  refine List.forall_mem_cons.mpr ⟨(s_iconst (am_dp pw_X5_countSayings_0 dd_X5_countSayings_0a.1) (by decide)).to, ?_⟩
  refine List.forall_mem_cons.mpr ⟨(s_istoren (am_dp pw_X5_countSayings_0 dd_X5_countSayings_0a.2.1) rfl (by decide)).to, ?_⟩
  refine List.forall_mem_cons.mpr ⟨(s_iconst (am_dp pw_X5_countSayings_0 dd_X5_countSayings_0a.2.2.1) (by decide)).to, ?_⟩
  refine List.forall_mem_cons.mpr ⟨(s_istoren (am_dp pw_X5_countSayings_0 dd_X5_countSayings_0a.2.2.2.1) rfl (by decide)).to, ?_⟩
  refine List.forall_mem_cons.mpr ⟨(s_iloadn (am_dp pw_X5_countSayings_0 dd_X5_countSayings_0a.2.2.2.2.1) rfl).to, ?_⟩
  refine List.forall_mem_cons.mpr ⟨(s_aloadn (am_dp pw_X5_countSayings_0 dd_X5_countSayings_0a.2.2.2.2.2.1) rfl).to, ?_⟩
  refine List.forall_mem_cons.mpr ⟨(s_get (ci := 5) (k := 3) (am_dp pw_X5_countSayings_0 dd_X5_countSayings_0a.2.2.2.2.2.2.1) rfl (by decide) wd314 inX5 rfl).to, ?_⟩
  refine List.forall_mem_cons.mpr ⟨(s_icmp_ge (am_dp pw_X5_countSayings_0 dd_X5_countSayings_0a.2.2.2.2.2.2.2) (by decide)).to, ?_⟩
  refine List.forall_mem_cons.mpr ⟨(s_iloadn (am_dp pw_X5_countSayings_0 dd_X5_countSayings_0b.1) rfl).to, ?_⟩
  refine List.forall_mem_cons.mpr ⟨(s_aloadn (am_dp pw_X5_countSayings_0 dd_X5_countSayings_0b.2.1) rfl).to, ?_⟩
  refine List.forall_mem_cons.mpr ⟨(s_get (ci := 5) (k := 4) (am_dp pw_X5_countSayings_0 dd_X5_countSayings_0b.2.2.1) rfl (by decide) wd317 inX5 rfl).to, ?_⟩
  refine List.forall_mem_cons.mpr ⟨(s_iloadn (am_dp pw_X5_countSayings_0 dd_X5_countSayings_0b.2.2.2.1) rfl).to, ?_⟩
  refine List.forall_mem_cons.mpr ⟨(s_aald (am_dp pw_X5_countSayings_0 dd_X5_countSayings_0b.2.2.2.2.1)).to, ?_⟩
  refine List.forall_mem_cons.mpr ⟨(s_get (ci := 6) (k := 5) (am_dp pw_X5_countSayings_0 dd_X5_countSayings_0b.2.2.2.2.2.1) rfl (by decide) wd256 inX6 rfl).to, ?_⟩
  refine List.forall_mem_cons.mpr ⟨(s_iadd (am_dp pw_X5_countSayings_0 dd_X5_countSayings_0b.2.2.2.2.2.2.1)).to, ?_⟩
  refine List.forall_mem_cons.mpr ⟨(s_istoren (am_dp pw_X5_countSayings_0 dd_X5_countSayings_0b.2.2.2.2.2.2.2) rfl (by decide)).to, ?_⟩
  refine List.forall_mem_cons.mpr ⟨(s_iinc (am_dp pw_X5_countSayings_0 dd_X5_countSayings_0c.1) (by decide) (by decide)).to, ?_⟩
  refine List.forall_mem_cons.mpr ⟨(s_goto (am_dp pw_X5_countSayings_0 dd_X5_countSayings_0c.2.1) (by decide)).to, ?_⟩
  refine List.forall_mem_cons.mpr ⟨(s_iloadn (am_dp pw_X5_countSayings_0 dd_X5_countSayings_0c.2.2.1) rfl).to, ?_⟩
  refine List.forall_mem_cons.mpr ⟨s_iret (am_dp pw_X5_countSayings_0 dd_X5_countSayings_0c.2.2.2) rfl, ?_⟩
  exact fun _ h => absurd h List.not_mem_nil
theorem sn_tX5_countSayers : ∀ q ∈ tX5_countSayers, am_Snd am_P0 RX5 cX5_countSayers 3 (Option.some FieldType.int) "countSayers" q.1 q.2 := by
  unfold tX5_countSayers
  refine List.forall_mem_cons.mpr ⟨(s_iconst (am_dp pw_X5_countSayers_0 dd_X5_countSayers_0a.1) (by decide)).to, ?_⟩
  refine List.forall_mem_cons.mpr ⟨(s_istoren (am_dp pw_X5_countSayers_0 dd_X5_countSayers_0a.2.1) rfl (by decide)).to, ?_⟩
  refine List.forall_mem_cons.mpr ⟨(s_iconst (am_dp pw_X5_countSayers_0 dd_X5_countSayers_0a.2.2.1) (by decide)).to, ?_⟩
  refine List.forall_mem_cons.mpr ⟨(s_istoren (am_dp pw_X5_countSayers_0 dd_X5_countSayers_0a.2.2.2.1) rfl (by decide)).to, ?_⟩
  refine List.forall_mem_cons.mpr ⟨(s_iloadn (am_dp pw_X5_countSayers_0 dd_X5_countSayers_0a.2.2.2.2.1) rfl).to, ?_⟩
  refine List.forall_mem_cons.mpr ⟨(s_aloadn (am_dp pw_X5_countSayers_0 dd_X5_countSayers_0a.2.2.2.2.2.1) rfl).to, ?_⟩
  refine List.forall_mem_cons.mpr ⟨(s_get (ci := 5) (k := 3) (am_dp pw_X5_countSayers_0 dd_X5_countSayers_0a.2.2.2.2.2.2.1) rfl (by decide) wd314 inX5 rfl).to, ?_⟩
  refine List.forall_mem_cons.mpr ⟨(s_icmp_ge (am_dp pw_X5_countSayers_0 dd_X5_countSayers_0a.2.2.2.2.2.2.2) (by decide)).to, ?_⟩
  refine List.forall_mem_cons.mpr ⟨(s_iloadn (am_dp pw_X5_countSayers_0 dd_X5_countSayers_0b.1) rfl).to, ?_⟩
  refine List.forall_mem_cons.mpr ⟨(s_aloadn (am_dp pw_X5_countSayers_0 dd_X5_countSayers_0b.2.1) rfl).to, ?_⟩
  refine List.forall_mem_cons.mpr ⟨(s_get (ci := 5) (k := 4) (am_dp pw_X5_countSayers_0 dd_X5_countSayers_0b.2.2.1) rfl (by decide) wd317 inX5 rfl).to, ?_⟩
  refine List.forall_mem_cons.mpr ⟨(s_iloadn (am_dp pw_X5_countSayers_0 dd_X5_countSayers_0b.2.2.2.1) rfl).to, ?_⟩
  refine List.forall_mem_cons.mpr ⟨(s_aald (am_dp pw_X5_countSayers_0 dd_X5_countSayers_0b.2.2.2.2.1)).to, ?_⟩
  refine List.forall_mem_cons.mpr ⟨(s_get (ci := 6) (k := 5) (am_dp pw_X5_countSayers_0 dd_X5_countSayers_0b.2.2.2.2.2.1) rfl (by decide) wd256 inX6 rfl).to, ?_⟩
  refine List.forall_mem_cons.mpr ⟨(s_if_le (am_dp pw_X5_countSayers_0 dd_X5_countSayers_0b.2.2.2.2.2.2.1) (by decide)).to, ?_⟩
  refine List.forall_mem_cons.mpr ⟨(s_iconst (am_dp pw_X5_countSayers_0 dd_X5_countSayers_0b.2.2.2.2.2.2.2) (by decide)).to, ?_⟩
  refine List.forall_mem_cons.mpr ⟨(s_goto (am_dp pw_X5_countSayers_0 dd_X5_countSayers_0c.1) (by decide)).to, ?_⟩
  refine List.forall_mem_cons.mpr ⟨(s_iconst (am_dp pw_X5_countSayers_0 dd_X5_countSayers_0c.2.1) (by decide)).to, ?_⟩
  refine List.forall_mem_cons.mpr ⟨(s_iadd (am_dp pw_X5_countSayers_0 dd_X5_countSayers_0c.2.2.1)).to, ?_⟩
  refine List.forall_mem_cons.mpr ⟨(s_istoren (am_dp pw_X5_countSayers_0 dd_X5_countSayers_0c.2.2.2) rfl (by decide)).to, ?_⟩
  refine List.forall_mem_cons.mpr ⟨(s_iinc (am_dp pw_X5_countSayers_32 dd_X5_countSayers_32a.1) (by decide) (by decide)).to, ?_⟩
  refine List.forall_mem_cons.mpr ⟨(s_goto (am_dp pw_X5_countSayers_32 dd_X5_countSayers_32a.2.1) (by decide)).to, ?_⟩
  refine List.forall_mem_cons.mpr ⟨(s_iloadn (am_dp pw_X5_countSayers_32 dd_X5_countSayers_32a.2.2.1) rfl).to, ?_⟩
  refine List.forall_mem_cons.mpr ⟨s_iret (am_dp pw_X5_countSayers_32 dd_X5_countSayers_32a.2.2.2) rfl, ?_⟩
  exact fun _ h => absurd h List.not_mem_nil
theorem sn_tX5_countBooks : ∀ q ∈ tX5_countBooks, am_Snd am_P0 RX5 cX5_countBooks 3 (Option.some FieldType.int) "countBooks" q.1 q.2 := by
  unfold tX5_countBooks
  refine List.forall_mem_cons.mpr ⟨(s_iconst (am_dp pw_X5_countBooks_0 dd_X5_countBooks_0a.1) (by decide)).to, ?_⟩
  refine List.forall_mem_cons.mpr ⟨(s_istoren (am_dp pw_X5_countBooks_0 dd_X5_countBooks_0a.2.1) rfl (by decide)).to, ?_⟩
  refine List.forall_mem_cons.mpr ⟨(s_iconst (am_dp pw_X5_countBooks_0 dd_X5_countBooks_0a.2.2.1) (by decide)).to, ?_⟩
  refine List.forall_mem_cons.mpr ⟨(s_istoren (am_dp pw_X5_countBooks_0 dd_X5_countBooks_0a.2.2.2.1) rfl (by decide)).to, ?_⟩
  refine List.forall_mem_cons.mpr ⟨(s_iloadn (am_dp pw_X5_countBooks_0 dd_X5_countBooks_0a.2.2.2.2.1) rfl).to, ?_⟩
  refine List.forall_mem_cons.mpr ⟨(s_aloadn (am_dp pw_X5_countBooks_0 dd_X5_countBooks_0a.2.2.2.2.2.1) rfl).to, ?_⟩
  refine List.forall_mem_cons.mpr ⟨(s_get (ci := 5) (k := 3) (am_dp pw_X5_countBooks_0 dd_X5_countBooks_0a.2.2.2.2.2.2.1) rfl (by decide) wd314 inX5 rfl).to, ?_⟩
  refine List.forall_mem_cons.mpr ⟨(s_icmp_ge (am_dp pw_X5_countBooks_0 dd_X5_countBooks_0a.2.2.2.2.2.2.2) (by decide)).to, ?_⟩
  refine List.forall_mem_cons.mpr ⟨(s_iloadn (am_dp pw_X5_countBooks_0 dd_X5_countBooks_0b.1) rfl).to, ?_⟩
  refine List.forall_mem_cons.mpr ⟨(s_aloadn (am_dp pw_X5_countBooks_0 dd_X5_countBooks_0b.2.1) rfl).to, ?_⟩
  refine List.forall_mem_cons.mpr ⟨(s_get (ci := 5) (k := 4) (am_dp pw_X5_countBooks_0 dd_X5_countBooks_0b.2.2.1) rfl (by decide) wd317 inX5 rfl).to, ?_⟩
  refine List.forall_mem_cons.mpr ⟨(s_iloadn (am_dp pw_X5_countBooks_0 dd_X5_countBooks_0b.2.2.2.1) rfl).to, ?_⟩
  refine List.forall_mem_cons.mpr ⟨(s_aald (am_dp pw_X5_countBooks_0 dd_X5_countBooks_0b.2.2.2.2.1)).to, ?_⟩
  refine List.forall_mem_cons.mpr ⟨(s_get (ci := 6) (k := 9) (am_dp pw_X5_countBooks_0 dd_X5_countBooks_0b.2.2.2.2.2.1) rfl (by decide) wd269 inX6 rfl).to, ?_⟩
  refine List.forall_mem_cons.mpr ⟨(s_iadd (am_dp pw_X5_countBooks_0 dd_X5_countBooks_0b.2.2.2.2.2.2.1)).to, ?_⟩
  refine List.forall_mem_cons.mpr ⟨(s_istoren (am_dp pw_X5_countBooks_0 dd_X5_countBooks_0b.2.2.2.2.2.2.2) rfl (by decide)).to, ?_⟩
  refine List.forall_mem_cons.mpr ⟨(s_iinc (am_dp pw_X5_countBooks_0 dd_X5_countBooks_0c.1) (by decide) (by decide)).to, ?_⟩
  refine List.forall_mem_cons.mpr ⟨(s_goto (am_dp pw_X5_countBooks_0 dd_X5_countBooks_0c.2.1) (by decide)).to, ?_⟩
  refine List.forall_mem_cons.mpr ⟨(s_iloadn (am_dp pw_X5_countBooks_0 dd_X5_countBooks_0c.2.2.1) rfl).to, ?_⟩
  refine List.forall_mem_cons.mpr ⟨s_iret (am_dp pw_X5_countBooks_0 dd_X5_countBooks_0c.2.2.2) rfl, ?_⟩
  exact fun _ h => absurd h List.not_mem_nil
theorem sn_tX5_shipNamed : ∀ q ∈ tX5_shipNamed, am_Snd am_P0 RX5 cX5_shipNamed 3 (Option.some FieldType.int) "shipNamed" q.1 q.2 := by
  unfold tX5_shipNamed
  refine List.forall_mem_cons.mpr ⟨(s_iconst (am_dp pw_X5_shipNamed_0 dd_X5_shipNamed_0a.1) (by decide)).to, ?_⟩
  refine List.forall_mem_cons.mpr ⟨(s_istoren (am_dp pw_X5_shipNamed_0 dd_X5_shipNamed_0a.2.1) rfl (by decide)).to, ?_⟩
  refine List.forall_mem_cons.mpr ⟨(s_iloadn (am_dp pw_X5_shipNamed_0 dd_X5_shipNamed_0a.2.2.1) rfl).to, ?_⟩
  refine List.forall_mem_cons.mpr ⟨(s_aloadn (am_dp pw_X5_shipNamed_0 dd_X5_shipNamed_0a.2.2.2.1) rfl).to, ?_⟩
  refine List.forall_mem_cons.mpr ⟨(s_get (ci := 5) (k := 3) (am_dp pw_X5_shipNamed_0 dd_X5_shipNamed_0a.2.2.2.2.1) rfl (by decide) wd314 inX5 rfl).to, ?_⟩
  refine List.forall_mem_cons.mpr ⟨(s_icmp_ge (am_dp pw_X5_shipNamed_0 dd_X5_shipNamed_0a.2.2.2.2.2.1) (by decide)).to, ?_⟩
  refine List.forall_mem_cons.mpr ⟨(s_aloadn (am_dp pw_X5_shipNamed_0 dd_X5_shipNamed_0a.2.2.2.2.2.2.1) rfl).to, ?_⟩
  refine List.forall_mem_cons.mpr ⟨(s_get (ci := 5) (k := 4) (am_dp pw_X5_shipNamed_0 dd_X5_shipNamed_0a.2.2.2.2.2.2.2) rfl (by decide) wd317 inX5 rfl).to, ?_⟩
  refine List.forall_mem_cons.mpr ⟨(s_iloadn (am_dp pw_X5_shipNamed_0 dd_X5_shipNamed_0b.1) rfl).to, ?_⟩
  refine List.forall_mem_cons.mpr ⟨(s_aald (am_dp pw_X5_shipNamed_0 dd_X5_shipNamed_0b.2.1)).to, ?_⟩
  refine List.forall_mem_cons.mpr ⟨(s_get (ci := 6) (k := 0) (am_dp pw_X5_shipNamed_0 dd_X5_shipNamed_0b.2.2.1) rfl (by decide) wd240 inX6 rfl).to, ?_⟩
  refine List.forall_mem_cons.mpr ⟨(s_iloadn (am_dp pw_X5_shipNamed_0 dd_X5_shipNamed_0b.2.2.2.1) rfl).to, ?_⟩
  refine List.forall_mem_cons.mpr ⟨(s_icmp_ne (am_dp pw_X5_shipNamed_0 dd_X5_shipNamed_0b.2.2.2.2.1) (by decide)).to, ?_⟩
  refine List.forall_mem_cons.mpr ⟨(s_iloadn (am_dp pw_X5_shipNamed_0 dd_X5_shipNamed_0b.2.2.2.2.2.1) rfl).to, ?_⟩
  refine List.forall_mem_cons.mpr ⟨s_iret (am_dp pw_X5_shipNamed_0 dd_X5_shipNamed_0b.2.2.2.2.2.2.1) rfl, ?_⟩
  refine List.forall_mem_cons.mpr ⟨(s_iinc (am_dp pw_X5_shipNamed_0 dd_X5_shipNamed_0b.2.2.2.2.2.2.2) (by decide) (by decide)).to, ?_⟩
  refine List.forall_mem_cons.mpr ⟨(s_goto (am_dp pw_X5_shipNamed_0 dd_X5_shipNamed_0c.1) (by decide)).to, ?_⟩
  refine List.forall_mem_cons.mpr ⟨(s_iconst (am_dp pw_X5_shipNamed_0 dd_X5_shipNamed_0c.2) (by decide)).to, ?_⟩
  refine List.forall_mem_cons.mpr ⟨s_iret (am_dp pw_X5_shipNamed_32 dd_X5_shipNamed_32a) rfl, ?_⟩
  exact fun _ h => absurd h List.not_mem_nil
theorem sn_tX5_launch : ∀ q ∈ tX5_launch, am_Snd am_P0 RX5 cX5_launch 7 (Option.none : Option FieldType) "launch" q.1 q.2 := by
  unfold tX5_launch
  refine List.forall_mem_cons.mpr ⟨(s_aloadn (am_dp pw_X5_launch_0 dd_X5_launch_0a.1) rfl).to, ?_⟩
  refine List.forall_mem_cons.mpr ⟨(s_get (ci := 5) (k := 3) (am_dp pw_X5_launch_0 dd_X5_launch_0a.2.1) rfl (by decide) wd314 inX5 rfl).to, ?_⟩
  refine List.forall_mem_cons.mpr ⟨(s_bipush (am_dp pw_X5_launch_0 dd_X5_launch_0a.2.2.1) (by decide)).to, ?_⟩
  refine List.forall_mem_cons.mpr ⟨(s_icmp_ge (am_dp pw_X5_launch_0 dd_X5_launch_0a.2.2.2.1) (by decide)).to, ?_⟩
  refine List.forall_mem_cons.mpr ⟨(s_aloadn (am_dp pw_X5_launch_0 dd_X5_launch_0a.2.2.2.2.1) rfl).to, ?_⟩
  refine List.forall_mem_cons.mpr ⟨(s_get (ci := 5) (k := 4) (am_dp pw_X5_launch_0 dd_X5_launch_0a.2.2.2.2.2.1) rfl (by decide) wd317 inX5 rfl).to, ?_⟩
  refine List.forall_mem_cons.mpr ⟨(s_aloadn (am_dp pw_X5_launch_0 dd_X5_launch_0a.2.2.2.2.2.2.1) rfl).to, ?_⟩
  refine List.forall_mem_cons.mpr ⟨(s_get (ci := 5) (k := 3) (am_dp pw_X5_launch_0 dd_X5_launch_0a.2.2.2.2.2.2.2) rfl (by decide) wd314 inX5 rfl).to, ?_⟩
  refine List.forall_mem_cons.mpr ⟨(s_aald (am_dp pw_X5_launch_0 dd_X5_launch_0b.1)).to, ?_⟩
  refine List.forall_mem_cons.mpr ⟨(s_astore (am_dp pw_X5_launch_0 dd_X5_launch_0b.2.1) (by decide)).to, ?_⟩
  refine List.forall_mem_cons.mpr ⟨(s_aload (am_dp pw_X5_launch_0 dd_X5_launch_0b.2.2.1)).to, ?_⟩
  refine List.forall_mem_cons.mpr ⟨(s_iloadn (am_dp pw_X5_launch_0 dd_X5_launch_0b.2.2.2.1) rfl).to, ?_⟩
  refine List.forall_mem_cons.mpr ⟨(s_put (ci := 6) (k := 0) (am_dp pw_X5_launch_0 dd_X5_launch_0b.2.2.2.2.1) rfl (by decide) wd240 inX6 tyX6_ok nmX6 rfl rfl).to, ?_⟩
  refine List.forall_mem_cons.mpr ⟨(s_aload (am_dp pw_X5_launch_0 dd_X5_launch_0b.2.2.2.2.2.1)).to, ?_⟩
  refine List.forall_mem_cons.mpr ⟨(s_iloadn (am_dp pw_X5_launch_0 dd_X5_launch_0b.2.2.2.2.2.2.1) rfl).to, ?_⟩
  refine List.forall_mem_cons.mpr ⟨(s_put (ci := 6) (k := 1) (am_dp pw_X5_launch_0 dd_X5_launch_0b.2.2.2.2.2.2.2) rfl (by decide) wd242 inX6 tyX6_ok nmX6 rfl rfl).to, ?_⟩
  refine List.forall_mem_cons.mpr ⟨(s_aload (am_dp pw_X5_launch_32 dd_X5_launch_32a.1)).to, ?_⟩
  refine List.forall_mem_cons.mpr ⟨(s_iloadn (am_dp pw_X5_launch_32 dd_X5_launch_32a.2.1) rfl).to, ?_⟩
  refine List.forall_mem_cons.mpr ⟨(s_put (ci := 6) (k := 2) (am_dp pw_X5_launch_32 dd_X5_launch_32a.2.2.1) rfl (by decide) wd245 inX6 tyX6_ok nmX6 rfl rfl).to, ?_⟩
  refine List.forall_mem_cons.mpr ⟨(s_aload (am_dp pw_X5_launch_32 dd_X5_launch_32a.2.2.2.1)).to, ?_⟩
  refine List.forall_mem_cons.mpr ⟨(s_iload (am_dp pw_X5_launch_32 dd_X5_launch_32a.2.2.2.2.1)).to, ?_⟩
  refine List.forall_mem_cons.mpr ⟨(s_put (ci := 6) (k := 3) (am_dp pw_X5_launch_32 dd_X5_launch_32a.2.2.2.2.2.1) rfl (by decide) wd249 inX6 tyX6_ok nmX6 rfl rfl).to, ?_⟩
  refine List.forall_mem_cons.mpr ⟨(s_aload (am_dp pw_X5_launch_32 dd_X5_launch_32a.2.2.2.2.2.2.1)).to, ?_⟩
  refine List.forall_mem_cons.mpr ⟨(s_iload (am_dp pw_X5_launch_32 dd_X5_launch_32a.2.2.2.2.2.2.2)).to, ?_⟩
  refine List.forall_mem_cons.mpr ⟨(s_put (ci := 6) (k := 4) (am_dp pw_X5_launch_32 dd_X5_launch_32b.1) rfl (by decide) wd252 inX6 tyX6_ok nmX6 rfl rfl).to, ?_⟩
  refine List.forall_mem_cons.mpr ⟨(s_aload (am_dp pw_X5_launch_32 dd_X5_launch_32b.2.1)).to, ?_⟩
  refine List.forall_mem_cons.mpr ⟨(s_iconst (am_dp pw_X5_launch_32 dd_X5_launch_32b.2.2.1) (by decide)).to, ?_⟩
  refine List.forall_mem_cons.mpr ⟨(s_put (ci := 6) (k := 5) (am_dp pw_X5_launch_32 dd_X5_launch_32b.2.2.2.1) rfl (by decide) wd256 inX6 tyX6_ok nmX6 rfl rfl).to, ?_⟩
  refine List.forall_mem_cons.mpr ⟨(s_aload (am_dp pw_X5_launch_32 dd_X5_launch_32b.2.2.2.2.1)).to, ?_⟩
  refine List.forall_mem_cons.mpr ⟨(s_iconst (am_dp pw_X5_launch_32 dd_X5_launch_32b.2.2.2.2.2.1) (by decide)).to, ?_⟩
  refine List.forall_mem_cons.mpr ⟨(s_put (ci := 6) (k := 9) (am_dp pw_X5_launch_32 dd_X5_launch_32b.2.2.2.2.2.2) rfl (by decide) wd269 inX6 tyX6_ok nmX6 rfl rfl).to, ?_⟩
  refine List.forall_mem_cons.mpr ⟨(s_aloadn (am_dp pw_X5_launch_64 dd_X5_launch_64a.1) rfl).to, ?_⟩
  refine List.forall_mem_cons.mpr ⟨(s_dup (am_dp pw_X5_launch_64 dd_X5_launch_64a.2.1)).to, ?_⟩
  refine List.forall_mem_cons.mpr ⟨(s_get (ci := 5) (k := 3) (am_dp pw_X5_launch_64 dd_X5_launch_64a.2.2.1) rfl (by decide) wd314 inX5 rfl).to, ?_⟩
  refine List.forall_mem_cons.mpr ⟨(s_iconst (am_dp pw_X5_launch_64 dd_X5_launch_64a.2.2.2.1) (by decide)).to, ?_⟩
  refine List.forall_mem_cons.mpr ⟨(s_iadd (am_dp pw_X5_launch_64 dd_X5_launch_64a.2.2.2.2.1)).to, ?_⟩
  refine List.forall_mem_cons.mpr ⟨(s_put (ci := 5) (k := 3) (am_dp pw_X5_launch_64 dd_X5_launch_64a.2.2.2.2.2.1) rfl (by decide) wd314 inX5 tyX5_ok nmX5 rfl rfl).to, ?_⟩
  refine List.forall_mem_cons.mpr ⟨s_vret (am_dp pw_X5_launch_64 dd_X5_launch_64a.2.2.2.2.2.2) rfl, ?_⟩
  exact fun _ h => absurd h List.not_mem_nil
theorem sn_tX6_init : ∀ q ∈ tX6_init, am_Snd am_P0 RX6 cX6_init 1 (Option.none : Option FieldType) "<init>" q.1 q.2 := by
  unfold tX6_init
  refine List.forall_mem_cons.mpr ⟨(s_aloadn (am_dp pw_X6_init_0 dd_X6_init_0a.1) rfl).to, ?_⟩
  refine List.forall_mem_cons.mpr ⟨(s_obj (am_dp pw_X6_init_0 dd_X6_init_0a.2.1) wd238 wd160 wd161).to, ?_⟩
  refine List.forall_mem_cons.mpr ⟨(s_aloadn (am_dp pw_X6_init_0 dd_X6_init_0a.2.2.1) rfl).to, ?_⟩
  refine List.forall_mem_cons.mpr ⟨(s_bipush (am_dp pw_X6_init_0 dd_X6_init_0a.2.2.2.1) (by decide)).to, ?_⟩
  refine List.forall_mem_cons.mpr ⟨(s_newa (kd := 0) (ty := .int) (am_dp pw_X6_init_0 dd_X6_init_0a.2.2.2.2.1) rfl rfl wd195 (by decide) (by decide) (fun _ _ h => h)).to, ?_⟩
  refine List.forall_mem_cons.mpr ⟨(s_putF (ci := 6) (k := 6) (am_dp pw_X6_init_0 dd_X6_init_0a.2.2.2.2.2.1) rfl (by decide) wd257 inX6 tyX6_ok nmX6 rfl rfl rfl rfl).to, ?_⟩
  refine List.forall_mem_cons.mpr ⟨(s_aloadn (am_dp pw_X6_init_0 dd_X6_init_0a.2.2.2.2.2.2.1) rfl).to, ?_⟩
  refine List.forall_mem_cons.mpr ⟨(s_bipush (am_dp pw_X6_init_0 dd_X6_init_0a.2.2.2.2.2.2.2) (by decide)).to, ?_⟩
  refine List.forall_mem_cons.mpr ⟨(s_newa (kd := 0) (ty := .int) (am_dp pw_X6_init_0 dd_X6_init_0b.1) rfl rfl wd195 (by decide) (by decide) (fun _ _ h => h)).to, ?_⟩
  refine List.forall_mem_cons.mpr ⟨(s_putF (ci := 6) (k := 7) (am_dp pw_X6_init_0 dd_X6_init_0b.2.1) rfl (by decide) wd260 inX6 tyX6_ok nmX6 rfl rfl rfl rfl).to, ?_⟩
  refine List.forall_mem_cons.mpr ⟨(s_aloadn (am_dp pw_X6_init_0 dd_X6_init_0b.2.2.1) rfl).to, ?_⟩
  refine List.forall_mem_cons.mpr ⟨(s_bipush (am_dp pw_X6_init_0 dd_X6_init_0b.2.2.2.1) (by decide)).to, ?_⟩
  refine List.forall_mem_cons.mpr ⟨(s_newa (kd := 2) (ty := .boolean) (am_dp pw_X6_init_0 dd_X6_init_0b.2.2.2.2.1) rfl rfl wd304 (by decide) (by decide) (fun _ _ h => h)).to, ?_⟩
  refine List.forall_mem_cons.mpr ⟨(s_putF (ci := 6) (k := 8) (am_dp pw_X6_init_0 dd_X6_init_0b.2.2.2.2.2.1) rfl (by decide) wd263 inX6 tyX6_ok nmX6 rfl rfl rfl rfl).to, ?_⟩
  refine List.forall_mem_cons.mpr ⟨(s_aloadn (am_dp pw_X6_init_0 dd_X6_init_0b.2.2.2.2.2.2.1) rfl).to, ?_⟩
  refine List.forall_mem_cons.mpr ⟨(s_bipush (am_dp pw_X6_init_0 dd_X6_init_0b.2.2.2.2.2.2.2) (by decide)).to, ?_⟩
  refine List.forall_mem_cons.mpr ⟨(s_newa (kd := 0) (ty := .int) (am_dp pw_X6_init_0 dd_X6_init_0c) rfl rfl wd195 (by decide) (by decide) (fun _ _ h => h)).to, ?_⟩
  refine List.forall_mem_cons.mpr ⟨(s_putF (ci := 6) (k := 10) (am_dp pw_X6_init_32 dd_X6_init_32a.1) rfl (by decide) wd270 inX6 tyX6_ok nmX6 rfl rfl rfl rfl).to, ?_⟩
  refine List.forall_mem_cons.mpr ⟨(s_aloadn (am_dp pw_X6_init_32 dd_X6_init_32a.2.1) rfl).to, ?_⟩
  refine List.forall_mem_cons.mpr ⟨(s_bipush (am_dp pw_X6_init_32 dd_X6_init_32a.2.2.1) (by decide)).to, ?_⟩
  refine List.forall_mem_cons.mpr ⟨(s_newa (kd := 0) (ty := .int) (am_dp pw_X6_init_32 dd_X6_init_32a.2.2.2.1) rfl rfl wd195 (by decide) (by decide) (fun _ _ h => h)).to, ?_⟩
  refine List.forall_mem_cons.mpr ⟨(s_putF (ci := 6) (k := 11) (am_dp pw_X6_init_32 dd_X6_init_32a.2.2.2.2.1) rfl (by decide) wd272 inX6 tyX6_ok nmX6 rfl rfl rfl rfl).to, ?_⟩
  refine List.forall_mem_cons.mpr ⟨(s_aloadn (am_dp pw_X6_init_32 dd_X6_init_32a.2.2.2.2.2.1) rfl).to, ?_⟩
  refine List.forall_mem_cons.mpr ⟨(s_bipush (am_dp pw_X6_init_32 dd_X6_init_32a.2.2.2.2.2.2.1) (by decide)).to, ?_⟩
  refine List.forall_mem_cons.mpr ⟨(s_newa (kd := 0) (ty := .int) (am_dp pw_X6_init_32 dd_X6_init_32a.2.2.2.2.2.2.2) rfl rfl wd195 (by decide) (by decide) (fun _ _ h => h)).to, ?_⟩
  refine List.forall_mem_cons.mpr ⟨(s_putF (ci := 6) (k := 12) (am_dp pw_X6_init_32 dd_X6_init_32b.1) rfl (by decide) wd274 inX6 tyX6_ok nmX6 rfl rfl rfl rfl).to, ?_⟩
  refine List.forall_mem_cons.mpr ⟨s_vret (am_dp pw_X6_init_32 dd_X6_init_32b.2) rfl, ?_⟩
  exact fun _ h => absurd h List.not_mem_nil
theorem sn_tX6_hasSaid : ∀ q ∈ tX6_hasSaid, am_Snd am_P0 RX6 cX6_hasSaid 3 (Option.some FieldType.boolean) "hasSaid" q.1 q.2 := by
  unfold tX6_hasSaid
  refine List.forall_mem_cons.mpr ⟨(s_iconst (am_dp pw_X6_hasSaid_0 dd_X6_hasSaid_0a.1) (by decide)).to, ?_⟩
  refine List.forall_mem_cons.mpr ⟨(s_istoren (am_dp pw_X6_hasSaid_0 dd_X6_hasSaid_0a.2.1) rfl (by decide)).to, ?_⟩
  refine List.forall_mem_cons.mpr ⟨(s_iloadn (am_dp pw_X6_hasSaid_0 dd_X6_hasSaid_0a.2.2.1) rfl).to, ?_⟩
  refine List.forall_mem_cons.mpr ⟨(s_aloadn (am_dp pw_X6_hasSaid_0 dd_X6_hasSaid_0a.2.2.2.1) rfl).to, ?_⟩
  refine List.forall_mem_cons.mpr ⟨(s_get (ci := 6) (k := 5) (am_dp pw_X6_hasSaid_0 dd_X6_hasSaid_0a.2.2.2.2.1) rfl (by decide) wd253 inX6 rfl).to, ?_⟩
  refine List.forall_mem_cons.mpr ⟨(s_icmp_ge (am_dp pw_X6_hasSaid_0 dd_X6_hasSaid_0a.2.2.2.2.2.1) (by decide)).to, ?_⟩
  refine List.forall_mem_cons.mpr ⟨(s_aloadn (am_dp pw_X6_hasSaid_0 dd_X6_hasSaid_0a.2.2.2.2.2.2.1) rfl).to, ?_⟩
  refine List.forall_mem_cons.mpr ⟨(s_get (ci := 6) (k := 6) (am_dp pw_X6_hasSaid_0 dd_X6_hasSaid_0a.2.2.2.2.2.2.2) rfl (by decide) wd257 inX6 rfl).to, ?_⟩
  refine List.forall_mem_cons.mpr ⟨(s_iloadn (am_dp pw_X6_hasSaid_0 dd_X6_hasSaid_0b.1) rfl).to, ?_⟩
  refine List.forall_mem_cons.mpr ⟨(s_iald (am_dp pw_X6_hasSaid_0 dd_X6_hasSaid_0b.2.1)).to, ?_⟩
  refine List.forall_mem_cons.mpr ⟨(s_iloadn (am_dp pw_X6_hasSaid_0 dd_X6_hasSaid_0b.2.2.1) rfl).to, ?_⟩
  refine List.forall_mem_cons.mpr ⟨(s_icmp_ne (am_dp pw_X6_hasSaid_0 dd_X6_hasSaid_0b.2.2.2.1) (by decide)).to, ?_⟩
  refine List.forall_mem_cons.mpr ⟨(s_iconst (am_dp pw_X6_hasSaid_0 dd_X6_hasSaid_0b.2.2.2.2.1) (by decide)).to, ?_⟩
  refine List.forall_mem_cons.mpr ⟨s_zret (am_dp pw_X6_hasSaid_0 dd_X6_hasSaid_0b.2.2.2.2.2.1) rfl, ?_⟩
  refine List.forall_mem_cons.mpr ⟨(s_iinc (am_dp pw_X6_hasSaid_0 dd_X6_hasSaid_0b.2.2.2.2.2.2.1) (by decide) (by decide)).to, ?_⟩
  refine List.forall_mem_cons.mpr ⟨(s_goto (am_dp pw_X6_hasSaid_0 dd_X6_hasSaid_0b.2.2.2.2.2.2.2) (by decide)).to, ?_⟩
  refine List.forall_mem_cons.mpr ⟨(s_iconst (am_dp pw_X6_hasSaid_0 dd_X6_hasSaid_0c.1) (by decide)).to, ?_⟩
  refine List.forall_mem_cons.mpr ⟨s_zret (am_dp pw_X6_hasSaid_0 dd_X6_hasSaid_0c.2) rfl, ?_⟩
  exact fun _ h => absurd h List.not_mem_nil
end
section
/-! a static method of a nest mate -/
section
variable {P : Nat → am_Y} {own : String} {cc : ByteArray} {nL : Nat} {ret : Option FieldType} {nm : String} {pc : Nat}
theorem z_csn {y i n : Nat} {C host : String} (hdg : decode cc pc = .ok (.invokestatic i, 3)) (hv : am_mv P y C n true) (hl : Cond.methodLinkNest own i (P y).1 host ∈ am_nw) : am_Snd P own cc nL ret nm pc (k_cs y n (P y).2.2.1 (pc + 3)) := by
  obtain ⟨hmx, hst, -, hini, hcode, hnm, hdesc⟩ := hv
  have hst : Cond.static (P y).1 ∈ am_ws := hst
  intro lv st M
  refine ⟨fun pc' lv' st' M' he => ?_, fun v M' he => ?_, fun y' as pc' lv' st' M' he => ?_⟩
  · unfold k_cs at he
    split at he
    · split at he <;> cases he
    · cases he
  · unfold k_cs at he
    split at he
    · split at he <;> cases he
    · cases he
  · unfold k_cs at he
    split at he
    · rename_i as2 st2 hpop
      split at he
      · rename_i hok
        cases he
        obtain ⟨lst, q1, q2, q3, q4⟩ := am_pop_s _ _ _ _ _ hpop
        rw [List.append_nil] at q3
        have hlen : (am_en as).length ≤ (P y).2.2.1 := by unfold am_okc at hok; simp at hok; exact hok.1
        refine ⟨rfl, ⟨hlen, fun v hv => q4 v (by rw [q3] at hv; exact List.mem_reverse.mp hv)⟩, ?_⟩
        intro G p l e R s m args below meth c c0 w0 d r M2 Q hC hM h1 h2 h3 h4 h5 h6 hV H locs ls kc ks hR hS hL hkc hks
        have hcs : am_cs st' ≤ 8 := by unfold am_okc at hok; simp at hok; exact hok.2
        have hB : va_CN R s args own i (P y).1 host (P y).2.1 (P y).2.2.1 (P y).2.2.2.1 (.code (P y).1 (P y).2.1 (P y).2.2.1 (P y).2.2.2.1 :: am_ws) (am_rm d (mC M2 - mC M) (mW M2 - mW M)) (mC M2 - mC M) (mW M2 - mW M) n := by
          refine ⟨⟨rfl, rfl, h5, ?_, am_ws_good hC.2.2.2.2.1 hcode, List.mem_cons_self⟩, hC.2.2.2.2.1 _ hcode, hC.2.2.2.2.1 _ hini, hnm, fun sig h => ?_, va_Nw.use rfl (hC.2.2.2.2.2.2.2.2.1.2.1 _ hl)⟩
          · show 8 + ((P y).2.2.1 + 11) + 64 * (d + 1) ≤ R.locals
            omega
          · rw [h] at hdesc
            exact (Option.some.inj hdesc).symm
        have hrun := va_runSN (p := p) (e := e) (below := below) (meth := meth) (H := H) (locs := locs) (cells := kc) (slots := ks) (As := as.map (am_v G)) (rest := st'.map (am_v G)) (g := F0 m pc ls (st.map (am_v G))) (n := n) ⟨hC.1, hC.2.1, hC.2.2.1, hC.2.2.2.1, hC.2.2.2.2.1⟩ hM ⟨hB, hC.2.2.2.2.1 _ hst, trivial⟩ ⟨am_blind G as M, fun U hU hW => ⟨rfl, by rw [hU]; exact hR, hC.2.2.2.2.2.2.2.2.1.warm hW⟩⟩ rfl (by rw [List.length_map, q3, List.length_reverse]; exact q2) hL.2.1 (by show st.map (am_v G) = _; rw [q1, q3, List.map_append, List.map_reverse, List.reverse_reverse]) (by rw [am_cs_eq]; show 2 * 0 + _ ≤ _; omega) hdg ⟨by omega, by omega⟩
        exact am_back hrun hS hL hkc hks h1 h2 hV
      · cases he
    · cases he
end
end
section
/-! the machine follows each instruction (by program: gen_prog.py) -/
theorem sn_tX6_insert_0 : ∀ q ∈ tX6_insert_0, am_Snd am_P0 RX6 cX6_insert 5 (Option.some FieldType.int) "insert" q.1 q.2 := by
  unfold tX6_insert_0
  refine List.forall_mem_cons.mpr ⟨(s_aloadn (am_dp pw_X6_insert_0 dd_X6_insert_0a.1) rfl).to, ?_⟩
  refine List.forall_mem_cons.mpr ⟨(s_get (ci := 6) (k := 5) (am_dp pw_X6_insert_0 dd_X6_insert_0a.2.1) rfl (by decide) wd253 inX6 rfl).to, ?_⟩
  refine List.forall_mem_cons.mpr ⟨(s_bipush (am_dp pw_X6_insert_0 dd_X6_insert_0a.2.2.1) (by decide)).to, ?_⟩
  refine List.forall_mem_cons.mpr ⟨(s_icmp_lt (am_dp pw_X6_insert_0 dd_X6_insert_0a.2.2.2.1) (by decide)).to, ?_⟩
  refine List.forall_mem_cons.mpr ⟨(s_iconst (am_dp pw_X6_insert_0 dd_X6_insert_0a.2.2.2.2.1) (by decide)).to, ?_⟩
  refine List.forall_mem_cons.mpr ⟨s_iret (am_dp pw_X6_insert_0 dd_X6_insert_0a.2.2.2.2.2.1) rfl, ?_⟩
  refine List.forall_mem_cons.mpr ⟨(s_aloadn (am_dp pw_X6_insert_0 dd_X6_insert_0a.2.2.2.2.2.2.1) rfl).to, ?_⟩
  refine List.forall_mem_cons.mpr ⟨(s_get (ci := 6) (k := 5) (am_dp pw_X6_insert_0 dd_X6_insert_0a.2.2.2.2.2.2.2) rfl (by decide) wd253 inX6 rfl).to, ?_⟩
  refine List.forall_mem_cons.mpr ⟨(s_istore (am_dp pw_X6_insert_0 dd_X6_insert_0b.1) (by decide)).to, ?_⟩
  refine List.forall_mem_cons.mpr ⟨(s_iload (am_dp pw_X6_insert_0 dd_X6_insert_0b.2.1)).to, ?_⟩
  refine List.forall_mem_cons.mpr ⟨(s_if_le (am_dp pw_X6_insert_0 dd_X6_insert_0b.2.2.1) (by decide)).to, ?_⟩
  refine List.forall_mem_cons.mpr ⟨(s_aloadn (am_dp pw_X6_insert_0 dd_X6_insert_0b.2.2.2.1) rfl).to, ?_⟩
  refine List.forall_mem_cons.mpr ⟨(s_get (ci := 6) (k := 6) (am_dp pw_X6_insert_0 dd_X6_insert_0b.2.2.2.2.1) rfl (by decide) wd257 inX6 rfl).to, ?_⟩
  refine List.forall_mem_cons.mpr ⟨(s_iload (am_dp pw_X6_insert_0 dd_X6_insert_0b.2.2.2.2.2.1)).to, ?_⟩
  refine List.forall_mem_cons.mpr ⟨(s_iconst (am_dp pw_X6_insert_0 dd_X6_insert_0b.2.2.2.2.2.2.1) (by decide)).to, ?_⟩
  refine List.forall_mem_cons.mpr ⟨(s_isub (am_dp pw_X6_insert_0 dd_X6_insert_0b.2.2.2.2.2.2.2)).to, ?_⟩
  refine List.forall_mem_cons.mpr ⟨(s_iald (am_dp pw_X6_insert_0 dd_X6_insert_0c.1)).to, ?_⟩
  refine List.forall_mem_cons.mpr ⟨(s_iloadn (am_dp pw_X6_insert_0 dd_X6_insert_0c.2) rfl).to, ?_⟩
  refine List.forall_mem_cons.mpr ⟨(s_icmp_le (am_dp pw_X6_insert_32 dd_X6_insert_32a.1) (by decide)).to, ?_⟩
  refine List.forall_mem_cons.mpr ⟨(s_aloadn (am_dp pw_X6_insert_32 dd_X6_insert_32a.2.1) rfl).to, ?_⟩
  refine List.forall_mem_cons.mpr ⟨(s_get (ci := 6) (k := 6) (am_dp pw_X6_insert_32 dd_X6_insert_32a.2.2.1) rfl (by decide) wd257 inX6 rfl).to, ?_⟩
  refine List.forall_mem_cons.mpr ⟨(s_iload (am_dp pw_X6_insert_32 dd_X6_insert_32a.2.2.2.1)).to, ?_⟩
  refine List.forall_mem_cons.mpr ⟨(s_aloadn (am_dp pw_X6_insert_32 dd_X6_insert_32a.2.2.2.2.1) rfl).to, ?_⟩
  refine List.forall_mem_cons.mpr ⟨(s_get (ci := 6) (k := 6) (am_dp pw_X6_insert_32 dd_X6_insert_32a.2.2.2.2.2.1) rfl (by decide) wd257 inX6 rfl).to, ?_⟩
  refine List.forall_mem_cons.mpr ⟨(s_iload (am_dp pw_X6_insert_32 dd_X6_insert_32a.2.2.2.2.2.2.1)).to, ?_⟩
  refine List.forall_mem_cons.mpr ⟨(s_iconst (am_dp pw_X6_insert_32 dd_X6_insert_32a.2.2.2.2.2.2.2) (by decide)).to, ?_⟩
  refine List.forall_mem_cons.mpr ⟨(s_isub (am_dp pw_X6_insert_32 dd_X6_insert_32b.1)).to, ?_⟩
  refine List.forall_mem_cons.mpr ⟨(s_iald (am_dp pw_X6_insert_32 dd_X6_insert_32b.2.1)).to, ?_⟩
  refine List.forall_mem_cons.mpr ⟨(s_iast (am_dp pw_X6_insert_32 dd_X6_insert_32b.2.2.1)).to, ?_⟩
  refine List.forall_mem_cons.mpr ⟨(s_aloadn (am_dp pw_X6_insert_32 dd_X6_insert_32b.2.2.2.1) rfl).to, ?_⟩
  refine List.forall_mem_cons.mpr ⟨(s_get (ci := 6) (k := 7) (am_dp pw_X6_insert_32 dd_X6_insert_32b.2.2.2.2.1) rfl (by decide) wd260 inX6 rfl).to, ?_⟩
  refine List.forall_mem_cons.mpr ⟨(s_iload (am_dp pw_X6_insert_32 dd_X6_insert_32b.2.2.2.2.2.1)).to, ?_⟩
  refine List.forall_mem_cons.mpr ⟨(s_aloadn (am_dp pw_X6_insert_32 dd_X6_insert_32b.2.2.2.2.2.2.1) rfl).to, ?_⟩
  refine List.forall_mem_cons.mpr ⟨(s_get (ci := 6) (k := 7) (am_dp pw_X6_insert_32 dd_X6_insert_32b.2.2.2.2.2.2.2) rfl (by decide) wd260 inX6 rfl).to, ?_⟩
  refine List.forall_mem_cons.mpr ⟨(s_iload (am_dp pw_X6_insert_32 dd_X6_insert_32c.1)).to, ?_⟩
  refine List.forall_mem_cons.mpr ⟨(s_iconst (am_dp pw_X6_insert_32 dd_X6_insert_32c.2) (by decide)).to, ?_⟩
  refine List.forall_mem_cons.mpr ⟨(s_isub (am_dp pw_X6_insert_64 dd_X6_insert_64a.1)).to, ?_⟩
  refine List.forall_mem_cons.mpr ⟨(s_iald (am_dp pw_X6_insert_64 dd_X6_insert_64a.2.1)).to, ?_⟩
  refine List.forall_mem_cons.mpr ⟨(s_iast (am_dp pw_X6_insert_64 dd_X6_insert_64a.2.2.1)).to, ?_⟩
  refine List.forall_mem_cons.mpr ⟨(s_aloadn (am_dp pw_X6_insert_64 dd_X6_insert_64a.2.2.2.1) rfl).to, ?_⟩
  refine List.forall_mem_cons.mpr ⟨(s_get (ci := 6) (k := 8) (am_dp pw_X6_insert_64 dd_X6_insert_64a.2.2.2.2.1) rfl (by decide) wd263 inX6 rfl).to, ?_⟩
  refine List.forall_mem_cons.mpr ⟨(s_iload (am_dp pw_X6_insert_64 dd_X6_insert_64a.2.2.2.2.2.1)).to, ?_⟩
  refine List.forall_mem_cons.mpr ⟨(s_aloadn (am_dp pw_X6_insert_64 dd_X6_insert_64a.2.2.2.2.2.2.1) rfl).to, ?_⟩
  refine List.forall_mem_cons.mpr ⟨(s_get (ci := 6) (k := 8) (am_dp pw_X6_insert_64 dd_X6_insert_64a.2.2.2.2.2.2.2) rfl (by decide) wd263 inX6 rfl).to, ?_⟩
  refine List.forall_mem_cons.mpr ⟨(s_iload (am_dp pw_X6_insert_64 dd_X6_insert_64b.1)).to, ?_⟩
  refine List.forall_mem_cons.mpr ⟨(s_iconst (am_dp pw_X6_insert_64 dd_X6_insert_64b.2.1) (by decide)).to, ?_⟩
  refine List.forall_mem_cons.mpr ⟨(s_isub (am_dp pw_X6_insert_64 dd_X6_insert_64b.2.2.1)).to, ?_⟩
  refine List.forall_mem_cons.mpr ⟨(s_zald (am_dp pw_X6_insert_64 dd_X6_insert_64b.2.2.2.1)).to, ?_⟩
  refine List.forall_mem_cons.mpr ⟨(s_zast (am_dp pw_X6_insert_64 dd_X6_insert_64b.2.2.2.2.1)).to, ?_⟩
  refine List.forall_mem_cons.mpr ⟨(s_iinc (am_dp pw_X6_insert_64 dd_X6_insert_64b.2.2.2.2.2.1) (by decide) (by decide)).to, ?_⟩
  refine List.forall_mem_cons.mpr ⟨(s_goto (am_dp pw_X6_insert_64 dd_X6_insert_64b.2.2.2.2.2.2.1) (by decide)).to, ?_⟩
  refine List.forall_mem_cons.mpr ⟨(s_aloadn (am_dp pw_X6_insert_64 dd_X6_insert_64b.2.2.2.2.2.2.2) rfl).to, ?_⟩
  refine List.forall_mem_cons.mpr ⟨(s_get (ci := 6) (k := 6) (am_dp pw_X6_insert_64 dd_X6_insert_64c.1) rfl (by decide) wd257 inX6 rfl).to, ?_⟩
  refine List.forall_mem_cons.mpr ⟨(s_iload (am_dp pw_X6_insert_64 dd_X6_insert_64c.2.1)).to, ?_⟩
  refine List.forall_mem_cons.mpr ⟨(s_iloadn (am_dp pw_X6_insert_64 dd_X6_insert_64c.2.2) rfl).to, ?_⟩
  refine List.forall_mem_cons.mpr ⟨(s_iast (am_dp pw_X6_insert_96 dd_X6_insert_96a.1)).to, ?_⟩
  refine List.forall_mem_cons.mpr ⟨(s_aloadn (am_dp pw_X6_insert_96 dd_X6_insert_96a.2.1) rfl).to, ?_⟩
  refine List.forall_mem_cons.mpr ⟨(s_get (ci := 6) (k := 7) (am_dp pw_X6_insert_96 dd_X6_insert_96a.2.2.1) rfl (by decide) wd260 inX6 rfl).to, ?_⟩
  refine List.forall_mem_cons.mpr ⟨(s_iload (am_dp pw_X6_insert_96 dd_X6_insert_96a.2.2.2.1)).to, ?_⟩
  refine List.forall_mem_cons.mpr ⟨(s_iloadn (am_dp pw_X6_insert_96 dd_X6_insert_96a.2.2.2.2.1) rfl).to, ?_⟩
  exact fun _ h => absurd h List.not_mem_nil
theorem sn_tX6_insert_1 : ∀ q ∈ tX6_insert_1, am_Snd am_P0 RX6 cX6_insert 5 (Option.some FieldType.int) "insert" q.1 q.2 := by
  unfold tX6_insert_1
  refine List.forall_mem_cons.mpr ⟨(s_iast (am_dp pw_X6_insert_96 dd_X6_insert_96a.2.2.2.2.2.1)).to, ?_⟩
  refine List.forall_mem_cons.mpr ⟨(s_aloadn (am_dp pw_X6_insert_96 dd_X6_insert_96a.2.2.2.2.2.2.1) rfl).to, ?_⟩
  refine List.forall_mem_cons.mpr ⟨(s_get (ci := 6) (k := 8) (am_dp pw_X6_insert_96 dd_X6_insert_96a.2.2.2.2.2.2.2) rfl (by decide) wd263 inX6 rfl).to, ?_⟩
  refine List.forall_mem_cons.mpr ⟨(s_iload (am_dp pw_X6_insert_96 dd_X6_insert_96b.1)).to, ?_⟩
  refine List.forall_mem_cons.mpr ⟨(s_iloadn (am_dp pw_X6_insert_96 dd_X6_insert_96b.2.1) rfl).to, ?_⟩
  refine List.forall_mem_cons.mpr ⟨(s_zast (am_dp pw_X6_insert_96 dd_X6_insert_96b.2.2.1)).to, ?_⟩
  refine List.forall_mem_cons.mpr ⟨(s_aloadn (am_dp pw_X6_insert_96 dd_X6_insert_96b.2.2.2.1) rfl).to, ?_⟩
  refine List.forall_mem_cons.mpr ⟨(s_dup (am_dp pw_X6_insert_96 dd_X6_insert_96b.2.2.2.2.1)).to, ?_⟩
  refine List.forall_mem_cons.mpr ⟨(s_get (ci := 6) (k := 5) (am_dp pw_X6_insert_96 dd_X6_insert_96b.2.2.2.2.2.1) rfl (by decide) wd253 inX6 rfl).to, ?_⟩
  refine List.forall_mem_cons.mpr ⟨(s_iconst (am_dp pw_X6_insert_96 dd_X6_insert_96b.2.2.2.2.2.2.1) (by decide)).to, ?_⟩
  refine List.forall_mem_cons.mpr ⟨(s_iadd (am_dp pw_X6_insert_96 dd_X6_insert_96b.2.2.2.2.2.2.2)).to, ?_⟩
  refine List.forall_mem_cons.mpr ⟨(s_put (ci := 6) (k := 5) (am_dp pw_X6_insert_96 dd_X6_insert_96c.1) rfl (by decide) wd253 inX6 tyX6_ok nmX6 rfl rfl).to, ?_⟩
  refine List.forall_mem_cons.mpr ⟨(s_iload (am_dp pw_X6_insert_96 dd_X6_insert_96c.2.1)).to, ?_⟩
  refine List.forall_mem_cons.mpr ⟨s_iret (am_dp pw_X6_insert_96 dd_X6_insert_96c.2.2) rfl, ?_⟩
  exact fun _ h => absurd h List.not_mem_nil
theorem sn_tX6_insert : ∀ q ∈ tX6_insert, am_Snd am_P0 RX6 cX6_insert 5 (Option.some FieldType.int) "insert" q.1 q.2 := by
  unfold tX6_insert
  exact List.forall_mem_append.mpr ⟨sn_tX6_insert_0, sn_tX6_insert_1⟩
theorem sn_tX6_remove : ∀ q ∈ tX6_remove, am_Snd am_P0 RX6 cX6_remove 3 (Option.none : Option FieldType) "remove" q.1 q.2 := by
  unfold tX6_remove
  refine List.forall_mem_cons.mpr ⟨(s_iloadn (am_dp pw_X6_remove_0 dd_X6_remove_0a.1) rfl).to, ?_⟩
  refine List.forall_mem_cons.mpr ⟨(s_istoren (am_dp pw_X6_remove_0 dd_X6_remove_0a.2.1) rfl (by decide)).to, ?_⟩
  refine List.forall_mem_cons.mpr ⟨(s_iloadn (am_dp pw_X6_remove_0 dd_X6_remove_0a.2.2.1) rfl).to, ?_⟩
  refine List.forall_mem_cons.mpr ⟨(s_iconst (am_dp pw_X6_remove_0 dd_X6_remove_0a.2.2.2.1) (by decide)).to, ?_⟩
  refine List.forall_mem_cons.mpr ⟨(s_iadd (am_dp pw_X6_remove_0 dd_X6_remove_0a.2.2.2.2.1)).to, ?_⟩
  refine List.forall_mem_cons.mpr ⟨(s_aloadn (am_dp pw_X6_remove_0 dd_X6_remove_0a.2.2.2.2.2.1) rfl).to, ?_⟩
  refine List.forall_mem_cons.mpr ⟨(s_get (ci := 6) (k := 5) (am_dp pw_X6_remove_0 dd_X6_remove_0a.2.2.2.2.2.2.1) rfl (by decide) wd253 inX6 rfl).to, ?_⟩
  refine List.forall_mem_cons.mpr ⟨(s_icmp_ge (am_dp pw_X6_remove_0 dd_X6_remove_0a.2.2.2.2.2.2.2) (by decide)).to, ?_⟩
  refine List.forall_mem_cons.mpr ⟨(s_aloadn (am_dp pw_X6_remove_0 dd_X6_remove_0b.1) rfl).to, ?_⟩
  refine List.forall_mem_cons.mpr ⟨(s_get (ci := 6) (k := 6) (am_dp pw_X6_remove_0 dd_X6_remove_0b.2.1) rfl (by decide) wd257 inX6 rfl).to, ?_⟩
  refine List.forall_mem_cons.mpr ⟨(s_iloadn (am_dp pw_X6_remove_0 dd_X6_remove_0b.2.2.1) rfl).to, ?_⟩
  refine List.forall_mem_cons.mpr ⟨(s_aloadn (am_dp pw_X6_remove_0 dd_X6_remove_0b.2.2.2.1) rfl).to, ?_⟩
  refine List.forall_mem_cons.mpr ⟨(s_get (ci := 6) (k := 6) (am_dp pw_X6_remove_0 dd_X6_remove_0b.2.2.2.2.1) rfl (by decide) wd257 inX6 rfl).to, ?_⟩
  refine List.forall_mem_cons.mpr ⟨(s_iloadn (am_dp pw_X6_remove_0 dd_X6_remove_0b.2.2.2.2.2.1) rfl).to, ?_⟩
  refine List.forall_mem_cons.mpr ⟨(s_iconst (am_dp pw_X6_remove_0 dd_X6_remove_0b.2.2.2.2.2.2.1) (by decide)).to, ?_⟩
  refine List.forall_mem_cons.mpr ⟨(s_iadd (am_dp pw_X6_remove_0 dd_X6_remove_0b.2.2.2.2.2.2.2)).to, ?_⟩
  refine List.forall_mem_cons.mpr ⟨(s_iald (am_dp pw_X6_remove_0 dd_X6_remove_0c.1)).to, ?_⟩
  refine List.forall_mem_cons.mpr ⟨(s_iast (am_dp pw_X6_remove_0 dd_X6_remove_0c.2.1)).to, ?_⟩
  refine List.forall_mem_cons.mpr ⟨(s_aloadn (am_dp pw_X6_remove_0 dd_X6_remove_0c.2.2.1) rfl).to, ?_⟩
  refine List.forall_mem_cons.mpr ⟨(s_get (ci := 6) (k := 7) (am_dp pw_X6_remove_0 dd_X6_remove_0c.2.2.2.1) rfl (by decide) wd260 inX6 rfl).to, ?_⟩
  refine List.forall_mem_cons.mpr ⟨(s_iloadn (am_dp pw_X6_remove_0 dd_X6_remove_0c.2.2.2.2.1) rfl).to, ?_⟩
  refine List.forall_mem_cons.mpr ⟨(s_aloadn (am_dp pw_X6_remove_0 dd_X6_remove_0c.2.2.2.2.2) rfl).to, ?_⟩
  refine List.forall_mem_cons.mpr ⟨(s_get (ci := 6) (k := 7) (am_dp pw_X6_remove_32 dd_X6_remove_32a.1) rfl (by decide) wd260 inX6 rfl).to, ?_⟩
  refine List.forall_mem_cons.mpr ⟨(s_iloadn (am_dp pw_X6_remove_32 dd_X6_remove_32a.2.1) rfl).to, ?_⟩
  refine List.forall_mem_cons.mpr ⟨(s_iconst (am_dp pw_X6_remove_32 dd_X6_remove_32a.2.2.1) (by decide)).to, ?_⟩
  refine List.forall_mem_cons.mpr ⟨(s_iadd (am_dp pw_X6_remove_32 dd_X6_remove_32a.2.2.2.1)).to, ?_⟩
  refine List.forall_mem_cons.mpr ⟨(s_iald (am_dp pw_X6_remove_32 dd_X6_remove_32a.2.2.2.2.1)).to, ?_⟩
  refine List.forall_mem_cons.mpr ⟨(s_iast (am_dp pw_X6_remove_32 dd_X6_remove_32a.2.2.2.2.2.1)).to, ?_⟩
  refine List.forall_mem_cons.mpr ⟨(s_aloadn (am_dp pw_X6_remove_32 dd_X6_remove_32a.2.2.2.2.2.2.1) rfl).to, ?_⟩
  refine List.forall_mem_cons.mpr ⟨(s_get (ci := 6) (k := 8) (am_dp pw_X6_remove_32 dd_X6_remove_32a.2.2.2.2.2.2.2) rfl (by decide) wd263 inX6 rfl).to, ?_⟩
  refine List.forall_mem_cons.mpr ⟨(s_iloadn (am_dp pw_X6_remove_32 dd_X6_remove_32b.1) rfl).to, ?_⟩
  refine List.forall_mem_cons.mpr ⟨(s_aloadn (am_dp pw_X6_remove_32 dd_X6_remove_32b.2.1) rfl).to, ?_⟩
  refine List.forall_mem_cons.mpr ⟨(s_get (ci := 6) (k := 8) (am_dp pw_X6_remove_32 dd_X6_remove_32b.2.2.1) rfl (by decide) wd263 inX6 rfl).to, ?_⟩
  refine List.forall_mem_cons.mpr ⟨(s_iloadn (am_dp pw_X6_remove_32 dd_X6_remove_32b.2.2.2.1) rfl).to, ?_⟩
  refine List.forall_mem_cons.mpr ⟨(s_iconst (am_dp pw_X6_remove_32 dd_X6_remove_32b.2.2.2.2.1) (by decide)).to, ?_⟩
  refine List.forall_mem_cons.mpr ⟨(s_iadd (am_dp pw_X6_remove_32 dd_X6_remove_32b.2.2.2.2.2.1)).to, ?_⟩
  refine List.forall_mem_cons.mpr ⟨(s_zald (am_dp pw_X6_remove_32 dd_X6_remove_32b.2.2.2.2.2.2.1)).to, ?_⟩
  refine List.forall_mem_cons.mpr ⟨(s_zast (am_dp pw_X6_remove_32 dd_X6_remove_32b.2.2.2.2.2.2.2)).to, ?_⟩
  refine List.forall_mem_cons.mpr ⟨(s_iinc (am_dp pw_X6_remove_32 dd_X6_remove_32c.1) (by decide) (by decide)).to, ?_⟩
  refine List.forall_mem_cons.mpr ⟨(s_goto (am_dp pw_X6_remove_32 dd_X6_remove_32c.2.1) (by decide)).to, ?_⟩
  refine List.forall_mem_cons.mpr ⟨(s_aloadn (am_dp pw_X6_remove_32 dd_X6_remove_32c.2.2.1) rfl).to, ?_⟩
  refine List.forall_mem_cons.mpr ⟨(s_dup (am_dp pw_X6_remove_32 dd_X6_remove_32c.2.2.2.1)).to, ?_⟩
  refine List.forall_mem_cons.mpr ⟨(s_get (ci := 6) (k := 5) (am_dp pw_X6_remove_32 dd_X6_remove_32c.2.2.2.2) rfl (by decide) wd253 inX6 rfl).to, ?_⟩
  refine List.forall_mem_cons.mpr ⟨(s_iconst (am_dp pw_X6_remove_64 dd_X6_remove_64a.1) (by decide)).to, ?_⟩
  refine List.forall_mem_cons.mpr ⟨(s_isub (am_dp pw_X6_remove_64 dd_X6_remove_64a.2.1)).to, ?_⟩
  refine List.forall_mem_cons.mpr ⟨(s_put (ci := 6) (k := 5) (am_dp pw_X6_remove_64 dd_X6_remove_64a.2.2.1) rfl (by decide) wd253 inX6 tyX6_ok nmX6 rfl rfl).to, ?_⟩
  refine List.forall_mem_cons.mpr ⟨s_vret (am_dp pw_X6_remove_64 dd_X6_remove_64a.2.2.2) rfl, ?_⟩
  exact fun _ h => absurd h List.not_mem_nil
theorem sn_tX6_enterBook : ∀ q ∈ tX6_enterBook, am_Snd am_P0 RX6 cX6_enterBook 4 (Option.none : Option FieldType) "enterBook" q.1 q.2 := by
  unfold tX6_enterBook
  refine List.forall_mem_cons.mpr ⟨(s_aloadn (am_dp pw_X6_enterBook_0 dd_X6_enterBook_0a.1) rfl).to, ?_⟩
  refine List.forall_mem_cons.mpr ⟨(s_get (ci := 6) (k := 9) (am_dp pw_X6_enterBook_0 dd_X6_enterBook_0a.2.1) rfl (by decide) wd266 inX6 rfl).to, ?_⟩
  refine List.forall_mem_cons.mpr ⟨(s_bipush (am_dp pw_X6_enterBook_0 dd_X6_enterBook_0a.2.2.1) (by decide)).to, ?_⟩
  refine List.forall_mem_cons.mpr ⟨(s_icmp_ge (am_dp pw_X6_enterBook_0 dd_X6_enterBook_0a.2.2.2.1) (by decide)).to, ?_⟩
  refine List.forall_mem_cons.mpr ⟨(s_aloadn (am_dp pw_X6_enterBook_0 dd_X6_enterBook_0a.2.2.2.2.1) rfl).to, ?_⟩
  refine List.forall_mem_cons.mpr ⟨(s_get (ci := 6) (k := 10) (am_dp pw_X6_enterBook_0 dd_X6_enterBook_0a.2.2.2.2.2.1) rfl (by decide) wd270 inX6 rfl).to, ?_⟩
  refine List.forall_mem_cons.mpr ⟨(s_aloadn (am_dp pw_X6_enterBook_0 dd_X6_enterBook_0a.2.2.2.2.2.2.1) rfl).to, ?_⟩
  refine List.forall_mem_cons.mpr ⟨(s_get (ci := 6) (k := 9) (am_dp pw_X6_enterBook_0 dd_X6_enterBook_0a.2.2.2.2.2.2.2) rfl (by decide) wd266 inX6 rfl).to, ?_⟩
  refine List.forall_mem_cons.mpr ⟨(s_iloadn (am_dp pw_X6_enterBook_0 dd_X6_enterBook_0b.1) rfl).to, ?_⟩
  refine List.forall_mem_cons.mpr ⟨(s_iast (am_dp pw_X6_enterBook_0 dd_X6_enterBook_0b.2.1)).to, ?_⟩
  refine List.forall_mem_cons.mpr ⟨(s_aloadn (am_dp pw_X6_enterBook_0 dd_X6_enterBook_0b.2.2.1) rfl).to, ?_⟩
  refine List.forall_mem_cons.mpr ⟨(s_get (ci := 6) (k := 11) (am_dp pw_X6_enterBook_0 dd_X6_enterBook_0b.2.2.2.1) rfl (by decide) wd272 inX6 rfl).to, ?_⟩
  refine List.forall_mem_cons.mpr ⟨(s_aloadn (am_dp pw_X6_enterBook_0 dd_X6_enterBook_0b.2.2.2.2.1) rfl).to, ?_⟩
  refine List.forall_mem_cons.mpr ⟨(s_get (ci := 6) (k := 9) (am_dp pw_X6_enterBook_0 dd_X6_enterBook_0b.2.2.2.2.2.1) rfl (by decide) wd266 inX6 rfl).to, ?_⟩
  refine List.forall_mem_cons.mpr ⟨(s_iloadn (am_dp pw_X6_enterBook_0 dd_X6_enterBook_0b.2.2.2.2.2.2.1) rfl).to, ?_⟩
  refine List.forall_mem_cons.mpr ⟨(s_iast (am_dp pw_X6_enterBook_0 dd_X6_enterBook_0b.2.2.2.2.2.2.2)).to, ?_⟩
  refine List.forall_mem_cons.mpr ⟨(s_aloadn (am_dp pw_X6_enterBook_0 dd_X6_enterBook_0c.1) rfl).to, ?_⟩
  refine List.forall_mem_cons.mpr ⟨(s_get (ci := 6) (k := 12) (am_dp pw_X6_enterBook_0 dd_X6_enterBook_0c.2) rfl (by decide) wd274 inX6 rfl).to, ?_⟩
  refine List.forall_mem_cons.mpr ⟨(s_aloadn (am_dp pw_X6_enterBook_32 dd_X6_enterBook_32a.1) rfl).to, ?_⟩
  refine List.forall_mem_cons.mpr ⟨(s_get (ci := 6) (k := 9) (am_dp pw_X6_enterBook_32 dd_X6_enterBook_32a.2.1) rfl (by decide) wd266 inX6 rfl).to, ?_⟩
  refine List.forall_mem_cons.mpr ⟨(s_iloadn (am_dp pw_X6_enterBook_32 dd_X6_enterBook_32a.2.2.1) rfl).to, ?_⟩
  refine List.forall_mem_cons.mpr ⟨(s_iast (am_dp pw_X6_enterBook_32 dd_X6_enterBook_32a.2.2.2.1)).to, ?_⟩
  refine List.forall_mem_cons.mpr ⟨(s_aloadn (am_dp pw_X6_enterBook_32 dd_X6_enterBook_32a.2.2.2.2.1) rfl).to, ?_⟩
  refine List.forall_mem_cons.mpr ⟨(s_dup (am_dp pw_X6_enterBook_32 dd_X6_enterBook_32a.2.2.2.2.2.1)).to, ?_⟩
  refine List.forall_mem_cons.mpr ⟨(s_get (ci := 6) (k := 9) (am_dp pw_X6_enterBook_32 dd_X6_enterBook_32a.2.2.2.2.2.2.1) rfl (by decide) wd266 inX6 rfl).to, ?_⟩
  refine List.forall_mem_cons.mpr ⟨(s_iconst (am_dp pw_X6_enterBook_32 dd_X6_enterBook_32a.2.2.2.2.2.2.2) (by decide)).to, ?_⟩
  refine List.forall_mem_cons.mpr ⟨(s_iadd (am_dp pw_X6_enterBook_32 dd_X6_enterBook_32b.1)).to, ?_⟩
  refine List.forall_mem_cons.mpr ⟨(s_put (ci := 6) (k := 9) (am_dp pw_X6_enterBook_32 dd_X6_enterBook_32b.2.1) rfl (by decide) wd266 inX6 tyX6_ok nmX6 rfl rfl).to, ?_⟩
  refine List.forall_mem_cons.mpr ⟨s_vret (am_dp pw_X6_enterBook_32 dd_X6_enterBook_32b.2.2) rfl, ?_⟩
  exact fun _ h => absurd h List.not_mem_nil
theorem sn_tX6_hoursToBook : ∀ q ∈ tX6_hoursToBook, am_Snd am_P0 RX6 cX6_hoursToBook 3 (Option.some FieldType.int) "hoursToBook" q.1 q.2 := by
  unfold tX6_hoursToBook
  refine List.forall_mem_cons.mpr ⟨(s_iloadn (am_dp pw_X6_hoursToBook_0 dd_X6_hoursToBook_0a.1) rfl).to, ?_⟩
  refine List.forall_mem_cons.mpr ⟨(s_aloadn (am_dp pw_X6_hoursToBook_0 dd_X6_hoursToBook_0a.2.1) rfl).to, ?_⟩
  refine List.forall_mem_cons.mpr ⟨(s_get (ci := 6) (k := 11) (am_dp pw_X6_hoursToBook_0 dd_X6_hoursToBook_0a.2.2.1) rfl (by decide) wd272 inX6 rfl).to, ?_⟩
  refine List.forall_mem_cons.mpr ⟨(s_iloadn (am_dp pw_X6_hoursToBook_0 dd_X6_hoursToBook_0a.2.2.2.1) rfl).to, ?_⟩
  refine List.forall_mem_cons.mpr ⟨(s_iald (am_dp pw_X6_hoursToBook_0 dd_X6_hoursToBook_0a.2.2.2.2.1)).to, ?_⟩
  refine List.forall_mem_cons.mpr ⟨(s_icmp_ge (am_dp pw_X6_hoursToBook_0 dd_X6_hoursToBook_0a.2.2.2.2.2.1) (by decide)).to, ?_⟩
  refine List.forall_mem_cons.mpr ⟨(s_aloadn (am_dp pw_X6_hoursToBook_0 dd_X6_hoursToBook_0a.2.2.2.2.2.2.1) rfl).to, ?_⟩
  refine List.forall_mem_cons.mpr ⟨(s_get (ci := 6) (k := 11) (am_dp pw_X6_hoursToBook_0 dd_X6_hoursToBook_0a.2.2.2.2.2.2.2) rfl (by decide) wd272 inX6 rfl).to, ?_⟩
  refine List.forall_mem_cons.mpr ⟨(s_iloadn (am_dp pw_X6_hoursToBook_0 dd_X6_hoursToBook_0b.1) rfl).to, ?_⟩
  refine List.forall_mem_cons.mpr ⟨(s_iald (am_dp pw_X6_hoursToBook_0 dd_X6_hoursToBook_0b.2.1)).to, ?_⟩
  refine List.forall_mem_cons.mpr ⟨(s_iloadn (am_dp pw_X6_hoursToBook_0 dd_X6_hoursToBook_0b.2.2.1) rfl).to, ?_⟩
  refine List.forall_mem_cons.mpr ⟨(s_isub (am_dp pw_X6_hoursToBook_0 dd_X6_hoursToBook_0b.2.2.2.1)).to, ?_⟩
  refine List.forall_mem_cons.mpr ⟨s_iret (am_dp pw_X6_hoursToBook_0 dd_X6_hoursToBook_0b.2.2.2.2.1) rfl, ?_⟩
  refine List.forall_mem_cons.mpr ⟨(s_iloadn (am_dp pw_X6_hoursToBook_0 dd_X6_hoursToBook_0b.2.2.2.2.2.1) rfl).to, ?_⟩
  refine List.forall_mem_cons.mpr ⟨(s_aloadn (am_dp pw_X6_hoursToBook_0 dd_X6_hoursToBook_0b.2.2.2.2.2.2.1) rfl).to, ?_⟩
  refine List.forall_mem_cons.mpr ⟨(s_get (ci := 6) (k := 12) (am_dp pw_X6_hoursToBook_0 dd_X6_hoursToBook_0b.2.2.2.2.2.2.2) rfl (by decide) wd274 inX6 rfl).to, ?_⟩
  refine List.forall_mem_cons.mpr ⟨(s_iloadn (am_dp pw_X6_hoursToBook_0 dd_X6_hoursToBook_0c.1) rfl).to, ?_⟩
  refine List.forall_mem_cons.mpr ⟨(s_iald (am_dp pw_X6_hoursToBook_0 dd_X6_hoursToBook_0c.2.1)).to, ?_⟩
  refine List.forall_mem_cons.mpr ⟨(s_icmp_le (am_dp pw_X6_hoursToBook_0 dd_X6_hoursToBook_0c.2.2.1) (by decide)).to, ?_⟩
  refine List.forall_mem_cons.mpr ⟨(s_iloadn (am_dp pw_X6_hoursToBook_0 dd_X6_hoursToBook_0c.2.2.2.1) rfl).to, ?_⟩
  refine List.forall_mem_cons.mpr ⟨(s_aloadn (am_dp pw_X6_hoursToBook_0 dd_X6_hoursToBook_0c.2.2.2.2.1) rfl).to, ?_⟩
  refine List.forall_mem_cons.mpr ⟨(s_get (ci := 6) (k := 12) (am_dp pw_X6_hoursToBook_0 dd_X6_hoursToBook_0c.2.2.2.2.2) rfl (by decide) wd274 inX6 rfl).to, ?_⟩
  refine List.forall_mem_cons.mpr ⟨(s_iloadn (am_dp pw_X6_hoursToBook_32 dd_X6_hoursToBook_32a.1) rfl).to, ?_⟩
  refine List.forall_mem_cons.mpr ⟨(s_iald (am_dp pw_X6_hoursToBook_32 dd_X6_hoursToBook_32a.2.1)).to, ?_⟩
  refine List.forall_mem_cons.mpr ⟨(s_isub (am_dp pw_X6_hoursToBook_32 dd_X6_hoursToBook_32a.2.2.1)).to, ?_⟩
  refine List.forall_mem_cons.mpr ⟨(s_goto (am_dp pw_X6_hoursToBook_32 dd_X6_hoursToBook_32a.2.2.2.1) (by decide)).to, ?_⟩
  refine List.forall_mem_cons.mpr ⟨(s_iconst (am_dp pw_X6_hoursToBook_32 dd_X6_hoursToBook_32a.2.2.2.2.1) (by decide)).to, ?_⟩
  refine List.forall_mem_cons.mpr ⟨s_iret (am_dp pw_X6_hoursToBook_32 dd_X6_hoursToBook_32a.2.2.2.2.2) rfl, ?_⟩
  exact fun _ h => absurd h List.not_mem_nil
theorem sn_tX7_init : ∀ q ∈ tX7_init, am_Snd am_P0 RX7 cX7_init 1 (Option.none : Option FieldType) "<init>" q.1 q.2 := by
  unfold tX7_init
  refine List.forall_mem_cons.mpr ⟨(s_aloadn (am_dp pw_X7_init_0 dd_X7_init_0a.1) rfl).to, ?_⟩
  refine List.forall_mem_cons.mpr ⟨(s_obj (am_dp pw_X7_init_0 dd_X7_init_0a.2.1) wd175 wd160 wd161).to, ?_⟩
  refine List.forall_mem_cons.mpr ⟨(s_aloadn (am_dp pw_X7_init_0 dd_X7_init_0a.2.2.1) rfl).to, ?_⟩
  refine List.forall_mem_cons.mpr ⟨(s_bipush (am_dp pw_X7_init_0 dd_X7_init_0a.2.2.2.1) (by decide)).to, ?_⟩
  refine List.forall_mem_cons.mpr ⟨(s_newa (kd := 0) (ty := .int) (am_dp pw_X7_init_0 dd_X7_init_0a.2.2.2.2.1) rfl rfl wd195 (by decide) (by decide) (fun _ _ h => h)).to, ?_⟩
  refine List.forall_mem_cons.mpr ⟨(s_putF (ci := 7) (k := 1) (am_dp pw_X7_init_0 dd_X7_init_0a.2.2.2.2.2.1) rfl (by decide) wd180 inX7 tyX7_ok nmX7 rfl rfl rfl rfl).to, ?_⟩
  refine List.forall_mem_cons.mpr ⟨(s_aloadn (am_dp pw_X7_init_0 dd_X7_init_0a.2.2.2.2.2.2.1) rfl).to, ?_⟩
  refine List.forall_mem_cons.mpr ⟨(s_bipush (am_dp pw_X7_init_0 dd_X7_init_0a.2.2.2.2.2.2.2) (by decide)).to, ?_⟩
  refine List.forall_mem_cons.mpr ⟨(s_newa (kd := 0) (ty := .int) (am_dp pw_X7_init_0 dd_X7_init_0b.1) rfl rfl wd195 (by decide) (by decide) (fun _ _ h => h)).to, ?_⟩
  refine List.forall_mem_cons.mpr ⟨(s_putF (ci := 7) (k := 2) (am_dp pw_X7_init_0 dd_X7_init_0b.2.1) rfl (by decide) wd182 inX7 tyX7_ok nmX7 rfl rfl rfl rfl).to, ?_⟩
  refine List.forall_mem_cons.mpr ⟨(s_aloadn (am_dp pw_X7_init_0 dd_X7_init_0b.2.2.1) rfl).to, ?_⟩
  refine List.forall_mem_cons.mpr ⟨(s_bipush (am_dp pw_X7_init_0 dd_X7_init_0b.2.2.2.1) (by decide)).to, ?_⟩
  refine List.forall_mem_cons.mpr ⟨(s_newa (kd := 0) (ty := .int) (am_dp pw_X7_init_0 dd_X7_init_0b.2.2.2.2.1) rfl rfl wd195 (by decide) (by decide) (fun _ _ h => h)).to, ?_⟩
  refine List.forall_mem_cons.mpr ⟨(s_putF (ci := 7) (k := 3) (am_dp pw_X7_init_0 dd_X7_init_0b.2.2.2.2.2.1) rfl (by decide) wd184 inX7 tyX7_ok nmX7 rfl rfl rfl rfl).to, ?_⟩
  refine List.forall_mem_cons.mpr ⟨s_vret (am_dp pw_X7_init_0 dd_X7_init_0b.2.2.2.2.2.2) rfl, ?_⟩
  exact fun _ h => absurd h List.not_mem_nil
theorem sn_tX7_append : ∀ q ∈ tX7_append, am_Snd am_P0 RX7 cX7_append 4 (Option.none : Option FieldType) "append" q.1 q.2 := by
  unfold tX7_append
  refine List.forall_mem_cons.mpr ⟨(s_aloadn (am_dp pw_X7_append_0 dd_X7_append_0a.1) rfl).to, ?_⟩
  refine List.forall_mem_cons.mpr ⟨(s_get (ci := 7) (k := 0) (am_dp pw_X7_append_0 dd_X7_append_0a.2.1) rfl (by decide) wd176 inX7 rfl).to, ?_⟩
  refine List.forall_mem_cons.mpr ⟨(s_bipush (am_dp pw_X7_append_0 dd_X7_append_0a.2.2.1) (by decide)).to, ?_⟩
  refine List.forall_mem_cons.mpr ⟨(s_icmp_ge (am_dp pw_X7_append_0 dd_X7_append_0a.2.2.2.1) (by decide)).to, ?_⟩
  refine List.forall_mem_cons.mpr ⟨(s_aloadn (am_dp pw_X7_append_0 dd_X7_append_0a.2.2.2.2.1) rfl).to, ?_⟩
  refine List.forall_mem_cons.mpr ⟨(s_get (ci := 7) (k := 1) (am_dp pw_X7_append_0 dd_X7_append_0a.2.2.2.2.2.1) rfl (by decide) wd180 inX7 rfl).to, ?_⟩
  refine List.forall_mem_cons.mpr ⟨(s_aloadn (am_dp pw_X7_append_0 dd_X7_append_0a.2.2.2.2.2.2.1) rfl).to, ?_⟩
  refine List.forall_mem_cons.mpr ⟨(s_get (ci := 7) (k := 0) (am_dp pw_X7_append_0 dd_X7_append_0a.2.2.2.2.2.2.2) rfl (by decide) wd176 inX7 rfl).to, ?_⟩
  refine List.forall_mem_cons.mpr ⟨(s_iloadn (am_dp pw_X7_append_0 dd_X7_append_0b.1) rfl).to, ?_⟩
  refine List.forall_mem_cons.mpr ⟨(s_iast (am_dp pw_X7_append_0 dd_X7_append_0b.2.1)).to, ?_⟩
  refine List.forall_mem_cons.mpr ⟨(s_aloadn (am_dp pw_X7_append_0 dd_X7_append_0b.2.2.1) rfl).to, ?_⟩
  refine List.forall_mem_cons.mpr ⟨(s_get (ci := 7) (k := 2) (am_dp pw_X7_append_0 dd_X7_append_0b.2.2.2.1) rfl (by decide) wd182 inX7 rfl).to, ?_⟩
  refine List.forall_mem_cons.mpr ⟨(s_aloadn (am_dp pw_X7_append_0 dd_X7_append_0b.2.2.2.2.1) rfl).to, ?_⟩
  refine List.forall_mem_cons.mpr ⟨(s_get (ci := 7) (k := 0) (am_dp pw_X7_append_0 dd_X7_append_0b.2.2.2.2.2.1) rfl (by decide) wd176 inX7 rfl).to, ?_⟩
  refine List.forall_mem_cons.mpr ⟨(s_iloadn (am_dp pw_X7_append_0 dd_X7_append_0b.2.2.2.2.2.2.1) rfl).to, ?_⟩
  refine List.forall_mem_cons.mpr ⟨(s_iast (am_dp pw_X7_append_0 dd_X7_append_0b.2.2.2.2.2.2.2)).to, ?_⟩
  refine List.forall_mem_cons.mpr ⟨(s_aloadn (am_dp pw_X7_append_0 dd_X7_append_0c.1) rfl).to, ?_⟩
  refine List.forall_mem_cons.mpr ⟨(s_get (ci := 7) (k := 3) (am_dp pw_X7_append_0 dd_X7_append_0c.2) rfl (by decide) wd184 inX7 rfl).to, ?_⟩
  refine List.forall_mem_cons.mpr ⟨(s_aloadn (am_dp pw_X7_append_32 dd_X7_append_32a.1) rfl).to, ?_⟩
  refine List.forall_mem_cons.mpr ⟨(s_get (ci := 7) (k := 0) (am_dp pw_X7_append_32 dd_X7_append_32a.2.1) rfl (by decide) wd176 inX7 rfl).to, ?_⟩
  refine List.forall_mem_cons.mpr ⟨(s_iloadn (am_dp pw_X7_append_32 dd_X7_append_32a.2.2.1) rfl).to, ?_⟩
  refine List.forall_mem_cons.mpr ⟨(s_iast (am_dp pw_X7_append_32 dd_X7_append_32a.2.2.2.1)).to, ?_⟩
  refine List.forall_mem_cons.mpr ⟨(s_aloadn (am_dp pw_X7_append_32 dd_X7_append_32a.2.2.2.2.1) rfl).to, ?_⟩
  refine List.forall_mem_cons.mpr ⟨(s_dup (am_dp pw_X7_append_32 dd_X7_append_32a.2.2.2.2.2.1)).to, ?_⟩
  refine List.forall_mem_cons.mpr ⟨(s_get (ci := 7) (k := 0) (am_dp pw_X7_append_32 dd_X7_append_32a.2.2.2.2.2.2.1) rfl (by decide) wd176 inX7 rfl).to, ?_⟩
  refine List.forall_mem_cons.mpr ⟨(s_iconst (am_dp pw_X7_append_32 dd_X7_append_32a.2.2.2.2.2.2.2) (by decide)).to, ?_⟩
  refine List.forall_mem_cons.mpr ⟨(s_iadd (am_dp pw_X7_append_32 dd_X7_append_32b.1)).to, ?_⟩
  refine List.forall_mem_cons.mpr ⟨(s_put (ci := 7) (k := 0) (am_dp pw_X7_append_32 dd_X7_append_32b.2.1) rfl (by decide) wd176 inX7 tyX7_ok nmX7 rfl rfl).to, ?_⟩
  refine List.forall_mem_cons.mpr ⟨s_vret (am_dp pw_X7_append_32 dd_X7_append_32b.2.2) rfl, ?_⟩
  exact fun _ h => absurd h List.not_mem_nil
theorem sn_tX8_init : ∀ q ∈ tX8_init, am_Snd am_P0 RX8 cX8_init 3 (Option.none : Option FieldType) "<init>" q.1 q.2 := by
  unfold tX8_init
  refine List.forall_mem_cons.mpr ⟨(s_aloadn (am_dp pw_X8_init_0 dd_X8_init_0a.1) rfl).to, ?_⟩
  refine List.forall_mem_cons.mpr ⟨(s_obj (am_dp pw_X8_init_0 dd_X8_init_0a.2.1) wd481 wd160 wd161).to, ?_⟩
  refine List.forall_mem_cons.mpr ⟨(s_aloadn (am_dp pw_X8_init_0 dd_X8_init_0a.2.2.1) rfl).to, ?_⟩
  refine List.forall_mem_cons.mpr ⟨(s_new (ci := 9) (am_dp pw_X8_init_0 dd_X8_init_0a.2.2.2.1) rfl wd482 wd483 wd147 inX9 tyX9_ok (by decide)).to, ?_⟩
  refine List.forall_mem_cons.mpr ⟨(s_dup (am_dp pw_X8_init_0 dd_X8_init_0a.2.2.2.2.1)).to, ?_⟩
  refine List.forall_mem_cons.mpr ⟨z_cin (ci := 9) (am_dp pw_X8_init_0 dd_X8_init_0a.2.2.2.2.2.1) mt101 wd484 rfl rfl, ?_⟩
  refine List.forall_mem_cons.mpr ⟨(s_putF (ci := 8) (k := 2) (am_dp pw_X8_init_0 dd_X8_init_0a.2.2.2.2.2.2.1) rfl (by decide) wd521 inX8 tyX8_ok nmX8 rfl rfl rfl rfl).to, ?_⟩
  refine List.forall_mem_cons.mpr ⟨(s_aloadn (am_dp pw_X8_init_0 dd_X8_init_0a.2.2.2.2.2.2.2) rfl).to, ?_⟩
  refine List.forall_mem_cons.mpr ⟨(s_new (ci := 1) (am_dp pw_X8_init_0 dd_X8_init_0b.1) rfl wd507 wd508 wd148 inX1 tyX1_ok (by decide)).to, ?_⟩
  refine List.forall_mem_cons.mpr ⟨(s_dup (am_dp pw_X8_init_0 dd_X8_init_0b.2.1)).to, ?_⟩
  refine List.forall_mem_cons.mpr ⟨z_cin (ci := 1) (am_dp pw_X8_init_0 dd_X8_init_0b.2.2.1) mt5 wd509 rfl rfl, ?_⟩
  refine List.forall_mem_cons.mpr ⟨(s_putF (ci := 8) (k := 3) (am_dp pw_X8_init_0 dd_X8_init_0b.2.2.2.1) rfl (by decide) wd523 inX8 tyX8_ok nmX8 rfl rfl rfl rfl).to, ?_⟩
  refine List.forall_mem_cons.mpr ⟨(s_aloadn (am_dp pw_X8_init_0 dd_X8_init_0b.2.2.2.2.1) rfl).to, ?_⟩
  refine List.forall_mem_cons.mpr ⟨(s_bipush (am_dp pw_X8_init_0 dd_X8_init_0b.2.2.2.2.2.1) (by decide)).to, ?_⟩
  refine List.forall_mem_cons.mpr ⟨(s_newa (kd := 2) (ty := .boolean) (am_dp pw_X8_init_0 dd_X8_init_0b.2.2.2.2.2.2.1) rfl rfl wd304 (by decide) (by decide) (fun _ _ h => h)).to, ?_⟩
  refine List.forall_mem_cons.mpr ⟨(s_putF (ci := 8) (k := 9) (am_dp pw_X8_init_0 dd_X8_init_0b.2.2.2.2.2.2.2) rfl (by decide) wd531 inX8 tyX8_ok nmX8 rfl rfl rfl rfl).to, ?_⟩
  refine List.forall_mem_cons.mpr ⟨(s_aloadn (am_dp pw_X8_init_32 dd_X8_init_32a.1) rfl).to, ?_⟩
  refine List.forall_mem_cons.mpr ⟨(s_bipush (am_dp pw_X8_init_32 dd_X8_init_32a.2.1) (by decide)).to, ?_⟩
  refine List.forall_mem_cons.mpr ⟨(s_newa (kd := 2) (ty := .boolean) (am_dp pw_X8_init_32 dd_X8_init_32a.2.2.1) rfl rfl wd304 (by decide) (by decide) (fun _ _ h => h)).to, ?_⟩
  refine List.forall_mem_cons.mpr ⟨(s_putF (ci := 8) (k := 10) (am_dp pw_X8_init_32 dd_X8_init_32a.2.2.2.1) rfl (by decide) wd532 inX8 tyX8_ok nmX8 rfl rfl rfl rfl).to, ?_⟩
  refine List.forall_mem_cons.mpr ⟨(s_aloadn (am_dp pw_X8_init_32 dd_X8_init_32a.2.2.2.2.1) rfl).to, ?_⟩
  refine List.forall_mem_cons.mpr ⟨(s_sipush (am_dp pw_X8_init_32 dd_X8_init_32a.2.2.2.2.2.1) (by decide)).to, ?_⟩
  refine List.forall_mem_cons.mpr ⟨(s_newa (kd := 1) (ty := .long) (am_dp pw_X8_init_32 dd_X8_init_32a.2.2.2.2.2.2.1) rfl rfl wd303 (by decide) (by decide) (fun _ _ h => h)).to, ?_⟩
  refine List.forall_mem_cons.mpr ⟨(s_putF (ci := 8) (k := 12) (am_dp pw_X8_init_32 dd_X8_init_32a.2.2.2.2.2.2.2) rfl (by decide) wd536 inX8 tyX8_ok nmX8 rfl rfl rfl rfl).to, ?_⟩
  refine List.forall_mem_cons.mpr ⟨(s_aloadn (am_dp pw_X8_init_32 dd_X8_init_32b.1) rfl).to, ?_⟩
  refine List.forall_mem_cons.mpr ⟨(s_bipush (am_dp pw_X8_init_32 dd_X8_init_32b.2.1) (by decide)).to, ?_⟩
  refine List.forall_mem_cons.mpr ⟨(s_newa (kd := 0) (ty := .int) (am_dp pw_X8_init_32 dd_X8_init_32b.2.2.1) rfl rfl wd195 (by decide) (by decide) (fun _ _ h => h)).to, ?_⟩
  refine List.forall_mem_cons.mpr ⟨(s_putF (ci := 8) (k := 15) (am_dp pw_X8_init_32 dd_X8_init_32b.2.2.2.1) rfl (by decide) wd542 inX8 tyX8_ok nmX8 rfl rfl rfl rfl).to, ?_⟩
  refine List.forall_mem_cons.mpr ⟨(s_aloadn (am_dp pw_X8_init_32 dd_X8_init_32b.2.2.2.2.1) rfl).to, ?_⟩
  refine List.forall_mem_cons.mpr ⟨(s_bipush (am_dp pw_X8_init_32 dd_X8_init_32b.2.2.2.2.2.1) (by decide)).to, ?_⟩
  refine List.forall_mem_cons.mpr ⟨(s_newa (kd := 0) (ty := .int) (am_dp pw_X8_init_32 dd_X8_init_32b.2.2.2.2.2.2) rfl rfl wd195 (by decide) (by decide) (fun _ _ h => h)).to, ?_⟩
  refine List.forall_mem_cons.mpr ⟨(s_putF (ci := 8) (k := 16) (am_dp pw_X8_init_64 dd_X8_init_64a.1) rfl (by decide) wd543 inX8 tyX8_ok nmX8 rfl rfl rfl rfl).to, ?_⟩
  refine List.forall_mem_cons.mpr ⟨(s_aloadn (am_dp pw_X8_init_64 dd_X8_init_64a.2.1) rfl).to, ?_⟩
  refine List.forall_mem_cons.mpr ⟨(s_aloadn (am_dp pw_X8_init_64 dd_X8_init_64a.2.2.1) rfl).to, ?_⟩
  refine List.forall_mem_cons.mpr ⟨(s_put (ci := 8) (k := 1) (am_dp pw_X8_init_64 dd_X8_init_64a.2.2.2.1) rfl (by decide) wd520 inX8 tyX8_ok nmX8 rfl rfl).to, ?_⟩
  refine List.forall_mem_cons.mpr ⟨(s_aloadn (am_dp pw_X8_init_64 dd_X8_init_64a.2.2.2.2.1) rfl).to, ?_⟩
  refine List.forall_mem_cons.mpr ⟨(s_aloadn (am_dp pw_X8_init_64 dd_X8_init_64a.2.2.2.2.2.1) rfl).to, ?_⟩
  refine List.forall_mem_cons.mpr ⟨(s_put (ci := 8) (k := 0) (am_dp pw_X8_init_64 dd_X8_init_64a.2.2.2.2.2.2.1) rfl (by decide) wd518 inX8 tyX8_ok nmX8 rfl rfl).to, ?_⟩
  refine List.forall_mem_cons.mpr ⟨s_vret (am_dp pw_X8_init_64 dd_X8_init_64a.2.2.2.2.2.2.2) rfl, ?_⟩
  exact fun _ h => absurd h List.not_mem_nil
theorem sn_tX8_begin : ∀ q ∈ tX8_begin, am_Snd am_P0 RX8 cX8_begin 3 (Option.none : Option FieldType) "begin" q.1 q.2 := by
  unfold tX8_begin
  refine List.forall_mem_cons.mpr ⟨(s_aloadn (am_dp pw_X8_begin_0 dd_X8_begin_0a.1) rfl).to, ?_⟩
  refine List.forall_mem_cons.mpr ⟨(s_aloadn (am_dp pw_X8_begin_0 dd_X8_begin_0a.2.1) rfl).to, ?_⟩
  refine List.forall_mem_cons.mpr ⟨(s_put (ci := 8) (k := 1) (am_dp pw_X8_begin_0 dd_X8_begin_0a.2.2.1) rfl (by decide) wd520 inX8 tyX8_ok nmX8 rfl rfl).to, ?_⟩
  refine List.forall_mem_cons.mpr ⟨(s_aloadn (am_dp pw_X8_begin_0 dd_X8_begin_0a.2.2.2.1) rfl).to, ?_⟩
  refine List.forall_mem_cons.mpr ⟨(s_aloadn (am_dp pw_X8_begin_0 dd_X8_begin_0a.2.2.2.2.1) rfl).to, ?_⟩
  refine List.forall_mem_cons.mpr ⟨(s_put (ci := 8) (k := 0) (am_dp pw_X8_begin_0 dd_X8_begin_0a.2.2.2.2.2.1) rfl (by decide) wd518 inX8 tyX8_ok nmX8 rfl rfl).to, ?_⟩
  refine List.forall_mem_cons.mpr ⟨(s_aloadn (am_dp pw_X8_begin_0 dd_X8_begin_0a.2.2.2.2.2.2.1) rfl).to, ?_⟩
  refine List.forall_mem_cons.mpr ⟨(s_get (ci := 8) (k := 2) (am_dp pw_X8_begin_0 dd_X8_begin_0a.2.2.2.2.2.2.2) rfl (by decide) wd521 inX8 rfl).to, ?_⟩
  refine List.forall_mem_cons.mpr ⟨(s_aloadn (am_dp pw_X8_begin_0 dd_X8_begin_0b.1) rfl).to, ?_⟩
  refine List.forall_mem_cons.mpr ⟨(s_aloadn (am_dp pw_X8_begin_0 dd_X8_begin_0b.2.1) rfl).to, ?_⟩
  refine List.forall_mem_cons.mpr ⟨zw_cv102 (am_dp pw_X8_begin_0 dd_X8_begin_0b.2.2.1) wd893, ?_⟩
  refine List.forall_mem_cons.mpr ⟨(s_aloadn (am_dp pw_X8_begin_0 dd_X8_begin_0b.2.2.2.1) rfl).to, ?_⟩
  refine List.forall_mem_cons.mpr ⟨(s_iconst (am_dp pw_X8_begin_0 dd_X8_begin_0b.2.2.2.2.1) (by decide)).to, ?_⟩
  refine List.forall_mem_cons.mpr ⟨(s_put (ci := 8) (k := 6) (am_dp pw_X8_begin_0 dd_X8_begin_0b.2.2.2.2.2.1) rfl (by decide) wd526 inX8 tyX8_ok nmX8 rfl rfl).to, ?_⟩
  refine List.forall_mem_cons.mpr ⟨(s_aloadn (am_dp pw_X8_begin_0 dd_X8_begin_0b.2.2.2.2.2.2.1) rfl).to, ?_⟩
  refine List.forall_mem_cons.mpr ⟨zw_cv74 (am_dp pw_X8_begin_0 dd_X8_begin_0b.2.2.2.2.2.2.2) wd899, ?_⟩
  refine List.forall_mem_cons.mpr ⟨s_vret (am_dp pw_X8_begin_0 dd_X8_begin_0c) rfl, ?_⟩
  exact fun _ h => absurd h List.not_mem_nil
theorem sn_tX8_forget : ∀ q ∈ tX8_forget, am_Snd am_P0 RX8 cX8_forget 1 (Option.none : Option FieldType) "forget" q.1 q.2 := by
  unfold tX8_forget
  refine List.forall_mem_cons.mpr ⟨(s_aloadn (am_dp pw_X8_forget_0 dd_X8_forget_0a.1) rfl).to, ?_⟩
  refine List.forall_mem_cons.mpr ⟨(s_iconst (am_dp pw_X8_forget_0 dd_X8_forget_0a.2.1) (by decide)).to, ?_⟩
  refine List.forall_mem_cons.mpr ⟨(s_put (ci := 8) (k := 4) (am_dp pw_X8_forget_0 dd_X8_forget_0a.2.2.1) rfl (by decide) wd524 inX8 tyX8_ok nmX8 rfl rfl).to, ?_⟩
  refine List.forall_mem_cons.mpr ⟨(s_aloadn (am_dp pw_X8_forget_0 dd_X8_forget_0a.2.2.2.1) rfl).to, ?_⟩
  refine List.forall_mem_cons.mpr ⟨(s_iconst (am_dp pw_X8_forget_0 dd_X8_forget_0a.2.2.2.2.1) (by decide)).to, ?_⟩
  refine List.forall_mem_cons.mpr ⟨(s_put (ci := 8) (k := 5) (am_dp pw_X8_forget_0 dd_X8_forget_0a.2.2.2.2.2.1) rfl (by decide) wd525 inX8 tyX8_ok nmX8 rfl rfl).to, ?_⟩
  refine List.forall_mem_cons.mpr ⟨s_vret (am_dp pw_X8_forget_0 dd_X8_forget_0a.2.2.2.2.2.2) rfl, ?_⟩
  exact fun _ h => absurd h List.not_mem_nil
theorem sn_tX8_isSound : ∀ q ∈ tX8_isSound, am_Snd am_P0 RX8 cX8_isSound 3 (Option.some FieldType.boolean) "isSound" q.1 q.2 := by
  unfold tX8_isSound
  refine List.forall_mem_cons.mpr ⟨(s_aloadn (am_dp pw_X8_isSound_0 dd_X8_isSound_0a.1) rfl).to, ?_⟩
  refine List.forall_mem_cons.mpr ⟨(s_get (ci := 8) (k := 1) (am_dp pw_X8_isSound_0 dd_X8_isSound_0a.2.1) rfl (by decide) wd520 inX8 rfl).to, ?_⟩
  refine List.forall_mem_cons.mpr ⟨(s_get (ci := 5) (k := 10) (am_dp pw_X8_isSound_0 dd_X8_isSound_0a.2.2.1) rfl (by decide) wd333 inX5 rfl).to, ?_⟩
  refine List.forall_mem_cons.mpr ⟨(s_iloadn (am_dp pw_X8_isSound_0 dd_X8_isSound_0a.2.2.2.1) rfl).to, ?_⟩
  refine List.forall_mem_cons.mpr ⟨(s_iald (am_dp pw_X8_isSound_0 dd_X8_isSound_0a.2.2.2.2.1)).to, ?_⟩
  refine List.forall_mem_cons.mpr ⟨(s_aloadn (am_dp pw_X8_isSound_0 dd_X8_isSound_0a.2.2.2.2.2.1) rfl).to, ?_⟩
  refine List.forall_mem_cons.mpr ⟨(s_get (ci := 8) (k := 0) (am_dp pw_X8_isSound_0 dd_X8_isSound_0a.2.2.2.2.2.2.1) rfl (by decide) wd518 inX8 rfl).to, ?_⟩
  refine List.forall_mem_cons.mpr ⟨(s_get (ci := 6) (k := 3) (am_dp pw_X8_isSound_0 dd_X8_isSound_0a.2.2.2.2.2.2.2) rfl (by decide) wd247 inX6 rfl).to, ?_⟩
  refine List.forall_mem_cons.mpr ⟨(s_iloadn (am_dp pw_X8_isSound_0 dd_X8_isSound_0b.1) rfl).to, ?_⟩
  refine List.forall_mem_cons.mpr ⟨(s_if_eq (am_dp pw_X8_isSound_0 dd_X8_isSound_0b.2.1) (by decide)).to, ?_⟩
  refine List.forall_mem_cons.mpr ⟨(s_aloadn (am_dp pw_X8_isSound_0 dd_X8_isSound_0b.2.2.1) rfl).to, ?_⟩
  refine List.forall_mem_cons.mpr ⟨(s_get (ci := 8) (k := 0) (am_dp pw_X8_isSound_0 dd_X8_isSound_0b.2.2.2.1) rfl (by decide) wd518 inX8 rfl).to, ?_⟩
  refine List.forall_mem_cons.mpr ⟨(s_get (ci := 6) (k := 4) (am_dp pw_X8_isSound_0 dd_X8_isSound_0b.2.2.2.2.1) rfl (by decide) wd250 inX6 rfl).to, ?_⟩
  refine List.forall_mem_cons.mpr ⟨(s_goto (am_dp pw_X8_isSound_0 dd_X8_isSound_0b.2.2.2.2.2.1) (by decide)).to, ?_⟩
  refine List.forall_mem_cons.mpr ⟨(s_iconst (am_dp pw_X8_isSound_0 dd_X8_isSound_0b.2.2.2.2.2.2.1) (by decide)).to, ?_⟩
  refine List.forall_mem_cons.mpr ⟨(s_iadd (am_dp pw_X8_isSound_0 dd_X8_isSound_0b.2.2.2.2.2.2.2)).to, ?_⟩
  refine List.forall_mem_cons.mpr ⟨(s_icmp_lt (am_dp pw_X8_isSound_32 dd_X8_isSound_32a.1) (by decide)).to, ?_⟩
  refine List.forall_mem_cons.mpr ⟨(s_iconst (am_dp pw_X8_isSound_32 dd_X8_isSound_32a.2.1) (by decide)).to, ?_⟩
  refine List.forall_mem_cons.mpr ⟨(s_goto (am_dp pw_X8_isSound_32 dd_X8_isSound_32a.2.2.1) (by decide)).to, ?_⟩
  refine List.forall_mem_cons.mpr ⟨(s_iconst (am_dp pw_X8_isSound_32 dd_X8_isSound_32a.2.2.2.1) (by decide)).to, ?_⟩
  refine List.forall_mem_cons.mpr ⟨s_zret (am_dp pw_X8_isSound_32 dd_X8_isSound_32a.2.2.2.2) rfl, ?_⟩
  exact fun _ h => absurd h List.not_mem_nil
theorem sn_tX8_goTogether : ∀ q ∈ tX8_goTogether, am_Snd am_P0 RX8 cX8_goTogether 4 (Option.some FieldType.boolean) "goTogether" q.1 q.2 := by
  unfold tX8_goTogether
  refine List.forall_mem_cons.mpr ⟨(s_aloadn (am_dp pw_X8_goTogether_0 dd_X8_goTogether_0a.1) rfl).to, ?_⟩
  refine List.forall_mem_cons.mpr ⟨(s_get (ci := 8) (k := 0) (am_dp pw_X8_goTogether_0 dd_X8_goTogether_0a.2.1) rfl (by decide) wd518 inX8 rfl).to, ?_⟩
  refine List.forall_mem_cons.mpr ⟨(s_get (ci := 6) (k := 6) (am_dp pw_X8_goTogether_0 dd_X8_goTogether_0a.2.2.1) rfl (by decide) wd258 inX6 rfl).to, ?_⟩
  refine List.forall_mem_cons.mpr ⟨(s_iloadn (am_dp pw_X8_goTogether_0 dd_X8_goTogether_0a.2.2.2.1) rfl).to, ?_⟩
  refine List.forall_mem_cons.mpr ⟨(s_iald (am_dp pw_X8_goTogether_0 dd_X8_goTogether_0a.2.2.2.2.1)).to, ?_⟩
  refine List.forall_mem_cons.mpr ⟨(s_aloadn (am_dp pw_X8_goTogether_0 dd_X8_goTogether_0a.2.2.2.2.2.1) rfl).to, ?_⟩
  refine List.forall_mem_cons.mpr ⟨(s_get (ci := 8) (k := 0) (am_dp pw_X8_goTogether_0 dd_X8_goTogether_0a.2.2.2.2.2.2.1) rfl (by decide) wd518 inX8 rfl).to, ?_⟩
  refine List.forall_mem_cons.mpr ⟨(s_get (ci := 6) (k := 6) (am_dp pw_X8_goTogether_0 dd_X8_goTogether_0a.2.2.2.2.2.2.2) rfl (by decide) wd258 inX6 rfl).to, ?_⟩
  refine List.forall_mem_cons.mpr ⟨(s_iloadn (am_dp pw_X8_goTogether_0 dd_X8_goTogether_0b.1) rfl).to, ?_⟩
  refine List.forall_mem_cons.mpr ⟨(s_iald (am_dp pw_X8_goTogether_0 dd_X8_goTogether_0b.2.1)).to, ?_⟩
  refine List.forall_mem_cons.mpr ⟨(s_isub (am_dp pw_X8_goTogether_0 dd_X8_goTogether_0b.2.2.1)).to, ?_⟩
  refine List.forall_mem_cons.mpr ⟨zw_cs306 (am_dp pw_X8_goTogether_0 dd_X8_goTogether_0b.2.2.2.1) wd1057, ?_⟩
  refine List.forall_mem_cons.mpr ⟨(s_istoren (am_dp pw_X8_goTogether_0 dd_X8_goTogether_0b.2.2.2.2.1) rfl (by decide)).to, ?_⟩
  refine List.forall_mem_cons.mpr ⟨(s_aloadn (am_dp pw_X8_goTogether_0 dd_X8_goTogether_0b.2.2.2.2.2.1) rfl).to, ?_⟩
  refine List.forall_mem_cons.mpr ⟨(s_get (ci := 8) (k := 2) (am_dp pw_X8_goTogether_0 dd_X8_goTogether_0b.2.2.2.2.2.2.1) rfl (by decide) wd521 inX8 rfl).to, ?_⟩
  refine List.forall_mem_cons.mpr ⟨(s_aloadn (am_dp pw_X8_goTogether_0 dd_X8_goTogether_0b.2.2.2.2.2.2.2) rfl).to, ?_⟩
  refine List.forall_mem_cons.mpr ⟨(s_get (ci := 8) (k := 0) (am_dp pw_X8_goTogether_0 dd_X8_goTogether_0c.1) rfl (by decide) wd518 inX8 rfl).to, ?_⟩
  refine List.forall_mem_cons.mpr ⟨(s_get (ci := 6) (k := 7) (am_dp pw_X8_goTogether_0 dd_X8_goTogether_0c.2) rfl (by decide) wd261 inX6 rfl).to, ?_⟩
  refine List.forall_mem_cons.mpr ⟨(s_iloadn (am_dp pw_X8_goTogether_32 dd_X8_goTogether_32a.1) rfl).to, ?_⟩
  refine List.forall_mem_cons.mpr ⟨(s_iald (am_dp pw_X8_goTogether_32 dd_X8_goTogether_32a.2.1)).to, ?_⟩
  refine List.forall_mem_cons.mpr ⟨(s_aloadn (am_dp pw_X8_goTogether_32 dd_X8_goTogether_32a.2.2.1) rfl).to, ?_⟩
  refine List.forall_mem_cons.mpr ⟨(s_get (ci := 8) (k := 0) (am_dp pw_X8_goTogether_32 dd_X8_goTogether_32a.2.2.2.1) rfl (by decide) wd518 inX8 rfl).to, ?_⟩
  refine List.forall_mem_cons.mpr ⟨(s_get (ci := 6) (k := 7) (am_dp pw_X8_goTogether_32 dd_X8_goTogether_32a.2.2.2.2.1) rfl (by decide) wd261 inX6 rfl).to, ?_⟩
  refine List.forall_mem_cons.mpr ⟨(s_iloadn (am_dp pw_X8_goTogether_32 dd_X8_goTogether_32a.2.2.2.2.2.1) rfl).to, ?_⟩
  refine List.forall_mem_cons.mpr ⟨(s_iald (am_dp pw_X8_goTogether_32 dd_X8_goTogether_32a.2.2.2.2.2.2.1)).to, ?_⟩
  refine List.forall_mem_cons.mpr ⟨(s_iloadn (am_dp pw_X8_goTogether_32 dd_X8_goTogether_32a.2.2.2.2.2.2.2) rfl).to, ?_⟩
  refine List.forall_mem_cons.mpr ⟨zw_cv104 (am_dp pw_X8_goTogether_32 dd_X8_goTogether_32b.1) wd987, ?_⟩
  refine List.forall_mem_cons.mpr ⟨s_zret (am_dp pw_X8_goTogether_32 dd_X8_goTogether_32b.2) rfl, ?_⟩
  exact fun _ h => absurd h List.not_mem_nil
theorem sn_tX8_layBooks : ∀ q ∈ tX8_layBooks, am_Snd am_P0 RX8 cX8_layBooks 3 (Option.some FieldType.boolean) "layBooks" q.1 q.2 := by
  unfold tX8_layBooks
  refine List.forall_mem_cons.mpr ⟨(s_aloadn (am_dp pw_X8_layBooks_0 dd_X8_layBooks_0a.1) rfl).to, ?_⟩
  refine List.forall_mem_cons.mpr ⟨(s_get (ci := 8) (k := 3) (am_dp pw_X8_layBooks_0 dd_X8_layBooks_0a.2.1) rfl (by decide) wd523 inX8 rfl).to, ?_⟩
  refine List.forall_mem_cons.mpr ⟨zw_cv6 (am_dp pw_X8_layBooks_0 dd_X8_layBooks_0a.2.2.1) wd941, ?_⟩
  refine List.forall_mem_cons.mpr ⟨(s_iconst (am_dp pw_X8_layBooks_0 dd_X8_layBooks_0a.2.2.2.1) (by decide)).to, ?_⟩
  refine List.forall_mem_cons.mpr ⟨(s_istoren (am_dp pw_X8_layBooks_0 dd_X8_layBooks_0a.2.2.2.2.1) rfl (by decide)).to, ?_⟩
  refine List.forall_mem_cons.mpr ⟨(s_iloadn (am_dp pw_X8_layBooks_0 dd_X8_layBooks_0a.2.2.2.2.2.1) rfl).to, ?_⟩
  refine List.forall_mem_cons.mpr ⟨(s_aloadn (am_dp pw_X8_layBooks_0 dd_X8_layBooks_0a.2.2.2.2.2.2.1) rfl).to, ?_⟩
  refine List.forall_mem_cons.mpr ⟨(s_get (ci := 8) (k := 0) (am_dp pw_X8_layBooks_0 dd_X8_layBooks_0a.2.2.2.2.2.2.2) rfl (by decide) wd518 inX8 rfl).to, ?_⟩
  refine List.forall_mem_cons.mpr ⟨(s_get (ci := 6) (k := 9) (am_dp pw_X8_layBooks_0 dd_X8_layBooks_0b.1) rfl (by decide) wd267 inX6 rfl).to, ?_⟩
  refine List.forall_mem_cons.mpr ⟨(s_icmp_ge (am_dp pw_X8_layBooks_0 dd_X8_layBooks_0b.2.1) (by decide)).to, ?_⟩
  refine List.forall_mem_cons.mpr ⟨(s_aloadn (am_dp pw_X8_layBooks_0 dd_X8_layBooks_0b.2.2.1) rfl).to, ?_⟩
  refine List.forall_mem_cons.mpr ⟨(s_get (ci := 8) (k := 0) (am_dp pw_X8_layBooks_0 dd_X8_layBooks_0b.2.2.2.1) rfl (by decide) wd518 inX8 rfl).to, ?_⟩
  refine List.forall_mem_cons.mpr ⟨(s_get (ci := 6) (k := 11) (am_dp pw_X8_layBooks_0 dd_X8_layBooks_0b.2.2.2.2.1) rfl (by decide) wd273 inX6 rfl).to, ?_⟩
  refine List.forall_mem_cons.mpr ⟨(s_iloadn (am_dp pw_X8_layBooks_0 dd_X8_layBooks_0b.2.2.2.2.2.1) rfl).to, ?_⟩
  refine List.forall_mem_cons.mpr ⟨(s_iald (am_dp pw_X8_layBooks_0 dd_X8_layBooks_0b.2.2.2.2.2.2.1)).to, ?_⟩
  refine List.forall_mem_cons.mpr ⟨(s_istoren (am_dp pw_X8_layBooks_0 dd_X8_layBooks_0b.2.2.2.2.2.2.2) rfl (by decide)).to, ?_⟩
  refine List.forall_mem_cons.mpr ⟨(s_iloadn (am_dp pw_X8_layBooks_0 dd_X8_layBooks_0c.1) rfl).to, ?_⟩
  refine List.forall_mem_cons.mpr ⟨(s_aloadn (am_dp pw_X8_layBooks_0 dd_X8_layBooks_0c.2) rfl).to, ?_⟩
  refine List.forall_mem_cons.mpr ⟨(s_get (ci := 8) (k := 0) (am_dp pw_X8_layBooks_32 dd_X8_layBooks_32a.1) rfl (by decide) wd518 inX8 rfl).to, ?_⟩
  refine List.forall_mem_cons.mpr ⟨(s_get (ci := 6) (k := 12) (am_dp pw_X8_layBooks_32 dd_X8_layBooks_32a.2.1) rfl (by decide) wd275 inX6 rfl).to, ?_⟩
  refine List.forall_mem_cons.mpr ⟨(s_iloadn (am_dp pw_X8_layBooks_32 dd_X8_layBooks_32a.2.2.1) rfl).to, ?_⟩
  refine List.forall_mem_cons.mpr ⟨(s_iald (am_dp pw_X8_layBooks_32 dd_X8_layBooks_32a.2.2.2.1)).to, ?_⟩
  refine List.forall_mem_cons.mpr ⟨(s_icmp_gt (am_dp pw_X8_layBooks_32 dd_X8_layBooks_32a.2.2.2.2.1) (by decide)).to, ?_⟩
  refine List.forall_mem_cons.mpr ⟨(s_aloadn (am_dp pw_X8_layBooks_32 dd_X8_layBooks_32a.2.2.2.2.2.1) rfl).to, ?_⟩
  refine List.forall_mem_cons.mpr ⟨(s_get (ci := 8) (k := 3) (am_dp pw_X8_layBooks_32 dd_X8_layBooks_32a.2.2.2.2.2.2.1) rfl (by decide) wd523 inX8 rfl).to, ?_⟩
  refine List.forall_mem_cons.mpr ⟨(s_iloadn (am_dp pw_X8_layBooks_32 dd_X8_layBooks_32a.2.2.2.2.2.2.2) rfl).to, ?_⟩
  refine List.forall_mem_cons.mpr ⟨(s_aloadn (am_dp pw_X8_layBooks_32 dd_X8_layBooks_32b.1) rfl).to, ?_⟩
  refine List.forall_mem_cons.mpr ⟨(s_get (ci := 8) (k := 0) (am_dp pw_X8_layBooks_32 dd_X8_layBooks_32b.2.1) rfl (by decide) wd518 inX8 rfl).to, ?_⟩
  refine List.forall_mem_cons.mpr ⟨(s_get (ci := 6) (k := 10) (am_dp pw_X8_layBooks_32 dd_X8_layBooks_32b.2.2.1) rfl (by decide) wd271 inX6 rfl).to, ?_⟩
  refine List.forall_mem_cons.mpr ⟨(s_iloadn (am_dp pw_X8_layBooks_32 dd_X8_layBooks_32b.2.2.2.1) rfl).to, ?_⟩
  refine List.forall_mem_cons.mpr ⟨(s_iald (am_dp pw_X8_layBooks_32 dd_X8_layBooks_32b.2.2.2.2.1)).to, ?_⟩
  refine List.forall_mem_cons.mpr ⟨zw_cv7 (am_dp pw_X8_layBooks_32 dd_X8_layBooks_32b.2.2.2.2.2.1) wd946, ?_⟩
  refine List.forall_mem_cons.mpr ⟨(s_if_ne (am_dp pw_X8_layBooks_32 dd_X8_layBooks_32b.2.2.2.2.2.2.1) (by decide)).to, ?_⟩
  refine List.forall_mem_cons.mpr ⟨(s_iconst (am_dp pw_X8_layBooks_32 dd_X8_layBooks_32b.2.2.2.2.2.2.2) (by decide)).to, ?_⟩
  refine List.forall_mem_cons.mpr ⟨s_zret (am_dp pw_X8_layBooks_64 dd_X8_layBooks_64a.1) rfl, ?_⟩
  refine List.forall_mem_cons.mpr ⟨(s_iinc (am_dp pw_X8_layBooks_64 dd_X8_layBooks_64a.2.1) (by decide) (by decide)).to, ?_⟩
  refine List.forall_mem_cons.mpr ⟨(s_goto (am_dp pw_X8_layBooks_64 dd_X8_layBooks_64a.2.2.1) (by decide)).to, ?_⟩
  refine List.forall_mem_cons.mpr ⟨(s_iinc (am_dp pw_X8_layBooks_64 dd_X8_layBooks_64a.2.2.2.1) (by decide) (by decide)).to, ?_⟩
  refine List.forall_mem_cons.mpr ⟨(s_goto (am_dp pw_X8_layBooks_64 dd_X8_layBooks_64a.2.2.2.2.1) (by decide)).to, ?_⟩
  refine List.forall_mem_cons.mpr ⟨(s_iconst (am_dp pw_X8_layBooks_64 dd_X8_layBooks_64a.2.2.2.2.2.1) (by decide)).to, ?_⟩
  refine List.forall_mem_cons.mpr ⟨s_zret (am_dp pw_X8_layBooks_64 dd_X8_layBooks_64a.2.2.2.2.2.2) rfl, ?_⟩
  exact fun _ h => absurd h List.not_mem_nil
theorem sn_tX8_laySayings : ∀ q ∈ tX8_laySayings, am_Snd am_P0 RX8 cX8_laySayings 5 (Option.some FieldType.boolean) "laySayings" q.1 q.2 := by
  unfold tX8_laySayings
  refine List.forall_mem_cons.mpr ⟨(s_iconst (am_dp pw_X8_laySayings_0 dd_X8_laySayings_0a.1) (by decide)).to, ?_⟩
  refine List.forall_mem_cons.mpr ⟨(s_istoren (am_dp pw_X8_laySayings_0 dd_X8_laySayings_0a.2.1) rfl (by decide)).to, ?_⟩
  refine List.forall_mem_cons.mpr ⟨(s_iloadn (am_dp pw_X8_laySayings_0 dd_X8_laySayings_0a.2.2.1) rfl).to, ?_⟩
  refine List.forall_mem_cons.mpr ⟨(s_aloadn (am_dp pw_X8_laySayings_0 dd_X8_laySayings_0a.2.2.2.1) rfl).to, ?_⟩
  refine List.forall_mem_cons.mpr ⟨(s_get (ci := 6) (k := 5) (am_dp pw_X8_laySayings_0 dd_X8_laySayings_0a.2.2.2.2.1) rfl (by decide) wd254 inX6 rfl).to, ?_⟩
  refine List.forall_mem_cons.mpr ⟨(s_icmp_ge (am_dp pw_X8_laySayings_0 dd_X8_laySayings_0a.2.2.2.2.2.1) (by decide)).to, ?_⟩
  refine List.forall_mem_cons.mpr ⟨(s_aloadn (am_dp pw_X8_laySayings_0 dd_X8_laySayings_0a.2.2.2.2.2.2.1) rfl).to, ?_⟩
  refine List.forall_mem_cons.mpr ⟨(s_get (ci := 6) (k := 6) (am_dp pw_X8_laySayings_0 dd_X8_laySayings_0a.2.2.2.2.2.2.2) rfl (by decide) wd258 inX6 rfl).to, ?_⟩
  refine List.forall_mem_cons.mpr ⟨(s_iloadn (am_dp pw_X8_laySayings_0 dd_X8_laySayings_0b.1) rfl).to, ?_⟩
  refine List.forall_mem_cons.mpr ⟨(s_iald (am_dp pw_X8_laySayings_0 dd_X8_laySayings_0b.2.1)).to, ?_⟩
  refine List.forall_mem_cons.mpr ⟨(s_iloadn (am_dp pw_X8_laySayings_0 dd_X8_laySayings_0b.2.2.1) rfl).to, ?_⟩
  refine List.forall_mem_cons.mpr ⟨(s_iadd (am_dp pw_X8_laySayings_0 dd_X8_laySayings_0b.2.2.2.1)).to, ?_⟩
  refine List.forall_mem_cons.mpr ⟨(s_istore (am_dp pw_X8_laySayings_0 dd_X8_laySayings_0b.2.2.2.2.1) (by decide)).to, ?_⟩
  refine List.forall_mem_cons.mpr ⟨(s_iload (am_dp pw_X8_laySayings_0 dd_X8_laySayings_0b.2.2.2.2.2.1)).to, ?_⟩
  refine List.forall_mem_cons.mpr ⟨z_csn (am_dp pw_X8_laySayings_0 dd_X8_laySayings_0b.2.2.2.2.2.2.1) mt149 wd1132, ?_⟩
  refine List.forall_mem_cons.mpr ⟨(s_if_eq (am_dp pw_X8_laySayings_0 dd_X8_laySayings_0b.2.2.2.2.2.2.2) (by decide)).to, ?_⟩
  refine List.forall_mem_cons.mpr ⟨(s_aloadn (am_dp pw_X8_laySayings_0 dd_X8_laySayings_0c.1) rfl).to, ?_⟩
  refine List.forall_mem_cons.mpr ⟨(s_aloadn (am_dp pw_X8_laySayings_0 dd_X8_laySayings_0c.2.1) rfl).to, ?_⟩
  refine List.forall_mem_cons.mpr ⟨(s_get (ci := 6) (k := 7) (am_dp pw_X8_laySayings_0 dd_X8_laySayings_0c.2.2) rfl (by decide) wd261 inX6 rfl).to, ?_⟩
  refine List.forall_mem_cons.mpr ⟨(s_iloadn (am_dp pw_X8_laySayings_32 dd_X8_laySayings_32a.1) rfl).to, ?_⟩
  refine List.forall_mem_cons.mpr ⟨(s_iald (am_dp pw_X8_laySayings_32 dd_X8_laySayings_32a.2.1)).to, ?_⟩
  refine List.forall_mem_cons.mpr ⟨(s_aloadn (am_dp pw_X8_laySayings_32 dd_X8_laySayings_32a.2.2.1) rfl).to, ?_⟩
  refine List.forall_mem_cons.mpr ⟨(s_get (ci := 6) (k := 8) (am_dp pw_X8_laySayings_32 dd_X8_laySayings_32a.2.2.2.1) rfl (by decide) wd264 inX6 rfl).to, ?_⟩
  refine List.forall_mem_cons.mpr ⟨(s_iloadn (am_dp pw_X8_laySayings_32 dd_X8_laySayings_32a.2.2.2.2.1) rfl).to, ?_⟩
  refine List.forall_mem_cons.mpr ⟨(s_zald (am_dp pw_X8_laySayings_32 dd_X8_laySayings_32a.2.2.2.2.2.1)).to, ?_⟩
  refine List.forall_mem_cons.mpr ⟨zw_cv75 (am_dp pw_X8_laySayings_32 dd_X8_laySayings_32a.2.2.2.2.2.2.1) wd979, ?_⟩
  refine List.forall_mem_cons.mpr ⟨(s_if_eq (am_dp pw_X8_laySayings_32 dd_X8_laySayings_32a.2.2.2.2.2.2.2) (by decide)).to, ?_⟩
  refine List.forall_mem_cons.mpr ⟨(s_aloadn (am_dp pw_X8_laySayings_32 dd_X8_laySayings_32b.1) rfl).to, ?_⟩
  refine List.forall_mem_cons.mpr ⟨(s_get (ci := 8) (k := 3) (am_dp pw_X8_laySayings_32 dd_X8_laySayings_32b.2.1) rfl (by decide) wd523 inX8 rfl).to, ?_⟩
  refine List.forall_mem_cons.mpr ⟨(s_iload (am_dp pw_X8_laySayings_32 dd_X8_laySayings_32b.2.2.1)).to, ?_⟩
  refine List.forall_mem_cons.mpr ⟨(s_aloadn (am_dp pw_X8_laySayings_32 dd_X8_laySayings_32b.2.2.2.1) rfl).to, ?_⟩
  refine List.forall_mem_cons.mpr ⟨(s_get (ci := 6) (k := 7) (am_dp pw_X8_laySayings_32 dd_X8_laySayings_32b.2.2.2.2.1) rfl (by decide) wd261 inX6 rfl).to, ?_⟩
  refine List.forall_mem_cons.mpr ⟨(s_iloadn (am_dp pw_X8_laySayings_32 dd_X8_laySayings_32b.2.2.2.2.2.1) rfl).to, ?_⟩
  refine List.forall_mem_cons.mpr ⟨(s_iald (am_dp pw_X8_laySayings_32 dd_X8_laySayings_32b.2.2.2.2.2.2.1)).to, ?_⟩
  refine List.forall_mem_cons.mpr ⟨zw_cv7 (am_dp pw_X8_laySayings_32 dd_X8_laySayings_32b.2.2.2.2.2.2.2) wd946, ?_⟩
  refine List.forall_mem_cons.mpr ⟨(s_if_ne (am_dp pw_X8_laySayings_32 dd_X8_laySayings_32c) (by decide)).to, ?_⟩
  refine List.forall_mem_cons.mpr ⟨(s_iconst (am_dp pw_X8_laySayings_64 dd_X8_laySayings_64a.1) (by decide)).to, ?_⟩
  refine List.forall_mem_cons.mpr ⟨s_zret (am_dp pw_X8_laySayings_64 dd_X8_laySayings_64a.2.1) rfl, ?_⟩
  refine List.forall_mem_cons.mpr ⟨(s_iinc (am_dp pw_X8_laySayings_64 dd_X8_laySayings_64a.2.2.1) (by decide) (by decide)).to, ?_⟩
  refine List.forall_mem_cons.mpr ⟨(s_goto (am_dp pw_X8_laySayings_64 dd_X8_laySayings_64a.2.2.2.1) (by decide)).to, ?_⟩
  refine List.forall_mem_cons.mpr ⟨(s_iconst (am_dp pw_X8_laySayings_64 dd_X8_laySayings_64a.2.2.2.2.1) (by decide)).to, ?_⟩
  refine List.forall_mem_cons.mpr ⟨s_zret (am_dp pw_X8_laySayings_64 dd_X8_laySayings_64a.2.2.2.2.2) rfl, ?_⟩
  exact fun _ h => absurd h List.not_mem_nil
theorem sn_tX8_fits : ∀ q ∈ tX8_fits, am_Snd am_P0 RX8 cX8_fits 4 (Option.some FieldType.boolean) "fits" q.1 q.2 := by
  unfold tX8_fits
  refine List.forall_mem_cons.mpr ⟨(s_aloadn (am_dp pw_X8_fits_0 dd_X8_fits_0a.1) rfl).to, ?_⟩
  refine List.forall_mem_cons.mpr ⟨zw_cv77 (am_dp pw_X8_fits_0 dd_X8_fits_0a.2.1) wd937, ?_⟩
  refine List.forall_mem_cons.mpr ⟨(s_if_eq (am_dp pw_X8_fits_0 dd_X8_fits_0a.2.2.1) (by decide)).to, ?_⟩
  refine List.forall_mem_cons.mpr ⟨(s_iloadn (am_dp pw_X8_fits_0 dd_X8_fits_0a.2.2.2.1) rfl).to, ?_⟩
  refine List.forall_mem_cons.mpr ⟨(s_if_eq (am_dp pw_X8_fits_0 dd_X8_fits_0a.2.2.2.2.1) (by decide)).to, ?_⟩
  refine List.forall_mem_cons.mpr ⟨(s_aloadn (am_dp pw_X8_fits_0 dd_X8_fits_0a.2.2.2.2.2.1) rfl).to, ?_⟩
  refine List.forall_mem_cons.mpr ⟨(s_aloadn (am_dp pw_X8_fits_0 dd_X8_fits_0a.2.2.2.2.2.2.1) rfl).to, ?_⟩
  refine List.forall_mem_cons.mpr ⟨(s_get (ci := 8) (k := 0) (am_dp pw_X8_fits_0 dd_X8_fits_0a.2.2.2.2.2.2.2) rfl (by decide) wd518 inX8 rfl).to, ?_⟩
  refine List.forall_mem_cons.mpr ⟨(s_iconst (am_dp pw_X8_fits_0 dd_X8_fits_0b.1) (by decide)).to, ?_⟩
  refine List.forall_mem_cons.mpr ⟨zw_cv78 (am_dp pw_X8_fits_0 dd_X8_fits_0b.2.1) wd1128, ?_⟩
  refine List.forall_mem_cons.mpr ⟨(s_if_eq (am_dp pw_X8_fits_0 dd_X8_fits_0b.2.2.1) (by decide)).to, ?_⟩
  refine List.forall_mem_cons.mpr ⟨(s_aloadn (am_dp pw_X8_fits_0 dd_X8_fits_0b.2.2.2.1) rfl).to, ?_⟩
  refine List.forall_mem_cons.mpr ⟨(s_aloadn (am_dp pw_X8_fits_0 dd_X8_fits_0b.2.2.2.2.1) rfl).to, ?_⟩
  refine List.forall_mem_cons.mpr ⟨(s_iloadn (am_dp pw_X8_fits_0 dd_X8_fits_0b.2.2.2.2.2.1) rfl).to, ?_⟩
  refine List.forall_mem_cons.mpr ⟨zw_cv78 (am_dp pw_X8_fits_0 dd_X8_fits_0b.2.2.2.2.2.2.1) wd1128, ?_⟩
  refine List.forall_mem_cons.mpr ⟨(s_if_eq (am_dp pw_X8_fits_0 dd_X8_fits_0b.2.2.2.2.2.2.2) (by decide)).to, ?_⟩
  refine List.forall_mem_cons.mpr ⟨(s_aloadn (am_dp pw_X8_fits_32 dd_X8_fits_32a.1) rfl).to, ?_⟩
  refine List.forall_mem_cons.mpr ⟨(s_get (ci := 8) (k := 3) (am_dp pw_X8_fits_32 dd_X8_fits_32a.2.1) rfl (by decide) wd523 inX8 rfl).to, ?_⟩
  refine List.forall_mem_cons.mpr ⟨(s_aloadn (am_dp pw_X8_fits_32 dd_X8_fits_32a.2.2.1) rfl).to, ?_⟩
  refine List.forall_mem_cons.mpr ⟨(s_get (ci := 8) (k := 2) (am_dp pw_X8_fits_32 dd_X8_fits_32a.2.2.2.1) rfl (by decide) wd521 inX8 rfl).to, ?_⟩
  refine List.forall_mem_cons.mpr ⟨zw_cv8 (am_dp pw_X8_fits_32 dd_X8_fits_32a.2.2.2.2.1) wd950, ?_⟩
  refine List.forall_mem_cons.mpr ⟨(s_if_eq (am_dp pw_X8_fits_32 dd_X8_fits_32a.2.2.2.2.2.1) (by decide)).to, ?_⟩
  refine List.forall_mem_cons.mpr ⟨(s_iconst (am_dp pw_X8_fits_32 dd_X8_fits_32a.2.2.2.2.2.2.1) (by decide)).to, ?_⟩
  refine List.forall_mem_cons.mpr ⟨(s_goto (am_dp pw_X8_fits_32 dd_X8_fits_32a.2.2.2.2.2.2.2) (by decide)).to, ?_⟩
  refine List.forall_mem_cons.mpr ⟨(s_iconst (am_dp pw_X8_fits_32 dd_X8_fits_32b.1) (by decide)).to, ?_⟩
  refine List.forall_mem_cons.mpr ⟨s_zret (am_dp pw_X8_fits_32 dd_X8_fits_32b.2) rfl, ?_⟩
  exact fun _ h => absurd h List.not_mem_nil
theorem sn_tX8_firstBar : ∀ q ∈ tX8_firstBar, am_Snd am_P0 RX8 cX8_firstBar 3 (Option.some FieldType.int) "firstBar" q.1 q.2 := by
  unfold tX8_firstBar
  refine List.forall_mem_cons.mpr ⟨(s_aloadn (am_dp pw_X8_firstBar_0 dd_X8_firstBar_0a.1) rfl).to, ?_⟩
  refine List.forall_mem_cons.mpr ⟨zw_cv77 (am_dp pw_X8_firstBar_0 dd_X8_firstBar_0a.2.1) wd937, ?_⟩
  refine List.forall_mem_cons.mpr ⟨(s_istoren (am_dp pw_X8_firstBar_0 dd_X8_firstBar_0a.2.2.1) rfl (by decide)).to, ?_⟩
  refine List.forall_mem_cons.mpr ⟨(s_iconst (am_dp pw_X8_firstBar_0 dd_X8_firstBar_0a.2.2.2.1) (by decide)).to, ?_⟩
  refine List.forall_mem_cons.mpr ⟨(s_istoren (am_dp pw_X8_firstBar_0 dd_X8_firstBar_0a.2.2.2.2.1) rfl (by decide)).to, ?_⟩
  refine List.forall_mem_cons.mpr ⟨(s_iloadn (am_dp pw_X8_firstBar_0 dd_X8_firstBar_0a.2.2.2.2.2.1) rfl).to, ?_⟩
  refine List.forall_mem_cons.mpr ⟨(s_aloadn (am_dp pw_X8_firstBar_0 dd_X8_firstBar_0a.2.2.2.2.2.2.1) rfl).to, ?_⟩
  refine List.forall_mem_cons.mpr ⟨(s_get (ci := 8) (k := 0) (am_dp pw_X8_firstBar_0 dd_X8_firstBar_0a.2.2.2.2.2.2.2) rfl (by decide) wd518 inX8 rfl).to, ?_⟩
  refine List.forall_mem_cons.mpr ⟨(s_get (ci := 6) (k := 5) (am_dp pw_X8_firstBar_0 dd_X8_firstBar_0b.1) rfl (by decide) wd254 inX6 rfl).to, ?_⟩
  refine List.forall_mem_cons.mpr ⟨(s_icmp_ge (am_dp pw_X8_firstBar_0 dd_X8_firstBar_0b.2.1) (by decide)).to, ?_⟩
  refine List.forall_mem_cons.mpr ⟨(s_iloadn (am_dp pw_X8_firstBar_0 dd_X8_firstBar_0b.2.2.1) rfl).to, ?_⟩
  refine List.forall_mem_cons.mpr ⟨(s_if_eq (am_dp pw_X8_firstBar_0 dd_X8_firstBar_0b.2.2.2.1) (by decide)).to, ?_⟩
  refine List.forall_mem_cons.mpr ⟨(s_aloadn (am_dp pw_X8_firstBar_0 dd_X8_firstBar_0b.2.2.2.2.1) rfl).to, ?_⟩
  refine List.forall_mem_cons.mpr ⟨(s_aloadn (am_dp pw_X8_firstBar_0 dd_X8_firstBar_0b.2.2.2.2.2.1) rfl).to, ?_⟩
  refine List.forall_mem_cons.mpr ⟨(s_get (ci := 8) (k := 0) (am_dp pw_X8_firstBar_0 dd_X8_firstBar_0b.2.2.2.2.2.2.1) rfl (by decide) wd518 inX8 rfl).to, ?_⟩
  refine List.forall_mem_cons.mpr ⟨(s_get (ci := 6) (k := 7) (am_dp pw_X8_firstBar_0 dd_X8_firstBar_0b.2.2.2.2.2.2.2) rfl (by decide) wd261 inX6 rfl).to, ?_⟩
  refine List.forall_mem_cons.mpr ⟨(s_iloadn (am_dp pw_X8_firstBar_0 dd_X8_firstBar_0c.1) rfl).to, ?_⟩
  refine List.forall_mem_cons.mpr ⟨(s_iald (am_dp pw_X8_firstBar_0 dd_X8_firstBar_0c.2)).to, ?_⟩
  refine List.forall_mem_cons.mpr ⟨(s_aloadn (am_dp pw_X8_firstBar_32 dd_X8_firstBar_32a.1) rfl).to, ?_⟩
  refine List.forall_mem_cons.mpr ⟨(s_get (ci := 8) (k := 0) (am_dp pw_X8_firstBar_32 dd_X8_firstBar_32a.2.1) rfl (by decide) wd518 inX8 rfl).to, ?_⟩
  refine List.forall_mem_cons.mpr ⟨(s_get (ci := 6) (k := 8) (am_dp pw_X8_firstBar_32 dd_X8_firstBar_32a.2.2.1) rfl (by decide) wd264 inX6 rfl).to, ?_⟩
  refine List.forall_mem_cons.mpr ⟨(s_iloadn (am_dp pw_X8_firstBar_32 dd_X8_firstBar_32a.2.2.2.1) rfl).to, ?_⟩
  refine List.forall_mem_cons.mpr ⟨(s_zald (am_dp pw_X8_firstBar_32 dd_X8_firstBar_32a.2.2.2.2.1)).to, ?_⟩
  refine List.forall_mem_cons.mpr ⟨zw_cv75 (am_dp pw_X8_firstBar_32 dd_X8_firstBar_32a.2.2.2.2.2.1) wd979, ?_⟩
  refine List.forall_mem_cons.mpr ⟨(s_if_eq (am_dp pw_X8_firstBar_32 dd_X8_firstBar_32a.2.2.2.2.2.2.1) (by decide)).to, ?_⟩
  refine List.forall_mem_cons.mpr ⟨(s_aloadn (am_dp pw_X8_firstBar_32 dd_X8_firstBar_32a.2.2.2.2.2.2.2) rfl).to, ?_⟩
  refine List.forall_mem_cons.mpr ⟨(s_get (ci := 8) (k := 3) (am_dp pw_X8_firstBar_32 dd_X8_firstBar_32b.1) rfl (by decide) wd523 inX8 rfl).to, ?_⟩
  refine List.forall_mem_cons.mpr ⟨(s_aloadn (am_dp pw_X8_firstBar_32 dd_X8_firstBar_32b.2.1) rfl).to, ?_⟩
  refine List.forall_mem_cons.mpr ⟨(s_get (ci := 8) (k := 0) (am_dp pw_X8_firstBar_32 dd_X8_firstBar_32b.2.2.1) rfl (by decide) wd518 inX8 rfl).to, ?_⟩
  refine List.forall_mem_cons.mpr ⟨(s_get (ci := 6) (k := 6) (am_dp pw_X8_firstBar_32 dd_X8_firstBar_32b.2.2.2.1) rfl (by decide) wd258 inX6 rfl).to, ?_⟩
  refine List.forall_mem_cons.mpr ⟨(s_iloadn (am_dp pw_X8_firstBar_32 dd_X8_firstBar_32b.2.2.2.2.1) rfl).to, ?_⟩
  refine List.forall_mem_cons.mpr ⟨(s_iald (am_dp pw_X8_firstBar_32 dd_X8_firstBar_32b.2.2.2.2.2.1)).to, ?_⟩
  refine List.forall_mem_cons.mpr ⟨(s_aloadn (am_dp pw_X8_firstBar_32 dd_X8_firstBar_32b.2.2.2.2.2.2.1) rfl).to, ?_⟩
  refine List.forall_mem_cons.mpr ⟨(s_get (ci := 8) (k := 0) (am_dp pw_X8_firstBar_32 dd_X8_firstBar_32b.2.2.2.2.2.2.2) rfl (by decide) wd518 inX8 rfl).to, ?_⟩
  refine List.forall_mem_cons.mpr ⟨(s_get (ci := 6) (k := 7) (am_dp pw_X8_firstBar_64 dd_X8_firstBar_64a.1) rfl (by decide) wd261 inX6 rfl).to, ?_⟩
  refine List.forall_mem_cons.mpr ⟨(s_iloadn (am_dp pw_X8_firstBar_64 dd_X8_firstBar_64a.2.1) rfl).to, ?_⟩
  refine List.forall_mem_cons.mpr ⟨(s_iald (am_dp pw_X8_firstBar_64 dd_X8_firstBar_64a.2.2.1)).to, ?_⟩
  refine List.forall_mem_cons.mpr ⟨zw_cv7 (am_dp pw_X8_firstBar_64 dd_X8_firstBar_64a.2.2.2.1) wd946, ?_⟩
  refine List.forall_mem_cons.mpr ⟨(s_if_eq (am_dp pw_X8_firstBar_64 dd_X8_firstBar_64a.2.2.2.2.1) (by decide)).to, ?_⟩
  refine List.forall_mem_cons.mpr ⟨(s_aloadn (am_dp pw_X8_firstBar_64 dd_X8_firstBar_64a.2.2.2.2.2.1) rfl).to, ?_⟩
  refine List.forall_mem_cons.mpr ⟨(s_get (ci := 8) (k := 3) (am_dp pw_X8_firstBar_64 dd_X8_firstBar_64a.2.2.2.2.2.2.1) rfl (by decide) wd523 inX8 rfl).to, ?_⟩
  refine List.forall_mem_cons.mpr ⟨(s_aloadn (am_dp pw_X8_firstBar_64 dd_X8_firstBar_64a.2.2.2.2.2.2.2) rfl).to, ?_⟩
  refine List.forall_mem_cons.mpr ⟨(s_get (ci := 8) (k := 2) (am_dp pw_X8_firstBar_64 dd_X8_firstBar_64b.1) rfl (by decide) wd521 inX8 rfl).to, ?_⟩
  refine List.forall_mem_cons.mpr ⟨zw_cv8 (am_dp pw_X8_firstBar_64 dd_X8_firstBar_64b.2.1) wd950, ?_⟩
  refine List.forall_mem_cons.mpr ⟨(s_if_ne (am_dp pw_X8_firstBar_64 dd_X8_firstBar_64b.2.2.1) (by decide)).to, ?_⟩
  refine List.forall_mem_cons.mpr ⟨(s_iloadn (am_dp pw_X8_firstBar_64 dd_X8_firstBar_64b.2.2.2.1) rfl).to, ?_⟩
  refine List.forall_mem_cons.mpr ⟨s_iret (am_dp pw_X8_firstBar_64 dd_X8_firstBar_64b.2.2.2.2.1) rfl, ?_⟩
  refine List.forall_mem_cons.mpr ⟨(s_iinc (am_dp pw_X8_firstBar_64 dd_X8_firstBar_64b.2.2.2.2.2.1) (by decide) (by decide)).to, ?_⟩
  refine List.forall_mem_cons.mpr ⟨(s_goto (am_dp pw_X8_firstBar_64 dd_X8_firstBar_64b.2.2.2.2.2.2) (by decide)).to, ?_⟩
  refine List.forall_mem_cons.mpr ⟨(s_iconst (am_dp pw_X8_firstBar_96 dd_X8_firstBar_96a.1) (by decide)).to, ?_⟩
  refine List.forall_mem_cons.mpr ⟨s_iret (am_dp pw_X8_firstBar_96 dd_X8_firstBar_96a.2) rfl, ?_⟩
  exact fun _ h => absurd h List.not_mem_nil
theorem sn_tX8_findClock : ∀ q ∈ tX8_findClock, am_Snd am_P0 RX8 cX8_findClock 2 (Option.some FieldType.int) "findClock" q.1 q.2 := by
  unfold tX8_findClock
  refine List.forall_mem_cons.mpr ⟨(s_iconst (am_dp pw_X8_findClock_0 dd_X8_findClock_0a.1) (by decide)).to, ?_⟩
  refine List.forall_mem_cons.mpr ⟨(s_istoren (am_dp pw_X8_findClock_0 dd_X8_findClock_0a.2.1) rfl (by decide)).to, ?_⟩
  refine List.forall_mem_cons.mpr ⟨(s_iloadn (am_dp pw_X8_findClock_0 dd_X8_findClock_0a.2.2.1) rfl).to, ?_⟩
  refine List.forall_mem_cons.mpr ⟨(s_bipush (am_dp pw_X8_findClock_0 dd_X8_findClock_0a.2.2.2.1) (by decide)).to, ?_⟩
  refine List.forall_mem_cons.mpr ⟨(s_icmp_gt (am_dp pw_X8_findClock_0 dd_X8_findClock_0a.2.2.2.2.1) (by decide)).to, ?_⟩
  refine List.forall_mem_cons.mpr ⟨(s_aloadn (am_dp pw_X8_findClock_0 dd_X8_findClock_0a.2.2.2.2.2.1) rfl).to, ?_⟩
  refine List.forall_mem_cons.mpr ⟨(s_iloadn (am_dp pw_X8_findClock_0 dd_X8_findClock_0a.2.2.2.2.2.2.1) rfl).to, ?_⟩
  refine List.forall_mem_cons.mpr ⟨(s_ineg (am_dp pw_X8_findClock_0 dd_X8_findClock_0a.2.2.2.2.2.2.2)).to, ?_⟩
  refine List.forall_mem_cons.mpr ⟨zw_cv82 (am_dp pw_X8_findClock_0 dd_X8_findClock_0b.1) wd1259, ?_⟩
  refine List.forall_mem_cons.mpr ⟨(s_if_eq (am_dp pw_X8_findClock_0 dd_X8_findClock_0b.2.1) (by decide)).to, ?_⟩
  refine List.forall_mem_cons.mpr ⟨(s_iloadn (am_dp pw_X8_findClock_0 dd_X8_findClock_0b.2.2.1) rfl).to, ?_⟩
  refine List.forall_mem_cons.mpr ⟨(s_ineg (am_dp pw_X8_findClock_0 dd_X8_findClock_0b.2.2.2.1)).to, ?_⟩
  refine List.forall_mem_cons.mpr ⟨s_iret (am_dp pw_X8_findClock_0 dd_X8_findClock_0b.2.2.2.2.1) rfl, ?_⟩
  refine List.forall_mem_cons.mpr ⟨(s_aloadn (am_dp pw_X8_findClock_0 dd_X8_findClock_0b.2.2.2.2.2.1) rfl).to, ?_⟩
  refine List.forall_mem_cons.mpr ⟨(s_iloadn (am_dp pw_X8_findClock_0 dd_X8_findClock_0b.2.2.2.2.2.2.1) rfl).to, ?_⟩
  refine List.forall_mem_cons.mpr ⟨zw_cv82 (am_dp pw_X8_findClock_0 dd_X8_findClock_0b.2.2.2.2.2.2.2) wd1259, ?_⟩
  refine List.forall_mem_cons.mpr ⟨(s_if_eq (am_dp pw_X8_findClock_0 dd_X8_findClock_0c.1) (by decide)).to, ?_⟩
  refine List.forall_mem_cons.mpr ⟨(s_iloadn (am_dp pw_X8_findClock_0 dd_X8_findClock_0c.2.1) rfl).to, ?_⟩
  refine List.forall_mem_cons.mpr ⟨s_iret (am_dp pw_X8_findClock_0 dd_X8_findClock_0c.2.2.1) rfl, ?_⟩
  refine List.forall_mem_cons.mpr ⟨(s_iinc (am_dp pw_X8_findClock_0 dd_X8_findClock_0c.2.2.2) (by decide) (by decide)).to, ?_⟩
  refine List.forall_mem_cons.mpr ⟨(s_goto (am_dp pw_X8_findClock_32 dd_X8_findClock_32a.1) (by decide)).to, ?_⟩
  refine List.forall_mem_cons.mpr ⟨(s_bipush (am_dp pw_X8_findClock_32 dd_X8_findClock_32a.2.1) (by decide)).to, ?_⟩
  refine List.forall_mem_cons.mpr ⟨s_iret (am_dp pw_X8_findClock_32 dd_X8_findClock_32a.2.2) rfl, ?_⟩
  exact fun _ h => absurd h List.not_mem_nil
theorem sn_tX8_staysWith : ∀ q ∈ tX8_staysWith, am_Snd am_P0 RX8 cX8_staysWith 3 (Option.some FieldType.boolean) "staysWith" q.1 q.2 := by
  unfold tX8_staysWith
  refine List.forall_mem_cons.mpr ⟨(s_aloadn (am_dp pw_X8_staysWith_0 dd_X8_staysWith_0a.1) rfl).to, ?_⟩
  refine List.forall_mem_cons.mpr ⟨(s_get (ci := 8) (k := 0) (am_dp pw_X8_staysWith_0 dd_X8_staysWith_0a.2.1) rfl (by decide) wd518 inX8 rfl).to, ?_⟩
  refine List.forall_mem_cons.mpr ⟨(s_get (ci := 6) (k := 5) (am_dp pw_X8_staysWith_0 dd_X8_staysWith_0a.2.2.1) rfl (by decide) wd254 inX6 rfl).to, ?_⟩
  refine List.forall_mem_cons.mpr ⟨(s_if_le (am_dp pw_X8_staysWith_0 dd_X8_staysWith_0a.2.2.2.1) (by decide)).to, ?_⟩
  refine List.forall_mem_cons.mpr ⟨(s_aloadn (am_dp pw_X8_staysWith_0 dd_X8_staysWith_0a.2.2.2.2.1) rfl).to, ?_⟩
  refine List.forall_mem_cons.mpr ⟨(s_get (ci := 8) (k := 0) (am_dp pw_X8_staysWith_0 dd_X8_staysWith_0a.2.2.2.2.2.1) rfl (by decide) wd518 inX8 rfl).to, ?_⟩
  refine List.forall_mem_cons.mpr ⟨(s_get (ci := 6) (k := 6) (am_dp pw_X8_staysWith_0 dd_X8_staysWith_0a.2.2.2.2.2.2.1) rfl (by decide) wd258 inX6 rfl).to, ?_⟩
  refine List.forall_mem_cons.mpr ⟨(s_aloadn (am_dp pw_X8_staysWith_0 dd_X8_staysWith_0a.2.2.2.2.2.2.2) rfl).to, ?_⟩
  refine List.forall_mem_cons.mpr ⟨(s_get (ci := 8) (k := 0) (am_dp pw_X8_staysWith_0 dd_X8_staysWith_0b.1) rfl (by decide) wd518 inX8 rfl).to, ?_⟩
  refine List.forall_mem_cons.mpr ⟨(s_get (ci := 6) (k := 5) (am_dp pw_X8_staysWith_0 dd_X8_staysWith_0b.2.1) rfl (by decide) wd254 inX6 rfl).to, ?_⟩
  refine List.forall_mem_cons.mpr ⟨(s_iconst (am_dp pw_X8_staysWith_0 dd_X8_staysWith_0b.2.2.1) (by decide)).to, ?_⟩
  refine List.forall_mem_cons.mpr ⟨(s_isub (am_dp pw_X8_staysWith_0 dd_X8_staysWith_0b.2.2.2.1)).to, ?_⟩
  refine List.forall_mem_cons.mpr ⟨(s_iald (am_dp pw_X8_staysWith_0 dd_X8_staysWith_0b.2.2.2.2.1)).to, ?_⟩
  refine List.forall_mem_cons.mpr ⟨(s_iloadn (am_dp pw_X8_staysWith_0 dd_X8_staysWith_0b.2.2.2.2.2.1) rfl).to, ?_⟩
  refine List.forall_mem_cons.mpr ⟨(s_iadd (am_dp pw_X8_staysWith_0 dd_X8_staysWith_0b.2.2.2.2.2.2.1)).to, ?_⟩
  refine List.forall_mem_cons.mpr ⟨(s_if_lt (am_dp pw_X8_staysWith_0 dd_X8_staysWith_0b.2.2.2.2.2.2.2) (by decide)).to, ?_⟩
  refine List.forall_mem_cons.mpr ⟨(s_aloadn (am_dp pw_X8_staysWith_32 dd_X8_staysWith_32a.1) rfl).to, ?_⟩
  refine List.forall_mem_cons.mpr ⟨(s_get (ci := 8) (k := 0) (am_dp pw_X8_staysWith_32 dd_X8_staysWith_32a.2.1) rfl (by decide) wd518 inX8 rfl).to, ?_⟩
  refine List.forall_mem_cons.mpr ⟨(s_get (ci := 6) (k := 6) (am_dp pw_X8_staysWith_32 dd_X8_staysWith_32a.2.2.1) rfl (by decide) wd258 inX6 rfl).to, ?_⟩
  refine List.forall_mem_cons.mpr ⟨(s_iconst (am_dp pw_X8_staysWith_32 dd_X8_staysWith_32a.2.2.2.1) (by decide)).to, ?_⟩
  refine List.forall_mem_cons.mpr ⟨(s_iald (am_dp pw_X8_staysWith_32 dd_X8_staysWith_32a.2.2.2.2.1)).to, ?_⟩
  refine List.forall_mem_cons.mpr ⟨(s_iloadn (am_dp pw_X8_staysWith_32 dd_X8_staysWith_32a.2.2.2.2.2.1) rfl).to, ?_⟩
  refine List.forall_mem_cons.mpr ⟨(s_iadd (am_dp pw_X8_staysWith_32 dd_X8_staysWith_32a.2.2.2.2.2.2.1)).to, ?_⟩
  refine List.forall_mem_cons.mpr ⟨(s_bipush (am_dp pw_X8_staysWith_32 dd_X8_staysWith_32a.2.2.2.2.2.2.2) (by decide)).to, ?_⟩
  refine List.forall_mem_cons.mpr ⟨(s_icmp_ge (am_dp pw_X8_staysWith_32 dd_X8_staysWith_32b.1) (by decide)).to, ?_⟩
  refine List.forall_mem_cons.mpr ⟨(s_iconst (am_dp pw_X8_staysWith_32 dd_X8_staysWith_32b.2.1) (by decide)).to, ?_⟩
  refine List.forall_mem_cons.mpr ⟨(s_goto (am_dp pw_X8_staysWith_32 dd_X8_staysWith_32b.2.2.1) (by decide)).to, ?_⟩
  refine List.forall_mem_cons.mpr ⟨(s_iconst (am_dp pw_X8_staysWith_32 dd_X8_staysWith_32b.2.2.2.1) (by decide)).to, ?_⟩
  refine List.forall_mem_cons.mpr ⟨(s_istoren (am_dp pw_X8_staysWith_32 dd_X8_staysWith_32b.2.2.2.2.1) rfl (by decide)).to, ?_⟩
  refine List.forall_mem_cons.mpr ⟨(s_iloadn (am_dp pw_X8_staysWith_32 dd_X8_staysWith_32b.2.2.2.2.2.1) rfl).to, ?_⟩
  refine List.forall_mem_cons.mpr ⟨(s_if_eq (am_dp pw_X8_staysWith_32 dd_X8_staysWith_32b.2.2.2.2.2.2.1) (by decide)).to, ?_⟩
  refine List.forall_mem_cons.mpr ⟨(s_aloadn (am_dp pw_X8_staysWith_32 dd_X8_staysWith_32b.2.2.2.2.2.2.2) rfl).to, ?_⟩
  refine List.forall_mem_cons.mpr ⟨(s_aloadn (am_dp pw_X8_staysWith_32 dd_X8_staysWith_32c.1) rfl).to, ?_⟩
  refine List.forall_mem_cons.mpr ⟨(s_get (ci := 8) (k := 0) (am_dp pw_X8_staysWith_32 dd_X8_staysWith_32c.2.1) rfl (by decide) wd518 inX8 rfl).to, ?_⟩
  refine List.forall_mem_cons.mpr ⟨(s_iloadn (am_dp pw_X8_staysWith_32 dd_X8_staysWith_32c.2.2) rfl).to, ?_⟩
  refine List.forall_mem_cons.mpr ⟨(s_iconst (am_dp pw_X8_staysWith_64 dd_X8_staysWith_64a.1) (by decide)).to, ?_⟩
  refine List.forall_mem_cons.mpr ⟨zw_cv79 (am_dp pw_X8_staysWith_64 dd_X8_staysWith_64a.2.1) wd1263, ?_⟩
  refine List.forall_mem_cons.mpr ⟨(s_if_eq (am_dp pw_X8_staysWith_64 dd_X8_staysWith_64a.2.2.1) (by decide)).to, ?_⟩
  refine List.forall_mem_cons.mpr ⟨(s_iconst (am_dp pw_X8_staysWith_64 dd_X8_staysWith_64a.2.2.2.1) (by decide)).to, ?_⟩
  refine List.forall_mem_cons.mpr ⟨(s_goto (am_dp pw_X8_staysWith_64 dd_X8_staysWith_64a.2.2.2.2.1) (by decide)).to, ?_⟩
  refine List.forall_mem_cons.mpr ⟨(s_iconst (am_dp pw_X8_staysWith_64 dd_X8_staysWith_64a.2.2.2.2.2.1) (by decide)).to, ?_⟩
  refine List.forall_mem_cons.mpr ⟨s_zret (am_dp pw_X8_staysWith_64 dd_X8_staysWith_64a.2.2.2.2.2.2) rfl, ?_⟩
  exact fun _ h => absurd h List.not_mem_nil
theorem sn_tX8_settle : ∀ q ∈ tX8_settle, am_Snd am_P0 RX8 cX8_settle 1 (Option.none : Option FieldType) "settle" q.1 q.2 := by
  unfold tX8_settle
  refine List.forall_mem_cons.mpr ⟨(s_aloadn (am_dp pw_X8_settle_0 dd_X8_settle_0a.1) rfl).to, ?_⟩
  refine List.forall_mem_cons.mpr ⟨(s_get (ci := 8) (k := 4) (am_dp pw_X8_settle_0 dd_X8_settle_0a.2.1) rfl (by decide) wd524 inX8 rfl).to, ?_⟩
  refine List.forall_mem_cons.mpr ⟨(s_if_eq (am_dp pw_X8_settle_0 dd_X8_settle_0a.2.2.1) (by decide)).to, ?_⟩
  refine List.forall_mem_cons.mpr ⟨s_vret (am_dp pw_X8_settle_0 dd_X8_settle_0a.2.2.2.1) rfl, ?_⟩
  refine List.forall_mem_cons.mpr ⟨(s_aloadn (am_dp pw_X8_settle_0 dd_X8_settle_0a.2.2.2.2.1) rfl).to, ?_⟩
  refine List.forall_mem_cons.mpr ⟨(s_iconst (am_dp pw_X8_settle_0 dd_X8_settle_0a.2.2.2.2.2.1) (by decide)).to, ?_⟩
  refine List.forall_mem_cons.mpr ⟨(s_put (ci := 8) (k := 4) (am_dp pw_X8_settle_0 dd_X8_settle_0a.2.2.2.2.2.2.1) rfl (by decide) wd524 inX8 tyX8_ok nmX8 rfl rfl).to, ?_⟩
  refine List.forall_mem_cons.mpr ⟨(s_aloadn (am_dp pw_X8_settle_0 dd_X8_settle_0a.2.2.2.2.2.2.2) rfl).to, ?_⟩
  refine List.forall_mem_cons.mpr ⟨(s_aloadn (am_dp pw_X8_settle_0 dd_X8_settle_0b.1) rfl).to, ?_⟩
  refine List.forall_mem_cons.mpr ⟨zw_cv77 (am_dp pw_X8_settle_0 dd_X8_settle_0b.2.1) wd937, ?_⟩
  refine List.forall_mem_cons.mpr ⟨(s_if_eq (am_dp pw_X8_settle_0 dd_X8_settle_0b.2.2.1) (by decide)).to, ?_⟩
  refine List.forall_mem_cons.mpr ⟨(s_aloadn (am_dp pw_X8_settle_0 dd_X8_settle_0b.2.2.2.1) rfl).to, ?_⟩
  refine List.forall_mem_cons.mpr ⟨(s_get (ci := 8) (k := 3) (am_dp pw_X8_settle_0 dd_X8_settle_0b.2.2.2.2.1) rfl (by decide) wd523 inX8 rfl).to, ?_⟩
  refine List.forall_mem_cons.mpr ⟨(s_aloadn (am_dp pw_X8_settle_0 dd_X8_settle_0b.2.2.2.2.2.1) rfl).to, ?_⟩
  refine List.forall_mem_cons.mpr ⟨(s_get (ci := 8) (k := 2) (am_dp pw_X8_settle_0 dd_X8_settle_0b.2.2.2.2.2.2.1) rfl (by decide) wd521 inX8 rfl).to, ?_⟩
  refine List.forall_mem_cons.mpr ⟨zw_cv8 (am_dp pw_X8_settle_0 dd_X8_settle_0b.2.2.2.2.2.2.2) wd950, ?_⟩
  refine List.forall_mem_cons.mpr ⟨(s_if_eq (am_dp pw_X8_settle_32 dd_X8_settle_32a.1) (by decide)).to, ?_⟩
  refine List.forall_mem_cons.mpr ⟨(s_iconst (am_dp pw_X8_settle_32 dd_X8_settle_32a.2.1) (by decide)).to, ?_⟩
  refine List.forall_mem_cons.mpr ⟨(s_goto (am_dp pw_X8_settle_32 dd_X8_settle_32a.2.2.1) (by decide)).to, ?_⟩
  refine List.forall_mem_cons.mpr ⟨(s_iconst (am_dp pw_X8_settle_32 dd_X8_settle_32a.2.2.2.1) (by decide)).to, ?_⟩
  refine List.forall_mem_cons.mpr ⟨(s_put (ci := 8) (k := 8) (am_dp pw_X8_settle_32 dd_X8_settle_32a.2.2.2.2.1) rfl (by decide) wd530 inX8 tyX8_ok nmX8 rfl rfl).to, ?_⟩
  refine List.forall_mem_cons.mpr ⟨(s_aloadn (am_dp pw_X8_settle_32 dd_X8_settle_32a.2.2.2.2.2.1) rfl).to, ?_⟩
  refine List.forall_mem_cons.mpr ⟨zw_cv84 (am_dp pw_X8_settle_32 dd_X8_settle_32a.2.2.2.2.2.2.1) wd975, ?_⟩
  refine List.forall_mem_cons.mpr ⟨(s_aloadn (am_dp pw_X8_settle_32 dd_X8_settle_32a.2.2.2.2.2.2.2) rfl).to, ?_⟩
  refine List.forall_mem_cons.mpr ⟨(s_iconst (am_dp pw_X8_settle_32 dd_X8_settle_32b.1) (by decide)).to, ?_⟩
  refine List.forall_mem_cons.mpr ⟨(s_put (ci := 8) (k := 11) (am_dp pw_X8_settle_32 dd_X8_settle_32b.2.1) rfl (by decide) wd535 inX8 tyX8_ok nmX8 rfl rfl).to, ?_⟩
  refine List.forall_mem_cons.mpr ⟨(s_aloadn (am_dp pw_X8_settle_32 dd_X8_settle_32b.2.2.1) rfl).to, ?_⟩
  refine List.forall_mem_cons.mpr ⟨(s_get (ci := 8) (k := 12) (am_dp pw_X8_settle_32 dd_X8_settle_32b.2.2.2.1) rfl (by decide) wd536 inX8 rfl).to, ?_⟩
  refine List.forall_mem_cons.mpr ⟨(s_lconst (am_dp pw_X8_settle_32 dd_X8_settle_32b.2.2.2.2.1) (by decide)).to, ?_⟩
  refine List.forall_mem_cons.mpr ⟨zw_cs322 (am_dp pw_X8_settle_32 dd_X8_settle_32b.2.2.2.2.2.1) wd988, ?_⟩
  refine List.forall_mem_cons.mpr ⟨(s_aloadn (am_dp pw_X8_settle_32 dd_X8_settle_32b.2.2.2.2.2.2.1) rfl).to, ?_⟩
  refine List.forall_mem_cons.mpr ⟨(s_get (ci := 8) (k := 8) (am_dp pw_X8_settle_32 dd_X8_settle_32b.2.2.2.2.2.2.2) rfl (by decide) wd530 inX8 rfl).to, ?_⟩
  refine List.forall_mem_cons.mpr ⟨(s_if_eq (am_dp pw_X8_settle_64 dd_X8_settle_64a.1) (by decide)).to, ?_⟩
  refine List.forall_mem_cons.mpr ⟨(s_aloadn (am_dp pw_X8_settle_64 dd_X8_settle_64a.2.1) rfl).to, ?_⟩
  refine List.forall_mem_cons.mpr ⟨(s_aloadn (am_dp pw_X8_settle_64 dd_X8_settle_64a.2.2.1) rfl).to, ?_⟩
  refine List.forall_mem_cons.mpr ⟨zw_cv85 (am_dp pw_X8_settle_64 dd_X8_settle_64a.2.2.2.1) wd989, ?_⟩
  refine List.forall_mem_cons.mpr ⟨zw_cv86 (am_dp pw_X8_settle_64 dd_X8_settle_64a.2.2.2.2.1) wd995, ?_⟩
  refine List.forall_mem_cons.mpr ⟨(s_aloadn (am_dp pw_X8_settle_64 dd_X8_settle_64a.2.2.2.2.2.1) rfl).to, ?_⟩
  refine List.forall_mem_cons.mpr ⟨zw_cv87 (am_dp pw_X8_settle_64 dd_X8_settle_64a.2.2.2.2.2.2.1) wd999, ?_⟩
  refine List.forall_mem_cons.mpr ⟨s_vret (am_dp pw_X8_settle_64 dd_X8_settle_64a.2.2.2.2.2.2.2) rfl, ?_⟩
  exact fun _ h => absurd h List.not_mem_nil
theorem sn_tX8_markAlone_0 : ∀ q ∈ tX8_markAlone_0, am_Snd am_P0 RX8 cX8_markAlone 5 (Option.none : Option FieldType) "markAlone" q.1 q.2 := by
  unfold tX8_markAlone_0
  refine List.forall_mem_cons.mpr ⟨(s_iconst (am_dp pw_X8_markAlone_0 dd_X8_markAlone_0a.1) (by decide)).to, ?_⟩
  refine List.forall_mem_cons.mpr ⟨(s_istoren (am_dp pw_X8_markAlone_0 dd_X8_markAlone_0a.2.1) rfl (by decide)).to, ?_⟩
  refine List.forall_mem_cons.mpr ⟨(s_iloadn (am_dp pw_X8_markAlone_0 dd_X8_markAlone_0a.2.2.1) rfl).to, ?_⟩
  refine List.forall_mem_cons.mpr ⟨(s_aloadn (am_dp pw_X8_markAlone_0 dd_X8_markAlone_0a.2.2.2.1) rfl).to, ?_⟩
  refine List.forall_mem_cons.mpr ⟨(s_get (ci := 8) (k := 0) (am_dp pw_X8_markAlone_0 dd_X8_markAlone_0a.2.2.2.2.1) rfl (by decide) wd518 inX8 rfl).to, ?_⟩
  refine List.forall_mem_cons.mpr ⟨(s_get (ci := 6) (k := 5) (am_dp pw_X8_markAlone_0 dd_X8_markAlone_0a.2.2.2.2.2.1) rfl (by decide) wd254 inX6 rfl).to, ?_⟩
  refine List.forall_mem_cons.mpr ⟨(s_icmp_ge (am_dp pw_X8_markAlone_0 dd_X8_markAlone_0a.2.2.2.2.2.2.1) (by decide)).to, ?_⟩
  refine List.forall_mem_cons.mpr ⟨(s_aloadn (am_dp pw_X8_markAlone_0 dd_X8_markAlone_0a.2.2.2.2.2.2.2) rfl).to, ?_⟩
  refine List.forall_mem_cons.mpr ⟨(s_get (ci := 8) (k := 0) (am_dp pw_X8_markAlone_0 dd_X8_markAlone_0b.1) rfl (by decide) wd518 inX8 rfl).to, ?_⟩
  refine List.forall_mem_cons.mpr ⟨(s_get (ci := 6) (k := 7) (am_dp pw_X8_markAlone_0 dd_X8_markAlone_0b.2.1) rfl (by decide) wd261 inX6 rfl).to, ?_⟩
  refine List.forall_mem_cons.mpr ⟨(s_iloadn (am_dp pw_X8_markAlone_0 dd_X8_markAlone_0b.2.2.1) rfl).to, ?_⟩
  refine List.forall_mem_cons.mpr ⟨(s_iald (am_dp pw_X8_markAlone_0 dd_X8_markAlone_0b.2.2.2.1)).to, ?_⟩
  refine List.forall_mem_cons.mpr ⟨(s_istoren (am_dp pw_X8_markAlone_0 dd_X8_markAlone_0b.2.2.2.2.1) rfl (by decide)).to, ?_⟩
  refine List.forall_mem_cons.mpr ⟨(s_aloadn (am_dp pw_X8_markAlone_0 dd_X8_markAlone_0b.2.2.2.2.2.1) rfl).to, ?_⟩
  refine List.forall_mem_cons.mpr ⟨(s_get (ci := 8) (k := 10) (am_dp pw_X8_markAlone_0 dd_X8_markAlone_0b.2.2.2.2.2.2.1) rfl (by decide) wd532 inX8 rfl).to, ?_⟩
  refine List.forall_mem_cons.mpr ⟨(s_iloadn (am_dp pw_X8_markAlone_0 dd_X8_markAlone_0b.2.2.2.2.2.2.2) rfl).to, ?_⟩
  refine List.forall_mem_cons.mpr ⟨(s_iconst (am_dp pw_X8_markAlone_0 dd_X8_markAlone_0c.1) (by decide)).to, ?_⟩
  refine List.forall_mem_cons.mpr ⟨(s_zast (am_dp pw_X8_markAlone_0 dd_X8_markAlone_0c.2.1)).to, ?_⟩
  refine List.forall_mem_cons.mpr ⟨(s_aloadn (am_dp pw_X8_markAlone_0 dd_X8_markAlone_0c.2.2.1) rfl).to, ?_⟩
  refine List.forall_mem_cons.mpr ⟨(s_get (ci := 8) (k := 9) (am_dp pw_X8_markAlone_0 dd_X8_markAlone_0c.2.2.2) rfl (by decide) wd531 inX8 rfl).to, ?_⟩
  refine List.forall_mem_cons.mpr ⟨(s_iloadn (am_dp pw_X8_markAlone_32 dd_X8_markAlone_32a.1) rfl).to, ?_⟩
  refine List.forall_mem_cons.mpr ⟨(s_aloadn (am_dp pw_X8_markAlone_32 dd_X8_markAlone_32a.2.1) rfl).to, ?_⟩
  refine List.forall_mem_cons.mpr ⟨(s_iloadn (am_dp pw_X8_markAlone_32 dd_X8_markAlone_32a.2.2.1) rfl).to, ?_⟩
  refine List.forall_mem_cons.mpr ⟨(s_aloadn (am_dp pw_X8_markAlone_32 dd_X8_markAlone_32a.2.2.2.1) rfl).to, ?_⟩
  refine List.forall_mem_cons.mpr ⟨(s_get (ci := 8) (k := 0) (am_dp pw_X8_markAlone_32 dd_X8_markAlone_32a.2.2.2.2.1) rfl (by decide) wd518 inX8 rfl).to, ?_⟩
  refine List.forall_mem_cons.mpr ⟨(s_get (ci := 6) (k := 8) (am_dp pw_X8_markAlone_32 dd_X8_markAlone_32a.2.2.2.2.2.1) rfl (by decide) wd264 inX6 rfl).to, ?_⟩
  refine List.forall_mem_cons.mpr ⟨(s_iloadn (am_dp pw_X8_markAlone_32 dd_X8_markAlone_32a.2.2.2.2.2.2.1) rfl).to, ?_⟩
  refine List.forall_mem_cons.mpr ⟨(s_zald (am_dp pw_X8_markAlone_32 dd_X8_markAlone_32a.2.2.2.2.2.2.2)).to, ?_⟩
  refine List.forall_mem_cons.mpr ⟨zw_cv75 (am_dp pw_X8_markAlone_32 dd_X8_markAlone_32b.1) wd979, ?_⟩
  refine List.forall_mem_cons.mpr ⟨(s_zast (am_dp pw_X8_markAlone_32 dd_X8_markAlone_32b.2.1)).to, ?_⟩
  refine List.forall_mem_cons.mpr ⟨(s_iconst (am_dp pw_X8_markAlone_32 dd_X8_markAlone_32b.2.2.1) (by decide)).to, ?_⟩
  refine List.forall_mem_cons.mpr ⟨(s_istoren (am_dp pw_X8_markAlone_32 dd_X8_markAlone_32b.2.2.2.1) rfl (by decide)).to, ?_⟩
  refine List.forall_mem_cons.mpr ⟨(s_aloadn (am_dp pw_X8_markAlone_32 dd_X8_markAlone_32b.2.2.2.2.1) rfl).to, ?_⟩
  refine List.forall_mem_cons.mpr ⟨(s_get (ci := 8) (k := 9) (am_dp pw_X8_markAlone_32 dd_X8_markAlone_32b.2.2.2.2.2.1) rfl (by decide) wd531 inX8 rfl).to, ?_⟩
  refine List.forall_mem_cons.mpr ⟨(s_iloadn (am_dp pw_X8_markAlone_32 dd_X8_markAlone_32b.2.2.2.2.2.2.1) rfl).to, ?_⟩
  refine List.forall_mem_cons.mpr ⟨(s_zald (am_dp pw_X8_markAlone_32 dd_X8_markAlone_32b.2.2.2.2.2.2.2)).to, ?_⟩
  refine List.forall_mem_cons.mpr ⟨(s_if_eq (am_dp pw_X8_markAlone_32 dd_X8_markAlone_32c.1) (by decide)).to, ?_⟩
  refine List.forall_mem_cons.mpr ⟨(s_iloadn (am_dp pw_X8_markAlone_32 dd_X8_markAlone_32c.2.1) rfl).to, ?_⟩
  refine List.forall_mem_cons.mpr ⟨(s_aloadn (am_dp pw_X8_markAlone_32 dd_X8_markAlone_32c.2.2.1) rfl).to, ?_⟩
  refine List.forall_mem_cons.mpr ⟨(s_get (ci := 8) (k := 0) (am_dp pw_X8_markAlone_32 dd_X8_markAlone_32c.2.2.2) rfl (by decide) wd518 inX8 rfl).to, ?_⟩
  refine List.forall_mem_cons.mpr ⟨(s_get (ci := 6) (k := 9) (am_dp pw_X8_markAlone_64 dd_X8_markAlone_64a.1) rfl (by decide) wd267 inX6 rfl).to, ?_⟩
  refine List.forall_mem_cons.mpr ⟨(s_icmp_ge (am_dp pw_X8_markAlone_64 dd_X8_markAlone_64a.2.1) (by decide)).to, ?_⟩
  refine List.forall_mem_cons.mpr ⟨(s_aloadn (am_dp pw_X8_markAlone_64 dd_X8_markAlone_64a.2.2.1) rfl).to, ?_⟩
  refine List.forall_mem_cons.mpr ⟨(s_get (ci := 8) (k := 0) (am_dp pw_X8_markAlone_64 dd_X8_markAlone_64a.2.2.2.1) rfl (by decide) wd518 inX8 rfl).to, ?_⟩
  refine List.forall_mem_cons.mpr ⟨(s_aloadn (am_dp pw_X8_markAlone_64 dd_X8_markAlone_64a.2.2.2.2.1) rfl).to, ?_⟩
  refine List.forall_mem_cons.mpr ⟨(s_get (ci := 8) (k := 0) (am_dp pw_X8_markAlone_64 dd_X8_markAlone_64a.2.2.2.2.2.1) rfl (by decide) wd518 inX8 rfl).to, ?_⟩
  refine List.forall_mem_cons.mpr ⟨(s_get (ci := 6) (k := 6) (am_dp pw_X8_markAlone_64 dd_X8_markAlone_64a.2.2.2.2.2.2.1) rfl (by decide) wd258 inX6 rfl).to, ?_⟩
  refine List.forall_mem_cons.mpr ⟨(s_iloadn (am_dp pw_X8_markAlone_64 dd_X8_markAlone_64a.2.2.2.2.2.2.2) rfl).to, ?_⟩
  refine List.forall_mem_cons.mpr ⟨(s_iald (am_dp pw_X8_markAlone_64 dd_X8_markAlone_64b.1)).to, ?_⟩
  refine List.forall_mem_cons.mpr ⟨(s_iloadn (am_dp pw_X8_markAlone_64 dd_X8_markAlone_64b.2.1) rfl).to, ?_⟩
  refine List.forall_mem_cons.mpr ⟨zw_cv69 (am_dp pw_X8_markAlone_64 dd_X8_markAlone_64b.2.2.1) wd983, ?_⟩
  refine List.forall_mem_cons.mpr ⟨(s_istore (am_dp pw_X8_markAlone_64 dd_X8_markAlone_64b.2.2.2.1) (by decide)).to, ?_⟩
  refine List.forall_mem_cons.mpr ⟨(s_aloadn (am_dp pw_X8_markAlone_64 dd_X8_markAlone_64b.2.2.2.2.1) rfl).to, ?_⟩
  refine List.forall_mem_cons.mpr ⟨(s_get (ci := 8) (k := 9) (am_dp pw_X8_markAlone_64 dd_X8_markAlone_64b.2.2.2.2.2.1) rfl (by decide) wd531 inX8 rfl).to, ?_⟩
  refine List.forall_mem_cons.mpr ⟨(s_iloadn (am_dp pw_X8_markAlone_64 dd_X8_markAlone_64b.2.2.2.2.2.2) rfl).to, ?_⟩
  refine List.forall_mem_cons.mpr ⟨(s_aloadn (am_dp pw_X8_markAlone_96 dd_X8_markAlone_96a.1) rfl).to, ?_⟩
  refine List.forall_mem_cons.mpr ⟨(s_get (ci := 8) (k := 2) (am_dp pw_X8_markAlone_96 dd_X8_markAlone_96a.2.1) rfl (by decide) wd521 inX8 rfl).to, ?_⟩
  refine List.forall_mem_cons.mpr ⟨(s_iloadn (am_dp pw_X8_markAlone_96 dd_X8_markAlone_96a.2.2.1) rfl).to, ?_⟩
  refine List.forall_mem_cons.mpr ⟨(s_aloadn (am_dp pw_X8_markAlone_96 dd_X8_markAlone_96a.2.2.2.1) rfl).to, ?_⟩
  refine List.forall_mem_cons.mpr ⟨(s_get (ci := 8) (k := 0) (am_dp pw_X8_markAlone_96 dd_X8_markAlone_96a.2.2.2.2.1) rfl (by decide) wd518 inX8 rfl).to, ?_⟩
  exact fun _ h => absurd h List.not_mem_nil
theorem sn_tX8_markAlone_1 : ∀ q ∈ tX8_markAlone_1, am_Snd am_P0 RX8 cX8_markAlone 5 (Option.none : Option FieldType) "markAlone" q.1 q.2 := by
  unfold tX8_markAlone_1
  refine List.forall_mem_cons.mpr ⟨(s_get (ci := 6) (k := 10) (am_dp pw_X8_markAlone_96 dd_X8_markAlone_96a.2.2.2.2.2.1) rfl (by decide) wd271 inX6 rfl).to, ?_⟩
  refine List.forall_mem_cons.mpr ⟨(s_iloadn (am_dp pw_X8_markAlone_96 dd_X8_markAlone_96a.2.2.2.2.2.2.1) rfl).to, ?_⟩
  refine List.forall_mem_cons.mpr ⟨(s_iald (am_dp pw_X8_markAlone_96 dd_X8_markAlone_96a.2.2.2.2.2.2.2)).to, ?_⟩
  refine List.forall_mem_cons.mpr ⟨(s_iload (am_dp pw_X8_markAlone_96 dd_X8_markAlone_96b.1)).to, ?_⟩
  refine List.forall_mem_cons.mpr ⟨zw_cv104 (am_dp pw_X8_markAlone_96 dd_X8_markAlone_96b.2.1) wd987, ?_⟩
  refine List.forall_mem_cons.mpr ⟨(s_zast (am_dp pw_X8_markAlone_96 dd_X8_markAlone_96b.2.2.1)).to, ?_⟩
  refine List.forall_mem_cons.mpr ⟨(s_iinc (am_dp pw_X8_markAlone_96 dd_X8_markAlone_96b.2.2.2.1) (by decide) (by decide)).to, ?_⟩
  refine List.forall_mem_cons.mpr ⟨(s_goto (am_dp pw_X8_markAlone_96 dd_X8_markAlone_96b.2.2.2.2.1) (by decide)).to, ?_⟩
  refine List.forall_mem_cons.mpr ⟨(s_iinc (am_dp pw_X8_markAlone_96 dd_X8_markAlone_96b.2.2.2.2.2.1) (by decide) (by decide)).to, ?_⟩
  refine List.forall_mem_cons.mpr ⟨(s_goto (am_dp pw_X8_markAlone_96 dd_X8_markAlone_96b.2.2.2.2.2.2) (by decide)).to, ?_⟩
  refine List.forall_mem_cons.mpr ⟨s_vret (am_dp pw_X8_markAlone_128 dd_X8_markAlone_128a) rfl, ?_⟩
  exact fun _ h => absurd h List.not_mem_nil
theorem sn_tX8_markAlone : ∀ q ∈ tX8_markAlone, am_Snd am_P0 RX8 cX8_markAlone 5 (Option.none : Option FieldType) "markAlone" q.1 q.2 := by
  unfold tX8_markAlone
  exact List.forall_mem_append.mpr ⟨sn_tX8_markAlone_0, sn_tX8_markAlone_1⟩
theorem sn_tX8_countChains_0 : ∀ q ∈ tX8_countChains_0, am_Snd am_P0 RX8 cX8_countChains 6 (Option.some FieldType.int) "countChains" q.1 q.2 := by
  unfold tX8_countChains_0
  refine List.forall_mem_cons.mpr ⟨(s_iconst (am_dp pw_X8_countChains_0 dd_X8_countChains_0a.1) (by decide)).to, ?_⟩
  refine List.forall_mem_cons.mpr ⟨(s_istoren (am_dp pw_X8_countChains_0 dd_X8_countChains_0a.2.1) rfl (by decide)).to, ?_⟩
  refine List.forall_mem_cons.mpr ⟨(s_aloadn (am_dp pw_X8_countChains_0 dd_X8_countChains_0a.2.2.1) rfl).to, ?_⟩
  refine List.forall_mem_cons.mpr ⟨(s_get (ci := 8) (k := 0) (am_dp pw_X8_countChains_0 dd_X8_countChains_0a.2.2.2.1) rfl (by decide) wd518 inX8 rfl).to, ?_⟩
  refine List.forall_mem_cons.mpr ⟨(s_get (ci := 6) (k := 5) (am_dp pw_X8_countChains_0 dd_X8_countChains_0a.2.2.2.2.1) rfl (by decide) wd254 inX6 rfl).to, ?_⟩
  refine List.forall_mem_cons.mpr ⟨(s_iconst (am_dp pw_X8_countChains_0 dd_X8_countChains_0a.2.2.2.2.2.1) (by decide)).to, ?_⟩
  refine List.forall_mem_cons.mpr ⟨(s_isub (am_dp pw_X8_countChains_0 dd_X8_countChains_0a.2.2.2.2.2.2.1)).to, ?_⟩
  refine List.forall_mem_cons.mpr ⟨(s_istoren (am_dp pw_X8_countChains_0 dd_X8_countChains_0a.2.2.2.2.2.2.2) rfl (by decide)).to, ?_⟩
  refine List.forall_mem_cons.mpr ⟨(s_iloadn (am_dp pw_X8_countChains_0 dd_X8_countChains_0b.1) rfl).to, ?_⟩
  refine List.forall_mem_cons.mpr ⟨(s_if_lt (am_dp pw_X8_countChains_0 dd_X8_countChains_0b.2.1) (by decide)).to, ?_⟩
  refine List.forall_mem_cons.mpr ⟨(s_aloadn (am_dp pw_X8_countChains_0 dd_X8_countChains_0b.2.2.1) rfl).to, ?_⟩
  refine List.forall_mem_cons.mpr ⟨(s_get (ci := 8) (k := 15) (am_dp pw_X8_countChains_0 dd_X8_countChains_0b.2.2.2.1) rfl (by decide) wd542 inX8 rfl).to, ?_⟩
  refine List.forall_mem_cons.mpr ⟨(s_iloadn (am_dp pw_X8_countChains_0 dd_X8_countChains_0b.2.2.2.2.1) rfl).to, ?_⟩
  refine List.forall_mem_cons.mpr ⟨(s_iconst (am_dp pw_X8_countChains_0 dd_X8_countChains_0b.2.2.2.2.2.1) (by decide)).to, ?_⟩
  refine List.forall_mem_cons.mpr ⟨(s_iast (am_dp pw_X8_countChains_0 dd_X8_countChains_0b.2.2.2.2.2.2.1)).to, ?_⟩
  refine List.forall_mem_cons.mpr ⟨(s_aloadn (am_dp pw_X8_countChains_0 dd_X8_countChains_0b.2.2.2.2.2.2.2) rfl).to, ?_⟩
  refine List.forall_mem_cons.mpr ⟨(s_get (ci := 8) (k := 9) (am_dp pw_X8_countChains_0 dd_X8_countChains_0c.1) rfl (by decide) wd531 inX8 rfl).to, ?_⟩
  refine List.forall_mem_cons.mpr ⟨(s_iloadn (am_dp pw_X8_countChains_0 dd_X8_countChains_0c.2.1) rfl).to, ?_⟩
  refine List.forall_mem_cons.mpr ⟨(s_zald (am_dp pw_X8_countChains_0 dd_X8_countChains_0c.2.2.1)).to, ?_⟩
  refine List.forall_mem_cons.mpr ⟨(s_if_ne (am_dp pw_X8_countChains_0 dd_X8_countChains_0c.2.2.2) (by decide)).to, ?_⟩
  refine List.forall_mem_cons.mpr ⟨(s_goto (am_dp pw_X8_countChains_32 dd_X8_countChains_32a.1) (by decide)).to, ?_⟩
  refine List.forall_mem_cons.mpr ⟨(s_aloadn (am_dp pw_X8_countChains_32 dd_X8_countChains_32a.2.1) rfl).to, ?_⟩
  refine List.forall_mem_cons.mpr ⟨(s_get (ci := 8) (k := 2) (am_dp pw_X8_countChains_32 dd_X8_countChains_32a.2.2.1) rfl (by decide) wd521 inX8 rfl).to, ?_⟩
  refine List.forall_mem_cons.mpr ⟨(s_aloadn (am_dp pw_X8_countChains_32 dd_X8_countChains_32a.2.2.2.1) rfl).to, ?_⟩
  refine List.forall_mem_cons.mpr ⟨(s_get (ci := 8) (k := 0) (am_dp pw_X8_countChains_32 dd_X8_countChains_32a.2.2.2.2.1) rfl (by decide) wd518 inX8 rfl).to, ?_⟩
  refine List.forall_mem_cons.mpr ⟨(s_get (ci := 6) (k := 7) (am_dp pw_X8_countChains_32 dd_X8_countChains_32a.2.2.2.2.2.1) rfl (by decide) wd261 inX6 rfl).to, ?_⟩
  refine List.forall_mem_cons.mpr ⟨(s_iloadn (am_dp pw_X8_countChains_32 dd_X8_countChains_32a.2.2.2.2.2.2.1) rfl).to, ?_⟩
  refine List.forall_mem_cons.mpr ⟨(s_iald (am_dp pw_X8_countChains_32 dd_X8_countChains_32a.2.2.2.2.2.2.2)).to, ?_⟩
  refine List.forall_mem_cons.mpr ⟨zw_cv105 (am_dp pw_X8_countChains_32 dd_X8_countChains_32b.1) wd993, ?_⟩
  refine List.forall_mem_cons.mpr ⟨(s_astoren (am_dp pw_X8_countChains_32 dd_X8_countChains_32b.2.1) rfl (by decide)).to, ?_⟩
  refine List.forall_mem_cons.mpr ⟨(s_iloadn (am_dp pw_X8_countChains_32 dd_X8_countChains_32b.2.2.1) rfl).to, ?_⟩
  refine List.forall_mem_cons.mpr ⟨(s_iconst (am_dp pw_X8_countChains_32 dd_X8_countChains_32b.2.2.2.1) (by decide)).to, ?_⟩
  refine List.forall_mem_cons.mpr ⟨(s_iadd (am_dp pw_X8_countChains_32 dd_X8_countChains_32b.2.2.2.2.1)).to, ?_⟩
  refine List.forall_mem_cons.mpr ⟨(s_istore (am_dp pw_X8_countChains_32 dd_X8_countChains_32b.2.2.2.2.2.1) (by decide)).to, ?_⟩
  refine List.forall_mem_cons.mpr ⟨(s_iload (am_dp pw_X8_countChains_32 dd_X8_countChains_32b.2.2.2.2.2.2.1)).to, ?_⟩
  refine List.forall_mem_cons.mpr ⟨(s_aloadn (am_dp pw_X8_countChains_32 dd_X8_countChains_32b.2.2.2.2.2.2.2) rfl).to, ?_⟩
  refine List.forall_mem_cons.mpr ⟨(s_get (ci := 8) (k := 0) (am_dp pw_X8_countChains_32 dd_X8_countChains_32c.1) rfl (by decide) wd518 inX8 rfl).to, ?_⟩
  refine List.forall_mem_cons.mpr ⟨(s_get (ci := 6) (k := 5) (am_dp pw_X8_countChains_32 dd_X8_countChains_32c.2) rfl (by decide) wd254 inX6 rfl).to, ?_⟩
  refine List.forall_mem_cons.mpr ⟨(s_icmp_ge (am_dp pw_X8_countChains_64 dd_X8_countChains_64a.1) (by decide)).to, ?_⟩
  refine List.forall_mem_cons.mpr ⟨(s_aloadn (am_dp pw_X8_countChains_64 dd_X8_countChains_64a.2.1) rfl).to, ?_⟩
  refine List.forall_mem_cons.mpr ⟨(s_get (ci := 8) (k := 0) (am_dp pw_X8_countChains_64 dd_X8_countChains_64a.2.2.1) rfl (by decide) wd518 inX8 rfl).to, ?_⟩
  refine List.forall_mem_cons.mpr ⟨(s_get (ci := 6) (k := 6) (am_dp pw_X8_countChains_64 dd_X8_countChains_64a.2.2.2.1) rfl (by decide) wd258 inX6 rfl).to, ?_⟩
  refine List.forall_mem_cons.mpr ⟨(s_iload (am_dp pw_X8_countChains_64 dd_X8_countChains_64a.2.2.2.2.1)).to, ?_⟩
  refine List.forall_mem_cons.mpr ⟨(s_iald (am_dp pw_X8_countChains_64 dd_X8_countChains_64a.2.2.2.2.2.1)).to, ?_⟩
  refine List.forall_mem_cons.mpr ⟨(s_aloadn (am_dp pw_X8_countChains_64 dd_X8_countChains_64a.2.2.2.2.2.2.1) rfl).to, ?_⟩
  refine List.forall_mem_cons.mpr ⟨(s_get (ci := 8) (k := 0) (am_dp pw_X8_countChains_64 dd_X8_countChains_64a.2.2.2.2.2.2.2) rfl (by decide) wd518 inX8 rfl).to, ?_⟩
  refine List.forall_mem_cons.mpr ⟨(s_get (ci := 6) (k := 6) (am_dp pw_X8_countChains_64 dd_X8_countChains_64b.1) rfl (by decide) wd258 inX6 rfl).to, ?_⟩
  refine List.forall_mem_cons.mpr ⟨(s_iloadn (am_dp pw_X8_countChains_64 dd_X8_countChains_64b.2.1) rfl).to, ?_⟩
  refine List.forall_mem_cons.mpr ⟨(s_iald (am_dp pw_X8_countChains_64 dd_X8_countChains_64b.2.2.1)).to, ?_⟩
  refine List.forall_mem_cons.mpr ⟨(s_isub (am_dp pw_X8_countChains_64 dd_X8_countChains_64b.2.2.2.1)).to, ?_⟩
  refine List.forall_mem_cons.mpr ⟨(s_iconst (am_dp pw_X8_countChains_64 dd_X8_countChains_64b.2.2.2.2.1) (by decide)).to, ?_⟩
  refine List.forall_mem_cons.mpr ⟨(s_imul (am_dp pw_X8_countChains_64 dd_X8_countChains_64b.2.2.2.2.2.1)).to, ?_⟩
  refine List.forall_mem_cons.mpr ⟨(s_aloadn (am_dp pw_X8_countChains_64 dd_X8_countChains_64b.2.2.2.2.2.2.1) rfl).to, ?_⟩
  refine List.forall_mem_cons.mpr ⟨(s_get (ci := 8) (k := 0) (am_dp pw_X8_countChains_64 dd_X8_countChains_64b.2.2.2.2.2.2.2) rfl (by decide) wd518 inX8 rfl).to, ?_⟩
  refine List.forall_mem_cons.mpr ⟨(s_get (ci := 6) (k := 7) (am_dp pw_X8_countChains_64 dd_X8_countChains_64c) rfl (by decide) wd261 inX6 rfl).to, ?_⟩
  refine List.forall_mem_cons.mpr ⟨(s_iload (am_dp pw_X8_countChains_96 dd_X8_countChains_96a.1)).to, ?_⟩
  refine List.forall_mem_cons.mpr ⟨(s_iald (am_dp pw_X8_countChains_96 dd_X8_countChains_96a.2.1)).to, ?_⟩
  refine List.forall_mem_cons.mpr ⟨(s_bipush (am_dp pw_X8_countChains_96 dd_X8_countChains_96a.2.2.1) (by decide)).to, ?_⟩
  refine List.forall_mem_cons.mpr ⟨(s_ishr (am_dp pw_X8_countChains_96 dd_X8_countChains_96a.2.2.2.1)).to, ?_⟩
  refine List.forall_mem_cons.mpr ⟨(s_iadd (am_dp pw_X8_countChains_96 dd_X8_countChains_96a.2.2.2.2.1)).to, ?_⟩
  exact fun _ h => absurd h List.not_mem_nil
theorem sn_tX8_countChains_1 : ∀ q ∈ tX8_countChains_1, am_Snd am_P0 RX8 cX8_countChains 6 (Option.some FieldType.int) "countChains" q.1 q.2 := by
  unfold tX8_countChains_1
  refine List.forall_mem_cons.mpr ⟨(s_istore (am_dp pw_X8_countChains_96 dd_X8_countChains_96a.2.2.2.2.2.1) (by decide)).to, ?_⟩
  refine List.forall_mem_cons.mpr ⟨(s_aloadn (am_dp pw_X8_countChains_96 dd_X8_countChains_96a.2.2.2.2.2.2.1) rfl).to, ?_⟩
  refine List.forall_mem_cons.mpr ⟨(s_get (ci := 8) (k := 15) (am_dp pw_X8_countChains_96 dd_X8_countChains_96a.2.2.2.2.2.2.2) rfl (by decide) wd542 inX8 rfl).to, ?_⟩
  refine List.forall_mem_cons.mpr ⟨(s_iload (am_dp pw_X8_countChains_96 dd_X8_countChains_96b.1)).to, ?_⟩
  refine List.forall_mem_cons.mpr ⟨(s_iald (am_dp pw_X8_countChains_96 dd_X8_countChains_96b.2.1)).to, ?_⟩
  refine List.forall_mem_cons.mpr ⟨(s_aloadn (am_dp pw_X8_countChains_96 dd_X8_countChains_96b.2.2.1) rfl).to, ?_⟩
  refine List.forall_mem_cons.mpr ⟨(s_get (ci := 8) (k := 15) (am_dp pw_X8_countChains_96 dd_X8_countChains_96b.2.2.2.1) rfl (by decide) wd542 inX8 rfl).to, ?_⟩
  refine List.forall_mem_cons.mpr ⟨(s_iloadn (am_dp pw_X8_countChains_96 dd_X8_countChains_96b.2.2.2.2.1) rfl).to, ?_⟩
  refine List.forall_mem_cons.mpr ⟨(s_iald (am_dp pw_X8_countChains_96 dd_X8_countChains_96b.2.2.2.2.2.1)).to, ?_⟩
  refine List.forall_mem_cons.mpr ⟨(s_icmp_le (am_dp pw_X8_countChains_96 dd_X8_countChains_96b.2.2.2.2.2.2.1) (by decide)).to, ?_⟩
  refine List.forall_mem_cons.mpr ⟨(s_aloadn (am_dp pw_X8_countChains_96 dd_X8_countChains_96b.2.2.2.2.2.2.2) rfl).to, ?_⟩
  refine List.forall_mem_cons.mpr ⟨(s_iload (am_dp pw_X8_countChains_96 dd_X8_countChains_96c.1)).to, ?_⟩
  refine List.forall_mem_cons.mpr ⟨(s_lald (am_dp pw_X8_countChains_96 dd_X8_countChains_96c.2.1)).to, ?_⟩
  refine List.forall_mem_cons.mpr ⟨(s_aloadn (am_dp pw_X8_countChains_96 dd_X8_countChains_96c.2.2) rfl).to, ?_⟩
  refine List.forall_mem_cons.mpr ⟨(s_get (ci := 8) (k := 0) (am_dp pw_X8_countChains_128 dd_X8_countChains_128a.1) rfl (by decide) wd518 inX8 rfl).to, ?_⟩
  refine List.forall_mem_cons.mpr ⟨(s_get (ci := 6) (k := 7) (am_dp pw_X8_countChains_128 dd_X8_countChains_128a.2.1) rfl (by decide) wd261 inX6 rfl).to, ?_⟩
  refine List.forall_mem_cons.mpr ⟨(s_iload (am_dp pw_X8_countChains_128 dd_X8_countChains_128a.2.2.1)).to, ?_⟩
  refine List.forall_mem_cons.mpr ⟨(s_iald (am_dp pw_X8_countChains_128 dd_X8_countChains_128a.2.2.2.1)).to, ?_⟩
  refine List.forall_mem_cons.mpr ⟨(s_bipush (am_dp pw_X8_countChains_128 dd_X8_countChains_128a.2.2.2.2.1) (by decide)).to, ?_⟩
  refine List.forall_mem_cons.mpr ⟨(s_iand (am_dp pw_X8_countChains_128 dd_X8_countChains_128a.2.2.2.2.2.1)).to, ?_⟩
  refine List.forall_mem_cons.mpr ⟨(s_lushr (am_dp pw_X8_countChains_128 dd_X8_countChains_128a.2.2.2.2.2.2.1)).to, ?_⟩
  refine List.forall_mem_cons.mpr ⟨(s_lconst (am_dp pw_X8_countChains_128 dd_X8_countChains_128a.2.2.2.2.2.2.2) (by decide)).to, ?_⟩
  refine List.forall_mem_cons.mpr ⟨(s_land (am_dp pw_X8_countChains_128 dd_X8_countChains_128b.1)).to, ?_⟩
  refine List.forall_mem_cons.mpr ⟨(s_lconst (am_dp pw_X8_countChains_128 dd_X8_countChains_128b.2.1) (by decide)).to, ?_⟩
  refine List.forall_mem_cons.mpr ⟨(s_lcmp (am_dp pw_X8_countChains_128 dd_X8_countChains_128b.2.2.1)).to, ?_⟩
  refine List.forall_mem_cons.mpr ⟨(s_if_eq (am_dp pw_X8_countChains_128 dd_X8_countChains_128b.2.2.2.1) (by decide)).to, ?_⟩
  refine List.forall_mem_cons.mpr ⟨(s_aloadn (am_dp pw_X8_countChains_128 dd_X8_countChains_128b.2.2.2.2.1) rfl).to, ?_⟩
  refine List.forall_mem_cons.mpr ⟨(s_get (ci := 8) (k := 15) (am_dp pw_X8_countChains_128 dd_X8_countChains_128b.2.2.2.2.2.1) rfl (by decide) wd542 inX8 rfl).to, ?_⟩
  refine List.forall_mem_cons.mpr ⟨(s_iloadn (am_dp pw_X8_countChains_128 dd_X8_countChains_128b.2.2.2.2.2.2.1) rfl).to, ?_⟩
  refine List.forall_mem_cons.mpr ⟨(s_aloadn (am_dp pw_X8_countChains_128 dd_X8_countChains_128b.2.2.2.2.2.2.2) rfl).to, ?_⟩
  refine List.forall_mem_cons.mpr ⟨(s_get (ci := 8) (k := 15) (am_dp pw_X8_countChains_128 dd_X8_countChains_128c.1) rfl (by decide) wd542 inX8 rfl).to, ?_⟩
  refine List.forall_mem_cons.mpr ⟨(s_iload (am_dp pw_X8_countChains_128 dd_X8_countChains_128c.2.1)).to, ?_⟩
  refine List.forall_mem_cons.mpr ⟨(s_iald (am_dp pw_X8_countChains_128 dd_X8_countChains_128c.2.2)).to, ?_⟩
  refine List.forall_mem_cons.mpr ⟨(s_iast (am_dp pw_X8_countChains_160 dd_X8_countChains_160a.1)).to, ?_⟩
  refine List.forall_mem_cons.mpr ⟨(s_iinc (am_dp pw_X8_countChains_160 dd_X8_countChains_160a.2.1) (by decide) (by decide)).to, ?_⟩
  refine List.forall_mem_cons.mpr ⟨(s_goto (am_dp pw_X8_countChains_160 dd_X8_countChains_160a.2.2.1) (by decide)).to, ?_⟩
  refine List.forall_mem_cons.mpr ⟨(s_aloadn (am_dp pw_X8_countChains_160 dd_X8_countChains_160a.2.2.2.1) rfl).to, ?_⟩
  refine List.forall_mem_cons.mpr ⟨(s_get (ci := 8) (k := 15) (am_dp pw_X8_countChains_160 dd_X8_countChains_160a.2.2.2.2.1) rfl (by decide) wd542 inX8 rfl).to, ?_⟩
  refine List.forall_mem_cons.mpr ⟨(s_iloadn (am_dp pw_X8_countChains_160 dd_X8_countChains_160a.2.2.2.2.2.1) rfl).to, ?_⟩
  refine List.forall_mem_cons.mpr ⟨(s_dup2 (am_dp pw_X8_countChains_160 dd_X8_countChains_160a.2.2.2.2.2.2.1)).to, ?_⟩
  refine List.forall_mem_cons.mpr ⟨(s_iald (am_dp pw_X8_countChains_160 dd_X8_countChains_160a.2.2.2.2.2.2.2)).to, ?_⟩
  refine List.forall_mem_cons.mpr ⟨(s_iconst (am_dp pw_X8_countChains_160 dd_X8_countChains_160b.1) (by decide)).to, ?_⟩
  refine List.forall_mem_cons.mpr ⟨(s_iadd (am_dp pw_X8_countChains_160 dd_X8_countChains_160b.2.1)).to, ?_⟩
  refine List.forall_mem_cons.mpr ⟨(s_iast (am_dp pw_X8_countChains_160 dd_X8_countChains_160b.2.2.1)).to, ?_⟩
  refine List.forall_mem_cons.mpr ⟨(s_iloadn (am_dp pw_X8_countChains_160 dd_X8_countChains_160b.2.2.2.1) rfl).to, ?_⟩
  refine List.forall_mem_cons.mpr ⟨(s_aloadn (am_dp pw_X8_countChains_160 dd_X8_countChains_160b.2.2.2.2.1) rfl).to, ?_⟩
  refine List.forall_mem_cons.mpr ⟨(s_get (ci := 8) (k := 15) (am_dp pw_X8_countChains_160 dd_X8_countChains_160b.2.2.2.2.2.1) rfl (by decide) wd542 inX8 rfl).to, ?_⟩
  refine List.forall_mem_cons.mpr ⟨(s_iloadn (am_dp pw_X8_countChains_160 dd_X8_countChains_160b.2.2.2.2.2.2.1) rfl).to, ?_⟩
  refine List.forall_mem_cons.mpr ⟨(s_iald (am_dp pw_X8_countChains_160 dd_X8_countChains_160b.2.2.2.2.2.2.2)).to, ?_⟩
  refine List.forall_mem_cons.mpr ⟨zw_cs307 (am_dp pw_X8_countChains_160 dd_X8_countChains_160c.1) wd994, ?_⟩
  refine List.forall_mem_cons.mpr ⟨(s_istoren (am_dp pw_X8_countChains_160 dd_X8_countChains_160c.2.1) rfl (by decide)).to, ?_⟩
  refine List.forall_mem_cons.mpr ⟨(s_iinc (am_dp pw_X8_countChains_160 dd_X8_countChains_160c.2.2.1) (by decide) (by decide)).to, ?_⟩
  refine List.forall_mem_cons.mpr ⟨(s_goto (am_dp pw_X8_countChains_160 dd_X8_countChains_160c.2.2.2) (by decide)).to, ?_⟩
  refine List.forall_mem_cons.mpr ⟨(s_iloadn (am_dp pw_X8_countChains_192 dd_X8_countChains_192a.1) rfl).to, ?_⟩
  refine List.forall_mem_cons.mpr ⟨s_iret (am_dp pw_X8_countChains_192 dd_X8_countChains_192a.2) rfl, ?_⟩
  exact fun _ h => absurd h List.not_mem_nil
theorem sn_tX8_countChains : ∀ q ∈ tX8_countChains, am_Snd am_P0 RX8 cX8_countChains 6 (Option.some FieldType.int) "countChains" q.1 q.2 := by
  unfold tX8_countChains
  exact List.forall_mem_append.mpr ⟨sn_tX8_countChains_0, sn_tX8_countChains_1⟩
theorem sn_tX8_keep_0 : ∀ q ∈ tX8_keep_0, am_Snd am_P0 RX8 cX8_keep 4 (Option.none : Option FieldType) "keep" q.1 q.2 := by
  unfold tX8_keep_0
  refine List.forall_mem_cons.mpr ⟨(s_iconst (am_dp pw_X8_keep_0 dd_X8_keep_0a.1) (by decide)).to, ?_⟩
  refine List.forall_mem_cons.mpr ⟨(s_istoren (am_dp pw_X8_keep_0 dd_X8_keep_0a.2.1) rfl (by decide)).to, ?_⟩
  refine List.forall_mem_cons.mpr ⟨(s_iconst (am_dp pw_X8_keep_0 dd_X8_keep_0a.2.2.1) (by decide)).to, ?_⟩
  refine List.forall_mem_cons.mpr ⟨(s_istoren (am_dp pw_X8_keep_0 dd_X8_keep_0a.2.2.2.1) rfl (by decide)).to, ?_⟩
  refine List.forall_mem_cons.mpr ⟨(s_iloadn (am_dp pw_X8_keep_0 dd_X8_keep_0a.2.2.2.2.1) rfl).to, ?_⟩
  refine List.forall_mem_cons.mpr ⟨(s_aloadn (am_dp pw_X8_keep_0 dd_X8_keep_0a.2.2.2.2.2.1) rfl).to, ?_⟩
  refine List.forall_mem_cons.mpr ⟨(s_get (ci := 8) (k := 0) (am_dp pw_X8_keep_0 dd_X8_keep_0a.2.2.2.2.2.2.1) rfl (by decide) wd518 inX8 rfl).to, ?_⟩
  refine List.forall_mem_cons.mpr ⟨(s_get (ci := 6) (k := 5) (am_dp pw_X8_keep_0 dd_X8_keep_0a.2.2.2.2.2.2.2) rfl (by decide) wd254 inX6 rfl).to, ?_⟩
  refine List.forall_mem_cons.mpr ⟨(s_icmp_ge (am_dp pw_X8_keep_0 dd_X8_keep_0b.1) (by decide)).to, ?_⟩
  refine List.forall_mem_cons.mpr ⟨(s_aloadn (am_dp pw_X8_keep_0 dd_X8_keep_0b.2.1) rfl).to, ?_⟩
  refine List.forall_mem_cons.mpr ⟨(s_get (ci := 8) (k := 11) (am_dp pw_X8_keep_0 dd_X8_keep_0b.2.2.1) rfl (by decide) wd535 inX8 rfl).to, ?_⟩
  refine List.forall_mem_cons.mpr ⟨(s_iloadn (am_dp pw_X8_keep_0 dd_X8_keep_0b.2.2.2.1) rfl).to, ?_⟩
  refine List.forall_mem_cons.mpr ⟨(s_icmp_ge (am_dp pw_X8_keep_0 dd_X8_keep_0b.2.2.2.2.1) (by decide)).to, ?_⟩
  refine List.forall_mem_cons.mpr ⟨(s_aloadn (am_dp pw_X8_keep_0 dd_X8_keep_0b.2.2.2.2.2.1) rfl).to, ?_⟩
  refine List.forall_mem_cons.mpr ⟨(s_get (ci := 8) (k := 15) (am_dp pw_X8_keep_0 dd_X8_keep_0b.2.2.2.2.2.2.1) rfl (by decide) wd542 inX8 rfl).to, ?_⟩
  refine List.forall_mem_cons.mpr ⟨(s_iloadn (am_dp pw_X8_keep_0 dd_X8_keep_0b.2.2.2.2.2.2.2) rfl).to, ?_⟩
  refine List.forall_mem_cons.mpr ⟨(s_iald (am_dp pw_X8_keep_0 dd_X8_keep_0c.1)).to, ?_⟩
  refine List.forall_mem_cons.mpr ⟨(s_iloadn (am_dp pw_X8_keep_0 dd_X8_keep_0c.2.1) rfl).to, ?_⟩
  refine List.forall_mem_cons.mpr ⟨(s_aloadn (am_dp pw_X8_keep_0 dd_X8_keep_0c.2.2.1) rfl).to, ?_⟩
  refine List.forall_mem_cons.mpr ⟨(s_get (ci := 8) (k := 11) (am_dp pw_X8_keep_0 dd_X8_keep_0c.2.2.2) rfl (by decide) wd535 inX8 rfl).to, ?_⟩
  refine List.forall_mem_cons.mpr ⟨(s_isub (am_dp pw_X8_keep_32 dd_X8_keep_32a.1)).to, ?_⟩
  refine List.forall_mem_cons.mpr ⟨(s_icmp_ne (am_dp pw_X8_keep_32 dd_X8_keep_32a.2.1) (by decide)).to, ?_⟩
  refine List.forall_mem_cons.mpr ⟨(s_iloadn (am_dp pw_X8_keep_32 dd_X8_keep_32a.2.2.1) rfl).to, ?_⟩
  refine List.forall_mem_cons.mpr ⟨(s_iconst (am_dp pw_X8_keep_32 dd_X8_keep_32a.2.2.2.1) (by decide)).to, ?_⟩
  refine List.forall_mem_cons.mpr ⟨(s_icmp_eq (am_dp pw_X8_keep_32 dd_X8_keep_32a.2.2.2.2.1) (by decide)).to, ?_⟩
  refine List.forall_mem_cons.mpr ⟨(s_aloadn (am_dp pw_X8_keep_32 dd_X8_keep_32a.2.2.2.2.2.1) rfl).to, ?_⟩
  refine List.forall_mem_cons.mpr ⟨(s_get (ci := 8) (k := 2) (am_dp pw_X8_keep_32 dd_X8_keep_32a.2.2.2.2.2.2.1) rfl (by decide) wd521 inX8 rfl).to, ?_⟩
  refine List.forall_mem_cons.mpr ⟨(s_aloadn (am_dp pw_X8_keep_32 dd_X8_keep_32a.2.2.2.2.2.2.2) rfl).to, ?_⟩
  refine List.forall_mem_cons.mpr ⟨(s_get (ci := 8) (k := 0) (am_dp pw_X8_keep_32 dd_X8_keep_32b.1) rfl (by decide) wd518 inX8 rfl).to, ?_⟩
  refine List.forall_mem_cons.mpr ⟨(s_get (ci := 6) (k := 7) (am_dp pw_X8_keep_32 dd_X8_keep_32b.2.1) rfl (by decide) wd261 inX6 rfl).to, ?_⟩
  refine List.forall_mem_cons.mpr ⟨(s_iloadn (am_dp pw_X8_keep_32 dd_X8_keep_32b.2.2.1) rfl).to, ?_⟩
  refine List.forall_mem_cons.mpr ⟨(s_iald (am_dp pw_X8_keep_32 dd_X8_keep_32b.2.2.2.1)).to, ?_⟩
  refine List.forall_mem_cons.mpr ⟨(s_aloadn (am_dp pw_X8_keep_32 dd_X8_keep_32b.2.2.2.2.1) rfl).to, ?_⟩
  refine List.forall_mem_cons.mpr ⟨(s_get (ci := 8) (k := 0) (am_dp pw_X8_keep_32 dd_X8_keep_32b.2.2.2.2.2.1) rfl (by decide) wd518 inX8 rfl).to, ?_⟩
  refine List.forall_mem_cons.mpr ⟨(s_get (ci := 6) (k := 7) (am_dp pw_X8_keep_32 dd_X8_keep_32b.2.2.2.2.2.2.1) rfl (by decide) wd261 inX6 rfl).to, ?_⟩
  refine List.forall_mem_cons.mpr ⟨(s_iloadn (am_dp pw_X8_keep_32 dd_X8_keep_32b.2.2.2.2.2.2.2) rfl).to, ?_⟩
  refine List.forall_mem_cons.mpr ⟨(s_iald (am_dp pw_X8_keep_64 dd_X8_keep_64a.1)).to, ?_⟩
  refine List.forall_mem_cons.mpr ⟨(s_aloadn (am_dp pw_X8_keep_64 dd_X8_keep_64a.2.1) rfl).to, ?_⟩
  refine List.forall_mem_cons.mpr ⟨(s_get (ci := 8) (k := 0) (am_dp pw_X8_keep_64 dd_X8_keep_64a.2.2.1) rfl (by decide) wd518 inX8 rfl).to, ?_⟩
  refine List.forall_mem_cons.mpr ⟨(s_get (ci := 6) (k := 6) (am_dp pw_X8_keep_64 dd_X8_keep_64a.2.2.2.1) rfl (by decide) wd258 inX6 rfl).to, ?_⟩
  refine List.forall_mem_cons.mpr ⟨(s_iloadn (am_dp pw_X8_keep_64 dd_X8_keep_64a.2.2.2.2.1) rfl).to, ?_⟩
  refine List.forall_mem_cons.mpr ⟨(s_iald (am_dp pw_X8_keep_64 dd_X8_keep_64a.2.2.2.2.2.1)).to, ?_⟩
  refine List.forall_mem_cons.mpr ⟨(s_aloadn (am_dp pw_X8_keep_64 dd_X8_keep_64a.2.2.2.2.2.2.1) rfl).to, ?_⟩
  refine List.forall_mem_cons.mpr ⟨(s_get (ci := 8) (k := 0) (am_dp pw_X8_keep_64 dd_X8_keep_64a.2.2.2.2.2.2.2) rfl (by decide) wd518 inX8 rfl).to, ?_⟩
  refine List.forall_mem_cons.mpr ⟨(s_get (ci := 6) (k := 6) (am_dp pw_X8_keep_64 dd_X8_keep_64b.1) rfl (by decide) wd258 inX6 rfl).to, ?_⟩
  refine List.forall_mem_cons.mpr ⟨(s_iloadn (am_dp pw_X8_keep_64 dd_X8_keep_64b.2.1) rfl).to, ?_⟩
  refine List.forall_mem_cons.mpr ⟨(s_iald (am_dp pw_X8_keep_64 dd_X8_keep_64b.2.2.1)).to, ?_⟩
  refine List.forall_mem_cons.mpr ⟨(s_isub (am_dp pw_X8_keep_64 dd_X8_keep_64b.2.2.2.1)).to, ?_⟩
  refine List.forall_mem_cons.mpr ⟨zw_cv104 (am_dp pw_X8_keep_64 dd_X8_keep_64b.2.2.2.2.1) wd987, ?_⟩
  refine List.forall_mem_cons.mpr ⟨(s_if_eq (am_dp pw_X8_keep_64 dd_X8_keep_64b.2.2.2.2.2.1) (by decide)).to, ?_⟩
  refine List.forall_mem_cons.mpr ⟨(s_aloadn (am_dp pw_X8_keep_64 dd_X8_keep_64b.2.2.2.2.2.2.1) rfl).to, ?_⟩
  refine List.forall_mem_cons.mpr ⟨(s_get (ci := 8) (k := 10) (am_dp pw_X8_keep_64 dd_X8_keep_64b.2.2.2.2.2.2.2) rfl (by decide) wd532 inX8 rfl).to, ?_⟩
  refine List.forall_mem_cons.mpr ⟨(s_iloadn (am_dp pw_X8_keep_64 dd_X8_keep_64c.1) rfl).to, ?_⟩
  refine List.forall_mem_cons.mpr ⟨(s_iconst (am_dp pw_X8_keep_64 dd_X8_keep_64c.2) (by decide)).to, ?_⟩
  refine List.forall_mem_cons.mpr ⟨(s_zast (am_dp pw_X8_keep_96 dd_X8_keep_96a.1)).to, ?_⟩
  refine List.forall_mem_cons.mpr ⟨(s_aloadn (am_dp pw_X8_keep_96 dd_X8_keep_96a.2.1) rfl).to, ?_⟩
  refine List.forall_mem_cons.mpr ⟨(s_dup (am_dp pw_X8_keep_96 dd_X8_keep_96a.2.2.1)).to, ?_⟩
  refine List.forall_mem_cons.mpr ⟨(s_get (ci := 8) (k := 11) (am_dp pw_X8_keep_96 dd_X8_keep_96a.2.2.2.1) rfl (by decide) wd535 inX8 rfl).to, ?_⟩
  refine List.forall_mem_cons.mpr ⟨(s_iconst (am_dp pw_X8_keep_96 dd_X8_keep_96a.2.2.2.2.1) (by decide)).to, ?_⟩
  refine List.forall_mem_cons.mpr ⟨(s_iadd (am_dp pw_X8_keep_96 dd_X8_keep_96a.2.2.2.2.2.1)).to, ?_⟩
  exact fun _ h => absurd h List.not_mem_nil
theorem sn_tX8_keep_1 : ∀ q ∈ tX8_keep_1, am_Snd am_P0 RX8 cX8_keep 4 (Option.none : Option FieldType) "keep" q.1 q.2 := by
  unfold tX8_keep_1
  refine List.forall_mem_cons.mpr ⟨(s_put (ci := 8) (k := 11) (am_dp pw_X8_keep_96 dd_X8_keep_96a.2.2.2.2.2.2.1) rfl (by decide) wd535 inX8 tyX8_ok nmX8 rfl rfl).to, ?_⟩
  refine List.forall_mem_cons.mpr ⟨(s_iloadn (am_dp pw_X8_keep_96 dd_X8_keep_96a.2.2.2.2.2.2.2) rfl).to, ?_⟩
  refine List.forall_mem_cons.mpr ⟨(s_istoren (am_dp pw_X8_keep_96 dd_X8_keep_96b.1) rfl (by decide)).to, ?_⟩
  refine List.forall_mem_cons.mpr ⟨(s_iinc (am_dp pw_X8_keep_96 dd_X8_keep_96b.2.1) (by decide) (by decide)).to, ?_⟩
  refine List.forall_mem_cons.mpr ⟨(s_goto (am_dp pw_X8_keep_96 dd_X8_keep_96b.2.2.1) (by decide)).to, ?_⟩
  refine List.forall_mem_cons.mpr ⟨s_vret (am_dp pw_X8_keep_96 dd_X8_keep_96b.2.2.2) rfl, ?_⟩
  exact fun _ h => absurd h List.not_mem_nil
theorem sn_tX8_keep : ∀ q ∈ tX8_keep, am_Snd am_P0 RX8 cX8_keep 4 (Option.none : Option FieldType) "keep" q.1 q.2 := by
  unfold tX8_keep
  exact List.forall_mem_append.mpr ⟨sn_tX8_keep_0, sn_tX8_keep_1⟩
theorem sn_tX8_findMay_0 : ∀ q ∈ tX8_findMay_0, am_Snd am_P0 RX8 cX8_findMay 5 (Option.none : Option FieldType) "findMay" q.1 q.2 := by
  unfold tX8_findMay_0
  refine List.forall_mem_cons.mpr ⟨(s_iconst (am_dp pw_X8_findMay_0 dd_X8_findMay_0a.1) (by decide)).to, ?_⟩
  refine List.forall_mem_cons.mpr ⟨(s_istoren (am_dp pw_X8_findMay_0 dd_X8_findMay_0a.2.1) rfl (by decide)).to, ?_⟩
  refine List.forall_mem_cons.mpr ⟨(s_iloadn (am_dp pw_X8_findMay_0 dd_X8_findMay_0a.2.2.1) rfl).to, ?_⟩
  refine List.forall_mem_cons.mpr ⟨(s_aloadn (am_dp pw_X8_findMay_0 dd_X8_findMay_0a.2.2.2.1) rfl).to, ?_⟩
  refine List.forall_mem_cons.mpr ⟨(s_get (ci := 8) (k := 0) (am_dp pw_X8_findMay_0 dd_X8_findMay_0a.2.2.2.2.1) rfl (by decide) wd518 inX8 rfl).to, ?_⟩
  refine List.forall_mem_cons.mpr ⟨(s_get (ci := 6) (k := 5) (am_dp pw_X8_findMay_0 dd_X8_findMay_0a.2.2.2.2.2.1) rfl (by decide) wd254 inX6 rfl).to, ?_⟩
  refine List.forall_mem_cons.mpr ⟨(s_icmp_ge (am_dp pw_X8_findMay_0 dd_X8_findMay_0a.2.2.2.2.2.2.1) (by decide)).to, ?_⟩
  refine List.forall_mem_cons.mpr ⟨(s_aloadn (am_dp pw_X8_findMay_0 dd_X8_findMay_0a.2.2.2.2.2.2.2) rfl).to, ?_⟩
  refine List.forall_mem_cons.mpr ⟨(s_get (ci := 8) (k := 10) (am_dp pw_X8_findMay_0 dd_X8_findMay_0b.1) rfl (by decide) wd532 inX8 rfl).to, ?_⟩
  refine List.forall_mem_cons.mpr ⟨(s_iloadn (am_dp pw_X8_findMay_0 dd_X8_findMay_0b.2.1) rfl).to, ?_⟩
  refine List.forall_mem_cons.mpr ⟨(s_zald (am_dp pw_X8_findMay_0 dd_X8_findMay_0b.2.2.1)).to, ?_⟩
  refine List.forall_mem_cons.mpr ⟨(s_if_eq (am_dp pw_X8_findMay_0 dd_X8_findMay_0b.2.2.2.1) (by decide)).to, ?_⟩
  refine List.forall_mem_cons.mpr ⟨(s_aloadn (am_dp pw_X8_findMay_0 dd_X8_findMay_0b.2.2.2.2.1) rfl).to, ?_⟩
  refine List.forall_mem_cons.mpr ⟨(s_get (ci := 8) (k := 3) (am_dp pw_X8_findMay_0 dd_X8_findMay_0b.2.2.2.2.2.1) rfl (by decide) wd523 inX8 rfl).to, ?_⟩
  refine List.forall_mem_cons.mpr ⟨(s_aloadn (am_dp pw_X8_findMay_0 dd_X8_findMay_0b.2.2.2.2.2.2.1) rfl).to, ?_⟩
  refine List.forall_mem_cons.mpr ⟨(s_get (ci := 8) (k := 0) (am_dp pw_X8_findMay_0 dd_X8_findMay_0b.2.2.2.2.2.2.2) rfl (by decide) wd518 inX8 rfl).to, ?_⟩
  refine List.forall_mem_cons.mpr ⟨(s_get (ci := 6) (k := 6) (am_dp pw_X8_findMay_0 dd_X8_findMay_0c) rfl (by decide) wd258 inX6 rfl).to, ?_⟩
  refine List.forall_mem_cons.mpr ⟨(s_iloadn (am_dp pw_X8_findMay_32 dd_X8_findMay_32a.1) rfl).to, ?_⟩
  refine List.forall_mem_cons.mpr ⟨(s_iald (am_dp pw_X8_findMay_32 dd_X8_findMay_32a.2.1)).to, ?_⟩
  refine List.forall_mem_cons.mpr ⟨(s_aloadn (am_dp pw_X8_findMay_32 dd_X8_findMay_32a.2.2.1) rfl).to, ?_⟩
  refine List.forall_mem_cons.mpr ⟨(s_get (ci := 8) (k := 0) (am_dp pw_X8_findMay_32 dd_X8_findMay_32a.2.2.2.1) rfl (by decide) wd518 inX8 rfl).to, ?_⟩
  refine List.forall_mem_cons.mpr ⟨(s_get (ci := 6) (k := 7) (am_dp pw_X8_findMay_32 dd_X8_findMay_32a.2.2.2.2.1) rfl (by decide) wd261 inX6 rfl).to, ?_⟩
  refine List.forall_mem_cons.mpr ⟨(s_iloadn (am_dp pw_X8_findMay_32 dd_X8_findMay_32a.2.2.2.2.2.1) rfl).to, ?_⟩
  refine List.forall_mem_cons.mpr ⟨(s_iald (am_dp pw_X8_findMay_32 dd_X8_findMay_32a.2.2.2.2.2.2.1)).to, ?_⟩
  refine List.forall_mem_cons.mpr ⟨zw_cv7 (am_dp pw_X8_findMay_32 dd_X8_findMay_32a.2.2.2.2.2.2.2) wd946, ?_⟩
  refine List.forall_mem_cons.mpr ⟨(s_pop (am_dp pw_X8_findMay_32 dd_X8_findMay_32b.1)).to, ?_⟩
  refine List.forall_mem_cons.mpr ⟨(s_iinc (am_dp pw_X8_findMay_32 dd_X8_findMay_32b.2.1) (by decide) (by decide)).to, ?_⟩
  refine List.forall_mem_cons.mpr ⟨(s_goto (am_dp pw_X8_findMay_32 dd_X8_findMay_32b.2.2.1) (by decide)).to, ?_⟩
  refine List.forall_mem_cons.mpr ⟨(s_iconst (am_dp pw_X8_findMay_32 dd_X8_findMay_32b.2.2.2.1) (by decide)).to, ?_⟩
  refine List.forall_mem_cons.mpr ⟨(s_istoren (am_dp pw_X8_findMay_32 dd_X8_findMay_32b.2.2.2.2.1) rfl (by decide)).to, ?_⟩
  refine List.forall_mem_cons.mpr ⟨(s_iconst (am_dp pw_X8_findMay_32 dd_X8_findMay_32b.2.2.2.2.2.1) (by decide)).to, ?_⟩
  refine List.forall_mem_cons.mpr ⟨(s_istoren (am_dp pw_X8_findMay_32 dd_X8_findMay_32b.2.2.2.2.2.2.1) rfl (by decide)).to, ?_⟩
  refine List.forall_mem_cons.mpr ⟨(s_iloadn (am_dp pw_X8_findMay_32 dd_X8_findMay_32b.2.2.2.2.2.2.2) rfl).to, ?_⟩
  refine List.forall_mem_cons.mpr ⟨(s_bipush (am_dp pw_X8_findMay_32 dd_X8_findMay_32c.1) (by decide)).to, ?_⟩
  refine List.forall_mem_cons.mpr ⟨(s_icmp_ge (am_dp pw_X8_findMay_32 dd_X8_findMay_32c.2) (by decide)).to, ?_⟩
  refine List.forall_mem_cons.mpr ⟨(s_aloadn (am_dp pw_X8_findMay_64 dd_X8_findMay_64a.1) rfl).to, ?_⟩
  refine List.forall_mem_cons.mpr ⟨(s_get (ci := 8) (k := 3) (am_dp pw_X8_findMay_64 dd_X8_findMay_64a.2.1) rfl (by decide) wd523 inX8 rfl).to, ?_⟩
  refine List.forall_mem_cons.mpr ⟨(s_get (ci := 1) (k := 0) (am_dp pw_X8_findMay_64 dd_X8_findMay_64a.2.2.1) rfl (by decide) wd514 inX1 rfl).to, ?_⟩
  refine List.forall_mem_cons.mpr ⟨(s_iloadn (am_dp pw_X8_findMay_64 dd_X8_findMay_64a.2.2.2.1) rfl).to, ?_⟩
  refine List.forall_mem_cons.mpr ⟨(s_iald (am_dp pw_X8_findMay_64 dd_X8_findMay_64a.2.2.2.2.1)).to, ?_⟩
  refine List.forall_mem_cons.mpr ⟨(s_iconst (am_dp pw_X8_findMay_64 dd_X8_findMay_64a.2.2.2.2.2.1) (by decide)).to, ?_⟩
  refine List.forall_mem_cons.mpr ⟨(s_icmp_ne (am_dp pw_X8_findMay_64 dd_X8_findMay_64a.2.2.2.2.2.2.1) (by decide)).to, ?_⟩
  refine List.forall_mem_cons.mpr ⟨(s_iloadn (am_dp pw_X8_findMay_64 dd_X8_findMay_64a.2.2.2.2.2.2.2) rfl).to, ?_⟩
  refine List.forall_mem_cons.mpr ⟨(s_goto (am_dp pw_X8_findMay_64 dd_X8_findMay_64b.1) (by decide)).to, ?_⟩
  refine List.forall_mem_cons.mpr ⟨(s_iloadn (am_dp pw_X8_findMay_64 dd_X8_findMay_64b.2.1) rfl).to, ?_⟩
  refine List.forall_mem_cons.mpr ⟨(s_istoren (am_dp pw_X8_findMay_64 dd_X8_findMay_64b.2.2.1) rfl (by decide)).to, ?_⟩
  refine List.forall_mem_cons.mpr ⟨(s_iloadn (am_dp pw_X8_findMay_64 dd_X8_findMay_64b.2.2.2.1) rfl).to, ?_⟩
  refine List.forall_mem_cons.mpr ⟨(s_iconst (am_dp pw_X8_findMay_64 dd_X8_findMay_64b.2.2.2.2.1) (by decide)).to, ?_⟩
  refine List.forall_mem_cons.mpr ⟨(s_icmp_ne (am_dp pw_X8_findMay_64 dd_X8_findMay_64b.2.2.2.2.2.1) (by decide)).to, ?_⟩
  refine List.forall_mem_cons.mpr ⟨(s_aloadn (am_dp pw_X8_findMay_64 dd_X8_findMay_64b.2.2.2.2.2.2.1) rfl).to, ?_⟩
  refine List.forall_mem_cons.mpr ⟨(s_get (ci := 8) (k := 2) (am_dp pw_X8_findMay_64 dd_X8_findMay_64b.2.2.2.2.2.2.2) rfl (by decide) wd521 inX8 rfl).to, ?_⟩
  refine List.forall_mem_cons.mpr ⟨(s_get (ci := 9) (k := 0) (am_dp pw_X8_findMay_64 dd_X8_findMay_64c.1) rfl (by decide) wd491 inX9 rfl).to, ?_⟩
  refine List.forall_mem_cons.mpr ⟨(s_goto (am_dp pw_X8_findMay_64 dd_X8_findMay_64c.2) (by decide)).to, ?_⟩
  refine List.forall_mem_cons.mpr ⟨(s_aloadn (am_dp pw_X8_findMay_96 dd_X8_findMay_96a.1) rfl).to, ?_⟩
  refine List.forall_mem_cons.mpr ⟨(s_get (ci := 8) (k := 2) (am_dp pw_X8_findMay_96 dd_X8_findMay_96a.2.1) rfl (by decide) wd521 inX8 rfl).to, ?_⟩
  refine List.forall_mem_cons.mpr ⟨(s_aloadn (am_dp pw_X8_findMay_96 dd_X8_findMay_96a.2.2.1) rfl).to, ?_⟩
  refine List.forall_mem_cons.mpr ⟨(s_get (ci := 8) (k := 3) (am_dp pw_X8_findMay_96 dd_X8_findMay_96a.2.2.2.1) rfl (by decide) wd523 inX8 rfl).to, ?_⟩
  refine List.forall_mem_cons.mpr ⟨(s_get (ci := 1) (k := 0) (am_dp pw_X8_findMay_96 dd_X8_findMay_96a.2.2.2.2.1) rfl (by decide) wd514 inX1 rfl).to, ?_⟩
  refine List.forall_mem_cons.mpr ⟨(s_iloadn (am_dp pw_X8_findMay_96 dd_X8_findMay_96a.2.2.2.2.2.1) rfl).to, ?_⟩
  refine List.forall_mem_cons.mpr ⟨(s_iald (am_dp pw_X8_findMay_96 dd_X8_findMay_96a.2.2.2.2.2.2.1)).to, ?_⟩
  exact fun _ h => absurd h List.not_mem_nil
theorem sn_tX8_findMay_1 : ∀ q ∈ tX8_findMay_1, am_Snd am_P0 RX8 cX8_findMay 5 (Option.none : Option FieldType) "findMay" q.1 q.2 := by
  unfold tX8_findMay_1
  refine List.forall_mem_cons.mpr ⟨zw_cv105 (am_dp pw_X8_findMay_96 dd_X8_findMay_96a.2.2.2.2.2.2.2) wd993, ?_⟩
  refine List.forall_mem_cons.mpr ⟨(s_astoren (am_dp pw_X8_findMay_96 dd_X8_findMay_96b.1) rfl (by decide)).to, ?_⟩
  refine List.forall_mem_cons.mpr ⟨(s_iloadn (am_dp pw_X8_findMay_96 dd_X8_findMay_96b.2.1) rfl).to, ?_⟩
  refine List.forall_mem_cons.mpr ⟨(s_iconst (am_dp pw_X8_findMay_96 dd_X8_findMay_96b.2.2.1) (by decide)).to, ?_⟩
  refine List.forall_mem_cons.mpr ⟨(s_icmp_ne (am_dp pw_X8_findMay_96 dd_X8_findMay_96b.2.2.2.1) (by decide)).to, ?_⟩
  refine List.forall_mem_cons.mpr ⟨(s_iconst (am_dp pw_X8_findMay_96 dd_X8_findMay_96b.2.2.2.2.1) (by decide)).to, ?_⟩
  refine List.forall_mem_cons.mpr ⟨(s_goto (am_dp pw_X8_findMay_96 dd_X8_findMay_96b.2.2.2.2.2.1) (by decide)).to, ?_⟩
  refine List.forall_mem_cons.mpr ⟨(s_iloadn (am_dp pw_X8_findMay_96 dd_X8_findMay_96b.2.2.2.2.2.2.1) rfl).to, ?_⟩
  refine List.forall_mem_cons.mpr ⟨(s_iloadn (am_dp pw_X8_findMay_96 dd_X8_findMay_96b.2.2.2.2.2.2.2) rfl).to, ?_⟩
  refine List.forall_mem_cons.mpr ⟨(s_isub (am_dp pw_X8_findMay_96 dd_X8_findMay_96c.1)).to, ?_⟩
  refine List.forall_mem_cons.mpr ⟨(s_iconst (am_dp pw_X8_findMay_96 dd_X8_findMay_96c.2) (by decide)).to, ?_⟩
  refine List.forall_mem_cons.mpr ⟨(s_imul (am_dp pw_X8_findMay_128 dd_X8_findMay_128a.1)).to, ?_⟩
  refine List.forall_mem_cons.mpr ⟨(s_istore (am_dp pw_X8_findMay_128 dd_X8_findMay_128a.2.1) (by decide)).to, ?_⟩
  refine List.forall_mem_cons.mpr ⟨(s_aloadn (am_dp pw_X8_findMay_128 dd_X8_findMay_128a.2.2.1) rfl).to, ?_⟩
  refine List.forall_mem_cons.mpr ⟨(s_iload (am_dp pw_X8_findMay_128 dd_X8_findMay_128a.2.2.2.1)).to, ?_⟩
  refine List.forall_mem_cons.mpr ⟨(s_aloadn (am_dp pw_X8_findMay_128 dd_X8_findMay_128a.2.2.2.2.1) rfl).to, ?_⟩
  refine List.forall_mem_cons.mpr ⟨(s_get (ci := 8) (k := 12) (am_dp pw_X8_findMay_128 dd_X8_findMay_128a.2.2.2.2.2.1) rfl (by decide) wd536 inX8 rfl).to, ?_⟩
  refine List.forall_mem_cons.mpr ⟨(s_iloadn (am_dp pw_X8_findMay_128 dd_X8_findMay_128a.2.2.2.2.2.2.1) rfl).to, ?_⟩
  refine List.forall_mem_cons.mpr ⟨(s_iconst (am_dp pw_X8_findMay_128 dd_X8_findMay_128a.2.2.2.2.2.2.2) (by decide)).to, ?_⟩
  refine List.forall_mem_cons.mpr ⟨(s_imul (am_dp pw_X8_findMay_128 dd_X8_findMay_128b.1)).to, ?_⟩
  refine List.forall_mem_cons.mpr ⟨(s_iconst (am_dp pw_X8_findMay_128 dd_X8_findMay_128b.2.1) (by decide)).to, ?_⟩
  refine List.forall_mem_cons.mpr ⟨(s_cpl (am_dp pw_X8_findMay_128 dd_X8_findMay_128b.2.2.1) wd1003 wd968 wd967 wd152).to, ?_⟩
  refine List.forall_mem_cons.mpr ⟨(s_iinc (am_dp pw_X8_findMay_128 dd_X8_findMay_128b.2.2.2.1) (by decide) (by decide)).to, ?_⟩
  refine List.forall_mem_cons.mpr ⟨(s_goto (am_dp pw_X8_findMay_128 dd_X8_findMay_128b.2.2.2.2.1) (by decide)).to, ?_⟩
  refine List.forall_mem_cons.mpr ⟨(s_iconst (am_dp pw_X8_findMay_128 dd_X8_findMay_128b.2.2.2.2.2.1) (by decide)).to, ?_⟩
  refine List.forall_mem_cons.mpr ⟨(s_istoren (am_dp pw_X8_findMay_128 dd_X8_findMay_128b.2.2.2.2.2.2.1) rfl (by decide)).to, ?_⟩
  refine List.forall_mem_cons.mpr ⟨(s_bipush (am_dp pw_X8_findMay_128 dd_X8_findMay_128b.2.2.2.2.2.2.2) (by decide)).to, ?_⟩
  refine List.forall_mem_cons.mpr ⟨(s_istoren (am_dp pw_X8_findMay_128 dd_X8_findMay_128c.1) rfl (by decide)).to, ?_⟩
  refine List.forall_mem_cons.mpr ⟨(s_iloadn (am_dp pw_X8_findMay_128 dd_X8_findMay_128c.2.1) rfl).to, ?_⟩
  refine List.forall_mem_cons.mpr ⟨(s_if_lt (am_dp pw_X8_findMay_128 dd_X8_findMay_128c.2.2) (by decide)).to, ?_⟩
  refine List.forall_mem_cons.mpr ⟨(s_aloadn (am_dp pw_X8_findMay_160 dd_X8_findMay_160a.1) rfl).to, ?_⟩
  refine List.forall_mem_cons.mpr ⟨(s_get (ci := 8) (k := 3) (am_dp pw_X8_findMay_160 dd_X8_findMay_160a.2.1) rfl (by decide) wd523 inX8 rfl).to, ?_⟩
  refine List.forall_mem_cons.mpr ⟨(s_get (ci := 1) (k := 0) (am_dp pw_X8_findMay_160 dd_X8_findMay_160a.2.2.1) rfl (by decide) wd514 inX1 rfl).to, ?_⟩
  refine List.forall_mem_cons.mpr ⟨(s_iloadn (am_dp pw_X8_findMay_160 dd_X8_findMay_160a.2.2.2.1) rfl).to, ?_⟩
  refine List.forall_mem_cons.mpr ⟨(s_iald (am_dp pw_X8_findMay_160 dd_X8_findMay_160a.2.2.2.2.1)).to, ?_⟩
  refine List.forall_mem_cons.mpr ⟨(s_iconst (am_dp pw_X8_findMay_160 dd_X8_findMay_160a.2.2.2.2.2.1) (by decide)).to, ?_⟩
  refine List.forall_mem_cons.mpr ⟨(s_icmp_ne (am_dp pw_X8_findMay_160 dd_X8_findMay_160a.2.2.2.2.2.2.1) (by decide)).to, ?_⟩
  refine List.forall_mem_cons.mpr ⟨(s_iloadn (am_dp pw_X8_findMay_160 dd_X8_findMay_160a.2.2.2.2.2.2.2) rfl).to, ?_⟩
  refine List.forall_mem_cons.mpr ⟨(s_goto (am_dp pw_X8_findMay_160 dd_X8_findMay_160b.1) (by decide)).to, ?_⟩
  refine List.forall_mem_cons.mpr ⟨(s_iloadn (am_dp pw_X8_findMay_160 dd_X8_findMay_160b.2.1) rfl).to, ?_⟩
  refine List.forall_mem_cons.mpr ⟨(s_istoren (am_dp pw_X8_findMay_160 dd_X8_findMay_160b.2.2.1) rfl (by decide)).to, ?_⟩
  refine List.forall_mem_cons.mpr ⟨(s_iconst (am_dp pw_X8_findMay_160 dd_X8_findMay_160b.2.2.2.1) (by decide)).to, ?_⟩
  refine List.forall_mem_cons.mpr ⟨(s_istoren (am_dp pw_X8_findMay_160 dd_X8_findMay_160b.2.2.2.2.1) rfl (by decide)).to, ?_⟩
  refine List.forall_mem_cons.mpr ⟨(s_iloadn (am_dp pw_X8_findMay_160 dd_X8_findMay_160b.2.2.2.2.2.1) rfl).to, ?_⟩
  refine List.forall_mem_cons.mpr ⟨(s_iconst (am_dp pw_X8_findMay_160 dd_X8_findMay_160b.2.2.2.2.2.2.1) (by decide)).to, ?_⟩
  refine List.forall_mem_cons.mpr ⟨(s_icmp_eq (am_dp pw_X8_findMay_160 dd_X8_findMay_160b.2.2.2.2.2.2.2) (by decide)).to, ?_⟩
  refine List.forall_mem_cons.mpr ⟨(s_iloadn (am_dp pw_X8_findMay_160 dd_X8_findMay_160c.1) rfl).to, ?_⟩
  refine List.forall_mem_cons.mpr ⟨(s_iconst (am_dp pw_X8_findMay_160 dd_X8_findMay_160c.2.1) (by decide)).to, ?_⟩
  refine List.forall_mem_cons.mpr ⟨(s_icmp_ge (am_dp pw_X8_findMay_160 dd_X8_findMay_160c.2.2.1) (by decide)).to, ?_⟩
  refine List.forall_mem_cons.mpr ⟨(s_aloadn (am_dp pw_X8_findMay_160 dd_X8_findMay_160c.2.2.2) rfl).to, ?_⟩
  refine List.forall_mem_cons.mpr ⟨(s_get (ci := 8) (k := 12) (am_dp pw_X8_findMay_192 dd_X8_findMay_192a.1) rfl (by decide) wd536 inX8 rfl).to, ?_⟩
  refine List.forall_mem_cons.mpr ⟨(s_iloadn (am_dp pw_X8_findMay_192 dd_X8_findMay_192a.2.1) rfl).to, ?_⟩
  refine List.forall_mem_cons.mpr ⟨(s_iconst (am_dp pw_X8_findMay_192 dd_X8_findMay_192a.2.2.1) (by decide)).to, ?_⟩
  refine List.forall_mem_cons.mpr ⟨(s_imul (am_dp pw_X8_findMay_192 dd_X8_findMay_192a.2.2.2.1)).to, ?_⟩
  refine List.forall_mem_cons.mpr ⟨(s_iloadn (am_dp pw_X8_findMay_192 dd_X8_findMay_192a.2.2.2.2.1) rfl).to, ?_⟩
  refine List.forall_mem_cons.mpr ⟨(s_iadd (am_dp pw_X8_findMay_192 dd_X8_findMay_192a.2.2.2.2.2.1)).to, ?_⟩
  refine List.forall_mem_cons.mpr ⟨(s_dup2 (am_dp pw_X8_findMay_192 dd_X8_findMay_192a.2.2.2.2.2.2.1)).to, ?_⟩
  refine List.forall_mem_cons.mpr ⟨(s_lald (am_dp pw_X8_findMay_192 dd_X8_findMay_192a.2.2.2.2.2.2.2)).to, ?_⟩
  refine List.forall_mem_cons.mpr ⟨(s_aloadn (am_dp pw_X8_findMay_192 dd_X8_findMay_192b.1) rfl).to, ?_⟩
  refine List.forall_mem_cons.mpr ⟨(s_get (ci := 8) (k := 2) (am_dp pw_X8_findMay_192 dd_X8_findMay_192b.2.1) rfl (by decide) wd521 inX8 rfl).to, ?_⟩
  exact fun _ h => absurd h List.not_mem_nil
theorem sn_tX8_findMay_2 : ∀ q ∈ tX8_findMay_2, am_Snd am_P0 RX8 cX8_findMay 5 (Option.none : Option FieldType) "findMay" q.1 q.2 := by
  unfold tX8_findMay_2
  refine List.forall_mem_cons.mpr ⟨(s_aloadn (am_dp pw_X8_findMay_192 dd_X8_findMay_192b.2.2.1) rfl).to, ?_⟩
  refine List.forall_mem_cons.mpr ⟨(s_get (ci := 8) (k := 3) (am_dp pw_X8_findMay_192 dd_X8_findMay_192b.2.2.2.1) rfl (by decide) wd523 inX8 rfl).to, ?_⟩
  refine List.forall_mem_cons.mpr ⟨(s_get (ci := 1) (k := 0) (am_dp pw_X8_findMay_192 dd_X8_findMay_192b.2.2.2.2.1) rfl (by decide) wd514 inX1 rfl).to, ?_⟩
  refine List.forall_mem_cons.mpr ⟨(s_iloadn (am_dp pw_X8_findMay_192 dd_X8_findMay_192b.2.2.2.2.2.1) rfl).to, ?_⟩
  refine List.forall_mem_cons.mpr ⟨(s_iald (am_dp pw_X8_findMay_192 dd_X8_findMay_192b.2.2.2.2.2.2.1)).to, ?_⟩
  refine List.forall_mem_cons.mpr ⟨zw_cv105 (am_dp pw_X8_findMay_192 dd_X8_findMay_192b.2.2.2.2.2.2.2) wd993, ?_⟩
  refine List.forall_mem_cons.mpr ⟨(s_iloadn (am_dp pw_X8_findMay_192 dd_X8_findMay_192c.1) rfl).to, ?_⟩
  refine List.forall_mem_cons.mpr ⟨(s_iloadn (am_dp pw_X8_findMay_192 dd_X8_findMay_192c.2.1) rfl).to, ?_⟩
  refine List.forall_mem_cons.mpr ⟨(s_isub (am_dp pw_X8_findMay_192 dd_X8_findMay_192c.2.2.1)).to, ?_⟩
  refine List.forall_mem_cons.mpr ⟨(s_iconst (am_dp pw_X8_findMay_192 dd_X8_findMay_192c.2.2.2.1) (by decide)).to, ?_⟩
  refine List.forall_mem_cons.mpr ⟨(s_imul (am_dp pw_X8_findMay_192 dd_X8_findMay_192c.2.2.2.2.1)).to, ?_⟩
  refine List.forall_mem_cons.mpr ⟨(s_iloadn (am_dp pw_X8_findMay_192 dd_X8_findMay_192c.2.2.2.2.2) rfl).to, ?_⟩
  refine List.forall_mem_cons.mpr ⟨(s_iadd (am_dp pw_X8_findMay_224 dd_X8_findMay_224a.1)).to, ?_⟩
  refine List.forall_mem_cons.mpr ⟨(s_lald (am_dp pw_X8_findMay_224 dd_X8_findMay_224a.2.1)).to, ?_⟩
  refine List.forall_mem_cons.mpr ⟨(s_land (am_dp pw_X8_findMay_224 dd_X8_findMay_224a.2.2.1)).to, ?_⟩
  refine List.forall_mem_cons.mpr ⟨(s_last (am_dp pw_X8_findMay_224 dd_X8_findMay_224a.2.2.2.1)).to, ?_⟩
  refine List.forall_mem_cons.mpr ⟨(s_iinc (am_dp pw_X8_findMay_224 dd_X8_findMay_224a.2.2.2.2.1) (by decide) (by decide)).to, ?_⟩
  refine List.forall_mem_cons.mpr ⟨(s_goto (am_dp pw_X8_findMay_224 dd_X8_findMay_224a.2.2.2.2.2.1) (by decide)).to, ?_⟩
  refine List.forall_mem_cons.mpr ⟨(s_iinc (am_dp pw_X8_findMay_224 dd_X8_findMay_224a.2.2.2.2.2.2.1) (by decide) (by decide)).to, ?_⟩
  refine List.forall_mem_cons.mpr ⟨(s_goto (am_dp pw_X8_findMay_224 dd_X8_findMay_224a.2.2.2.2.2.2.2) (by decide)).to, ?_⟩
  refine List.forall_mem_cons.mpr ⟨s_vret (am_dp pw_X8_findMay_224 dd_X8_findMay_224b) rfl, ?_⟩
  exact fun _ h => absurd h List.not_mem_nil
theorem sn_tX8_findMay : ∀ q ∈ tX8_findMay, am_Snd am_P0 RX8 cX8_findMay 5 (Option.none : Option FieldType) "findMay" q.1 q.2 := by
  unfold tX8_findMay
  exact List.forall_mem_append.mpr ⟨List.forall_mem_append.mpr ⟨sn_tX8_findMay_0, sn_tX8_findMay_1⟩, sn_tX8_findMay_2⟩
theorem sn_tX8_mayBe : ∀ q ∈ tX8_mayBe, am_Snd am_P0 RX8 cX8_mayBe 3 (Option.some FieldType.boolean) "mayBe" q.1 q.2 := by
  unfold tX8_mayBe
  refine List.forall_mem_cons.mpr ⟨(s_aloadn (am_dp pw_X8_mayBe_0 dd_X8_mayBe_0a.1) rfl).to, ?_⟩
  refine List.forall_mem_cons.mpr ⟨(s_get (ci := 8) (k := 12) (am_dp pw_X8_mayBe_0 dd_X8_mayBe_0a.2.1) rfl (by decide) wd536 inX8 rfl).to, ?_⟩
  refine List.forall_mem_cons.mpr ⟨(s_iloadn (am_dp pw_X8_mayBe_0 dd_X8_mayBe_0a.2.2.1) rfl).to, ?_⟩
  refine List.forall_mem_cons.mpr ⟨(s_iconst (am_dp pw_X8_mayBe_0 dd_X8_mayBe_0a.2.2.2.1) (by decide)).to, ?_⟩
  refine List.forall_mem_cons.mpr ⟨(s_imul (am_dp pw_X8_mayBe_0 dd_X8_mayBe_0a.2.2.2.2.1)).to, ?_⟩
  refine List.forall_mem_cons.mpr ⟨(s_iloadn (am_dp pw_X8_mayBe_0 dd_X8_mayBe_0a.2.2.2.2.2.1) rfl).to, ?_⟩
  refine List.forall_mem_cons.mpr ⟨(s_bipush (am_dp pw_X8_mayBe_0 dd_X8_mayBe_0a.2.2.2.2.2.2.1) (by decide)).to, ?_⟩
  refine List.forall_mem_cons.mpr ⟨(s_ishr (am_dp pw_X8_mayBe_0 dd_X8_mayBe_0a.2.2.2.2.2.2.2)).to, ?_⟩
  refine List.forall_mem_cons.mpr ⟨(s_iadd (am_dp pw_X8_mayBe_0 dd_X8_mayBe_0b.1)).to, ?_⟩
  refine List.forall_mem_cons.mpr ⟨(s_lald (am_dp pw_X8_mayBe_0 dd_X8_mayBe_0b.2.1)).to, ?_⟩
  refine List.forall_mem_cons.mpr ⟨(s_iloadn (am_dp pw_X8_mayBe_0 dd_X8_mayBe_0b.2.2.1) rfl).to, ?_⟩
  refine List.forall_mem_cons.mpr ⟨(s_bipush (am_dp pw_X8_mayBe_0 dd_X8_mayBe_0b.2.2.2.1) (by decide)).to, ?_⟩
  refine List.forall_mem_cons.mpr ⟨(s_iand (am_dp pw_X8_mayBe_0 dd_X8_mayBe_0b.2.2.2.2.1)).to, ?_⟩
  refine List.forall_mem_cons.mpr ⟨(s_lushr (am_dp pw_X8_mayBe_0 dd_X8_mayBe_0b.2.2.2.2.2.1)).to, ?_⟩
  refine List.forall_mem_cons.mpr ⟨(s_lconst (am_dp pw_X8_mayBe_0 dd_X8_mayBe_0b.2.2.2.2.2.2.1) (by decide)).to, ?_⟩
  refine List.forall_mem_cons.mpr ⟨(s_land (am_dp pw_X8_mayBe_0 dd_X8_mayBe_0b.2.2.2.2.2.2.2)).to, ?_⟩
  refine List.forall_mem_cons.mpr ⟨(s_lconst (am_dp pw_X8_mayBe_0 dd_X8_mayBe_0c.1) (by decide)).to, ?_⟩
  refine List.forall_mem_cons.mpr ⟨(s_lcmp (am_dp pw_X8_mayBe_0 dd_X8_mayBe_0c.2.1)).to, ?_⟩
  refine List.forall_mem_cons.mpr ⟨(s_if_eq (am_dp pw_X8_mayBe_0 dd_X8_mayBe_0c.2.2.1) (by decide)).to, ?_⟩
  refine List.forall_mem_cons.mpr ⟨(s_iconst (am_dp pw_X8_mayBe_0 dd_X8_mayBe_0c.2.2.2.1) (by decide)).to, ?_⟩
  refine List.forall_mem_cons.mpr ⟨(s_goto (am_dp pw_X8_mayBe_0 dd_X8_mayBe_0c.2.2.2.2.1) (by decide)).to, ?_⟩
  refine List.forall_mem_cons.mpr ⟨(s_iconst (am_dp pw_X8_mayBe_0 dd_X8_mayBe_0c.2.2.2.2.2.1) (by decide)).to, ?_⟩
  refine List.forall_mem_cons.mpr ⟨s_zret (am_dp pw_X8_mayBe_0 dd_X8_mayBe_0c.2.2.2.2.2.2) rfl, ?_⟩
  exact fun _ h => absurd h List.not_mem_nil
theorem sn_tX8_countMay : ∀ q ∈ tX8_countMay, am_Snd am_P0 RX8 cX8_countMay 2 (Option.some FieldType.int) "countMay" q.1 q.2 := by
  unfold tX8_countMay
  refine List.forall_mem_cons.mpr ⟨(s_aloadn (am_dp pw_X8_countMay_0 dd_X8_countMay_0a.1) rfl).to, ?_⟩
  refine List.forall_mem_cons.mpr ⟨(s_aloadn (am_dp pw_X8_countMay_0 dd_X8_countMay_0a.2.1) rfl).to, ?_⟩
  refine List.forall_mem_cons.mpr ⟨(s_iloadn (am_dp pw_X8_countMay_0 dd_X8_countMay_0a.2.2.1) rfl).to, ?_⟩
  refine List.forall_mem_cons.mpr ⟨zw_cv90 (am_dp pw_X8_countMay_0 dd_X8_countMay_0a.2.2.2.1) wd1068, ?_⟩
  refine List.forall_mem_cons.mpr ⟨s_iret (am_dp pw_X8_countMay_0 dd_X8_countMay_0a.2.2.2.2) rfl, ?_⟩
  exact fun _ h => absurd h List.not_mem_nil
theorem sn_tX8_countShared : ∀ q ∈ tX8_countShared, am_Snd am_P0 RX8 cX8_countShared 5 (Option.some FieldType.int) "countShared" q.1 q.2 := by
  unfold tX8_countShared
  refine List.forall_mem_cons.mpr ⟨(s_iconst (am_dp pw_X8_countShared_0 dd_X8_countShared_0a.1) (by decide)).to, ?_⟩
  refine List.forall_mem_cons.mpr ⟨(s_istoren (am_dp pw_X8_countShared_0 dd_X8_countShared_0a.2.1) rfl (by decide)).to, ?_⟩
  refine List.forall_mem_cons.mpr ⟨(s_iloadn (am_dp pw_X8_countShared_0 dd_X8_countShared_0a.2.2.1) rfl).to, ?_⟩
  refine List.forall_mem_cons.mpr ⟨(s_iconst (am_dp pw_X8_countShared_0 dd_X8_countShared_0a.2.2.2.1) (by decide)).to, ?_⟩
  refine List.forall_mem_cons.mpr ⟨(s_imul (am_dp pw_X8_countShared_0 dd_X8_countShared_0a.2.2.2.2.1)).to, ?_⟩
  refine List.forall_mem_cons.mpr ⟨(s_istore (am_dp pw_X8_countShared_0 dd_X8_countShared_0a.2.2.2.2.2.1) (by decide)).to, ?_⟩
  refine List.forall_mem_cons.mpr ⟨(s_iload (am_dp pw_X8_countShared_0 dd_X8_countShared_0a.2.2.2.2.2.2.1)).to, ?_⟩
  refine List.forall_mem_cons.mpr ⟨(s_iloadn (am_dp pw_X8_countShared_0 dd_X8_countShared_0a.2.2.2.2.2.2.2) rfl).to, ?_⟩
  refine List.forall_mem_cons.mpr ⟨(s_iconst (am_dp pw_X8_countShared_0 dd_X8_countShared_0b.1) (by decide)).to, ?_⟩
  refine List.forall_mem_cons.mpr ⟨(s_iadd (am_dp pw_X8_countShared_0 dd_X8_countShared_0b.2.1)).to, ?_⟩
  refine List.forall_mem_cons.mpr ⟨(s_iconst (am_dp pw_X8_countShared_0 dd_X8_countShared_0b.2.2.1) (by decide)).to, ?_⟩
  refine List.forall_mem_cons.mpr ⟨(s_imul (am_dp pw_X8_countShared_0 dd_X8_countShared_0b.2.2.2.1)).to, ?_⟩
  refine List.forall_mem_cons.mpr ⟨(s_icmp_ge (am_dp pw_X8_countShared_0 dd_X8_countShared_0b.2.2.2.2.1) (by decide)).to, ?_⟩
  refine List.forall_mem_cons.mpr ⟨(s_iloadn (am_dp pw_X8_countShared_0 dd_X8_countShared_0b.2.2.2.2.2.1) rfl).to, ?_⟩
  refine List.forall_mem_cons.mpr ⟨(s_aloadn (am_dp pw_X8_countShared_0 dd_X8_countShared_0b.2.2.2.2.2.2.1) rfl).to, ?_⟩
  refine List.forall_mem_cons.mpr ⟨(s_get (ci := 8) (k := 12) (am_dp pw_X8_countShared_0 dd_X8_countShared_0b.2.2.2.2.2.2.2) rfl (by decide) wd536 inX8 rfl).to, ?_⟩
  refine List.forall_mem_cons.mpr ⟨(s_iload (am_dp pw_X8_countShared_0 dd_X8_countShared_0c.1)).to, ?_⟩
  refine List.forall_mem_cons.mpr ⟨(s_lald (am_dp pw_X8_countShared_0 dd_X8_countShared_0c.2.1)).to, ?_⟩
  refine List.forall_mem_cons.mpr ⟨(s_aloadn (am_dp pw_X8_countShared_0 dd_X8_countShared_0c.2.2.1) rfl).to, ?_⟩
  refine List.forall_mem_cons.mpr ⟨(s_get (ci := 8) (k := 12) (am_dp pw_X8_countShared_0 dd_X8_countShared_0c.2.2.2.1) rfl (by decide) wd536 inX8 rfl).to, ?_⟩
  refine List.forall_mem_cons.mpr ⟨(s_iload (am_dp pw_X8_countShared_0 dd_X8_countShared_0c.2.2.2.2.1)).to, ?_⟩
  refine List.forall_mem_cons.mpr ⟨(s_lald (am_dp pw_X8_countShared_0 dd_X8_countShared_0c.2.2.2.2.2)).to, ?_⟩
  refine List.forall_mem_cons.mpr ⟨(s_land (am_dp pw_X8_countShared_32 dd_X8_countShared_32a.1)).to, ?_⟩
  refine List.forall_mem_cons.mpr ⟨zw_cs303 (am_dp pw_X8_countShared_32 dd_X8_countShared_32a.2.1) wd1072, ?_⟩
  refine List.forall_mem_cons.mpr ⟨(s_iadd (am_dp pw_X8_countShared_32 dd_X8_countShared_32a.2.2.1)).to, ?_⟩
  refine List.forall_mem_cons.mpr ⟨(s_istoren (am_dp pw_X8_countShared_32 dd_X8_countShared_32a.2.2.2.1) rfl (by decide)).to, ?_⟩
  refine List.forall_mem_cons.mpr ⟨(s_iinc (am_dp pw_X8_countShared_32 dd_X8_countShared_32a.2.2.2.2.1) (by decide) (by decide)).to, ?_⟩
  refine List.forall_mem_cons.mpr ⟨(s_goto (am_dp pw_X8_countShared_32 dd_X8_countShared_32a.2.2.2.2.2.1) (by decide)).to, ?_⟩
  refine List.forall_mem_cons.mpr ⟨(s_iloadn (am_dp pw_X8_countShared_32 dd_X8_countShared_32a.2.2.2.2.2.2.1) rfl).to, ?_⟩
  refine List.forall_mem_cons.mpr ⟨s_iret (am_dp pw_X8_countShared_32 dd_X8_countShared_32a.2.2.2.2.2.2.2) rfl, ?_⟩
  exact fun _ h => absurd h List.not_mem_nil
theorem sn_tX8_clashAlone : ∀ q ∈ tX8_clashAlone, am_Snd am_P0 RX8 cX8_clashAlone 2 (Option.some FieldType.int) "clashAlone" q.1 q.2 := by
  unfold tX8_clashAlone
  refine List.forall_mem_cons.mpr ⟨(s_iconst (am_dp pw_X8_clashAlone_0 dd_X8_clashAlone_0a.1) (by decide)).to, ?_⟩
  refine List.forall_mem_cons.mpr ⟨(s_istoren (am_dp pw_X8_clashAlone_0 dd_X8_clashAlone_0a.2.1) rfl (by decide)).to, ?_⟩
  refine List.forall_mem_cons.mpr ⟨(s_iloadn (am_dp pw_X8_clashAlone_0 dd_X8_clashAlone_0a.2.2.1) rfl).to, ?_⟩
  refine List.forall_mem_cons.mpr ⟨(s_aloadn (am_dp pw_X8_clashAlone_0 dd_X8_clashAlone_0a.2.2.2.1) rfl).to, ?_⟩
  refine List.forall_mem_cons.mpr ⟨(s_get (ci := 8) (k := 0) (am_dp pw_X8_clashAlone_0 dd_X8_clashAlone_0a.2.2.2.2.1) rfl (by decide) wd518 inX8 rfl).to, ?_⟩
  refine List.forall_mem_cons.mpr ⟨(s_get (ci := 6) (k := 5) (am_dp pw_X8_clashAlone_0 dd_X8_clashAlone_0a.2.2.2.2.2.1) rfl (by decide) wd254 inX6 rfl).to, ?_⟩
  refine List.forall_mem_cons.mpr ⟨(s_icmp_ge (am_dp pw_X8_clashAlone_0 dd_X8_clashAlone_0a.2.2.2.2.2.2.1) (by decide)).to, ?_⟩
  refine List.forall_mem_cons.mpr ⟨(s_aloadn (am_dp pw_X8_clashAlone_0 dd_X8_clashAlone_0a.2.2.2.2.2.2.2) rfl).to, ?_⟩
  refine List.forall_mem_cons.mpr ⟨(s_get (ci := 8) (k := 9) (am_dp pw_X8_clashAlone_0 dd_X8_clashAlone_0b.1) rfl (by decide) wd531 inX8 rfl).to, ?_⟩
  refine List.forall_mem_cons.mpr ⟨(s_iloadn (am_dp pw_X8_clashAlone_0 dd_X8_clashAlone_0b.2.1) rfl).to, ?_⟩
  refine List.forall_mem_cons.mpr ⟨(s_zald (am_dp pw_X8_clashAlone_0 dd_X8_clashAlone_0b.2.2.1)).to, ?_⟩
  refine List.forall_mem_cons.mpr ⟨(s_if_ne (am_dp pw_X8_clashAlone_0 dd_X8_clashAlone_0b.2.2.2.1) (by decide)).to, ?_⟩
  refine List.forall_mem_cons.mpr ⟨(s_iloadn (am_dp pw_X8_clashAlone_0 dd_X8_clashAlone_0b.2.2.2.2.1) rfl).to, ?_⟩
  refine List.forall_mem_cons.mpr ⟨s_iret (am_dp pw_X8_clashAlone_0 dd_X8_clashAlone_0b.2.2.2.2.2.1) rfl, ?_⟩
  refine List.forall_mem_cons.mpr ⟨(s_iinc (am_dp pw_X8_clashAlone_0 dd_X8_clashAlone_0b.2.2.2.2.2.2.1) (by decide) (by decide)).to, ?_⟩
  refine List.forall_mem_cons.mpr ⟨(s_goto (am_dp pw_X8_clashAlone_0 dd_X8_clashAlone_0b.2.2.2.2.2.2.2) (by decide)).to, ?_⟩
  refine List.forall_mem_cons.mpr ⟨(s_iconst (am_dp pw_X8_clashAlone_0 dd_X8_clashAlone_0c.1) (by decide)).to, ?_⟩
  refine List.forall_mem_cons.mpr ⟨s_iret (am_dp pw_X8_clashAlone_0 dd_X8_clashAlone_0c.2) rfl, ?_⟩
  exact fun _ h => absurd h List.not_mem_nil
theorem sn_tX8_clashOfTwo : ∀ q ∈ tX8_clashOfTwo, am_Snd am_P0 RX8 cX8_clashOfTwo 5 (Option.some FieldType.int) "clashOfTwo" q.1 q.2 := by
  unfold tX8_clashOfTwo
  refine List.forall_mem_cons.mpr ⟨(s_iloadn (am_dp pw_X8_clashOfTwo_0 dd_X8_clashOfTwo_0a.1) rfl).to, ?_⟩
  refine List.forall_mem_cons.mpr ⟨(s_iconst (am_dp pw_X8_clashOfTwo_0 dd_X8_clashOfTwo_0a.2.1) (by decide)).to, ?_⟩
  refine List.forall_mem_cons.mpr ⟨(s_icmp_ne (am_dp pw_X8_clashOfTwo_0 dd_X8_clashOfTwo_0a.2.2.1) (by decide)).to, ?_⟩
  refine List.forall_mem_cons.mpr ⟨(s_aloadn (am_dp pw_X8_clashOfTwo_0 dd_X8_clashOfTwo_0a.2.2.2.1) rfl).to, ?_⟩
  refine List.forall_mem_cons.mpr ⟨(s_get (ci := 8) (k := 0) (am_dp pw_X8_clashOfTwo_0 dd_X8_clashOfTwo_0a.2.2.2.2.1) rfl (by decide) wd518 inX8 rfl).to, ?_⟩
  refine List.forall_mem_cons.mpr ⟨(s_get (ci := 6) (k := 5) (am_dp pw_X8_clashOfTwo_0 dd_X8_clashOfTwo_0a.2.2.2.2.2.1) rfl (by decide) wd254 inX6 rfl).to, ?_⟩
  refine List.forall_mem_cons.mpr ⟨(s_goto (am_dp pw_X8_clashOfTwo_0 dd_X8_clashOfTwo_0a.2.2.2.2.2.2.1) (by decide)).to, ?_⟩
  refine List.forall_mem_cons.mpr ⟨(s_iloadn (am_dp pw_X8_clashOfTwo_0 dd_X8_clashOfTwo_0a.2.2.2.2.2.2.2) rfl).to, ?_⟩
  refine List.forall_mem_cons.mpr ⟨(s_istoren (am_dp pw_X8_clashOfTwo_0 dd_X8_clashOfTwo_0b.1) rfl (by decide)).to, ?_⟩
  refine List.forall_mem_cons.mpr ⟨(s_iconst (am_dp pw_X8_clashOfTwo_0 dd_X8_clashOfTwo_0b.2.1) (by decide)).to, ?_⟩
  refine List.forall_mem_cons.mpr ⟨(s_istoren (am_dp pw_X8_clashOfTwo_0 dd_X8_clashOfTwo_0b.2.2.1) rfl (by decide)).to, ?_⟩
  refine List.forall_mem_cons.mpr ⟨(s_iloadn (am_dp pw_X8_clashOfTwo_0 dd_X8_clashOfTwo_0b.2.2.2.1) rfl).to, ?_⟩
  refine List.forall_mem_cons.mpr ⟨(s_iloadn (am_dp pw_X8_clashOfTwo_0 dd_X8_clashOfTwo_0b.2.2.2.2.1) rfl).to, ?_⟩
  refine List.forall_mem_cons.mpr ⟨(s_icmp_ge (am_dp pw_X8_clashOfTwo_0 dd_X8_clashOfTwo_0b.2.2.2.2.2.1) (by decide)).to, ?_⟩
  refine List.forall_mem_cons.mpr ⟨(s_iconst (am_dp pw_X8_clashOfTwo_0 dd_X8_clashOfTwo_0b.2.2.2.2.2.2.1) (by decide)).to, ?_⟩
  refine List.forall_mem_cons.mpr ⟨(s_istore (am_dp pw_X8_clashOfTwo_0 dd_X8_clashOfTwo_0b.2.2.2.2.2.2.2) (by decide)).to, ?_⟩
  refine List.forall_mem_cons.mpr ⟨(s_iload (am_dp pw_X8_clashOfTwo_0 dd_X8_clashOfTwo_0c.1)).to, ?_⟩
  refine List.forall_mem_cons.mpr ⟨(s_iloadn (am_dp pw_X8_clashOfTwo_0 dd_X8_clashOfTwo_0c.2.1) rfl).to, ?_⟩
  refine List.forall_mem_cons.mpr ⟨(s_icmp_ge (am_dp pw_X8_clashOfTwo_0 dd_X8_clashOfTwo_0c.2.2) (by decide)).to, ?_⟩
  refine List.forall_mem_cons.mpr ⟨(s_aloadn (am_dp pw_X8_clashOfTwo_32 dd_X8_clashOfTwo_32a.1) rfl).to, ?_⟩
  refine List.forall_mem_cons.mpr ⟨(s_iload (am_dp pw_X8_clashOfTwo_32 dd_X8_clashOfTwo_32a.2.1)).to, ?_⟩
  refine List.forall_mem_cons.mpr ⟨(s_iloadn (am_dp pw_X8_clashOfTwo_32 dd_X8_clashOfTwo_32a.2.2.1) rfl).to, ?_⟩
  refine List.forall_mem_cons.mpr ⟨zw_cv76 (am_dp pw_X8_clashOfTwo_32 dd_X8_clashOfTwo_32a.2.2.2.1) wd1157, ?_⟩
  refine List.forall_mem_cons.mpr ⟨(s_if_ne (am_dp pw_X8_clashOfTwo_32 dd_X8_clashOfTwo_32a.2.2.2.2.1) (by decide)).to, ?_⟩
  refine List.forall_mem_cons.mpr ⟨(s_iloadn (am_dp pw_X8_clashOfTwo_32 dd_X8_clashOfTwo_32a.2.2.2.2.2.1) rfl).to, ?_⟩
  refine List.forall_mem_cons.mpr ⟨(s_bipush (am_dp pw_X8_clashOfTwo_32 dd_X8_clashOfTwo_32a.2.2.2.2.2.2.1) (by decide)).to, ?_⟩
  refine List.forall_mem_cons.mpr ⟨(s_imul (am_dp pw_X8_clashOfTwo_32 dd_X8_clashOfTwo_32a.2.2.2.2.2.2.2)).to, ?_⟩
  refine List.forall_mem_cons.mpr ⟨(s_iload (am_dp pw_X8_clashOfTwo_32 dd_X8_clashOfTwo_32b.1)).to, ?_⟩
  refine List.forall_mem_cons.mpr ⟨(s_iadd (am_dp pw_X8_clashOfTwo_32 dd_X8_clashOfTwo_32b.2.1)).to, ?_⟩
  refine List.forall_mem_cons.mpr ⟨s_iret (am_dp pw_X8_clashOfTwo_32 dd_X8_clashOfTwo_32b.2.2.1) rfl, ?_⟩
  refine List.forall_mem_cons.mpr ⟨(s_iinc (am_dp pw_X8_clashOfTwo_32 dd_X8_clashOfTwo_32b.2.2.2.1) (by decide) (by decide)).to, ?_⟩
  refine List.forall_mem_cons.mpr ⟨(s_goto (am_dp pw_X8_clashOfTwo_32 dd_X8_clashOfTwo_32b.2.2.2.2.1) (by decide)).to, ?_⟩
  refine List.forall_mem_cons.mpr ⟨(s_iinc (am_dp pw_X8_clashOfTwo_32 dd_X8_clashOfTwo_32b.2.2.2.2.2.1) (by decide) (by decide)).to, ?_⟩
  refine List.forall_mem_cons.mpr ⟨(s_goto (am_dp pw_X8_clashOfTwo_32 dd_X8_clashOfTwo_32b.2.2.2.2.2.2.1) (by decide)).to, ?_⟩
  refine List.forall_mem_cons.mpr ⟨(s_iconst (am_dp pw_X8_clashOfTwo_32 dd_X8_clashOfTwo_32b.2.2.2.2.2.2.2) (by decide)).to, ?_⟩
  refine List.forall_mem_cons.mpr ⟨s_iret (am_dp pw_X8_clashOfTwo_64 dd_X8_clashOfTwo_64a) rfl, ?_⟩
  exact fun _ h => absurd h List.not_mem_nil
theorem sn_tX8_ownKinds : ∀ q ∈ tX8_ownKinds, am_Snd am_P0 RX8 cX8_ownKinds 2 (Option.some FieldType.int) "ownKinds" q.1 q.2 := by
  unfold tX8_ownKinds
  refine List.forall_mem_cons.mpr ⟨(s_aloadn (am_dp pw_X8_ownKinds_0 dd_X8_ownKinds_0a.1) rfl).to, ?_⟩
  refine List.forall_mem_cons.mpr ⟨(s_get (ci := 8) (k := 0) (am_dp pw_X8_ownKinds_0 dd_X8_ownKinds_0a.2.1) rfl (by decide) wd518 inX8 rfl).to, ?_⟩
  refine List.forall_mem_cons.mpr ⟨(s_get (ci := 6) (k := 5) (am_dp pw_X8_ownKinds_0 dd_X8_ownKinds_0a.2.2.1) rfl (by decide) wd254 inX6 rfl).to, ?_⟩
  refine List.forall_mem_cons.mpr ⟨(s_if_ne (am_dp pw_X8_ownKinds_0 dd_X8_ownKinds_0a.2.2.2.1) (by decide)).to, ?_⟩
  refine List.forall_mem_cons.mpr ⟨(s_iconst (am_dp pw_X8_ownKinds_0 dd_X8_ownKinds_0a.2.2.2.2.1) (by decide)).to, ?_⟩
  refine List.forall_mem_cons.mpr ⟨s_iret (am_dp pw_X8_ownKinds_0 dd_X8_ownKinds_0a.2.2.2.2.2.1) rfl, ?_⟩
  refine List.forall_mem_cons.mpr ⟨(s_aloadn (am_dp pw_X8_ownKinds_0 dd_X8_ownKinds_0a.2.2.2.2.2.2.1) rfl).to, ?_⟩
  refine List.forall_mem_cons.mpr ⟨(s_get (ci := 8) (k := 11) (am_dp pw_X8_ownKinds_0 dd_X8_ownKinds_0a.2.2.2.2.2.2.2) rfl (by decide) wd535 inX8 rfl).to, ?_⟩
  refine List.forall_mem_cons.mpr ⟨(s_aloadn (am_dp pw_X8_ownKinds_0 dd_X8_ownKinds_0b.1) rfl).to, ?_⟩
  refine List.forall_mem_cons.mpr ⟨(s_get (ci := 8) (k := 0) (am_dp pw_X8_ownKinds_0 dd_X8_ownKinds_0b.2.1) rfl (by decide) wd518 inX8 rfl).to, ?_⟩
  refine List.forall_mem_cons.mpr ⟨(s_get (ci := 6) (k := 5) (am_dp pw_X8_ownKinds_0 dd_X8_ownKinds_0b.2.2.1) rfl (by decide) wd254 inX6 rfl).to, ?_⟩
  refine List.forall_mem_cons.mpr ⟨(s_icmp_ne (am_dp pw_X8_ownKinds_0 dd_X8_ownKinds_0b.2.2.2.1) (by decide)).to, ?_⟩
  refine List.forall_mem_cons.mpr ⟨(s_iconst (am_dp pw_X8_ownKinds_0 dd_X8_ownKinds_0b.2.2.2.2.1) (by decide)).to, ?_⟩
  refine List.forall_mem_cons.mpr ⟨(s_aloadn (am_dp pw_X8_ownKinds_0 dd_X8_ownKinds_0b.2.2.2.2.2.1) rfl).to, ?_⟩
  refine List.forall_mem_cons.mpr ⟨(s_get (ci := 8) (k := 14) (am_dp pw_X8_ownKinds_0 dd_X8_ownKinds_0b.2.2.2.2.2.2.1) rfl (by decide) wd540 inX8 rfl).to, ?_⟩
  refine List.forall_mem_cons.mpr ⟨(s_if_ne (am_dp pw_X8_ownKinds_0 dd_X8_ownKinds_0b.2.2.2.2.2.2.2) (by decide)).to, ?_⟩
  refine List.forall_mem_cons.mpr ⟨(s_iconst (am_dp pw_X8_ownKinds_32 dd_X8_ownKinds_32a.1) (by decide)).to, ?_⟩
  refine List.forall_mem_cons.mpr ⟨(s_goto (am_dp pw_X8_ownKinds_32 dd_X8_ownKinds_32a.2.1) (by decide)).to, ?_⟩
  refine List.forall_mem_cons.mpr ⟨(s_iconst (am_dp pw_X8_ownKinds_32 dd_X8_ownKinds_32a.2.2.1) (by decide)).to, ?_⟩
  refine List.forall_mem_cons.mpr ⟨(s_ishl (am_dp pw_X8_ownKinds_32 dd_X8_ownKinds_32a.2.2.2.1)).to, ?_⟩
  refine List.forall_mem_cons.mpr ⟨s_iret (am_dp pw_X8_ownKinds_32 dd_X8_ownKinds_32a.2.2.2.2.1) rfl, ?_⟩
  refine List.forall_mem_cons.mpr ⟨(s_aloadn (am_dp pw_X8_ownKinds_32 dd_X8_ownKinds_32a.2.2.2.2.2.1) rfl).to, ?_⟩
  refine List.forall_mem_cons.mpr ⟨(s_get (ci := 8) (k := 11) (am_dp pw_X8_ownKinds_32 dd_X8_ownKinds_32a.2.2.2.2.2.2.1) rfl (by decide) wd535 inX8 rfl).to, ?_⟩
  refine List.forall_mem_cons.mpr ⟨(s_if_le (am_dp pw_X8_ownKinds_32 dd_X8_ownKinds_32a.2.2.2.2.2.2.2) (by decide)).to, ?_⟩
  refine List.forall_mem_cons.mpr ⟨(s_bipush (am_dp pw_X8_ownKinds_32 dd_X8_ownKinds_32b.1) (by decide)).to, ?_⟩
  refine List.forall_mem_cons.mpr ⟨(s_goto (am_dp pw_X8_ownKinds_32 dd_X8_ownKinds_32b.2.1) (by decide)).to, ?_⟩
  refine List.forall_mem_cons.mpr ⟨(s_iconst (am_dp pw_X8_ownKinds_32 dd_X8_ownKinds_32b.2.2.1) (by decide)).to, ?_⟩
  refine List.forall_mem_cons.mpr ⟨(s_istoren (am_dp pw_X8_ownKinds_32 dd_X8_ownKinds_32b.2.2.2.1) rfl (by decide)).to, ?_⟩
  refine List.forall_mem_cons.mpr ⟨(s_iloadn (am_dp pw_X8_ownKinds_32 dd_X8_ownKinds_32b.2.2.2.2.1) rfl).to, ?_⟩
  refine List.forall_mem_cons.mpr ⟨(s_aloadn (am_dp pw_X8_ownKinds_32 dd_X8_ownKinds_32b.2.2.2.2.2.1) rfl).to, ?_⟩
  refine List.forall_mem_cons.mpr ⟨zw_cv94 (am_dp pw_X8_ownKinds_32 dd_X8_ownKinds_32b.2.2.2.2.2.2.1) wd1108, ?_⟩
  refine List.forall_mem_cons.mpr ⟨(s_if_eq (am_dp pw_X8_ownKinds_32 dd_X8_ownKinds_32b.2.2.2.2.2.2.2) (by decide)).to, ?_⟩
  refine List.forall_mem_cons.mpr ⟨(s_bipush (am_dp pw_X8_ownKinds_32 dd_X8_ownKinds_32c) (by decide)).to, ?_⟩
  refine List.forall_mem_cons.mpr ⟨(s_goto (am_dp pw_X8_ownKinds_64 dd_X8_ownKinds_64a.1) (by decide)).to, ?_⟩
  refine List.forall_mem_cons.mpr ⟨(s_iconst (am_dp pw_X8_ownKinds_64 dd_X8_ownKinds_64a.2.1) (by decide)).to, ?_⟩
  refine List.forall_mem_cons.mpr ⟨(s_ior (am_dp pw_X8_ownKinds_64 dd_X8_ownKinds_64a.2.2.1)).to, ?_⟩
  refine List.forall_mem_cons.mpr ⟨s_iret (am_dp pw_X8_ownKinds_64 dd_X8_ownKinds_64a.2.2.2) rfl, ?_⟩
  exact fun _ h => absurd h List.not_mem_nil
theorem sn_tX8_canPart_0 : ∀ q ∈ tX8_canPart_0, am_Snd am_P0 RX8 cX8_canPart 3 (Option.some FieldType.boolean) "canPart" q.1 q.2 := by
  unfold tX8_canPart_0
  refine List.forall_mem_cons.mpr ⟨(s_iconst (am_dp pw_X8_canPart_0 dd_X8_canPart_0a.1) (by decide)).to, ?_⟩
  refine List.forall_mem_cons.mpr ⟨(s_istoren (am_dp pw_X8_canPart_0 dd_X8_canPart_0a.2.1) rfl (by decide)).to, ?_⟩
  refine List.forall_mem_cons.mpr ⟨(s_iconst (am_dp pw_X8_canPart_0 dd_X8_canPart_0a.2.2.1) (by decide)).to, ?_⟩
  refine List.forall_mem_cons.mpr ⟨(s_istoren (am_dp pw_X8_canPart_0 dd_X8_canPart_0a.2.2.2.1) rfl (by decide)).to, ?_⟩
  refine List.forall_mem_cons.mpr ⟨(s_iloadn (am_dp pw_X8_canPart_0 dd_X8_canPart_0a.2.2.2.2.1) rfl).to, ?_⟩
  refine List.forall_mem_cons.mpr ⟨(s_aloadn (am_dp pw_X8_canPart_0 dd_X8_canPart_0a.2.2.2.2.2.1) rfl).to, ?_⟩
  refine List.forall_mem_cons.mpr ⟨(s_get (ci := 8) (k := 0) (am_dp pw_X8_canPart_0 dd_X8_canPart_0a.2.2.2.2.2.2.1) rfl (by decide) wd518 inX8 rfl).to, ?_⟩
  refine List.forall_mem_cons.mpr ⟨(s_get (ci := 6) (k := 5) (am_dp pw_X8_canPart_0 dd_X8_canPart_0a.2.2.2.2.2.2.2) rfl (by decide) wd254 inX6 rfl).to, ?_⟩
  refine List.forall_mem_cons.mpr ⟨(s_icmp_ge (am_dp pw_X8_canPart_0 dd_X8_canPart_0b.1) (by decide)).to, ?_⟩
  refine List.forall_mem_cons.mpr ⟨(s_aloadn (am_dp pw_X8_canPart_0 dd_X8_canPart_0b.2.1) rfl).to, ?_⟩
  refine List.forall_mem_cons.mpr ⟨(s_get (ci := 8) (k := 8) (am_dp pw_X8_canPart_0 dd_X8_canPart_0b.2.2.1) rfl (by decide) wd530 inX8 rfl).to, ?_⟩
  refine List.forall_mem_cons.mpr ⟨(s_if_eq (am_dp pw_X8_canPart_0 dd_X8_canPart_0b.2.2.2.1) (by decide)).to, ?_⟩
  refine List.forall_mem_cons.mpr ⟨(s_aloadn (am_dp pw_X8_canPart_0 dd_X8_canPart_0b.2.2.2.2.1) rfl).to, ?_⟩
  refine List.forall_mem_cons.mpr ⟨(s_aloadn (am_dp pw_X8_canPart_0 dd_X8_canPart_0b.2.2.2.2.2.1) rfl).to, ?_⟩
  refine List.forall_mem_cons.mpr ⟨(s_get (ci := 8) (k := 0) (am_dp pw_X8_canPart_0 dd_X8_canPart_0b.2.2.2.2.2.2.1) rfl (by decide) wd518 inX8 rfl).to, ?_⟩
  refine List.forall_mem_cons.mpr ⟨(s_get (ci := 6) (k := 7) (am_dp pw_X8_canPart_0 dd_X8_canPart_0b.2.2.2.2.2.2.2) rfl (by decide) wd261 inX6 rfl).to, ?_⟩
  refine List.forall_mem_cons.mpr ⟨(s_iloadn (am_dp pw_X8_canPart_0 dd_X8_canPart_0c.1) rfl).to, ?_⟩
  refine List.forall_mem_cons.mpr ⟨(s_iald (am_dp pw_X8_canPart_0 dd_X8_canPart_0c.2)).to, ?_⟩
  refine List.forall_mem_cons.mpr ⟨(s_aloadn (am_dp pw_X8_canPart_32 dd_X8_canPart_32a.1) rfl).to, ?_⟩
  refine List.forall_mem_cons.mpr ⟨(s_get (ci := 8) (k := 0) (am_dp pw_X8_canPart_32 dd_X8_canPart_32a.2.1) rfl (by decide) wd518 inX8 rfl).to, ?_⟩
  refine List.forall_mem_cons.mpr ⟨(s_get (ci := 6) (k := 8) (am_dp pw_X8_canPart_32 dd_X8_canPart_32a.2.2.1) rfl (by decide) wd264 inX6 rfl).to, ?_⟩
  refine List.forall_mem_cons.mpr ⟨(s_iloadn (am_dp pw_X8_canPart_32 dd_X8_canPart_32a.2.2.2.1) rfl).to, ?_⟩
  refine List.forall_mem_cons.mpr ⟨(s_zald (am_dp pw_X8_canPart_32 dd_X8_canPart_32a.2.2.2.2.1)).to, ?_⟩
  refine List.forall_mem_cons.mpr ⟨zw_cv75 (am_dp pw_X8_canPart_32 dd_X8_canPart_32a.2.2.2.2.2.1) wd979, ?_⟩
  refine List.forall_mem_cons.mpr ⟨(s_if_ne (am_dp pw_X8_canPart_32 dd_X8_canPart_32a.2.2.2.2.2.2.1) (by decide)).to, ?_⟩
  refine List.forall_mem_cons.mpr ⟨(s_iconst (am_dp pw_X8_canPart_32 dd_X8_canPart_32a.2.2.2.2.2.2.2) (by decide)).to, ?_⟩
  refine List.forall_mem_cons.mpr ⟨s_zret (am_dp pw_X8_canPart_32 dd_X8_canPart_32b.1) rfl, ?_⟩
  refine List.forall_mem_cons.mpr ⟨(s_aloadn (am_dp pw_X8_canPart_32 dd_X8_canPart_32b.2.1) rfl).to, ?_⟩
  refine List.forall_mem_cons.mpr ⟨(s_get (ci := 8) (k := 15) (am_dp pw_X8_canPart_32 dd_X8_canPart_32b.2.2.1) rfl (by decide) wd542 inX8 rfl).to, ?_⟩
  refine List.forall_mem_cons.mpr ⟨(s_iloadn (am_dp pw_X8_canPart_32 dd_X8_canPart_32b.2.2.2.1) rfl).to, ?_⟩
  refine List.forall_mem_cons.mpr ⟨(s_aloadn (am_dp pw_X8_canPart_32 dd_X8_canPart_32b.2.2.2.2.1) rfl).to, ?_⟩
  refine List.forall_mem_cons.mpr ⟨(s_get (ci := 8) (k := 9) (am_dp pw_X8_canPart_32 dd_X8_canPart_32b.2.2.2.2.2.1) rfl (by decide) wd531 inX8 rfl).to, ?_⟩
  refine List.forall_mem_cons.mpr ⟨(s_iloadn (am_dp pw_X8_canPart_32 dd_X8_canPart_32b.2.2.2.2.2.2.1) rfl).to, ?_⟩
  refine List.forall_mem_cons.mpr ⟨(s_zald (am_dp pw_X8_canPart_32 dd_X8_canPart_32b.2.2.2.2.2.2.2)).to, ?_⟩
  refine List.forall_mem_cons.mpr ⟨(s_if_eq (am_dp pw_X8_canPart_32 dd_X8_canPart_32c.1) (by decide)).to, ?_⟩
  refine List.forall_mem_cons.mpr ⟨(s_iconst (am_dp pw_X8_canPart_32 dd_X8_canPart_32c.2) (by decide)).to, ?_⟩
  refine List.forall_mem_cons.mpr ⟨(s_goto (am_dp pw_X8_canPart_64 dd_X8_canPart_64a.1) (by decide)).to, ?_⟩
  refine List.forall_mem_cons.mpr ⟨(s_iconst (am_dp pw_X8_canPart_64 dd_X8_canPart_64a.2.1) (by decide)).to, ?_⟩
  refine List.forall_mem_cons.mpr ⟨(s_iast (am_dp pw_X8_canPart_64 dd_X8_canPart_64a.2.2.1)).to, ?_⟩
  refine List.forall_mem_cons.mpr ⟨(s_aloadn (am_dp pw_X8_canPart_64 dd_X8_canPart_64a.2.2.2.1) rfl).to, ?_⟩
  refine List.forall_mem_cons.mpr ⟨(s_get (ci := 8) (k := 9) (am_dp pw_X8_canPart_64 dd_X8_canPart_64a.2.2.2.2.1) rfl (by decide) wd531 inX8 rfl).to, ?_⟩
  refine List.forall_mem_cons.mpr ⟨(s_iloadn (am_dp pw_X8_canPart_64 dd_X8_canPart_64a.2.2.2.2.2.1) rfl).to, ?_⟩
  refine List.forall_mem_cons.mpr ⟨(s_zald (am_dp pw_X8_canPart_64 dd_X8_canPart_64a.2.2.2.2.2.2.1)).to, ?_⟩
  refine List.forall_mem_cons.mpr ⟨(s_if_ne (am_dp pw_X8_canPart_64 dd_X8_canPart_64a.2.2.2.2.2.2.2) (by decide)).to, ?_⟩
  refine List.forall_mem_cons.mpr ⟨(s_aloadn (am_dp pw_X8_canPart_64 dd_X8_canPart_64b.1) rfl).to, ?_⟩
  refine List.forall_mem_cons.mpr ⟨(s_get (ci := 8) (k := 16) (am_dp pw_X8_canPart_64 dd_X8_canPart_64b.2.1) rfl (by decide) wd543 inX8 rfl).to, ?_⟩
  refine List.forall_mem_cons.mpr ⟨(s_iloadn (am_dp pw_X8_canPart_64 dd_X8_canPart_64b.2.2.1) rfl).to, ?_⟩
  refine List.forall_mem_cons.mpr ⟨(s_iloadn (am_dp pw_X8_canPart_64 dd_X8_canPart_64b.2.2.2.1) rfl).to, ?_⟩
  refine List.forall_mem_cons.mpr ⟨(s_iast (am_dp pw_X8_canPart_64 dd_X8_canPart_64b.2.2.2.2.1)).to, ?_⟩
  refine List.forall_mem_cons.mpr ⟨(s_iinc (am_dp pw_X8_canPart_64 dd_X8_canPart_64b.2.2.2.2.2.1) (by decide) (by decide)).to, ?_⟩
  refine List.forall_mem_cons.mpr ⟨(s_iinc (am_dp pw_X8_canPart_64 dd_X8_canPart_64b.2.2.2.2.2.2.1) (by decide) (by decide)).to, ?_⟩
  refine List.forall_mem_cons.mpr ⟨(s_goto (am_dp pw_X8_canPart_64 dd_X8_canPart_64b.2.2.2.2.2.2.2) (by decide)).to, ?_⟩
  refine List.forall_mem_cons.mpr ⟨(s_aloadn (am_dp pw_X8_canPart_64 dd_X8_canPart_64c.1) rfl).to, ?_⟩
  refine List.forall_mem_cons.mpr ⟨(s_iconst (am_dp pw_X8_canPart_64 dd_X8_canPart_64c.2) (by decide)).to, ?_⟩
  refine List.forall_mem_cons.mpr ⟨(s_iloadn (am_dp pw_X8_canPart_96 dd_X8_canPart_96a.1) rfl).to, ?_⟩
  refine List.forall_mem_cons.mpr ⟨zw_cv95 (am_dp pw_X8_canPart_96 dd_X8_canPart_96a.2.1) wd1112, ?_⟩
  refine List.forall_mem_cons.mpr ⟨(s_istoren (am_dp pw_X8_canPart_96 dd_X8_canPart_96a.2.2.1) rfl (by decide)).to, ?_⟩
  refine List.forall_mem_cons.mpr ⟨(s_iconst (am_dp pw_X8_canPart_96 dd_X8_canPart_96a.2.2.2.1) (by decide)).to, ?_⟩
  refine List.forall_mem_cons.mpr ⟨(s_istoren (am_dp pw_X8_canPart_96 dd_X8_canPart_96a.2.2.2.2.1) rfl (by decide)).to, ?_⟩
  refine List.forall_mem_cons.mpr ⟨(s_iloadn (am_dp pw_X8_canPart_96 dd_X8_canPart_96a.2.2.2.2.2.1) rfl).to, ?_⟩
  exact fun _ h => absurd h List.not_mem_nil
theorem sn_tX8_canPart_1 : ∀ q ∈ tX8_canPart_1, am_Snd am_P0 RX8 cX8_canPart 3 (Option.some FieldType.boolean) "canPart" q.1 q.2 := by
  unfold tX8_canPart_1
  refine List.forall_mem_cons.mpr ⟨(s_aloadn (am_dp pw_X8_canPart_96 dd_X8_canPart_96a.2.2.2.2.2.2.1) rfl).to, ?_⟩
  refine List.forall_mem_cons.mpr ⟨(s_get (ci := 8) (k := 0) (am_dp pw_X8_canPart_96 dd_X8_canPart_96a.2.2.2.2.2.2.2) rfl (by decide) wd518 inX8 rfl).to, ?_⟩
  refine List.forall_mem_cons.mpr ⟨(s_get (ci := 6) (k := 5) (am_dp pw_X8_canPart_96 dd_X8_canPart_96b.1) rfl (by decide) wd254 inX6 rfl).to, ?_⟩
  refine List.forall_mem_cons.mpr ⟨(s_icmp_ge (am_dp pw_X8_canPart_96 dd_X8_canPart_96b.2.1) (by decide)).to, ?_⟩
  refine List.forall_mem_cons.mpr ⟨(s_iloadn (am_dp pw_X8_canPart_96 dd_X8_canPart_96b.2.2.1) rfl).to, ?_⟩
  refine List.forall_mem_cons.mpr ⟨(s_iconst (am_dp pw_X8_canPart_96 dd_X8_canPart_96b.2.2.2.1) (by decide)).to, ?_⟩
  refine List.forall_mem_cons.mpr ⟨(s_icmp_eq (am_dp pw_X8_canPart_96 dd_X8_canPart_96b.2.2.2.2.1) (by decide)).to, ?_⟩
  refine List.forall_mem_cons.mpr ⟨(s_aloadn (am_dp pw_X8_canPart_96 dd_X8_canPart_96b.2.2.2.2.2.1) rfl).to, ?_⟩
  refine List.forall_mem_cons.mpr ⟨(s_get (ci := 8) (k := 15) (am_dp pw_X8_canPart_96 dd_X8_canPart_96b.2.2.2.2.2.2.1) rfl (by decide) wd542 inX8 rfl).to, ?_⟩
  refine List.forall_mem_cons.mpr ⟨(s_iloadn (am_dp pw_X8_canPart_96 dd_X8_canPart_96b.2.2.2.2.2.2.2) rfl).to, ?_⟩
  refine List.forall_mem_cons.mpr ⟨(s_iald (am_dp pw_X8_canPart_96 dd_X8_canPart_96c.1)).to, ?_⟩
  refine List.forall_mem_cons.mpr ⟨(s_if_ne (am_dp pw_X8_canPart_96 dd_X8_canPart_96c.2) (by decide)).to, ?_⟩
  refine List.forall_mem_cons.mpr ⟨(s_aloadn (am_dp pw_X8_canPart_128 dd_X8_canPart_128a.1) rfl).to, ?_⟩
  refine List.forall_mem_cons.mpr ⟨(s_get (ci := 8) (k := 15) (am_dp pw_X8_canPart_128 dd_X8_canPart_128a.2.1) rfl (by decide) wd542 inX8 rfl).to, ?_⟩
  refine List.forall_mem_cons.mpr ⟨(s_iloadn (am_dp pw_X8_canPart_128 dd_X8_canPart_128a.2.2.1) rfl).to, ?_⟩
  refine List.forall_mem_cons.mpr ⟨(s_iconst (am_dp pw_X8_canPart_128 dd_X8_canPart_128a.2.2.2.1) (by decide)).to, ?_⟩
  refine List.forall_mem_cons.mpr ⟨(s_iast (am_dp pw_X8_canPart_128 dd_X8_canPart_128a.2.2.2.2.1)).to, ?_⟩
  refine List.forall_mem_cons.mpr ⟨(s_aloadn (am_dp pw_X8_canPart_128 dd_X8_canPart_128a.2.2.2.2.2.1) rfl).to, ?_⟩
  refine List.forall_mem_cons.mpr ⟨(s_get (ci := 8) (k := 16) (am_dp pw_X8_canPart_128 dd_X8_canPart_128a.2.2.2.2.2.2.1) rfl (by decide) wd543 inX8 rfl).to, ?_⟩
  refine List.forall_mem_cons.mpr ⟨(s_iloadn (am_dp pw_X8_canPart_128 dd_X8_canPart_128a.2.2.2.2.2.2.2) rfl).to, ?_⟩
  refine List.forall_mem_cons.mpr ⟨(s_iloadn (am_dp pw_X8_canPart_128 dd_X8_canPart_128b.1) rfl).to, ?_⟩
  refine List.forall_mem_cons.mpr ⟨(s_iast (am_dp pw_X8_canPart_128 dd_X8_canPart_128b.2.1)).to, ?_⟩
  refine List.forall_mem_cons.mpr ⟨(s_aloadn (am_dp pw_X8_canPart_128 dd_X8_canPart_128b.2.2.1) rfl).to, ?_⟩
  refine List.forall_mem_cons.mpr ⟨(s_iloadn (am_dp pw_X8_canPart_128 dd_X8_canPart_128b.2.2.2.1) rfl).to, ?_⟩
  refine List.forall_mem_cons.mpr ⟨(s_iloadn (am_dp pw_X8_canPart_128 dd_X8_canPart_128b.2.2.2.2.1) rfl).to, ?_⟩
  refine List.forall_mem_cons.mpr ⟨(s_iconst (am_dp pw_X8_canPart_128 dd_X8_canPart_128b.2.2.2.2.2.1) (by decide)).to, ?_⟩
  refine List.forall_mem_cons.mpr ⟨(s_iadd (am_dp pw_X8_canPart_128 dd_X8_canPart_128b.2.2.2.2.2.2.1)).to, ?_⟩
  refine List.forall_mem_cons.mpr ⟨zw_cv95 (am_dp pw_X8_canPart_128 dd_X8_canPart_128b.2.2.2.2.2.2.2) wd1112, ?_⟩
  refine List.forall_mem_cons.mpr ⟨(s_istoren (am_dp pw_X8_canPart_128 dd_X8_canPart_128c.1) rfl (by decide)).to, ?_⟩
  refine List.forall_mem_cons.mpr ⟨(s_iinc (am_dp pw_X8_canPart_128 dd_X8_canPart_128c.2.1) (by decide) (by decide)).to, ?_⟩
  refine List.forall_mem_cons.mpr ⟨(s_goto (am_dp pw_X8_canPart_128 dd_X8_canPart_128c.2.2.1) (by decide)).to, ?_⟩
  refine List.forall_mem_cons.mpr ⟨(s_iloadn (am_dp pw_X8_canPart_128 dd_X8_canPart_128c.2.2.2.1) rfl).to, ?_⟩
  refine List.forall_mem_cons.mpr ⟨(s_iconst (am_dp pw_X8_canPart_128 dd_X8_canPart_128c.2.2.2.2.1) (by decide)).to, ?_⟩
  refine List.forall_mem_cons.mpr ⟨(s_icmp_eq (am_dp pw_X8_canPart_128 dd_X8_canPart_128c.2.2.2.2.2) (by decide)).to, ?_⟩
  refine List.forall_mem_cons.mpr ⟨(s_aloadn (am_dp pw_X8_canPart_160 dd_X8_canPart_160a.1) rfl).to, ?_⟩
  refine List.forall_mem_cons.mpr ⟨(s_iconst (am_dp pw_X8_canPart_160 dd_X8_canPart_160a.2.1) (by decide)).to, ?_⟩
  refine List.forall_mem_cons.mpr ⟨zw_cv96 (am_dp pw_X8_canPart_160 dd_X8_canPart_160a.2.2.1) wd1116, ?_⟩
  refine List.forall_mem_cons.mpr ⟨(s_if_eq (am_dp pw_X8_canPart_160 dd_X8_canPart_160a.2.2.2.1) (by decide)).to, ?_⟩
  refine List.forall_mem_cons.mpr ⟨(s_aloadn (am_dp pw_X8_canPart_160 dd_X8_canPart_160a.2.2.2.2.1) rfl).to, ?_⟩
  refine List.forall_mem_cons.mpr ⟨(s_iconst (am_dp pw_X8_canPart_160 dd_X8_canPart_160a.2.2.2.2.2.1) (by decide)).to, ?_⟩
  refine List.forall_mem_cons.mpr ⟨zw_cv96 (am_dp pw_X8_canPart_160 dd_X8_canPart_160a.2.2.2.2.2.2.1) wd1116, ?_⟩
  refine List.forall_mem_cons.mpr ⟨(s_if_eq (am_dp pw_X8_canPart_160 dd_X8_canPart_160a.2.2.2.2.2.2.2) (by decide)).to, ?_⟩
  refine List.forall_mem_cons.mpr ⟨(s_iconst (am_dp pw_X8_canPart_160 dd_X8_canPart_160b.1) (by decide)).to, ?_⟩
  refine List.forall_mem_cons.mpr ⟨(s_goto (am_dp pw_X8_canPart_160 dd_X8_canPart_160b.2.1) (by decide)).to, ?_⟩
  refine List.forall_mem_cons.mpr ⟨(s_iconst (am_dp pw_X8_canPart_160 dd_X8_canPart_160b.2.2.1) (by decide)).to, ?_⟩
  refine List.forall_mem_cons.mpr ⟨s_zret (am_dp pw_X8_canPart_160 dd_X8_canPart_160b.2.2.2) rfl, ?_⟩
  exact fun _ h => absurd h List.not_mem_nil
theorem sn_tX8_canPart : ∀ q ∈ tX8_canPart, am_Snd am_P0 RX8 cX8_canPart 3 (Option.some FieldType.boolean) "canPart" q.1 q.2 := by
  unfold tX8_canPart
  exact List.forall_mem_append.mpr ⟨sn_tX8_canPart_0, sn_tX8_canPart_1⟩
end
section
/-! the machine follows each instruction (by program: gen_prog.py) -/
theorem sn_tX8_pushApart_0 : ∀ q ∈ tX8_pushApart_0, am_Snd am_P0 RX8 cX8_pushApart 8 (Option.some FieldType.int) "pushApart" q.1 q.2 := by
  unfold tX8_pushApart_0
  refine List.forall_mem_cons.mpr ⟨(s_iloadn (am_dp pw_X8_pushApart_0 dd_X8_pushApart_0a.1) rfl).to, ?_⟩
  refine List.forall_mem_cons.mpr ⟨(s_istoren (am_dp pw_X8_pushApart_0 dd_X8_pushApart_0a.2.1) rfl (by decide)).to, ?_⟩
  refine List.forall_mem_cons.mpr ⟨(s_iloadn (am_dp pw_X8_pushApart_0 dd_X8_pushApart_0a.2.2.1) rfl).to, ?_⟩
  refine List.forall_mem_cons.mpr ⟨(s_istore (am_dp pw_X8_pushApart_0 dd_X8_pushApart_0a.2.2.2.1) (by decide)).to, ?_⟩
  refine List.forall_mem_cons.mpr ⟨(s_iload (am_dp pw_X8_pushApart_0 dd_X8_pushApart_0a.2.2.2.2.1)).to, ?_⟩
  refine List.forall_mem_cons.mpr ⟨(s_iloadn (am_dp pw_X8_pushApart_0 dd_X8_pushApart_0a.2.2.2.2.2.1) rfl).to, ?_⟩
  refine List.forall_mem_cons.mpr ⟨(s_icmp_ge (am_dp pw_X8_pushApart_0 dd_X8_pushApart_0a.2.2.2.2.2.2.1) (by decide)).to, ?_⟩
  refine List.forall_mem_cons.mpr ⟨(s_iload (am_dp pw_X8_pushApart_0 dd_X8_pushApart_0a.2.2.2.2.2.2.2)).to, ?_⟩
  refine List.forall_mem_cons.mpr ⟨(s_bipush (am_dp pw_X8_pushApart_0 dd_X8_pushApart_0b.1) (by decide)).to, ?_⟩
  refine List.forall_mem_cons.mpr ⟨(s_icmp_ge (am_dp pw_X8_pushApart_0 dd_X8_pushApart_0b.2.1) (by decide)).to, ?_⟩
  refine List.forall_mem_cons.mpr ⟨(s_aloadn (am_dp pw_X8_pushApart_0 dd_X8_pushApart_0b.2.2.1) rfl).to, ?_⟩
  refine List.forall_mem_cons.mpr ⟨(s_get (ci := 8) (k := 16) (am_dp pw_X8_pushApart_0 dd_X8_pushApart_0b.2.2.2.1) rfl (by decide) wd543 inX8 rfl).to, ?_⟩
  refine List.forall_mem_cons.mpr ⟨(s_iload (am_dp pw_X8_pushApart_0 dd_X8_pushApart_0b.2.2.2.2.1)).to, ?_⟩
  refine List.forall_mem_cons.mpr ⟨(s_iald (am_dp pw_X8_pushApart_0 dd_X8_pushApart_0b.2.2.2.2.2.1)).to, ?_⟩
  refine List.forall_mem_cons.mpr ⟨(s_istore (am_dp pw_X8_pushApart_0 dd_X8_pushApart_0b.2.2.2.2.2.2.1) (by decide)).to, ?_⟩
  refine List.forall_mem_cons.mpr ⟨(s_iconst (am_dp pw_X8_pushApart_0 dd_X8_pushApart_0b.2.2.2.2.2.2.2) (by decide)).to, ?_⟩
  refine List.forall_mem_cons.mpr ⟨(s_istore (am_dp pw_X8_pushApart_0 dd_X8_pushApart_0c.1) (by decide)).to, ?_⟩
  refine List.forall_mem_cons.mpr ⟨(s_iload (am_dp pw_X8_pushApart_0 dd_X8_pushApart_0c.2)).to, ?_⟩
  refine List.forall_mem_cons.mpr ⟨(s_aloadn (am_dp pw_X8_pushApart_32 dd_X8_pushApart_32a.1) rfl).to, ?_⟩
  refine List.forall_mem_cons.mpr ⟨(s_get (ci := 8) (k := 0) (am_dp pw_X8_pushApart_32 dd_X8_pushApart_32a.2.1) rfl (by decide) wd518 inX8 rfl).to, ?_⟩
  refine List.forall_mem_cons.mpr ⟨(s_get (ci := 6) (k := 5) (am_dp pw_X8_pushApart_32 dd_X8_pushApart_32a.2.2.1) rfl (by decide) wd254 inX6 rfl).to, ?_⟩
  refine List.forall_mem_cons.mpr ⟨(s_icmp_ge (am_dp pw_X8_pushApart_32 dd_X8_pushApart_32a.2.2.2.1) (by decide)).to, ?_⟩
  refine List.forall_mem_cons.mpr ⟨(s_aloadn (am_dp pw_X8_pushApart_32 dd_X8_pushApart_32a.2.2.2.2.1) rfl).to, ?_⟩
  refine List.forall_mem_cons.mpr ⟨(s_get (ci := 8) (k := 0) (am_dp pw_X8_pushApart_32 dd_X8_pushApart_32a.2.2.2.2.2.1) rfl (by decide) wd518 inX8 rfl).to, ?_⟩
  refine List.forall_mem_cons.mpr ⟨(s_get (ci := 6) (k := 6) (am_dp pw_X8_pushApart_32 dd_X8_pushApart_32a.2.2.2.2.2.2.1) rfl (by decide) wd258 inX6 rfl).to, ?_⟩
  refine List.forall_mem_cons.mpr ⟨(s_iload (am_dp pw_X8_pushApart_32 dd_X8_pushApart_32a.2.2.2.2.2.2.2)).to, ?_⟩
  refine List.forall_mem_cons.mpr ⟨(s_iald (am_dp pw_X8_pushApart_32 dd_X8_pushApart_32b.1)).to, ?_⟩
  refine List.forall_mem_cons.mpr ⟨(s_aloadn (am_dp pw_X8_pushApart_32 dd_X8_pushApart_32b.2.1) rfl).to, ?_⟩
  refine List.forall_mem_cons.mpr ⟨(s_get (ci := 8) (k := 0) (am_dp pw_X8_pushApart_32 dd_X8_pushApart_32b.2.2.1) rfl (by decide) wd518 inX8 rfl).to, ?_⟩
  refine List.forall_mem_cons.mpr ⟨(s_get (ci := 6) (k := 6) (am_dp pw_X8_pushApart_32 dd_X8_pushApart_32b.2.2.2.1) rfl (by decide) wd258 inX6 rfl).to, ?_⟩
  refine List.forall_mem_cons.mpr ⟨(s_iload (am_dp pw_X8_pushApart_32 dd_X8_pushApart_32b.2.2.2.2.1)).to, ?_⟩
  refine List.forall_mem_cons.mpr ⟨(s_iald (am_dp pw_X8_pushApart_32 dd_X8_pushApart_32b.2.2.2.2.2.1)).to, ?_⟩
  refine List.forall_mem_cons.mpr ⟨(s_isub (am_dp pw_X8_pushApart_32 dd_X8_pushApart_32b.2.2.2.2.2.2.1)).to, ?_⟩
  refine List.forall_mem_cons.mpr ⟨zw_cs306 (am_dp pw_X8_pushApart_32 dd_X8_pushApart_32b.2.2.2.2.2.2.2) wd1057, ?_⟩
  refine List.forall_mem_cons.mpr ⟨(s_istore (am_dp pw_X8_pushApart_64 dd_X8_pushApart_64a.1) (by decide)).to, ?_⟩
  refine List.forall_mem_cons.mpr ⟨(s_iload (am_dp pw_X8_pushApart_64 dd_X8_pushApart_64a.2.1)).to, ?_⟩
  refine List.forall_mem_cons.mpr ⟨(s_iload (am_dp pw_X8_pushApart_64 dd_X8_pushApart_64a.2.2.1)).to, ?_⟩
  refine List.forall_mem_cons.mpr ⟨(s_icmp_eq (am_dp pw_X8_pushApart_64 dd_X8_pushApart_64a.2.2.2.1) (by decide)).to, ?_⟩
  refine List.forall_mem_cons.mpr ⟨(s_aloadn (am_dp pw_X8_pushApart_64 dd_X8_pushApart_64a.2.2.2.2.1) rfl).to, ?_⟩
  refine List.forall_mem_cons.mpr ⟨(s_get (ci := 8) (k := 2) (am_dp pw_X8_pushApart_64 dd_X8_pushApart_64a.2.2.2.2.2.1) rfl (by decide) wd521 inX8 rfl).to, ?_⟩
  refine List.forall_mem_cons.mpr ⟨(s_aloadn (am_dp pw_X8_pushApart_64 dd_X8_pushApart_64a.2.2.2.2.2.2.1) rfl).to, ?_⟩
  refine List.forall_mem_cons.mpr ⟨(s_get (ci := 8) (k := 0) (am_dp pw_X8_pushApart_64 dd_X8_pushApart_64a.2.2.2.2.2.2.2) rfl (by decide) wd518 inX8 rfl).to, ?_⟩
  refine List.forall_mem_cons.mpr ⟨(s_get (ci := 6) (k := 7) (am_dp pw_X8_pushApart_64 dd_X8_pushApart_64b.1) rfl (by decide) wd261 inX6 rfl).to, ?_⟩
  refine List.forall_mem_cons.mpr ⟨(s_iload (am_dp pw_X8_pushApart_64 dd_X8_pushApart_64b.2.1)).to, ?_⟩
  refine List.forall_mem_cons.mpr ⟨(s_iald (am_dp pw_X8_pushApart_64 dd_X8_pushApart_64b.2.2.1)).to, ?_⟩
  refine List.forall_mem_cons.mpr ⟨(s_aloadn (am_dp pw_X8_pushApart_64 dd_X8_pushApart_64b.2.2.2.1) rfl).to, ?_⟩
  refine List.forall_mem_cons.mpr ⟨(s_get (ci := 8) (k := 0) (am_dp pw_X8_pushApart_64 dd_X8_pushApart_64b.2.2.2.2.1) rfl (by decide) wd518 inX8 rfl).to, ?_⟩
  refine List.forall_mem_cons.mpr ⟨(s_get (ci := 6) (k := 7) (am_dp pw_X8_pushApart_64 dd_X8_pushApart_64b.2.2.2.2.2) rfl (by decide) wd261 inX6 rfl).to, ?_⟩
  refine List.forall_mem_cons.mpr ⟨(s_iload (am_dp pw_X8_pushApart_96 dd_X8_pushApart_96a.1)).to, ?_⟩
  refine List.forall_mem_cons.mpr ⟨(s_iald (am_dp pw_X8_pushApart_96 dd_X8_pushApart_96a.2.1)).to, ?_⟩
  refine List.forall_mem_cons.mpr ⟨(s_iload (am_dp pw_X8_pushApart_96 dd_X8_pushApart_96a.2.2.1)).to, ?_⟩
  refine List.forall_mem_cons.mpr ⟨zw_cv104 (am_dp pw_X8_pushApart_96 dd_X8_pushApart_96a.2.2.2.1) wd987, ?_⟩
  refine List.forall_mem_cons.mpr ⟨(s_if_eq (am_dp pw_X8_pushApart_96 dd_X8_pushApart_96a.2.2.2.2.1) (by decide)).to, ?_⟩
  refine List.forall_mem_cons.mpr ⟨(s_goto (am_dp pw_X8_pushApart_96 dd_X8_pushApart_96a.2.2.2.2.2.1) (by decide)).to, ?_⟩
  refine List.forall_mem_cons.mpr ⟨(s_aloadn (am_dp pw_X8_pushApart_96 dd_X8_pushApart_96a.2.2.2.2.2.2.1) rfl).to, ?_⟩
  refine List.forall_mem_cons.mpr ⟨(s_get (ci := 8) (k := 15) (am_dp pw_X8_pushApart_96 dd_X8_pushApart_96a.2.2.2.2.2.2.2) rfl (by decide) wd542 inX8 rfl).to, ?_⟩
  refine List.forall_mem_cons.mpr ⟨(s_iload (am_dp pw_X8_pushApart_96 dd_X8_pushApart_96b.1)).to, ?_⟩
  refine List.forall_mem_cons.mpr ⟨(s_iald (am_dp pw_X8_pushApart_96 dd_X8_pushApart_96b.2.1)).to, ?_⟩
  refine List.forall_mem_cons.mpr ⟨(s_aloadn (am_dp pw_X8_pushApart_96 dd_X8_pushApart_96b.2.2.1) rfl).to, ?_⟩
  refine List.forall_mem_cons.mpr ⟨(s_get (ci := 8) (k := 15) (am_dp pw_X8_pushApart_96 dd_X8_pushApart_96b.2.2.2.1) rfl (by decide) wd542 inX8 rfl).to, ?_⟩
  exact fun _ h => absurd h List.not_mem_nil
theorem sn_tX8_pushApart_1 : ∀ q ∈ tX8_pushApart_1, am_Snd am_P0 RX8 cX8_pushApart 8 (Option.some FieldType.int) "pushApart" q.1 q.2 := by
  unfold tX8_pushApart_1
  refine List.forall_mem_cons.mpr ⟨(s_iload (am_dp pw_X8_pushApart_96 dd_X8_pushApart_96b.2.2.2.2.1)).to, ?_⟩
  refine List.forall_mem_cons.mpr ⟨(s_iald (am_dp pw_X8_pushApart_96 dd_X8_pushApart_96b.2.2.2.2.2.1)).to, ?_⟩
  refine List.forall_mem_cons.mpr ⟨(s_icmp_ne (am_dp pw_X8_pushApart_96 dd_X8_pushApart_96b.2.2.2.2.2.2.1) (by decide)).to, ?_⟩
  refine List.forall_mem_cons.mpr ⟨(s_iconst (am_dp pw_X8_pushApart_96 dd_X8_pushApart_96b.2.2.2.2.2.2.2) (by decide)).to, ?_⟩
  refine List.forall_mem_cons.mpr ⟨s_iret (am_dp pw_X8_pushApart_128 dd_X8_pushApart_128a.1) rfl, ?_⟩
  refine List.forall_mem_cons.mpr ⟨(s_aloadn (am_dp pw_X8_pushApart_128 dd_X8_pushApart_128a.2.1) rfl).to, ?_⟩
  refine List.forall_mem_cons.mpr ⟨(s_get (ci := 8) (k := 15) (am_dp pw_X8_pushApart_128 dd_X8_pushApart_128a.2.2.1) rfl (by decide) wd542 inX8 rfl).to, ?_⟩
  refine List.forall_mem_cons.mpr ⟨(s_iload (am_dp pw_X8_pushApart_128 dd_X8_pushApart_128a.2.2.2.1)).to, ?_⟩
  refine List.forall_mem_cons.mpr ⟨(s_iald (am_dp pw_X8_pushApart_128 dd_X8_pushApart_128a.2.2.2.2.1)).to, ?_⟩
  refine List.forall_mem_cons.mpr ⟨(s_if_ne (am_dp pw_X8_pushApart_128 dd_X8_pushApart_128a.2.2.2.2.2.1) (by decide)).to, ?_⟩
  refine List.forall_mem_cons.mpr ⟨(s_iloadn (am_dp pw_X8_pushApart_128 dd_X8_pushApart_128a.2.2.2.2.2.2.1) rfl).to, ?_⟩
  refine List.forall_mem_cons.mpr ⟨(s_bipush (am_dp pw_X8_pushApart_128 dd_X8_pushApart_128a.2.2.2.2.2.2.2) (by decide)).to, ?_⟩
  refine List.forall_mem_cons.mpr ⟨(s_icmp_ge (am_dp pw_X8_pushApart_128 dd_X8_pushApart_128b.1) (by decide)).to, ?_⟩
  refine List.forall_mem_cons.mpr ⟨(s_aloadn (am_dp pw_X8_pushApart_128 dd_X8_pushApart_128b.2.1) rfl).to, ?_⟩
  refine List.forall_mem_cons.mpr ⟨(s_get (ci := 8) (k := 15) (am_dp pw_X8_pushApart_128 dd_X8_pushApart_128b.2.2.1) rfl (by decide) wd542 inX8 rfl).to, ?_⟩
  refine List.forall_mem_cons.mpr ⟨(s_iload (am_dp pw_X8_pushApart_128 dd_X8_pushApart_128b.2.2.2.1)).to, ?_⟩
  refine List.forall_mem_cons.mpr ⟨(s_iconst (am_dp pw_X8_pushApart_128 dd_X8_pushApart_128b.2.2.2.2.1) (by decide)).to, ?_⟩
  refine List.forall_mem_cons.mpr ⟨(s_aloadn (am_dp pw_X8_pushApart_128 dd_X8_pushApart_128b.2.2.2.2.2.1) rfl).to, ?_⟩
  refine List.forall_mem_cons.mpr ⟨(s_get (ci := 8) (k := 15) (am_dp pw_X8_pushApart_128 dd_X8_pushApart_128b.2.2.2.2.2.2.1) rfl (by decide) wd542 inX8 rfl).to, ?_⟩
  refine List.forall_mem_cons.mpr ⟨(s_iload (am_dp pw_X8_pushApart_128 dd_X8_pushApart_128b.2.2.2.2.2.2.2)).to, ?_⟩
  refine List.forall_mem_cons.mpr ⟨(s_iald (am_dp pw_X8_pushApart_128 dd_X8_pushApart_128c.1)).to, ?_⟩
  refine List.forall_mem_cons.mpr ⟨(s_isub (am_dp pw_X8_pushApart_128 dd_X8_pushApart_128c.2)).to, ?_⟩
  refine List.forall_mem_cons.mpr ⟨(s_iast (am_dp pw_X8_pushApart_160 dd_X8_pushApart_160a.1)).to, ?_⟩
  refine List.forall_mem_cons.mpr ⟨(s_aloadn (am_dp pw_X8_pushApart_160 dd_X8_pushApart_160a.2.1) rfl).to, ?_⟩
  refine List.forall_mem_cons.mpr ⟨(s_get (ci := 8) (k := 16) (am_dp pw_X8_pushApart_160 dd_X8_pushApart_160a.2.2.1) rfl (by decide) wd543 inX8 rfl).to, ?_⟩
  refine List.forall_mem_cons.mpr ⟨(s_iloadn (am_dp pw_X8_pushApart_160 dd_X8_pushApart_160a.2.2.2.1) rfl).to, ?_⟩
  refine List.forall_mem_cons.mpr ⟨(s_iload (am_dp pw_X8_pushApart_160 dd_X8_pushApart_160a.2.2.2.2.1)).to, ?_⟩
  refine List.forall_mem_cons.mpr ⟨(s_iast (am_dp pw_X8_pushApart_160 dd_X8_pushApart_160a.2.2.2.2.2.1)).to, ?_⟩
  refine List.forall_mem_cons.mpr ⟨(s_iinc (am_dp pw_X8_pushApart_160 dd_X8_pushApart_160a.2.2.2.2.2.2.1) (by decide) (by decide)).to, ?_⟩
  refine List.forall_mem_cons.mpr ⟨(s_iinc (am_dp pw_X8_pushApart_160 dd_X8_pushApart_160a.2.2.2.2.2.2.2) (by decide) (by decide)).to, ?_⟩
  refine List.forall_mem_cons.mpr ⟨(s_goto (am_dp pw_X8_pushApart_160 dd_X8_pushApart_160b.1) (by decide)).to, ?_⟩
  refine List.forall_mem_cons.mpr ⟨(s_iinc (am_dp pw_X8_pushApart_160 dd_X8_pushApart_160b.2.1) (by decide) (by decide)).to, ?_⟩
  refine List.forall_mem_cons.mpr ⟨(s_goto (am_dp pw_X8_pushApart_160 dd_X8_pushApart_160b.2.2.1) (by decide)).to, ?_⟩
  refine List.forall_mem_cons.mpr ⟨(s_iloadn (am_dp pw_X8_pushApart_160 dd_X8_pushApart_160b.2.2.2.1) rfl).to, ?_⟩
  refine List.forall_mem_cons.mpr ⟨s_iret (am_dp pw_X8_pushApart_160 dd_X8_pushApart_160b.2.2.2.2) rfl, ?_⟩
  exact fun _ h => absurd h List.not_mem_nil
theorem sn_tX8_pushApart : ∀ q ∈ tX8_pushApart, am_Snd am_P0 RX8 cX8_pushApart 8 (Option.some FieldType.int) "pushApart" q.1 q.2 := by
  unfold tX8_pushApart
  exact List.forall_mem_append.mpr ⟨sn_tX8_pushApart_0, sn_tX8_pushApart_1⟩
theorem sn_tX8_isMarked : ∀ q ∈ tX8_isMarked, am_Snd am_P0 RX8 cX8_isMarked 3 (Option.some FieldType.boolean) "isMarked" q.1 q.2 := by
  unfold tX8_isMarked
  refine List.forall_mem_cons.mpr ⟨(s_iconst (am_dp pw_X8_isMarked_0 dd_X8_isMarked_0a.1) (by decide)).to, ?_⟩
  refine List.forall_mem_cons.mpr ⟨(s_istoren (am_dp pw_X8_isMarked_0 dd_X8_isMarked_0a.2.1) rfl (by decide)).to, ?_⟩
  refine List.forall_mem_cons.mpr ⟨(s_iloadn (am_dp pw_X8_isMarked_0 dd_X8_isMarked_0a.2.2.1) rfl).to, ?_⟩
  refine List.forall_mem_cons.mpr ⟨(s_aloadn (am_dp pw_X8_isMarked_0 dd_X8_isMarked_0a.2.2.2.1) rfl).to, ?_⟩
  refine List.forall_mem_cons.mpr ⟨(s_get (ci := 8) (k := 0) (am_dp pw_X8_isMarked_0 dd_X8_isMarked_0a.2.2.2.2.1) rfl (by decide) wd518 inX8 rfl).to, ?_⟩
  refine List.forall_mem_cons.mpr ⟨(s_get (ci := 6) (k := 5) (am_dp pw_X8_isMarked_0 dd_X8_isMarked_0a.2.2.2.2.2.1) rfl (by decide) wd254 inX6 rfl).to, ?_⟩
  refine List.forall_mem_cons.mpr ⟨(s_icmp_ge (am_dp pw_X8_isMarked_0 dd_X8_isMarked_0a.2.2.2.2.2.2.1) (by decide)).to, ?_⟩
  refine List.forall_mem_cons.mpr ⟨(s_aloadn (am_dp pw_X8_isMarked_0 dd_X8_isMarked_0a.2.2.2.2.2.2.2) rfl).to, ?_⟩
  refine List.forall_mem_cons.mpr ⟨(s_get (ci := 8) (k := 15) (am_dp pw_X8_isMarked_0 dd_X8_isMarked_0b.1) rfl (by decide) wd542 inX8 rfl).to, ?_⟩
  refine List.forall_mem_cons.mpr ⟨(s_iloadn (am_dp pw_X8_isMarked_0 dd_X8_isMarked_0b.2.1) rfl).to, ?_⟩
  refine List.forall_mem_cons.mpr ⟨(s_iald (am_dp pw_X8_isMarked_0 dd_X8_isMarked_0b.2.2.1)).to, ?_⟩
  refine List.forall_mem_cons.mpr ⟨(s_iloadn (am_dp pw_X8_isMarked_0 dd_X8_isMarked_0b.2.2.2.1) rfl).to, ?_⟩
  refine List.forall_mem_cons.mpr ⟨(s_icmp_ne (am_dp pw_X8_isMarked_0 dd_X8_isMarked_0b.2.2.2.2.1) (by decide)).to, ?_⟩
  refine List.forall_mem_cons.mpr ⟨(s_iconst (am_dp pw_X8_isMarked_0 dd_X8_isMarked_0b.2.2.2.2.2.1) (by decide)).to, ?_⟩
  refine List.forall_mem_cons.mpr ⟨s_zret (am_dp pw_X8_isMarked_0 dd_X8_isMarked_0b.2.2.2.2.2.2.1) rfl, ?_⟩
  refine List.forall_mem_cons.mpr ⟨(s_iinc (am_dp pw_X8_isMarked_0 dd_X8_isMarked_0b.2.2.2.2.2.2.2) (by decide) (by decide)).to, ?_⟩
  refine List.forall_mem_cons.mpr ⟨(s_goto (am_dp pw_X8_isMarked_0 dd_X8_isMarked_0c.1) (by decide)).to, ?_⟩
  refine List.forall_mem_cons.mpr ⟨(s_iconst (am_dp pw_X8_isMarked_0 dd_X8_isMarked_0c.2) (by decide)).to, ?_⟩
  refine List.forall_mem_cons.mpr ⟨s_zret (am_dp pw_X8_isMarked_32 dd_X8_isMarked_32a) rfl, ?_⟩
  exact fun _ h => absurd h List.not_mem_nil
theorem sn_tX8_hoursBetweenEnds : ∀ q ∈ tX8_hoursBetweenEnds, am_Snd am_P0 RX8 cX8_hoursBetweenEnds 1 (Option.some FieldType.int) "hoursBetweenEnds" q.1 q.2 := by
  unfold tX8_hoursBetweenEnds
  refine List.forall_mem_cons.mpr ⟨(s_aloadn (am_dp pw_X8_hoursBetweenEnds_0 dd_X8_hoursBetweenEnds_0a.1) rfl).to, ?_⟩
  refine List.forall_mem_cons.mpr ⟨(s_get (ci := 8) (k := 0) (am_dp pw_X8_hoursBetweenEnds_0 dd_X8_hoursBetweenEnds_0a.2.1) rfl (by decide) wd518 inX8 rfl).to, ?_⟩
  refine List.forall_mem_cons.mpr ⟨(s_get (ci := 6) (k := 5) (am_dp pw_X8_hoursBetweenEnds_0 dd_X8_hoursBetweenEnds_0a.2.2.1) rfl (by decide) wd254 inX6 rfl).to, ?_⟩
  refine List.forall_mem_cons.mpr ⟨(s_iconst (am_dp pw_X8_hoursBetweenEnds_0 dd_X8_hoursBetweenEnds_0a.2.2.2.1) (by decide)).to, ?_⟩
  refine List.forall_mem_cons.mpr ⟨(s_icmp_ge (am_dp pw_X8_hoursBetweenEnds_0 dd_X8_hoursBetweenEnds_0a.2.2.2.2.1) (by decide)).to, ?_⟩
  refine List.forall_mem_cons.mpr ⟨(s_iconst (am_dp pw_X8_hoursBetweenEnds_0 dd_X8_hoursBetweenEnds_0a.2.2.2.2.2.1) (by decide)).to, ?_⟩
  refine List.forall_mem_cons.mpr ⟨(s_goto (am_dp pw_X8_hoursBetweenEnds_0 dd_X8_hoursBetweenEnds_0a.2.2.2.2.2.2.1) (by decide)).to, ?_⟩
  refine List.forall_mem_cons.mpr ⟨(s_aloadn (am_dp pw_X8_hoursBetweenEnds_0 dd_X8_hoursBetweenEnds_0a.2.2.2.2.2.2.2) rfl).to, ?_⟩
  refine List.forall_mem_cons.mpr ⟨(s_get (ci := 8) (k := 0) (am_dp pw_X8_hoursBetweenEnds_0 dd_X8_hoursBetweenEnds_0b.1) rfl (by decide) wd518 inX8 rfl).to, ?_⟩
  refine List.forall_mem_cons.mpr ⟨(s_get (ci := 6) (k := 6) (am_dp pw_X8_hoursBetweenEnds_0 dd_X8_hoursBetweenEnds_0b.2.1) rfl (by decide) wd258 inX6 rfl).to, ?_⟩
  refine List.forall_mem_cons.mpr ⟨(s_aloadn (am_dp pw_X8_hoursBetweenEnds_0 dd_X8_hoursBetweenEnds_0b.2.2.1) rfl).to, ?_⟩
  refine List.forall_mem_cons.mpr ⟨(s_get (ci := 8) (k := 0) (am_dp pw_X8_hoursBetweenEnds_0 dd_X8_hoursBetweenEnds_0b.2.2.2.1) rfl (by decide) wd518 inX8 rfl).to, ?_⟩
  refine List.forall_mem_cons.mpr ⟨(s_get (ci := 6) (k := 5) (am_dp pw_X8_hoursBetweenEnds_0 dd_X8_hoursBetweenEnds_0b.2.2.2.2.1) rfl (by decide) wd254 inX6 rfl).to, ?_⟩
  refine List.forall_mem_cons.mpr ⟨(s_iconst (am_dp pw_X8_hoursBetweenEnds_0 dd_X8_hoursBetweenEnds_0b.2.2.2.2.2.1) (by decide)).to, ?_⟩
  refine List.forall_mem_cons.mpr ⟨(s_isub (am_dp pw_X8_hoursBetweenEnds_0 dd_X8_hoursBetweenEnds_0b.2.2.2.2.2.2.1)).to, ?_⟩
  refine List.forall_mem_cons.mpr ⟨(s_iald (am_dp pw_X8_hoursBetweenEnds_0 dd_X8_hoursBetweenEnds_0b.2.2.2.2.2.2.2)).to, ?_⟩
  refine List.forall_mem_cons.mpr ⟨(s_aloadn (am_dp pw_X8_hoursBetweenEnds_32 dd_X8_hoursBetweenEnds_32a.1) rfl).to, ?_⟩
  refine List.forall_mem_cons.mpr ⟨(s_get (ci := 8) (k := 0) (am_dp pw_X8_hoursBetweenEnds_32 dd_X8_hoursBetweenEnds_32a.2.1) rfl (by decide) wd518 inX8 rfl).to, ?_⟩
  refine List.forall_mem_cons.mpr ⟨(s_get (ci := 6) (k := 6) (am_dp pw_X8_hoursBetweenEnds_32 dd_X8_hoursBetweenEnds_32a.2.2.1) rfl (by decide) wd258 inX6 rfl).to, ?_⟩
  refine List.forall_mem_cons.mpr ⟨(s_iconst (am_dp pw_X8_hoursBetweenEnds_32 dd_X8_hoursBetweenEnds_32a.2.2.2.1) (by decide)).to, ?_⟩
  refine List.forall_mem_cons.mpr ⟨(s_iald (am_dp pw_X8_hoursBetweenEnds_32 dd_X8_hoursBetweenEnds_32a.2.2.2.2.1)).to, ?_⟩
  refine List.forall_mem_cons.mpr ⟨(s_isub (am_dp pw_X8_hoursBetweenEnds_32 dd_X8_hoursBetweenEnds_32a.2.2.2.2.2.1)).to, ?_⟩
  refine List.forall_mem_cons.mpr ⟨(s_iconst (am_dp pw_X8_hoursBetweenEnds_32 dd_X8_hoursBetweenEnds_32a.2.2.2.2.2.2.1) (by decide)).to, ?_⟩
  refine List.forall_mem_cons.mpr ⟨(s_isub (am_dp pw_X8_hoursBetweenEnds_32 dd_X8_hoursBetweenEnds_32a.2.2.2.2.2.2.2)).to, ?_⟩
  refine List.forall_mem_cons.mpr ⟨s_iret (am_dp pw_X8_hoursBetweenEnds_32 dd_X8_hoursBetweenEnds_32b) rfl, ?_⟩
  exact fun _ h => absurd h List.not_mem_nil
theorem sn_tX8_countGaps_0 : ∀ q ∈ tX8_countGaps_0, am_Snd am_P0 RX8 cX8_countGaps 3 (Option.none : Option FieldType) "countGaps" q.1 q.2 := by
  unfold tX8_countGaps_0
  refine List.forall_mem_cons.mpr ⟨(s_aloadn (am_dp pw_X8_countGaps_0 dd_X8_countGaps_0a.1) rfl).to, ?_⟩
  refine List.forall_mem_cons.mpr ⟨(s_get (ci := 8) (k := 5) (am_dp pw_X8_countGaps_0 dd_X8_countGaps_0a.2.1) rfl (by decide) wd525 inX8 rfl).to, ?_⟩
  refine List.forall_mem_cons.mpr ⟨(s_if_eq (am_dp pw_X8_countGaps_0 dd_X8_countGaps_0a.2.2.1) (by decide)).to, ?_⟩
  refine List.forall_mem_cons.mpr ⟨s_vret (am_dp pw_X8_countGaps_0 dd_X8_countGaps_0a.2.2.2.1) rfl, ?_⟩
  refine List.forall_mem_cons.mpr ⟨(s_aloadn (am_dp pw_X8_countGaps_0 dd_X8_countGaps_0a.2.2.2.2.1) rfl).to, ?_⟩
  refine List.forall_mem_cons.mpr ⟨(s_iconst (am_dp pw_X8_countGaps_0 dd_X8_countGaps_0a.2.2.2.2.2.1) (by decide)).to, ?_⟩
  refine List.forall_mem_cons.mpr ⟨(s_put (ci := 8) (k := 5) (am_dp pw_X8_countGaps_0 dd_X8_countGaps_0a.2.2.2.2.2.2.1) rfl (by decide) wd525 inX8 tyX8_ok nmX8 rfl rfl).to, ?_⟩
  refine List.forall_mem_cons.mpr ⟨(s_aloadn (am_dp pw_X8_countGaps_0 dd_X8_countGaps_0a.2.2.2.2.2.2.2) rfl).to, ?_⟩
  refine List.forall_mem_cons.mpr ⟨zw_cv83 (am_dp pw_X8_countGaps_0 dd_X8_countGaps_0b.1) wd1098, ?_⟩
  refine List.forall_mem_cons.mpr ⟨(s_aloadn (am_dp pw_X8_countGaps_0 dd_X8_countGaps_0b.2.1) rfl).to, ?_⟩
  refine List.forall_mem_cons.mpr ⟨(s_iconst (am_dp pw_X8_countGaps_0 dd_X8_countGaps_0b.2.2.1) (by decide)).to, ?_⟩
  refine List.forall_mem_cons.mpr ⟨(s_put (ci := 8) (k := 13) (am_dp pw_X8_countGaps_0 dd_X8_countGaps_0b.2.2.2.1) rfl (by decide) wd538 inX8 tyX8_ok nmX8 rfl rfl).to, ?_⟩
  refine List.forall_mem_cons.mpr ⟨(s_aloadn (am_dp pw_X8_countGaps_0 dd_X8_countGaps_0b.2.2.2.2.1) rfl).to, ?_⟩
  refine List.forall_mem_cons.mpr ⟨(s_iconst (am_dp pw_X8_countGaps_0 dd_X8_countGaps_0b.2.2.2.2.2.1) (by decide)).to, ?_⟩
  refine List.forall_mem_cons.mpr ⟨(s_put (ci := 8) (k := 14) (am_dp pw_X8_countGaps_0 dd_X8_countGaps_0b.2.2.2.2.2.2.1) rfl (by decide) wd540 inX8 tyX8_ok nmX8 rfl rfl).to, ?_⟩
  refine List.forall_mem_cons.mpr ⟨(s_iconst (am_dp pw_X8_countGaps_0 dd_X8_countGaps_0b.2.2.2.2.2.2.2) (by decide)).to, ?_⟩
  refine List.forall_mem_cons.mpr ⟨(s_istoren (am_dp pw_X8_countGaps_0 dd_X8_countGaps_0c.1) rfl (by decide)).to, ?_⟩
  refine List.forall_mem_cons.mpr ⟨(s_iloadn (am_dp pw_X8_countGaps_0 dd_X8_countGaps_0c.2.1) rfl).to, ?_⟩
  refine List.forall_mem_cons.mpr ⟨(s_iconst (am_dp pw_X8_countGaps_0 dd_X8_countGaps_0c.2.2.1) (by decide)).to, ?_⟩
  refine List.forall_mem_cons.mpr ⟨(s_iadd (am_dp pw_X8_countGaps_0 dd_X8_countGaps_0c.2.2.2)).to, ?_⟩
  refine List.forall_mem_cons.mpr ⟨(s_aloadn (am_dp pw_X8_countGaps_32 dd_X8_countGaps_32a.1) rfl).to, ?_⟩
  refine List.forall_mem_cons.mpr ⟨(s_get (ci := 8) (k := 0) (am_dp pw_X8_countGaps_32 dd_X8_countGaps_32a.2.1) rfl (by decide) wd518 inX8 rfl).to, ?_⟩
  refine List.forall_mem_cons.mpr ⟨(s_get (ci := 6) (k := 5) (am_dp pw_X8_countGaps_32 dd_X8_countGaps_32a.2.2.1) rfl (by decide) wd254 inX6 rfl).to, ?_⟩
  refine List.forall_mem_cons.mpr ⟨(s_icmp_ge (am_dp pw_X8_countGaps_32 dd_X8_countGaps_32a.2.2.2.1) (by decide)).to, ?_⟩
  refine List.forall_mem_cons.mpr ⟨(s_aloadn (am_dp pw_X8_countGaps_32 dd_X8_countGaps_32a.2.2.2.2.1) rfl).to, ?_⟩
  refine List.forall_mem_cons.mpr ⟨(s_get (ci := 8) (k := 0) (am_dp pw_X8_countGaps_32 dd_X8_countGaps_32a.2.2.2.2.2.1) rfl (by decide) wd518 inX8 rfl).to, ?_⟩
  refine List.forall_mem_cons.mpr ⟨(s_get (ci := 6) (k := 6) (am_dp pw_X8_countGaps_32 dd_X8_countGaps_32a.2.2.2.2.2.2.1) rfl (by decide) wd258 inX6 rfl).to, ?_⟩
  refine List.forall_mem_cons.mpr ⟨(s_iloadn (am_dp pw_X8_countGaps_32 dd_X8_countGaps_32a.2.2.2.2.2.2.2) rfl).to, ?_⟩
  refine List.forall_mem_cons.mpr ⟨(s_iald (am_dp pw_X8_countGaps_32 dd_X8_countGaps_32b.1)).to, ?_⟩
  refine List.forall_mem_cons.mpr ⟨(s_iconst (am_dp pw_X8_countGaps_32 dd_X8_countGaps_32b.2.1) (by decide)).to, ?_⟩
  refine List.forall_mem_cons.mpr ⟨(s_iadd (am_dp pw_X8_countGaps_32 dd_X8_countGaps_32b.2.2.1)).to, ?_⟩
  refine List.forall_mem_cons.mpr ⟨(s_istoren (am_dp pw_X8_countGaps_32 dd_X8_countGaps_32b.2.2.2.1) rfl (by decide)).to, ?_⟩
  refine List.forall_mem_cons.mpr ⟨(s_iloadn (am_dp pw_X8_countGaps_32 dd_X8_countGaps_32b.2.2.2.2.1) rfl).to, ?_⟩
  refine List.forall_mem_cons.mpr ⟨(s_aloadn (am_dp pw_X8_countGaps_32 dd_X8_countGaps_32b.2.2.2.2.2.1) rfl).to, ?_⟩
  refine List.forall_mem_cons.mpr ⟨(s_get (ci := 8) (k := 0) (am_dp pw_X8_countGaps_32 dd_X8_countGaps_32b.2.2.2.2.2.2.1) rfl (by decide) wd518 inX8 rfl).to, ?_⟩
  refine List.forall_mem_cons.mpr ⟨(s_get (ci := 6) (k := 6) (am_dp pw_X8_countGaps_32 dd_X8_countGaps_32b.2.2.2.2.2.2.2) rfl (by decide) wd258 inX6 rfl).to, ?_⟩
  refine List.forall_mem_cons.mpr ⟨(s_iloadn (am_dp pw_X8_countGaps_32 dd_X8_countGaps_32c.1) rfl).to, ?_⟩
  refine List.forall_mem_cons.mpr ⟨(s_iconst (am_dp pw_X8_countGaps_32 dd_X8_countGaps_32c.2) (by decide)).to, ?_⟩
  refine List.forall_mem_cons.mpr ⟨(s_iadd (am_dp pw_X8_countGaps_64 dd_X8_countGaps_64a.1)).to, ?_⟩
  refine List.forall_mem_cons.mpr ⟨(s_iald (am_dp pw_X8_countGaps_64 dd_X8_countGaps_64a.2.1)).to, ?_⟩
  refine List.forall_mem_cons.mpr ⟨(s_icmp_ge (am_dp pw_X8_countGaps_64 dd_X8_countGaps_64a.2.2.1) (by decide)).to, ?_⟩
  refine List.forall_mem_cons.mpr ⟨(s_aloadn (am_dp pw_X8_countGaps_64 dd_X8_countGaps_64a.2.2.2.1) rfl).to, ?_⟩
  refine List.forall_mem_cons.mpr ⟨(s_dup (am_dp pw_X8_countGaps_64 dd_X8_countGaps_64a.2.2.2.2.1)).to, ?_⟩
  refine List.forall_mem_cons.mpr ⟨(s_get (ci := 8) (k := 13) (am_dp pw_X8_countGaps_64 dd_X8_countGaps_64a.2.2.2.2.2.1) rfl (by decide) wd538 inX8 rfl).to, ?_⟩
  refine List.forall_mem_cons.mpr ⟨(s_iconst (am_dp pw_X8_countGaps_64 dd_X8_countGaps_64a.2.2.2.2.2.2.1) (by decide)).to, ?_⟩
  refine List.forall_mem_cons.mpr ⟨(s_iadd (am_dp pw_X8_countGaps_64 dd_X8_countGaps_64a.2.2.2.2.2.2.2)).to, ?_⟩
  refine List.forall_mem_cons.mpr ⟨(s_put (ci := 8) (k := 13) (am_dp pw_X8_countGaps_64 dd_X8_countGaps_64b.1) rfl (by decide) wd538 inX8 tyX8_ok nmX8 rfl rfl).to, ?_⟩
  refine List.forall_mem_cons.mpr ⟨(s_aloadn (am_dp pw_X8_countGaps_64 dd_X8_countGaps_64b.2.1) rfl).to, ?_⟩
  refine List.forall_mem_cons.mpr ⟨(s_dup (am_dp pw_X8_countGaps_64 dd_X8_countGaps_64b.2.2.1)).to, ?_⟩
  refine List.forall_mem_cons.mpr ⟨(s_get (ci := 8) (k := 14) (am_dp pw_X8_countGaps_64 dd_X8_countGaps_64b.2.2.2.1) rfl (by decide) wd540 inX8 rfl).to, ?_⟩
  refine List.forall_mem_cons.mpr ⟨(s_aloadn (am_dp pw_X8_countGaps_64 dd_X8_countGaps_64b.2.2.2.2.1) rfl).to, ?_⟩
  refine List.forall_mem_cons.mpr ⟨(s_iloadn (am_dp pw_X8_countGaps_64 dd_X8_countGaps_64b.2.2.2.2.2.1) rfl).to, ?_⟩
  refine List.forall_mem_cons.mpr ⟨zw_cv99 (am_dp pw_X8_countGaps_64 dd_X8_countGaps_64b.2.2.2.2.2.2.1) wd1099, ?_⟩
  refine List.forall_mem_cons.mpr ⟨(s_if_eq (am_dp pw_X8_countGaps_64 dd_X8_countGaps_64b.2.2.2.2.2.2.2) (by decide)).to, ?_⟩
  refine List.forall_mem_cons.mpr ⟨(s_iconst (am_dp pw_X8_countGaps_64 dd_X8_countGaps_64c.1) (by decide)).to, ?_⟩
  refine List.forall_mem_cons.mpr ⟨(s_goto (am_dp pw_X8_countGaps_64 dd_X8_countGaps_64c.2) (by decide)).to, ?_⟩
  refine List.forall_mem_cons.mpr ⟨(s_iconst (am_dp pw_X8_countGaps_96 dd_X8_countGaps_96a.1) (by decide)).to, ?_⟩
  refine List.forall_mem_cons.mpr ⟨(s_iadd (am_dp pw_X8_countGaps_96 dd_X8_countGaps_96a.2.1)).to, ?_⟩
  refine List.forall_mem_cons.mpr ⟨(s_put (ci := 8) (k := 14) (am_dp pw_X8_countGaps_96 dd_X8_countGaps_96a.2.2.1) rfl (by decide) wd540 inX8 tyX8_ok nmX8 rfl rfl).to, ?_⟩
  refine List.forall_mem_cons.mpr ⟨(s_iinc (am_dp pw_X8_countGaps_96 dd_X8_countGaps_96a.2.2.2.1) (by decide) (by decide)).to, ?_⟩
  exact fun _ h => absurd h List.not_mem_nil
theorem sn_tX8_countGaps_1 : ∀ q ∈ tX8_countGaps_1, am_Snd am_P0 RX8 cX8_countGaps 3 (Option.none : Option FieldType) "countGaps" q.1 q.2 := by
  unfold tX8_countGaps_1
  refine List.forall_mem_cons.mpr ⟨(s_goto (am_dp pw_X8_countGaps_96 dd_X8_countGaps_96a.2.2.2.2.1) (by decide)).to, ?_⟩
  refine List.forall_mem_cons.mpr ⟨(s_iinc (am_dp pw_X8_countGaps_96 dd_X8_countGaps_96a.2.2.2.2.2.1) (by decide) (by decide)).to, ?_⟩
  refine List.forall_mem_cons.mpr ⟨(s_goto (am_dp pw_X8_countGaps_96 dd_X8_countGaps_96a.2.2.2.2.2.2.1) (by decide)).to, ?_⟩
  refine List.forall_mem_cons.mpr ⟨s_vret (am_dp pw_X8_countGaps_96 dd_X8_countGaps_96a.2.2.2.2.2.2.2) rfl, ?_⟩
  exact fun _ h => absurd h List.not_mem_nil
theorem sn_tX8_countGaps : ∀ q ∈ tX8_countGaps, am_Snd am_P0 RX8 cX8_countGaps 3 (Option.none : Option FieldType) "countGaps" q.1 q.2 := by
  unfold tX8_countGaps
  exact List.forall_mem_append.mpr ⟨sn_tX8_countGaps_0, sn_tX8_countGaps_1⟩
theorem sn_tX8_isHonest : ∀ q ∈ tX8_isHonest, am_Snd am_P0 RX8 cX8_isHonest 6 (Option.some FieldType.boolean) "isHonest" q.1 q.2 := by
  unfold tX8_isHonest
  refine List.forall_mem_cons.mpr ⟨(s_iconst (am_dp pw_X8_isHonest_0 dd_X8_isHonest_0a.1) (by decide)).to, ?_⟩
  refine List.forall_mem_cons.mpr ⟨(s_istoren (am_dp pw_X8_isHonest_0 dd_X8_isHonest_0a.2.1) rfl (by decide)).to, ?_⟩
  refine List.forall_mem_cons.mpr ⟨(s_iloadn (am_dp pw_X8_isHonest_0 dd_X8_isHonest_0a.2.2.1) rfl).to, ?_⟩
  refine List.forall_mem_cons.mpr ⟨(s_iconst (am_dp pw_X8_isHonest_0 dd_X8_isHonest_0a.2.2.2.1) (by decide)).to, ?_⟩
  refine List.forall_mem_cons.mpr ⟨(s_icmp_ge (am_dp pw_X8_isHonest_0 dd_X8_isHonest_0a.2.2.2.2.1) (by decide)).to, ?_⟩
  refine List.forall_mem_cons.mpr ⟨(s_aloadn (am_dp pw_X8_isHonest_0 dd_X8_isHonest_0a.2.2.2.2.2.1) rfl).to, ?_⟩
  refine List.forall_mem_cons.mpr ⟨(s_get (ci := 8) (k := 12) (am_dp pw_X8_isHonest_0 dd_X8_isHonest_0a.2.2.2.2.2.2.1) rfl (by decide) wd536 inX8 rfl).to, ?_⟩
  refine List.forall_mem_cons.mpr ⟨(s_iloadn (am_dp pw_X8_isHonest_0 dd_X8_isHonest_0a.2.2.2.2.2.2.2) rfl).to, ?_⟩
  refine List.forall_mem_cons.mpr ⟨(s_iconst (am_dp pw_X8_isHonest_0 dd_X8_isHonest_0b.1) (by decide)).to, ?_⟩
  refine List.forall_mem_cons.mpr ⟨(s_imul (am_dp pw_X8_isHonest_0 dd_X8_isHonest_0b.2.1)).to, ?_⟩
  refine List.forall_mem_cons.mpr ⟨(s_iloadn (am_dp pw_X8_isHonest_0 dd_X8_isHonest_0b.2.2.1) rfl).to, ?_⟩
  refine List.forall_mem_cons.mpr ⟨(s_iadd (am_dp pw_X8_isHonest_0 dd_X8_isHonest_0b.2.2.2.1)).to, ?_⟩
  refine List.forall_mem_cons.mpr ⟨(s_lald (am_dp pw_X8_isHonest_0 dd_X8_isHonest_0b.2.2.2.2.1)).to, ?_⟩
  refine List.forall_mem_cons.mpr ⟨(s_lstoren (am_dp pw_X8_isHonest_0 dd_X8_isHonest_0b.2.2.2.2.2.1) rfl (by decide)).to, ?_⟩
  refine List.forall_mem_cons.mpr ⟨(s_iloadn (am_dp pw_X8_isHonest_0 dd_X8_isHonest_0b.2.2.2.2.2.2.1) rfl).to, ?_⟩
  refine List.forall_mem_cons.mpr ⟨(s_bipush (am_dp pw_X8_isHonest_0 dd_X8_isHonest_0b.2.2.2.2.2.2.2) (by decide)).to, ?_⟩
  refine List.forall_mem_cons.mpr ⟨(s_imul (am_dp pw_X8_isHonest_0 dd_X8_isHonest_0c.1)).to, ?_⟩
  refine List.forall_mem_cons.mpr ⟨(s_istore (am_dp pw_X8_isHonest_0 dd_X8_isHonest_0c.2.1) (by decide)).to, ?_⟩
  refine List.forall_mem_cons.mpr ⟨(s_lloadn (am_dp pw_X8_isHonest_0 dd_X8_isHonest_0c.2.2.1) rfl).to, ?_⟩
  refine List.forall_mem_cons.mpr ⟨(s_lconst (am_dp pw_X8_isHonest_0 dd_X8_isHonest_0c.2.2.2.1) (by decide)).to, ?_⟩
  refine List.forall_mem_cons.mpr ⟨(s_lcmp (am_dp pw_X8_isHonest_0 dd_X8_isHonest_0c.2.2.2.2.1)).to, ?_⟩
  refine List.forall_mem_cons.mpr ⟨(s_if_eq (am_dp pw_X8_isHonest_0 dd_X8_isHonest_0c.2.2.2.2.2.1) (by decide)).to, ?_⟩
  refine List.forall_mem_cons.mpr ⟨(s_iload (am_dp pw_X8_isHonest_0 dd_X8_isHonest_0c.2.2.2.2.2.2)).to, ?_⟩
  refine List.forall_mem_cons.mpr ⟨(s_iloadn (am_dp pw_X8_isHonest_32 dd_X8_isHonest_32a.1) rfl).to, ?_⟩
  refine List.forall_mem_cons.mpr ⟨(s_bipush (am_dp pw_X8_isHonest_32 dd_X8_isHonest_32a.2.1) (by decide)).to, ?_⟩
  refine List.forall_mem_cons.mpr ⟨(s_imul (am_dp pw_X8_isHonest_32 dd_X8_isHonest_32a.2.2.1)).to, ?_⟩
  refine List.forall_mem_cons.mpr ⟨(s_bipush (am_dp pw_X8_isHonest_32 dd_X8_isHonest_32a.2.2.2.1) (by decide)).to, ?_⟩
  refine List.forall_mem_cons.mpr ⟨(s_iadd (am_dp pw_X8_isHonest_32 dd_X8_isHonest_32a.2.2.2.2.1)).to, ?_⟩
  refine List.forall_mem_cons.mpr ⟨(s_icmp_ge (am_dp pw_X8_isHonest_32 dd_X8_isHonest_32a.2.2.2.2.2.1) (by decide)).to, ?_⟩
  refine List.forall_mem_cons.mpr ⟨(s_lloadn (am_dp pw_X8_isHonest_32 dd_X8_isHonest_32a.2.2.2.2.2.2.1) rfl).to, ?_⟩
  refine List.forall_mem_cons.mpr ⟨(s_lconst (am_dp pw_X8_isHonest_32 dd_X8_isHonest_32a.2.2.2.2.2.2.2) (by decide)).to, ?_⟩
  refine List.forall_mem_cons.mpr ⟨(s_land (am_dp pw_X8_isHonest_32 dd_X8_isHonest_32b.1)).to, ?_⟩
  refine List.forall_mem_cons.mpr ⟨(s_lconst (am_dp pw_X8_isHonest_32 dd_X8_isHonest_32b.2.1) (by decide)).to, ?_⟩
  refine List.forall_mem_cons.mpr ⟨(s_lcmp (am_dp pw_X8_isHonest_32 dd_X8_isHonest_32b.2.2.1)).to, ?_⟩
  refine List.forall_mem_cons.mpr ⟨(s_if_eq (am_dp pw_X8_isHonest_32 dd_X8_isHonest_32b.2.2.2.1) (by decide)).to, ?_⟩
  refine List.forall_mem_cons.mpr ⟨(s_aloadn (am_dp pw_X8_isHonest_32 dd_X8_isHonest_32b.2.2.2.2.1) rfl).to, ?_⟩
  refine List.forall_mem_cons.mpr ⟨(s_get (ci := 8) (k := 1) (am_dp pw_X8_isHonest_32 dd_X8_isHonest_32b.2.2.2.2.2.1) rfl (by decide) wd520 inX8 rfl).to, ?_⟩
  refine List.forall_mem_cons.mpr ⟨(s_iload (am_dp pw_X8_isHonest_32 dd_X8_isHonest_32b.2.2.2.2.2.2.1)).to, ?_⟩
  refine List.forall_mem_cons.mpr ⟨(s_iloadn (am_dp pw_X8_isHonest_32 dd_X8_isHonest_32b.2.2.2.2.2.2.2) rfl).to, ?_⟩
  refine List.forall_mem_cons.mpr ⟨zw_cv55 (am_dp pw_X8_isHonest_32 dd_X8_isHonest_32c.1) wd1103, ?_⟩
  refine List.forall_mem_cons.mpr ⟨(s_if_eq (am_dp pw_X8_isHonest_32 dd_X8_isHonest_32c.2.1) (by decide)).to, ?_⟩
  refine List.forall_mem_cons.mpr ⟨(s_iconst (am_dp pw_X8_isHonest_32 dd_X8_isHonest_32c.2.2) (by decide)).to, ?_⟩
  refine List.forall_mem_cons.mpr ⟨s_zret (am_dp pw_X8_isHonest_64 dd_X8_isHonest_64a.1) rfl, ?_⟩
  refine List.forall_mem_cons.mpr ⟨(s_lloadn (am_dp pw_X8_isHonest_64 dd_X8_isHonest_64a.2.1) rfl).to, ?_⟩
  refine List.forall_mem_cons.mpr ⟨(s_iconst (am_dp pw_X8_isHonest_64 dd_X8_isHonest_64a.2.2.1) (by decide)).to, ?_⟩
  refine List.forall_mem_cons.mpr ⟨(s_lushr (am_dp pw_X8_isHonest_64 dd_X8_isHonest_64a.2.2.2.1)).to, ?_⟩
  refine List.forall_mem_cons.mpr ⟨(s_lstoren (am_dp pw_X8_isHonest_64 dd_X8_isHonest_64a.2.2.2.2.1) rfl (by decide)).to, ?_⟩
  refine List.forall_mem_cons.mpr ⟨(s_iinc (am_dp pw_X8_isHonest_64 dd_X8_isHonest_64a.2.2.2.2.2.1) (by decide) (by decide)).to, ?_⟩
  refine List.forall_mem_cons.mpr ⟨(s_goto (am_dp pw_X8_isHonest_64 dd_X8_isHonest_64a.2.2.2.2.2.2.1) (by decide)).to, ?_⟩
  refine List.forall_mem_cons.mpr ⟨(s_iinc (am_dp pw_X8_isHonest_64 dd_X8_isHonest_64a.2.2.2.2.2.2.2) (by decide) (by decide)).to, ?_⟩
  refine List.forall_mem_cons.mpr ⟨(s_goto (am_dp pw_X8_isHonest_64 dd_X8_isHonest_64b.1) (by decide)).to, ?_⟩
  refine List.forall_mem_cons.mpr ⟨(s_iconst (am_dp pw_X8_isHonest_64 dd_X8_isHonest_64b.2.1) (by decide)).to, ?_⟩
  refine List.forall_mem_cons.mpr ⟨s_zret (am_dp pw_X8_isHonest_64 dd_X8_isHonest_64b.2.2) rfl, ?_⟩
  exact fun _ h => absurd h List.not_mem_nil
theorem sn_tX8_hoursOfChange_0 : ∀ q ∈ tX8_hoursOfChange_0, am_Snd am_P0 RX8 cX8_hoursOfChange 7 (Option.some FieldType.long) "hoursOfChange" q.1 q.2 := by
  unfold tX8_hoursOfChange_0
  refine List.forall_mem_cons.mpr ⟨(s_lconst (am_dp pw_X8_hoursOfChange_0 dd_X8_hoursOfChange_0a.1) (by decide)).to, ?_⟩
  refine List.forall_mem_cons.mpr ⟨(s_lstoren (am_dp pw_X8_hoursOfChange_0 dd_X8_hoursOfChange_0a.2.1) rfl (by decide)).to, ?_⟩
  refine List.forall_mem_cons.mpr ⟨(s_iconst (am_dp pw_X8_hoursOfChange_0 dd_X8_hoursOfChange_0a.2.2.1) (by decide)).to, ?_⟩
  refine List.forall_mem_cons.mpr ⟨(s_istore (am_dp pw_X8_hoursOfChange_0 dd_X8_hoursOfChange_0a.2.2.2.1) (by decide)).to, ?_⟩
  refine List.forall_mem_cons.mpr ⟨(s_iconst (am_dp pw_X8_hoursOfChange_0 dd_X8_hoursOfChange_0a.2.2.2.2.1) (by decide)).to, ?_⟩
  refine List.forall_mem_cons.mpr ⟨(s_istore (am_dp pw_X8_hoursOfChange_0 dd_X8_hoursOfChange_0a.2.2.2.2.2.1) (by decide)).to, ?_⟩
  refine List.forall_mem_cons.mpr ⟨(s_iload (am_dp pw_X8_hoursOfChange_0 dd_X8_hoursOfChange_0a.2.2.2.2.2.2.1)).to, ?_⟩
  refine List.forall_mem_cons.mpr ⟨(s_aloadn (am_dp pw_X8_hoursOfChange_0 dd_X8_hoursOfChange_0a.2.2.2.2.2.2.2) rfl).to, ?_⟩
  refine List.forall_mem_cons.mpr ⟨(s_get (ci := 8) (k := 0) (am_dp pw_X8_hoursOfChange_0 dd_X8_hoursOfChange_0b.1) rfl (by decide) wd518 inX8 rfl).to, ?_⟩
  refine List.forall_mem_cons.mpr ⟨(s_get (ci := 6) (k := 5) (am_dp pw_X8_hoursOfChange_0 dd_X8_hoursOfChange_0b.2.1) rfl (by decide) wd254 inX6 rfl).to, ?_⟩
  refine List.forall_mem_cons.mpr ⟨(s_icmp_ge (am_dp pw_X8_hoursOfChange_0 dd_X8_hoursOfChange_0b.2.2.1) (by decide)).to, ?_⟩
  refine List.forall_mem_cons.mpr ⟨(s_aloadn (am_dp pw_X8_hoursOfChange_0 dd_X8_hoursOfChange_0b.2.2.2.1) rfl).to, ?_⟩
  refine List.forall_mem_cons.mpr ⟨(s_get (ci := 8) (k := 10) (am_dp pw_X8_hoursOfChange_0 dd_X8_hoursOfChange_0b.2.2.2.2.1) rfl (by decide) wd532 inX8 rfl).to, ?_⟩
  refine List.forall_mem_cons.mpr ⟨(s_iload (am_dp pw_X8_hoursOfChange_0 dd_X8_hoursOfChange_0b.2.2.2.2.2.1)).to, ?_⟩
  refine List.forall_mem_cons.mpr ⟨(s_zald (am_dp pw_X8_hoursOfChange_0 dd_X8_hoursOfChange_0b.2.2.2.2.2.2.1)).to, ?_⟩
  refine List.forall_mem_cons.mpr ⟨(s_if_ne (am_dp pw_X8_hoursOfChange_0 dd_X8_hoursOfChange_0b.2.2.2.2.2.2.2) (by decide)).to, ?_⟩
  refine List.forall_mem_cons.mpr ⟨(s_goto (am_dp pw_X8_hoursOfChange_0 dd_X8_hoursOfChange_0c) (by decide)).to, ?_⟩
  refine List.forall_mem_cons.mpr ⟨(s_iload (am_dp pw_X8_hoursOfChange_32 dd_X8_hoursOfChange_32a.1)).to, ?_⟩
  refine List.forall_mem_cons.mpr ⟨(s_iconst (am_dp pw_X8_hoursOfChange_32 dd_X8_hoursOfChange_32a.2.1) (by decide)).to, ?_⟩
  refine List.forall_mem_cons.mpr ⟨(s_icmp_eq (am_dp pw_X8_hoursOfChange_32 dd_X8_hoursOfChange_32a.2.2.1) (by decide)).to, ?_⟩
  refine List.forall_mem_cons.mpr ⟨(s_aloadn (am_dp pw_X8_hoursOfChange_32 dd_X8_hoursOfChange_32a.2.2.2.1) rfl).to, ?_⟩
  refine List.forall_mem_cons.mpr ⟨(s_get (ci := 8) (k := 0) (am_dp pw_X8_hoursOfChange_32 dd_X8_hoursOfChange_32a.2.2.2.2.1) rfl (by decide) wd518 inX8 rfl).to, ?_⟩
  refine List.forall_mem_cons.mpr ⟨(s_get (ci := 6) (k := 8) (am_dp pw_X8_hoursOfChange_32 dd_X8_hoursOfChange_32a.2.2.2.2.2.1) rfl (by decide) wd264 inX6 rfl).to, ?_⟩
  refine List.forall_mem_cons.mpr ⟨(s_iload (am_dp pw_X8_hoursOfChange_32 dd_X8_hoursOfChange_32a.2.2.2.2.2.2.1)).to, ?_⟩
  refine List.forall_mem_cons.mpr ⟨(s_zald (am_dp pw_X8_hoursOfChange_32 dd_X8_hoursOfChange_32a.2.2.2.2.2.2.2)).to, ?_⟩
  refine List.forall_mem_cons.mpr ⟨(s_iloadn (am_dp pw_X8_hoursOfChange_32 dd_X8_hoursOfChange_32b.1) rfl).to, ?_⟩
  refine List.forall_mem_cons.mpr ⟨(s_icmp_ne (am_dp pw_X8_hoursOfChange_32 dd_X8_hoursOfChange_32b.2.1) (by decide)).to, ?_⟩
  refine List.forall_mem_cons.mpr ⟨(s_aloadn (am_dp pw_X8_hoursOfChange_32 dd_X8_hoursOfChange_32b.2.2.1) rfl).to, ?_⟩
  refine List.forall_mem_cons.mpr ⟨(s_get (ci := 8) (k := 0) (am_dp pw_X8_hoursOfChange_32 dd_X8_hoursOfChange_32b.2.2.2.1) rfl (by decide) wd518 inX8 rfl).to, ?_⟩
  refine List.forall_mem_cons.mpr ⟨(s_get (ci := 6) (k := 8) (am_dp pw_X8_hoursOfChange_32 dd_X8_hoursOfChange_32b.2.2.2.2.1) rfl (by decide) wd264 inX6 rfl).to, ?_⟩
  refine List.forall_mem_cons.mpr ⟨(s_iload (am_dp pw_X8_hoursOfChange_32 dd_X8_hoursOfChange_32b.2.2.2.2.2.1)).to, ?_⟩
  refine List.forall_mem_cons.mpr ⟨(s_zald (am_dp pw_X8_hoursOfChange_32 dd_X8_hoursOfChange_32b.2.2.2.2.2.2.1)).to, ?_⟩
  refine List.forall_mem_cons.mpr ⟨(s_iloadn (am_dp pw_X8_hoursOfChange_32 dd_X8_hoursOfChange_32b.2.2.2.2.2.2.2) rfl).to, ?_⟩
  refine List.forall_mem_cons.mpr ⟨(s_icmp_eq (am_dp pw_X8_hoursOfChange_64 dd_X8_hoursOfChange_64a.1) (by decide)).to, ?_⟩
  refine List.forall_mem_cons.mpr ⟨(s_aloadn (am_dp pw_X8_hoursOfChange_64 dd_X8_hoursOfChange_64a.2.1) rfl).to, ?_⟩
  refine List.forall_mem_cons.mpr ⟨(s_get (ci := 8) (k := 0) (am_dp pw_X8_hoursOfChange_64 dd_X8_hoursOfChange_64a.2.2.1) rfl (by decide) wd518 inX8 rfl).to, ?_⟩
  refine List.forall_mem_cons.mpr ⟨(s_get (ci := 6) (k := 6) (am_dp pw_X8_hoursOfChange_64 dd_X8_hoursOfChange_64a.2.2.2.1) rfl (by decide) wd258 inX6 rfl).to, ?_⟩
  refine List.forall_mem_cons.mpr ⟨(s_iload (am_dp pw_X8_hoursOfChange_64 dd_X8_hoursOfChange_64a.2.2.2.2.1)).to, ?_⟩
  refine List.forall_mem_cons.mpr ⟨(s_iald (am_dp pw_X8_hoursOfChange_64 dd_X8_hoursOfChange_64a.2.2.2.2.2.1)).to, ?_⟩
  refine List.forall_mem_cons.mpr ⟨(s_iconst (am_dp pw_X8_hoursOfChange_64 dd_X8_hoursOfChange_64a.2.2.2.2.2.2.1) (by decide)).to, ?_⟩
  refine List.forall_mem_cons.mpr ⟨(s_iadd (am_dp pw_X8_hoursOfChange_64 dd_X8_hoursOfChange_64a.2.2.2.2.2.2.2)).to, ?_⟩
  refine List.forall_mem_cons.mpr ⟨(s_istore (am_dp pw_X8_hoursOfChange_64 dd_X8_hoursOfChange_64b.1) (by decide)).to, ?_⟩
  refine List.forall_mem_cons.mpr ⟨(s_iload (am_dp pw_X8_hoursOfChange_64 dd_X8_hoursOfChange_64b.2.1)).to, ?_⟩
  refine List.forall_mem_cons.mpr ⟨(s_aloadn (am_dp pw_X8_hoursOfChange_64 dd_X8_hoursOfChange_64b.2.2.1) rfl).to, ?_⟩
  refine List.forall_mem_cons.mpr ⟨(s_get (ci := 8) (k := 0) (am_dp pw_X8_hoursOfChange_64 dd_X8_hoursOfChange_64b.2.2.2.1) rfl (by decide) wd518 inX8 rfl).to, ?_⟩
  refine List.forall_mem_cons.mpr ⟨(s_get (ci := 6) (k := 6) (am_dp pw_X8_hoursOfChange_64 dd_X8_hoursOfChange_64b.2.2.2.2.1) rfl (by decide) wd258 inX6 rfl).to, ?_⟩
  refine List.forall_mem_cons.mpr ⟨(s_iload (am_dp pw_X8_hoursOfChange_64 dd_X8_hoursOfChange_64b.2.2.2.2.2.1)).to, ?_⟩
  refine List.forall_mem_cons.mpr ⟨(s_iald (am_dp pw_X8_hoursOfChange_64 dd_X8_hoursOfChange_64b.2.2.2.2.2.2.1)).to, ?_⟩
  refine List.forall_mem_cons.mpr ⟨(s_icmp_ge (am_dp pw_X8_hoursOfChange_64 dd_X8_hoursOfChange_64b.2.2.2.2.2.2.2) (by decide)).to, ?_⟩
  refine List.forall_mem_cons.mpr ⟨(s_lloadn (am_dp pw_X8_hoursOfChange_96 dd_X8_hoursOfChange_96a.1) rfl).to, ?_⟩
  refine List.forall_mem_cons.mpr ⟨(s_lconst (am_dp pw_X8_hoursOfChange_96 dd_X8_hoursOfChange_96a.2.1) (by decide)).to, ?_⟩
  refine List.forall_mem_cons.mpr ⟨(s_iload (am_dp pw_X8_hoursOfChange_96 dd_X8_hoursOfChange_96a.2.2.1)).to, ?_⟩
  refine List.forall_mem_cons.mpr ⟨(s_lshl (am_dp pw_X8_hoursOfChange_96 dd_X8_hoursOfChange_96a.2.2.2.1)).to, ?_⟩
  refine List.forall_mem_cons.mpr ⟨(s_lor (am_dp pw_X8_hoursOfChange_96 dd_X8_hoursOfChange_96a.2.2.2.2.1)).to, ?_⟩
  refine List.forall_mem_cons.mpr ⟨(s_lstoren (am_dp pw_X8_hoursOfChange_96 dd_X8_hoursOfChange_96a.2.2.2.2.2.1) rfl (by decide)).to, ?_⟩
  refine List.forall_mem_cons.mpr ⟨(s_iinc (am_dp pw_X8_hoursOfChange_96 dd_X8_hoursOfChange_96a.2.2.2.2.2.2.1) (by decide) (by decide)).to, ?_⟩
  refine List.forall_mem_cons.mpr ⟨(s_goto (am_dp pw_X8_hoursOfChange_96 dd_X8_hoursOfChange_96a.2.2.2.2.2.2.2) (by decide)).to, ?_⟩
  refine List.forall_mem_cons.mpr ⟨(s_iload (am_dp pw_X8_hoursOfChange_96 dd_X8_hoursOfChange_96b.1)).to, ?_⟩
  refine List.forall_mem_cons.mpr ⟨(s_istore (am_dp pw_X8_hoursOfChange_96 dd_X8_hoursOfChange_96b.2.1) (by decide)).to, ?_⟩
  refine List.forall_mem_cons.mpr ⟨(s_iinc (am_dp pw_X8_hoursOfChange_96 dd_X8_hoursOfChange_96b.2.2.1) (by decide) (by decide)).to, ?_⟩
  exact fun _ h => absurd h List.not_mem_nil
theorem sn_tX8_hoursOfChange_1 : ∀ q ∈ tX8_hoursOfChange_1, am_Snd am_P0 RX8 cX8_hoursOfChange 7 (Option.some FieldType.long) "hoursOfChange" q.1 q.2 := by
  unfold tX8_hoursOfChange_1
  refine List.forall_mem_cons.mpr ⟨(s_goto (am_dp pw_X8_hoursOfChange_96 dd_X8_hoursOfChange_96b.2.2.2.1) (by decide)).to, ?_⟩
  refine List.forall_mem_cons.mpr ⟨(s_lloadn (am_dp pw_X8_hoursOfChange_96 dd_X8_hoursOfChange_96b.2.2.2.2.1) rfl).to, ?_⟩
  refine List.forall_mem_cons.mpr ⟨s_lret (am_dp pw_X8_hoursOfChange_96 dd_X8_hoursOfChange_96b.2.2.2.2.2) rfl, ?_⟩
  exact fun _ h => absurd h List.not_mem_nil
theorem sn_tX8_hoursOfChange : ∀ q ∈ tX8_hoursOfChange, am_Snd am_P0 RX8 cX8_hoursOfChange 7 (Option.some FieldType.long) "hoursOfChange" q.1 q.2 := by
  unfold tX8_hoursOfChange
  exact List.forall_mem_append.mpr ⟨sn_tX8_hoursOfChange_0, sn_tX8_hoursOfChange_1⟩
theorem sn_tX9_init : ∀ q ∈ tX9_init, am_Snd am_P0 RX9 cX9_init 1 (Option.none : Option FieldType) "<init>" q.1 q.2 := by
  unfold tX9_init
  refine List.forall_mem_cons.mpr ⟨(s_aloadn (am_dp pw_X9_init_0 dd_X9_init_0a.1) rfl).to, ?_⟩
  refine List.forall_mem_cons.mpr ⟨(s_obj (am_dp pw_X9_init_0 dd_X9_init_0a.2.1) wd487 wd160 wd161).to, ?_⟩
  refine List.forall_mem_cons.mpr ⟨(s_aloadn (am_dp pw_X9_init_0 dd_X9_init_0a.2.2.1) rfl).to, ?_⟩
  refine List.forall_mem_cons.mpr ⟨(s_iconst (am_dp pw_X9_init_0 dd_X9_init_0a.2.2.2.1) (by decide)).to, ?_⟩
  refine List.forall_mem_cons.mpr ⟨(s_newa (kd := 1) (ty := .long) (am_dp pw_X9_init_0 dd_X9_init_0a.2.2.2.2.1) rfl rfl wd303 (by decide) (by decide) (fun _ _ h => h)).to, ?_⟩
  refine List.forall_mem_cons.mpr ⟨(s_putF (ci := 9) (k := 0) (am_dp pw_X9_init_0 dd_X9_init_0a.2.2.2.2.2.1) rfl (by decide) wd490 inX9 tyX9_ok nmX9 rfl rfl rfl rfl).to, ?_⟩
  refine List.forall_mem_cons.mpr ⟨(s_aloadn (am_dp pw_X9_init_0 dd_X9_init_0a.2.2.2.2.2.2.1) rfl).to, ?_⟩
  refine List.forall_mem_cons.mpr ⟨(s_iconst (am_dp pw_X9_init_0 dd_X9_init_0a.2.2.2.2.2.2.2) (by decide)).to, ?_⟩
  refine List.forall_mem_cons.mpr ⟨(s_put (ci := 9) (k := 1) (am_dp pw_X9_init_0 dd_X9_init_0b.1) rfl (by decide) wd492 inX9 tyX9_ok nmX9 rfl rfl).to, ?_⟩
  refine List.forall_mem_cons.mpr ⟨(s_aloadn (am_dp pw_X9_init_0 dd_X9_init_0b.2.1) rfl).to, ?_⟩
  refine List.forall_mem_cons.mpr ⟨(s_sipush (am_dp pw_X9_init_0 dd_X9_init_0b.2.2.1) (by decide)).to, ?_⟩
  refine List.forall_mem_cons.mpr ⟨(s_newl (am_dp pw_X9_init_0 dd_X9_init_0b.2.2.2.1) wd488).to, ?_⟩
  refine List.forall_mem_cons.mpr ⟨(s_putF (ci := 9) (k := 2) (am_dp pw_X9_init_0 dd_X9_init_0b.2.2.2.2.1) rfl (by decide) wd493 inX9 tyX9_ok nmX9 rfl rfl rfl rfl).to, ?_⟩
  refine List.forall_mem_cons.mpr ⟨(s_aloadn (am_dp pw_X9_init_0 dd_X9_init_0b.2.2.2.2.2.1) rfl).to, ?_⟩
  refine List.forall_mem_cons.mpr ⟨(s_sipush (am_dp pw_X9_init_0 dd_X9_init_0b.2.2.2.2.2.2.1) (by decide)).to, ?_⟩
  refine List.forall_mem_cons.mpr ⟨(s_newa (kd := 2) (ty := .boolean) (am_dp pw_X9_init_0 dd_X9_init_0b.2.2.2.2.2.2.2) rfl rfl wd304 (by decide) (by decide) (fun _ _ h => h)).to, ?_⟩
  refine List.forall_mem_cons.mpr ⟨(s_putF (ci := 9) (k := 3) (am_dp pw_X9_init_32 dd_X9_init_32a.1) rfl (by decide) wd494 inX9 tyX9_ok nmX9 rfl rfl rfl rfl).to, ?_⟩
  refine List.forall_mem_cons.mpr ⟨(s_aloadn (am_dp pw_X9_init_32 dd_X9_init_32a.2.1) rfl).to, ?_⟩
  refine List.forall_mem_cons.mpr ⟨(s_iconst (am_dp pw_X9_init_32 dd_X9_init_32a.2.2.1) (by decide)).to, ?_⟩
  refine List.forall_mem_cons.mpr ⟨(s_newa (kd := 1) (ty := .long) (am_dp pw_X9_init_32 dd_X9_init_32a.2.2.2.1) rfl rfl wd303 (by decide) (by decide) (fun _ _ h => h)).to, ?_⟩
  refine List.forall_mem_cons.mpr ⟨(s_putF (ci := 9) (k := 4) (am_dp pw_X9_init_32 dd_X9_init_32a.2.2.2.2.1) rfl (by decide) wd495 inX9 tyX9_ok nmX9 rfl rfl rfl rfl).to, ?_⟩
  refine List.forall_mem_cons.mpr ⟨s_vret (am_dp pw_X9_init_32 dd_X9_init_32a.2.2.2.2.2) rfl, ?_⟩
  exact fun _ h => absurd h List.not_mem_nil
theorem sn_tX9_begin : ∀ q ∈ tX9_begin, am_Snd am_P0 RX9 cX9_begin 4 (Option.none : Option FieldType) "begin" q.1 q.2 := by
  unfold tX9_begin
  refine List.forall_mem_cons.mpr ⟨(s_aloadn (am_dp pw_X9_begin_0 dd_X9_begin_0a.1) rfl).to, ?_⟩
  refine List.forall_mem_cons.mpr ⟨(s_iconst (am_dp pw_X9_begin_0 dd_X9_begin_0a.2.1) (by decide)).to, ?_⟩
  refine List.forall_mem_cons.mpr ⟨(s_aloadn (am_dp pw_X9_begin_0 dd_X9_begin_0a.2.2.1) rfl).to, ?_⟩
  refine List.forall_mem_cons.mpr ⟨(s_get (ci := 6) (k := 2) (am_dp pw_X9_begin_0 dd_X9_begin_0a.2.2.2.1) rfl (by decide) wd243 inX6 rfl).to, ?_⟩
  refine List.forall_mem_cons.mpr ⟨zw_cs307 (am_dp pw_X9_begin_0 dd_X9_begin_0a.2.2.2.2.1) wd897, ?_⟩
  refine List.forall_mem_cons.mpr ⟨(s_put (ci := 9) (k := 1) (am_dp pw_X9_begin_0 dd_X9_begin_0a.2.2.2.2.2.1) rfl (by decide) wd492 inX9 tyX9_ok nmX9 rfl rfl).to, ?_⟩
  refine List.forall_mem_cons.mpr ⟨(s_aloadn (am_dp pw_X9_begin_0 dd_X9_begin_0a.2.2.2.2.2.2.1) rfl).to, ?_⟩
  refine List.forall_mem_cons.mpr ⟨(s_get (ci := 9) (k := 0) (am_dp pw_X9_begin_0 dd_X9_begin_0a.2.2.2.2.2.2.2) rfl (by decide) wd490 inX9 rfl).to, ?_⟩
  refine List.forall_mem_cons.mpr ⟨(s_lconst (am_dp pw_X9_begin_0 dd_X9_begin_0b.1) (by decide)).to, ?_⟩
  refine List.forall_mem_cons.mpr ⟨zw_cs322 (am_dp pw_X9_begin_0 dd_X9_begin_0b.2.1) wd898, ?_⟩
  refine List.forall_mem_cons.mpr ⟨(s_iconst (am_dp pw_X9_begin_0 dd_X9_begin_0b.2.2.1) (by decide)).to, ?_⟩
  refine List.forall_mem_cons.mpr ⟨(s_istoren (am_dp pw_X9_begin_0 dd_X9_begin_0b.2.2.2.1) rfl (by decide)).to, ?_⟩
  refine List.forall_mem_cons.mpr ⟨(s_iloadn (am_dp pw_X9_begin_0 dd_X9_begin_0b.2.2.2.2.1) rfl).to, ?_⟩
  refine List.forall_mem_cons.mpr ⟨(s_sipush (am_dp pw_X9_begin_0 dd_X9_begin_0b.2.2.2.2.2.1) (by decide)).to, ?_⟩
  refine List.forall_mem_cons.mpr ⟨(s_icmp_ge (am_dp pw_X9_begin_0 dd_X9_begin_0b.2.2.2.2.2.2.1) (by decide)).to, ?_⟩
  refine List.forall_mem_cons.mpr ⟨(s_aloadn (am_dp pw_X9_begin_0 dd_X9_begin_0b.2.2.2.2.2.2.2) rfl).to, ?_⟩
  refine List.forall_mem_cons.mpr ⟨(s_get (ci := 9) (k := 3) (am_dp pw_X9_begin_0 dd_X9_begin_0c) rfl (by decide) wd494 inX9 rfl).to, ?_⟩
  refine List.forall_mem_cons.mpr ⟨(s_iloadn (am_dp pw_X9_begin_32 dd_X9_begin_32a.1) rfl).to, ?_⟩
  refine List.forall_mem_cons.mpr ⟨(s_iconst (am_dp pw_X9_begin_32 dd_X9_begin_32a.2.1) (by decide)).to, ?_⟩
  refine List.forall_mem_cons.mpr ⟨(s_zast (am_dp pw_X9_begin_32 dd_X9_begin_32a.2.2.1)).to, ?_⟩
  refine List.forall_mem_cons.mpr ⟨(s_aloadn (am_dp pw_X9_begin_32 dd_X9_begin_32a.2.2.2.1) rfl).to, ?_⟩
  refine List.forall_mem_cons.mpr ⟨(s_get (ci := 5) (k := 10) (am_dp pw_X9_begin_32 dd_X9_begin_32a.2.2.2.2.1) rfl (by decide) wd332 inX5 rfl).to, ?_⟩
  refine List.forall_mem_cons.mpr ⟨(s_iloadn (am_dp pw_X9_begin_32 dd_X9_begin_32a.2.2.2.2.2.1) rfl).to, ?_⟩
  refine List.forall_mem_cons.mpr ⟨(s_iald (am_dp pw_X9_begin_32 dd_X9_begin_32a.2.2.2.2.2.2.1)).to, ?_⟩
  refine List.forall_mem_cons.mpr ⟨(s_aloadn (am_dp pw_X9_begin_32 dd_X9_begin_32a.2.2.2.2.2.2.2) rfl).to, ?_⟩
  refine List.forall_mem_cons.mpr ⟨(s_get (ci := 6) (k := 3) (am_dp pw_X9_begin_32 dd_X9_begin_32b.1) rfl (by decide) wd246 inX6 rfl).to, ?_⟩
  refine List.forall_mem_cons.mpr ⟨(s_icmp_lt (am_dp pw_X9_begin_32 dd_X9_begin_32b.2.1) (by decide)).to, ?_⟩
  refine List.forall_mem_cons.mpr ⟨(s_aloadn (am_dp pw_X9_begin_32 dd_X9_begin_32b.2.2.1) rfl).to, ?_⟩
  refine List.forall_mem_cons.mpr ⟨(s_get (ci := 9) (k := 0) (am_dp pw_X9_begin_32 dd_X9_begin_32b.2.2.2.1) rfl (by decide) wd490 inX9 rfl).to, ?_⟩
  refine List.forall_mem_cons.mpr ⟨(s_iloadn (am_dp pw_X9_begin_32 dd_X9_begin_32b.2.2.2.2.1) rfl).to, ?_⟩
  refine List.forall_mem_cons.mpr ⟨(s_bipush (am_dp pw_X9_begin_32 dd_X9_begin_32b.2.2.2.2.2.1) (by decide)).to, ?_⟩
  refine List.forall_mem_cons.mpr ⟨(s_ishr (am_dp pw_X9_begin_32 dd_X9_begin_32b.2.2.2.2.2.2.1)).to, ?_⟩
  refine List.forall_mem_cons.mpr ⟨(s_dup2 (am_dp pw_X9_begin_32 dd_X9_begin_32b.2.2.2.2.2.2.2)).to, ?_⟩
  refine List.forall_mem_cons.mpr ⟨(s_lald (am_dp pw_X9_begin_32 dd_X9_begin_32c.1)).to, ?_⟩
  refine List.forall_mem_cons.mpr ⟨(s_lconst (am_dp pw_X9_begin_32 dd_X9_begin_32c.2.1) (by decide)).to, ?_⟩
  refine List.forall_mem_cons.mpr ⟨(s_iloadn (am_dp pw_X9_begin_32 dd_X9_begin_32c.2.2.1) rfl).to, ?_⟩
  refine List.forall_mem_cons.mpr ⟨(s_bipush (am_dp pw_X9_begin_32 dd_X9_begin_32c.2.2.2.1) (by decide)).to, ?_⟩
  refine List.forall_mem_cons.mpr ⟨(s_iand (am_dp pw_X9_begin_32 dd_X9_begin_32c.2.2.2.2)).to, ?_⟩
  refine List.forall_mem_cons.mpr ⟨(s_lshl (am_dp pw_X9_begin_64 dd_X9_begin_64a.1)).to, ?_⟩
  refine List.forall_mem_cons.mpr ⟨(s_lor (am_dp pw_X9_begin_64 dd_X9_begin_64a.2.1)).to, ?_⟩
  refine List.forall_mem_cons.mpr ⟨(s_last (am_dp pw_X9_begin_64 dd_X9_begin_64a.2.2.1)).to, ?_⟩
  refine List.forall_mem_cons.mpr ⟨(s_iinc (am_dp pw_X9_begin_64 dd_X9_begin_64a.2.2.2.1) (by decide) (by decide)).to, ?_⟩
  refine List.forall_mem_cons.mpr ⟨(s_goto (am_dp pw_X9_begin_64 dd_X9_begin_64a.2.2.2.2.1) (by decide)).to, ?_⟩
  refine List.forall_mem_cons.mpr ⟨s_vret (am_dp pw_X9_begin_64 dd_X9_begin_64a.2.2.2.2.2) rfl, ?_⟩
  exact fun _ h => absurd h List.not_mem_nil
theorem sn_tX9_isWater : ∀ q ∈ tX9_isWater, am_Snd am_P0 RX9 cX9_isWater 2 (Option.some FieldType.boolean) "isWater" q.1 q.2 := by
  unfold tX9_isWater
  refine List.forall_mem_cons.mpr ⟨(s_aloadn (am_dp pw_X9_isWater_0 dd_X9_isWater_0a.1) rfl).to, ?_⟩
  refine List.forall_mem_cons.mpr ⟨(s_get (ci := 9) (k := 0) (am_dp pw_X9_isWater_0 dd_X9_isWater_0a.2.1) rfl (by decide) wd490 inX9 rfl).to, ?_⟩
  refine List.forall_mem_cons.mpr ⟨(s_iloadn (am_dp pw_X9_isWater_0 dd_X9_isWater_0a.2.2.1) rfl).to, ?_⟩
  refine List.forall_mem_cons.mpr ⟨(s_bipush (am_dp pw_X9_isWater_0 dd_X9_isWater_0a.2.2.2.1) (by decide)).to, ?_⟩
  refine List.forall_mem_cons.mpr ⟨(s_ishr (am_dp pw_X9_isWater_0 dd_X9_isWater_0a.2.2.2.2.1)).to, ?_⟩
  refine List.forall_mem_cons.mpr ⟨(s_lald (am_dp pw_X9_isWater_0 dd_X9_isWater_0a.2.2.2.2.2.1)).to, ?_⟩
  refine List.forall_mem_cons.mpr ⟨(s_iloadn (am_dp pw_X9_isWater_0 dd_X9_isWater_0a.2.2.2.2.2.2.1) rfl).to, ?_⟩
  refine List.forall_mem_cons.mpr ⟨(s_bipush (am_dp pw_X9_isWater_0 dd_X9_isWater_0a.2.2.2.2.2.2.2) (by decide)).to, ?_⟩
  refine List.forall_mem_cons.mpr ⟨(s_iand (am_dp pw_X9_isWater_0 dd_X9_isWater_0b.1)).to, ?_⟩
  refine List.forall_mem_cons.mpr ⟨(s_lushr (am_dp pw_X9_isWater_0 dd_X9_isWater_0b.2.1)).to, ?_⟩
  refine List.forall_mem_cons.mpr ⟨(s_lconst (am_dp pw_X9_isWater_0 dd_X9_isWater_0b.2.2.1) (by decide)).to, ?_⟩
  refine List.forall_mem_cons.mpr ⟨(s_land (am_dp pw_X9_isWater_0 dd_X9_isWater_0b.2.2.2.1)).to, ?_⟩
  refine List.forall_mem_cons.mpr ⟨(s_lconst (am_dp pw_X9_isWater_0 dd_X9_isWater_0b.2.2.2.2.1) (by decide)).to, ?_⟩
  refine List.forall_mem_cons.mpr ⟨(s_lcmp (am_dp pw_X9_isWater_0 dd_X9_isWater_0b.2.2.2.2.2.1)).to, ?_⟩
  refine List.forall_mem_cons.mpr ⟨(s_if_eq (am_dp pw_X9_isWater_0 dd_X9_isWater_0b.2.2.2.2.2.2.1) (by decide)).to, ?_⟩
  refine List.forall_mem_cons.mpr ⟨(s_iconst (am_dp pw_X9_isWater_0 dd_X9_isWater_0b.2.2.2.2.2.2.2) (by decide)).to, ?_⟩
  refine List.forall_mem_cons.mpr ⟨(s_goto (am_dp pw_X9_isWater_0 dd_X9_isWater_0c.1) (by decide)).to, ?_⟩
  refine List.forall_mem_cons.mpr ⟨(s_iconst (am_dp pw_X9_isWater_0 dd_X9_isWater_0c.2.1) (by decide)).to, ?_⟩
  refine List.forall_mem_cons.mpr ⟨s_zret (am_dp pw_X9_isWater_0 dd_X9_isWater_0c.2.2) rfl, ?_⟩
  exact fun _ h => absurd h List.not_mem_nil
theorem sn_tX9_isWithin : ∀ q ∈ tX9_isWithin, am_Snd am_P0 RX9 cX9_isWithin 4 (Option.some FieldType.boolean) "isWithin" q.1 q.2 := by
  unfold tX9_isWithin
  refine List.forall_mem_cons.mpr ⟨(s_aloadn (am_dp pw_X9_isWithin_0 dd_X9_isWithin_0a.1) rfl).to, ?_⟩
  refine List.forall_mem_cons.mpr ⟨(s_iloadn (am_dp pw_X9_isWithin_0 dd_X9_isWithin_0a.2.1) rfl).to, ?_⟩
  refine List.forall_mem_cons.mpr ⟨zw_cv105 (am_dp pw_X9_isWithin_0 dd_X9_isWithin_0a.2.2.1) wd962, ?_⟩
  refine List.forall_mem_cons.mpr ⟨(s_iloadn (am_dp pw_X9_isWithin_0 dd_X9_isWithin_0a.2.2.2.1) rfl).to, ?_⟩
  refine List.forall_mem_cons.mpr ⟨(s_iconst (am_dp pw_X9_isWithin_0 dd_X9_isWithin_0a.2.2.2.2.1) (by decide)).to, ?_⟩
  refine List.forall_mem_cons.mpr ⟨(s_imul (am_dp pw_X9_isWithin_0 dd_X9_isWithin_0a.2.2.2.2.2.1)).to, ?_⟩
  refine List.forall_mem_cons.mpr ⟨(s_iloadn (am_dp pw_X9_isWithin_0 dd_X9_isWithin_0a.2.2.2.2.2.2.1) rfl).to, ?_⟩
  refine List.forall_mem_cons.mpr ⟨(s_bipush (am_dp pw_X9_isWithin_0 dd_X9_isWithin_0a.2.2.2.2.2.2.2) (by decide)).to, ?_⟩
  refine List.forall_mem_cons.mpr ⟨(s_ishr (am_dp pw_X9_isWithin_0 dd_X9_isWithin_0b.1)).to, ?_⟩
  refine List.forall_mem_cons.mpr ⟨(s_iadd (am_dp pw_X9_isWithin_0 dd_X9_isWithin_0b.2.1)).to, ?_⟩
  refine List.forall_mem_cons.mpr ⟨(s_lald (am_dp pw_X9_isWithin_0 dd_X9_isWithin_0b.2.2.1)).to, ?_⟩
  refine List.forall_mem_cons.mpr ⟨(s_iloadn (am_dp pw_X9_isWithin_0 dd_X9_isWithin_0b.2.2.2.1) rfl).to, ?_⟩
  refine List.forall_mem_cons.mpr ⟨(s_bipush (am_dp pw_X9_isWithin_0 dd_X9_isWithin_0b.2.2.2.2.1) (by decide)).to, ?_⟩
  refine List.forall_mem_cons.mpr ⟨(s_iand (am_dp pw_X9_isWithin_0 dd_X9_isWithin_0b.2.2.2.2.2.1)).to, ?_⟩
  refine List.forall_mem_cons.mpr ⟨(s_lushr (am_dp pw_X9_isWithin_0 dd_X9_isWithin_0b.2.2.2.2.2.2.1)).to, ?_⟩
  refine List.forall_mem_cons.mpr ⟨(s_lconst (am_dp pw_X9_isWithin_0 dd_X9_isWithin_0b.2.2.2.2.2.2.2) (by decide)).to, ?_⟩
  refine List.forall_mem_cons.mpr ⟨(s_land (am_dp pw_X9_isWithin_0 dd_X9_isWithin_0c.1)).to, ?_⟩
  refine List.forall_mem_cons.mpr ⟨(s_lconst (am_dp pw_X9_isWithin_0 dd_X9_isWithin_0c.2.1) (by decide)).to, ?_⟩
  refine List.forall_mem_cons.mpr ⟨(s_lcmp (am_dp pw_X9_isWithin_0 dd_X9_isWithin_0c.2.2.1)).to, ?_⟩
  refine List.forall_mem_cons.mpr ⟨(s_if_eq (am_dp pw_X9_isWithin_0 dd_X9_isWithin_0c.2.2.2.1) (by decide)).to, ?_⟩
  refine List.forall_mem_cons.mpr ⟨(s_iconst (am_dp pw_X9_isWithin_0 dd_X9_isWithin_0c.2.2.2.2.1) (by decide)).to, ?_⟩
  refine List.forall_mem_cons.mpr ⟨(s_goto (am_dp pw_X9_isWithin_0 dd_X9_isWithin_0c.2.2.2.2.2.1) (by decide)).to, ?_⟩
  refine List.forall_mem_cons.mpr ⟨(s_iconst (am_dp pw_X9_isWithin_0 dd_X9_isWithin_0c.2.2.2.2.2.2.1) (by decide)).to, ?_⟩
  refine List.forall_mem_cons.mpr ⟨s_zret (am_dp pw_X9_isWithin_0 dd_X9_isWithin_0c.2.2.2.2.2.2.2) rfl, ?_⟩
  exact fun _ h => absurd h List.not_mem_nil
theorem sn_tX9_ringsOf_0 : ∀ q ∈ tX9_ringsOf_0, am_Snd am_P0 RX9 cX9_ringsOf 6 (Option.some (FieldType.array FieldType.long)) "ringsOf" q.1 q.2 := by
  unfold tX9_ringsOf_0
  refine List.forall_mem_cons.mpr ⟨(s_aloadn (am_dp pw_X9_ringsOf_0 dd_X9_ringsOf_0a.1) rfl).to, ?_⟩
  refine List.forall_mem_cons.mpr ⟨(s_get (ci := 9) (k := 2) (am_dp pw_X9_ringsOf_0 dd_X9_ringsOf_0a.2.1) rfl (by decide) wd493 inX9 rfl).to, ?_⟩
  refine List.forall_mem_cons.mpr ⟨(s_iloadn (am_dp pw_X9_ringsOf_0 dd_X9_ringsOf_0a.2.2.1) rfl).to, ?_⟩
  refine List.forall_mem_cons.mpr ⟨(s_aald (am_dp pw_X9_ringsOf_0 dd_X9_ringsOf_0a.2.2.2.1)).to, ?_⟩
  refine List.forall_mem_cons.mpr ⟨(s_astoren (am_dp pw_X9_ringsOf_0 dd_X9_ringsOf_0a.2.2.2.2.1) rfl (by decide)).to, ?_⟩
  refine List.forall_mem_cons.mpr ⟨(s_aloadn (am_dp pw_X9_ringsOf_0 dd_X9_ringsOf_0a.2.2.2.2.2.1) rfl).to, ?_⟩
  refine List.forall_mem_cons.mpr ⟨(s_ifnn (am_dp pw_X9_ringsOf_0 dd_X9_ringsOf_0a.2.2.2.2.2.2.1) (by decide)).to, ?_⟩
  refine List.forall_mem_cons.mpr ⟨(s_sipush (am_dp pw_X9_ringsOf_0 dd_X9_ringsOf_0a.2.2.2.2.2.2.2) (by decide)).to, ?_⟩
  refine List.forall_mem_cons.mpr ⟨(s_newa (kd := 1) (ty := .long) (am_dp pw_X9_ringsOf_0 dd_X9_ringsOf_0b.1) rfl rfl wd303 (by decide) (by decide) (fun _ _ h => h)).to, ?_⟩
  refine List.forall_mem_cons.mpr ⟨(s_astoren (am_dp pw_X9_ringsOf_0 dd_X9_ringsOf_0b.2.1) rfl (by decide)).to, ?_⟩
  refine List.forall_mem_cons.mpr ⟨(s_aloadn (am_dp pw_X9_ringsOf_0 dd_X9_ringsOf_0b.2.2.1) rfl).to, ?_⟩
  refine List.forall_mem_cons.mpr ⟨(s_get (ci := 9) (k := 2) (am_dp pw_X9_ringsOf_0 dd_X9_ringsOf_0b.2.2.2.1) rfl (by decide) wd493 inX9 rfl).to, ?_⟩
  refine List.forall_mem_cons.mpr ⟨(s_iloadn (am_dp pw_X9_ringsOf_0 dd_X9_ringsOf_0b.2.2.2.2.1) rfl).to, ?_⟩
  refine List.forall_mem_cons.mpr ⟨(s_aloadn (am_dp pw_X9_ringsOf_0 dd_X9_ringsOf_0b.2.2.2.2.2.1) rfl).to, ?_⟩
  refine List.forall_mem_cons.mpr ⟨(s_aas (am_dp pw_X9_ringsOf_0 dd_X9_ringsOf_0b.2.2.2.2.2.2.1)).to, ?_⟩
  refine List.forall_mem_cons.mpr ⟨(s_aloadn (am_dp pw_X9_ringsOf_0 dd_X9_ringsOf_0b.2.2.2.2.2.2.2) rfl).to, ?_⟩
  refine List.forall_mem_cons.mpr ⟨(s_get (ci := 9) (k := 3) (am_dp pw_X9_ringsOf_0 dd_X9_ringsOf_0c.1) rfl (by decide) wd494 inX9 rfl).to, ?_⟩
  refine List.forall_mem_cons.mpr ⟨(s_iloadn (am_dp pw_X9_ringsOf_0 dd_X9_ringsOf_0c.2.1) rfl).to, ?_⟩
  refine List.forall_mem_cons.mpr ⟨(s_zald (am_dp pw_X9_ringsOf_0 dd_X9_ringsOf_0c.2.2.1)).to, ?_⟩
  refine List.forall_mem_cons.mpr ⟨(s_if_eq (am_dp pw_X9_ringsOf_0 dd_X9_ringsOf_0c.2.2.2) (by decide)).to, ?_⟩
  refine List.forall_mem_cons.mpr ⟨(s_aloadn (am_dp pw_X9_ringsOf_32 dd_X9_ringsOf_32a.1) rfl).to, ?_⟩
  refine List.forall_mem_cons.mpr ⟨s_aret (am_dp pw_X9_ringsOf_32 dd_X9_ringsOf_32a.2.1) rfl (Or.inr ⟨_, rfl⟩), ?_⟩
  refine List.forall_mem_cons.mpr ⟨(s_aloadn (am_dp pw_X9_ringsOf_32 dd_X9_ringsOf_32a.2.2.1) rfl).to, ?_⟩
  refine List.forall_mem_cons.mpr ⟨(s_get (ci := 9) (k := 3) (am_dp pw_X9_ringsOf_32 dd_X9_ringsOf_32a.2.2.2.1) rfl (by decide) wd494 inX9 rfl).to, ?_⟩
  refine List.forall_mem_cons.mpr ⟨(s_iloadn (am_dp pw_X9_ringsOf_32 dd_X9_ringsOf_32a.2.2.2.2.1) rfl).to, ?_⟩
  refine List.forall_mem_cons.mpr ⟨(s_iconst (am_dp pw_X9_ringsOf_32 dd_X9_ringsOf_32a.2.2.2.2.2.1) (by decide)).to, ?_⟩
  refine List.forall_mem_cons.mpr ⟨(s_zast (am_dp pw_X9_ringsOf_32 dd_X9_ringsOf_32a.2.2.2.2.2.2.1)).to, ?_⟩
  refine List.forall_mem_cons.mpr ⟨(s_aloadn (am_dp pw_X9_ringsOf_32 dd_X9_ringsOf_32a.2.2.2.2.2.2.2) rfl).to, ?_⟩
  refine List.forall_mem_cons.mpr ⟨(s_lconst (am_dp pw_X9_ringsOf_32 dd_X9_ringsOf_32b.1) (by decide)).to, ?_⟩
  refine List.forall_mem_cons.mpr ⟨zw_cs322 (am_dp pw_X9_ringsOf_32 dd_X9_ringsOf_32b.2.1) wd898, ?_⟩
  refine List.forall_mem_cons.mpr ⟨(s_aloadn (am_dp pw_X9_ringsOf_32 dd_X9_ringsOf_32b.2.2.1) rfl).to, ?_⟩
  refine List.forall_mem_cons.mpr ⟨(s_iloadn (am_dp pw_X9_ringsOf_32 dd_X9_ringsOf_32b.2.2.2.1) rfl).to, ?_⟩
  refine List.forall_mem_cons.mpr ⟨(s_bipush (am_dp pw_X9_ringsOf_32 dd_X9_ringsOf_32b.2.2.2.2.1) (by decide)).to, ?_⟩
  refine List.forall_mem_cons.mpr ⟨(s_ishr (am_dp pw_X9_ringsOf_32 dd_X9_ringsOf_32b.2.2.2.2.2.1)).to, ?_⟩
  refine List.forall_mem_cons.mpr ⟨(s_lconst (am_dp pw_X9_ringsOf_32 dd_X9_ringsOf_32b.2.2.2.2.2.2.1) (by decide)).to, ?_⟩
  refine List.forall_mem_cons.mpr ⟨(s_iloadn (am_dp pw_X9_ringsOf_32 dd_X9_ringsOf_32b.2.2.2.2.2.2.2) rfl).to, ?_⟩
  refine List.forall_mem_cons.mpr ⟨(s_bipush (am_dp pw_X9_ringsOf_32 dd_X9_ringsOf_32c.1) (by decide)).to, ?_⟩
  refine List.forall_mem_cons.mpr ⟨(s_iand (am_dp pw_X9_ringsOf_32 dd_X9_ringsOf_32c.2.1)).to, ?_⟩
  refine List.forall_mem_cons.mpr ⟨(s_lshl (am_dp pw_X9_ringsOf_32 dd_X9_ringsOf_32c.2.2.1)).to, ?_⟩
  refine List.forall_mem_cons.mpr ⟨(s_aloadn (am_dp pw_X9_ringsOf_32 dd_X9_ringsOf_32c.2.2.2.1) rfl).to, ?_⟩
  refine List.forall_mem_cons.mpr ⟨(s_get (ci := 9) (k := 0) (am_dp pw_X9_ringsOf_32 dd_X9_ringsOf_32c.2.2.2.2.1) rfl (by decide) wd490 inX9 rfl).to, ?_⟩
  refine List.forall_mem_cons.mpr ⟨(s_iloadn (am_dp pw_X9_ringsOf_32 dd_X9_ringsOf_32c.2.2.2.2.2.1) rfl).to, ?_⟩
  refine List.forall_mem_cons.mpr ⟨(s_bipush (am_dp pw_X9_ringsOf_32 dd_X9_ringsOf_32c.2.2.2.2.2.2) (by decide)).to, ?_⟩
  refine List.forall_mem_cons.mpr ⟨(s_ishr (am_dp pw_X9_ringsOf_64 dd_X9_ringsOf_64a.1)).to, ?_⟩
  refine List.forall_mem_cons.mpr ⟨(s_lald (am_dp pw_X9_ringsOf_64 dd_X9_ringsOf_64a.2.1)).to, ?_⟩
  refine List.forall_mem_cons.mpr ⟨(s_land (am_dp pw_X9_ringsOf_64 dd_X9_ringsOf_64a.2.2.1)).to, ?_⟩
  refine List.forall_mem_cons.mpr ⟨(s_last (am_dp pw_X9_ringsOf_64 dd_X9_ringsOf_64a.2.2.2.1)).to, ?_⟩
  refine List.forall_mem_cons.mpr ⟨(s_iconst (am_dp pw_X9_ringsOf_64 dd_X9_ringsOf_64a.2.2.2.2.1) (by decide)).to, ?_⟩
  refine List.forall_mem_cons.mpr ⟨(s_istoren (am_dp pw_X9_ringsOf_64 dd_X9_ringsOf_64a.2.2.2.2.2.1) rfl (by decide)).to, ?_⟩
  refine List.forall_mem_cons.mpr ⟨(s_iconst (am_dp pw_X9_ringsOf_64 dd_X9_ringsOf_64a.2.2.2.2.2.2.1) (by decide)).to, ?_⟩
  refine List.forall_mem_cons.mpr ⟨(s_istore (am_dp pw_X9_ringsOf_64 dd_X9_ringsOf_64a.2.2.2.2.2.2.2) (by decide)).to, ?_⟩
  refine List.forall_mem_cons.mpr ⟨(s_iload (am_dp pw_X9_ringsOf_64 dd_X9_ringsOf_64b.1)).to, ?_⟩
  refine List.forall_mem_cons.mpr ⟨(s_sipush (am_dp pw_X9_ringsOf_64 dd_X9_ringsOf_64b.2.1) (by decide)).to, ?_⟩
  refine List.forall_mem_cons.mpr ⟨(s_icmp_ge (am_dp pw_X9_ringsOf_64 dd_X9_ringsOf_64b.2.2.1) (by decide)).to, ?_⟩
  refine List.forall_mem_cons.mpr ⟨(s_aloadn (am_dp pw_X9_ringsOf_64 dd_X9_ringsOf_64b.2.2.2.1) rfl).to, ?_⟩
  refine List.forall_mem_cons.mpr ⟨(s_iload (am_dp pw_X9_ringsOf_64 dd_X9_ringsOf_64b.2.2.2.2.1)).to, ?_⟩
  refine List.forall_mem_cons.mpr ⟨(s_iconst (am_dp pw_X9_ringsOf_64 dd_X9_ringsOf_64b.2.2.2.2.2.1) (by decide)).to, ?_⟩
  refine List.forall_mem_cons.mpr ⟨(s_isub (am_dp pw_X9_ringsOf_64 dd_X9_ringsOf_64b.2.2.2.2.2.2.1)).to, ?_⟩
  refine List.forall_mem_cons.mpr ⟨(s_aloadn (am_dp pw_X9_ringsOf_64 dd_X9_ringsOf_64b.2.2.2.2.2.2.2) rfl).to, ?_⟩
  refine List.forall_mem_cons.mpr ⟨(s_iload (am_dp pw_X9_ringsOf_64 dd_X9_ringsOf_64c.1)).to, ?_⟩
  exact fun _ h => absurd h List.not_mem_nil
theorem sn_tX9_ringsOf_1 : ∀ q ∈ tX9_ringsOf_1, am_Snd am_P0 RX9 cX9_ringsOf 6 (Option.some (FieldType.array FieldType.long)) "ringsOf" q.1 q.2 := by
  unfold tX9_ringsOf_1
  refine List.forall_mem_cons.mpr ⟨(s_iconst (am_dp pw_X9_ringsOf_64 dd_X9_ringsOf_64c.2.1) (by decide)).to, ?_⟩
  refine List.forall_mem_cons.mpr ⟨(s_cpl (am_dp pw_X9_ringsOf_64 dd_X9_ringsOf_64c.2.2.1) wd966 wd968 wd967 wd152).to, ?_⟩
  refine List.forall_mem_cons.mpr ⟨(s_iconst (am_dp pw_X9_ringsOf_64 dd_X9_ringsOf_64c.2.2.2.1) (by decide)).to, ?_⟩
  refine List.forall_mem_cons.mpr ⟨(s_istore (am_dp pw_X9_ringsOf_64 dd_X9_ringsOf_64c.2.2.2.2) (by decide)).to, ?_⟩
  refine List.forall_mem_cons.mpr ⟨(s_iloadn (am_dp pw_X9_ringsOf_96 dd_X9_ringsOf_96a.1) rfl).to, ?_⟩
  refine List.forall_mem_cons.mpr ⟨(s_if_eq (am_dp pw_X9_ringsOf_96 dd_X9_ringsOf_96a.2.1) (by decide)).to, ?_⟩
  refine List.forall_mem_cons.mpr ⟨(s_iload (am_dp pw_X9_ringsOf_96 dd_X9_ringsOf_96a.2.2.1)).to, ?_⟩
  refine List.forall_mem_cons.mpr ⟨(s_aloadn (am_dp pw_X9_ringsOf_96 dd_X9_ringsOf_96a.2.2.2.1) rfl).to, ?_⟩
  refine List.forall_mem_cons.mpr ⟨(s_get (ci := 9) (k := 1) (am_dp pw_X9_ringsOf_96 dd_X9_ringsOf_96a.2.2.2.2.1) rfl (by decide) wd492 inX9 rfl).to, ?_⟩
  refine List.forall_mem_cons.mpr ⟨(s_icmp_ge (am_dp pw_X9_ringsOf_96 dd_X9_ringsOf_96a.2.2.2.2.2.1) (by decide)).to, ?_⟩
  refine List.forall_mem_cons.mpr ⟨(s_aloadn (am_dp pw_X9_ringsOf_96 dd_X9_ringsOf_96a.2.2.2.2.2.2.1) rfl).to, ?_⟩
  refine List.forall_mem_cons.mpr ⟨(s_aloadn (am_dp pw_X9_ringsOf_96 dd_X9_ringsOf_96a.2.2.2.2.2.2.2) rfl).to, ?_⟩
  refine List.forall_mem_cons.mpr ⟨(s_iload (am_dp pw_X9_ringsOf_96 dd_X9_ringsOf_96b.1)).to, ?_⟩
  refine List.forall_mem_cons.mpr ⟨zw_cv106 (am_dp pw_X9_ringsOf_96 dd_X9_ringsOf_96b.2.1) wd969, ?_⟩
  refine List.forall_mem_cons.mpr ⟨(s_istoren (am_dp pw_X9_ringsOf_96 dd_X9_ringsOf_96b.2.2.1) rfl (by decide)).to, ?_⟩
  refine List.forall_mem_cons.mpr ⟨(s_iinc (am_dp pw_X9_ringsOf_96 dd_X9_ringsOf_96b.2.2.2.1) (by decide) (by decide)).to, ?_⟩
  refine List.forall_mem_cons.mpr ⟨(s_goto (am_dp pw_X9_ringsOf_96 dd_X9_ringsOf_96b.2.2.2.2.1) (by decide)).to, ?_⟩
  refine List.forall_mem_cons.mpr ⟨(s_iinc (am_dp pw_X9_ringsOf_96 dd_X9_ringsOf_96b.2.2.2.2.2.1) (by decide) (by decide)).to, ?_⟩
  refine List.forall_mem_cons.mpr ⟨(s_goto (am_dp pw_X9_ringsOf_96 dd_X9_ringsOf_96b.2.2.2.2.2.2) (by decide)).to, ?_⟩
  refine List.forall_mem_cons.mpr ⟨(s_aloadn (am_dp pw_X9_ringsOf_128 dd_X9_ringsOf_128a.1) rfl).to, ?_⟩
  refine List.forall_mem_cons.mpr ⟨s_aret (am_dp pw_X9_ringsOf_128 dd_X9_ringsOf_128a.2) rfl (Or.inr ⟨_, rfl⟩), ?_⟩
  exact fun _ h => absurd h List.not_mem_nil
theorem sn_tX9_ringsOf : ∀ q ∈ tX9_ringsOf, am_Snd am_P0 RX9 cX9_ringsOf 6 (Option.some (FieldType.array FieldType.long)) "ringsOf" q.1 q.2 := by
  unfold tX9_ringsOf
  exact List.forall_mem_append.mpr ⟨sn_tX9_ringsOf_0, sn_tX9_ringsOf_1⟩
theorem sn_tX9_widen_0 : ∀ q ∈ tX9_widen_0, am_Snd am_P0 RX9 cX9_widen 17 (Option.some FieldType.boolean) "widen" q.1 q.2 := by
  unfold tX9_widen_0
  refine List.forall_mem_cons.mpr ⟨(s_iconst (am_dp pw_X9_widen_0 dd_X9_widen_0a.1) (by decide)).to, ?_⟩
  refine List.forall_mem_cons.mpr ⟨(s_istoren (am_dp pw_X9_widen_0 dd_X9_widen_0a.2.1) rfl (by decide)).to, ?_⟩
  refine List.forall_mem_cons.mpr ⟨(s_lconst (am_dp pw_X9_widen_0 dd_X9_widen_0a.2.2.1) (by decide)).to, ?_⟩
  refine List.forall_mem_cons.mpr ⟨(s_lstore (am_dp pw_X9_widen_0 dd_X9_widen_0a.2.2.2.1) (by decide)).to, ?_⟩
  refine List.forall_mem_cons.mpr ⟨(s_iconst (am_dp pw_X9_widen_0 dd_X9_widen_0a.2.2.2.2.1) (by decide)).to, ?_⟩
  refine List.forall_mem_cons.mpr ⟨(s_istore (am_dp pw_X9_widen_0 dd_X9_widen_0a.2.2.2.2.2.1) (by decide)).to, ?_⟩
  refine List.forall_mem_cons.mpr ⟨(s_iload (am_dp pw_X9_widen_0 dd_X9_widen_0a.2.2.2.2.2.2.1)).to, ?_⟩
  refine List.forall_mem_cons.mpr ⟨(s_iconst (am_dp pw_X9_widen_0 dd_X9_widen_0a.2.2.2.2.2.2.2) (by decide)).to, ?_⟩
  refine List.forall_mem_cons.mpr ⟨(s_icmp_ge (am_dp pw_X9_widen_0 dd_X9_widen_0b.1) (by decide)).to, ?_⟩
  refine List.forall_mem_cons.mpr ⟨(s_aloadn (am_dp pw_X9_widen_0 dd_X9_widen_0b.2.1) rfl).to, ?_⟩
  refine List.forall_mem_cons.mpr ⟨(s_iloadn (am_dp pw_X9_widen_0 dd_X9_widen_0b.2.2.1) rfl).to, ?_⟩
  refine List.forall_mem_cons.mpr ⟨(s_iload (am_dp pw_X9_widen_0 dd_X9_widen_0b.2.2.2.1)).to, ?_⟩
  refine List.forall_mem_cons.mpr ⟨(s_iadd (am_dp pw_X9_widen_0 dd_X9_widen_0b.2.2.2.2.1)).to, ?_⟩
  refine List.forall_mem_cons.mpr ⟨(s_lald (am_dp pw_X9_widen_0 dd_X9_widen_0b.2.2.2.2.2.1)).to, ?_⟩
  refine List.forall_mem_cons.mpr ⟨(s_lstore (am_dp pw_X9_widen_0 dd_X9_widen_0b.2.2.2.2.2.2.1) (by decide)).to, ?_⟩
  refine List.forall_mem_cons.mpr ⟨(s_iload (am_dp pw_X9_widen_0 dd_X9_widen_0b.2.2.2.2.2.2.2)).to, ?_⟩
  refine List.forall_mem_cons.mpr ⟨(s_iconst (am_dp pw_X9_widen_0 dd_X9_widen_0c.1) (by decide)).to, ?_⟩
  refine List.forall_mem_cons.mpr ⟨(s_iadd (am_dp pw_X9_widen_0 dd_X9_widen_0c.2.1)).to, ?_⟩
  refine List.forall_mem_cons.mpr ⟨(s_iconst (am_dp pw_X9_widen_0 dd_X9_widen_0c.2.2.1) (by decide)).to, ?_⟩
  refine List.forall_mem_cons.mpr ⟨(s_icmp_ge (am_dp pw_X9_widen_0 dd_X9_widen_0c.2.2.2.1) (by decide)).to, ?_⟩
  refine List.forall_mem_cons.mpr ⟨(s_aloadn (am_dp pw_X9_widen_0 dd_X9_widen_0c.2.2.2.2.1) rfl).to, ?_⟩
  refine List.forall_mem_cons.mpr ⟨(s_iloadn (am_dp pw_X9_widen_0 dd_X9_widen_0c.2.2.2.2.2) rfl).to, ?_⟩
  refine List.forall_mem_cons.mpr ⟨(s_iload (am_dp pw_X9_widen_32 dd_X9_widen_32a.1)).to, ?_⟩
  refine List.forall_mem_cons.mpr ⟨(s_iadd (am_dp pw_X9_widen_32 dd_X9_widen_32a.2.1)).to, ?_⟩
  refine List.forall_mem_cons.mpr ⟨(s_iconst (am_dp pw_X9_widen_32 dd_X9_widen_32a.2.2.1) (by decide)).to, ?_⟩
  refine List.forall_mem_cons.mpr ⟨(s_iadd (am_dp pw_X9_widen_32 dd_X9_widen_32a.2.2.2.1)).to, ?_⟩
  refine List.forall_mem_cons.mpr ⟨(s_lald (am_dp pw_X9_widen_32 dd_X9_widen_32a.2.2.2.2.1)).to, ?_⟩
  refine List.forall_mem_cons.mpr ⟨(s_goto (am_dp pw_X9_widen_32 dd_X9_widen_32a.2.2.2.2.2.1) (by decide)).to, ?_⟩
  refine List.forall_mem_cons.mpr ⟨(s_lconst (am_dp pw_X9_widen_32 dd_X9_widen_32a.2.2.2.2.2.2.1) (by decide)).to, ?_⟩
  refine List.forall_mem_cons.mpr ⟨(s_lstore (am_dp pw_X9_widen_32 dd_X9_widen_32a.2.2.2.2.2.2.2) (by decide)).to, ?_⟩
  refine List.forall_mem_cons.mpr ⟨(s_lload (am_dp pw_X9_widen_32 dd_X9_widen_32b.1)).to, ?_⟩
  refine List.forall_mem_cons.mpr ⟨(s_iconst (am_dp pw_X9_widen_32 dd_X9_widen_32b.2.1) (by decide)).to, ?_⟩
  refine List.forall_mem_cons.mpr ⟨(s_lshl (am_dp pw_X9_widen_32 dd_X9_widen_32b.2.2.1)).to, ?_⟩
  refine List.forall_mem_cons.mpr ⟨(s_ldc2 (am_dp pw_X9_widen_32 dd_X9_widen_32b.2.2.2.1) wd973).to, ?_⟩
  refine List.forall_mem_cons.mpr ⟨(s_land (am_dp pw_X9_widen_32 dd_X9_widen_32b.2.2.2.2.1)).to, ?_⟩
  refine List.forall_mem_cons.mpr ⟨(s_lload (am_dp pw_X9_widen_32 dd_X9_widen_32b.2.2.2.2.2.1)).to, ?_⟩
  refine List.forall_mem_cons.mpr ⟨(s_iconst (am_dp pw_X9_widen_32 dd_X9_widen_32b.2.2.2.2.2.2.1) (by decide)).to, ?_⟩
  refine List.forall_mem_cons.mpr ⟨(s_lushr (am_dp pw_X9_widen_32 dd_X9_widen_32b.2.2.2.2.2.2.2)).to, ?_⟩
  refine List.forall_mem_cons.mpr ⟨(s_ldc2 (am_dp pw_X9_widen_32 dd_X9_widen_32c.1) wd974).to, ?_⟩
  refine List.forall_mem_cons.mpr ⟨(s_land (am_dp pw_X9_widen_32 dd_X9_widen_32c.2.1)).to, ?_⟩
  refine List.forall_mem_cons.mpr ⟨(s_lor (am_dp pw_X9_widen_32 dd_X9_widen_32c.2.2.1)).to, ?_⟩
  refine List.forall_mem_cons.mpr ⟨(s_lstore (am_dp pw_X9_widen_32 dd_X9_widen_32c.2.2.2.1) (by decide)).to, ?_⟩
  refine List.forall_mem_cons.mpr ⟨(s_lload (am_dp pw_X9_widen_32 dd_X9_widen_32c.2.2.2.2)).to, ?_⟩
  refine List.forall_mem_cons.mpr ⟨(s_bipush (am_dp pw_X9_widen_64 dd_X9_widen_64a.1) (by decide)).to, ?_⟩
  refine List.forall_mem_cons.mpr ⟨(s_lshl (am_dp pw_X9_widen_64 dd_X9_widen_64a.2.1)).to, ?_⟩
  refine List.forall_mem_cons.mpr ⟨(s_lload (am_dp pw_X9_widen_64 dd_X9_widen_64a.2.2.1)).to, ?_⟩
  refine List.forall_mem_cons.mpr ⟨(s_bipush (am_dp pw_X9_widen_64 dd_X9_widen_64a.2.2.2.1) (by decide)).to, ?_⟩
  refine List.forall_mem_cons.mpr ⟨(s_lushr (am_dp pw_X9_widen_64 dd_X9_widen_64a.2.2.2.2.1)).to, ?_⟩
  refine List.forall_mem_cons.mpr ⟨(s_lor (am_dp pw_X9_widen_64 dd_X9_widen_64a.2.2.2.2.2.1)).to, ?_⟩
  refine List.forall_mem_cons.mpr ⟨(s_lstore (am_dp pw_X9_widen_64 dd_X9_widen_64a.2.2.2.2.2.2.1) (by decide)).to, ?_⟩
  refine List.forall_mem_cons.mpr ⟨(s_lload (am_dp pw_X9_widen_64 dd_X9_widen_64a.2.2.2.2.2.2.2)).to, ?_⟩
  refine List.forall_mem_cons.mpr ⟨(s_bipush (am_dp pw_X9_widen_64 dd_X9_widen_64b.1) (by decide)).to, ?_⟩
  refine List.forall_mem_cons.mpr ⟨(s_lushr (am_dp pw_X9_widen_64 dd_X9_widen_64b.2.1)).to, ?_⟩
  refine List.forall_mem_cons.mpr ⟨(s_lload (am_dp pw_X9_widen_64 dd_X9_widen_64b.2.2.1)).to, ?_⟩
  refine List.forall_mem_cons.mpr ⟨(s_bipush (am_dp pw_X9_widen_64 dd_X9_widen_64b.2.2.2.1) (by decide)).to, ?_⟩
  refine List.forall_mem_cons.mpr ⟨(s_lshl (am_dp pw_X9_widen_64 dd_X9_widen_64b.2.2.2.2.1)).to, ?_⟩
  refine List.forall_mem_cons.mpr ⟨(s_lor (am_dp pw_X9_widen_64 dd_X9_widen_64b.2.2.2.2.2.1)).to, ?_⟩
  refine List.forall_mem_cons.mpr ⟨(s_lstore (am_dp pw_X9_widen_64 dd_X9_widen_64b.2.2.2.2.2.2.1) (by decide)).to, ?_⟩
  refine List.forall_mem_cons.mpr ⟨(s_aloadn (am_dp pw_X9_widen_64 dd_X9_widen_64b.2.2.2.2.2.2.2) rfl).to, ?_⟩
  refine List.forall_mem_cons.mpr ⟨(s_iloadn (am_dp pw_X9_widen_64 dd_X9_widen_64c.1) rfl).to, ?_⟩
  exact fun _ h => absurd h List.not_mem_nil
theorem sn_tX9_widen_1 : ∀ q ∈ tX9_widen_1, am_Snd am_P0 RX9 cX9_widen 17 (Option.some FieldType.boolean) "widen" q.1 q.2 := by
  unfold tX9_widen_1
  refine List.forall_mem_cons.mpr ⟨(s_iload (am_dp pw_X9_widen_64 dd_X9_widen_64c.2.1)).to, ?_⟩
  refine List.forall_mem_cons.mpr ⟨(s_iadd (am_dp pw_X9_widen_64 dd_X9_widen_64c.2.2.1)).to, ?_⟩
  refine List.forall_mem_cons.mpr ⟨(s_lload (am_dp pw_X9_widen_64 dd_X9_widen_64c.2.2.2)).to, ?_⟩
  refine List.forall_mem_cons.mpr ⟨(s_lload (am_dp pw_X9_widen_96 dd_X9_widen_96a.1)).to, ?_⟩
  refine List.forall_mem_cons.mpr ⟨(s_lor (am_dp pw_X9_widen_96 dd_X9_widen_96a.2.1)).to, ?_⟩
  refine List.forall_mem_cons.mpr ⟨(s_lload (am_dp pw_X9_widen_96 dd_X9_widen_96a.2.2.1)).to, ?_⟩
  refine List.forall_mem_cons.mpr ⟨(s_lor (am_dp pw_X9_widen_96 dd_X9_widen_96a.2.2.2.1)).to, ?_⟩
  refine List.forall_mem_cons.mpr ⟨(s_lload (am_dp pw_X9_widen_96 dd_X9_widen_96a.2.2.2.2.1)).to, ?_⟩
  refine List.forall_mem_cons.mpr ⟨(s_lor (am_dp pw_X9_widen_96 dd_X9_widen_96a.2.2.2.2.2.1)).to, ?_⟩
  refine List.forall_mem_cons.mpr ⟨(s_aloadn (am_dp pw_X9_widen_96 dd_X9_widen_96a.2.2.2.2.2.2.1) rfl).to, ?_⟩
  refine List.forall_mem_cons.mpr ⟨(s_get (ci := 9) (k := 0) (am_dp pw_X9_widen_96 dd_X9_widen_96a.2.2.2.2.2.2.2) rfl (by decide) wd490 inX9 rfl).to, ?_⟩
  refine List.forall_mem_cons.mpr ⟨(s_iload (am_dp pw_X9_widen_96 dd_X9_widen_96b.1)).to, ?_⟩
  refine List.forall_mem_cons.mpr ⟨(s_lald (am_dp pw_X9_widen_96 dd_X9_widen_96b.2.1)).to, ?_⟩
  refine List.forall_mem_cons.mpr ⟨(s_land (am_dp pw_X9_widen_96 dd_X9_widen_96b.2.2.1)).to, ?_⟩
  refine List.forall_mem_cons.mpr ⟨(s_last (am_dp pw_X9_widen_96 dd_X9_widen_96b.2.2.2.1)).to, ?_⟩
  refine List.forall_mem_cons.mpr ⟨(s_iloadn (am_dp pw_X9_widen_96 dd_X9_widen_96b.2.2.2.2.1) rfl).to, ?_⟩
  refine List.forall_mem_cons.mpr ⟨(s_aloadn (am_dp pw_X9_widen_96 dd_X9_widen_96b.2.2.2.2.2.1) rfl).to, ?_⟩
  refine List.forall_mem_cons.mpr ⟨(s_iloadn (am_dp pw_X9_widen_96 dd_X9_widen_96b.2.2.2.2.2.2.1) rfl).to, ?_⟩
  refine List.forall_mem_cons.mpr ⟨(s_iload (am_dp pw_X9_widen_96 dd_X9_widen_96b.2.2.2.2.2.2.2)).to, ?_⟩
  refine List.forall_mem_cons.mpr ⟨(s_iadd (am_dp pw_X9_widen_96 dd_X9_widen_96c.1)).to, ?_⟩
  refine List.forall_mem_cons.mpr ⟨(s_lald (am_dp pw_X9_widen_96 dd_X9_widen_96c.2.1)).to, ?_⟩
  refine List.forall_mem_cons.mpr ⟨(s_lload (am_dp pw_X9_widen_96 dd_X9_widen_96c.2.2.1)).to, ?_⟩
  refine List.forall_mem_cons.mpr ⟨(s_lcmp (am_dp pw_X9_widen_96 dd_X9_widen_96c.2.2.2.1)).to, ?_⟩
  refine List.forall_mem_cons.mpr ⟨(s_if_eq (am_dp pw_X9_widen_96 dd_X9_widen_96c.2.2.2.2.1) (by decide)).to, ?_⟩
  refine List.forall_mem_cons.mpr ⟨(s_iconst (am_dp pw_X9_widen_96 dd_X9_widen_96c.2.2.2.2.2) (by decide)).to, ?_⟩
  refine List.forall_mem_cons.mpr ⟨(s_goto (am_dp pw_X9_widen_128 dd_X9_widen_128a.1) (by decide)).to, ?_⟩
  refine List.forall_mem_cons.mpr ⟨(s_iconst (am_dp pw_X9_widen_128 dd_X9_widen_128a.2.1) (by decide)).to, ?_⟩
  refine List.forall_mem_cons.mpr ⟨(s_ior (am_dp pw_X9_widen_128 dd_X9_widen_128a.2.2.1)).to, ?_⟩
  refine List.forall_mem_cons.mpr ⟨(s_istoren (am_dp pw_X9_widen_128 dd_X9_widen_128a.2.2.2.1) rfl (by decide)).to, ?_⟩
  refine List.forall_mem_cons.mpr ⟨(s_lload (am_dp pw_X9_widen_128 dd_X9_widen_128a.2.2.2.2.1)).to, ?_⟩
  refine List.forall_mem_cons.mpr ⟨(s_lstore (am_dp pw_X9_widen_128 dd_X9_widen_128a.2.2.2.2.2.1) (by decide)).to, ?_⟩
  refine List.forall_mem_cons.mpr ⟨(s_iinc (am_dp pw_X9_widen_128 dd_X9_widen_128a.2.2.2.2.2.2.1) (by decide) (by decide)).to, ?_⟩
  refine List.forall_mem_cons.mpr ⟨(s_goto (am_dp pw_X9_widen_128 dd_X9_widen_128a.2.2.2.2.2.2.2) (by decide)).to, ?_⟩
  refine List.forall_mem_cons.mpr ⟨(s_iloadn (am_dp pw_X9_widen_128 dd_X9_widen_128b.1) rfl).to, ?_⟩
  refine List.forall_mem_cons.mpr ⟨s_zret (am_dp pw_X9_widen_128 dd_X9_widen_128b.2) rfl, ?_⟩
  exact fun _ h => absurd h List.not_mem_nil
theorem sn_tX9_widen : ∀ q ∈ tX9_widen, am_Snd am_P0 RX9 cX9_widen 17 (Option.some FieldType.boolean) "widen" q.1 q.2 := by
  unfold tX9_widen
  exact List.forall_mem_append.mpr ⟨sn_tX9_widen_0, sn_tX9_widen_1⟩
theorem sn_tX9_hoursBetween_0 : ∀ q ∈ tX9_hoursBetween_0, am_Snd am_P0 RX9 cX9_hoursBetween 4 (Option.some FieldType.int) "hoursBetween" q.1 q.2 := by
  unfold tX9_hoursBetween_0
  refine List.forall_mem_cons.mpr ⟨(s_aloadn (am_dp pw_X9_hoursBetween_0 dd_X9_hoursBetween_0a.1) rfl).to, ?_⟩
  refine List.forall_mem_cons.mpr ⟨(s_iloadn (am_dp pw_X9_hoursBetween_0 dd_X9_hoursBetween_0a.2.1) rfl).to, ?_⟩
  refine List.forall_mem_cons.mpr ⟨zw_cv103 (am_dp pw_X9_hoursBetween_0 dd_X9_hoursBetween_0a.2.2.1) wd1048, ?_⟩
  refine List.forall_mem_cons.mpr ⟨(s_if_eq (am_dp pw_X9_hoursBetween_0 dd_X9_hoursBetween_0a.2.2.2.1) (by decide)).to, ?_⟩
  refine List.forall_mem_cons.mpr ⟨(s_aloadn (am_dp pw_X9_hoursBetween_0 dd_X9_hoursBetween_0a.2.2.2.2.1) rfl).to, ?_⟩
  refine List.forall_mem_cons.mpr ⟨(s_iloadn (am_dp pw_X9_hoursBetween_0 dd_X9_hoursBetween_0a.2.2.2.2.2.1) rfl).to, ?_⟩
  refine List.forall_mem_cons.mpr ⟨zw_cv103 (am_dp pw_X9_hoursBetween_0 dd_X9_hoursBetween_0a.2.2.2.2.2.2.1) wd1048, ?_⟩
  refine List.forall_mem_cons.mpr ⟨(s_if_ne (am_dp pw_X9_hoursBetween_0 dd_X9_hoursBetween_0a.2.2.2.2.2.2.2) (by decide)).to, ?_⟩
  refine List.forall_mem_cons.mpr ⟨(s_iconst (am_dp pw_X9_hoursBetween_0 dd_X9_hoursBetween_0b.1) (by decide)).to, ?_⟩
  refine List.forall_mem_cons.mpr ⟨s_iret (am_dp pw_X9_hoursBetween_0 dd_X9_hoursBetween_0b.2.1) rfl, ?_⟩
  refine List.forall_mem_cons.mpr ⟨(s_aloadn (am_dp pw_X9_hoursBetween_0 dd_X9_hoursBetween_0b.2.2.1) rfl).to, ?_⟩
  refine List.forall_mem_cons.mpr ⟨(s_get (ci := 9) (k := 4) (am_dp pw_X9_hoursBetween_0 dd_X9_hoursBetween_0b.2.2.2.1) rfl (by decide) wd495 inX9 rfl).to, ?_⟩
  refine List.forall_mem_cons.mpr ⟨(s_lconst (am_dp pw_X9_hoursBetween_0 dd_X9_hoursBetween_0b.2.2.2.2.1) (by decide)).to, ?_⟩
  refine List.forall_mem_cons.mpr ⟨zw_cs322 (am_dp pw_X9_hoursBetween_0 dd_X9_hoursBetween_0b.2.2.2.2.2.1) wd898, ?_⟩
  refine List.forall_mem_cons.mpr ⟨(s_aloadn (am_dp pw_X9_hoursBetween_0 dd_X9_hoursBetween_0b.2.2.2.2.2.2.1) rfl).to, ?_⟩
  refine List.forall_mem_cons.mpr ⟨(s_get (ci := 9) (k := 4) (am_dp pw_X9_hoursBetween_0 dd_X9_hoursBetween_0b.2.2.2.2.2.2.2) rfl (by decide) wd495 inX9 rfl).to, ?_⟩
  refine List.forall_mem_cons.mpr ⟨(s_iloadn (am_dp pw_X9_hoursBetween_0 dd_X9_hoursBetween_0c.1) rfl).to, ?_⟩
  refine List.forall_mem_cons.mpr ⟨(s_bipush (am_dp pw_X9_hoursBetween_0 dd_X9_hoursBetween_0c.2) (by decide)).to, ?_⟩
  refine List.forall_mem_cons.mpr ⟨(s_ishr (am_dp pw_X9_hoursBetween_32 dd_X9_hoursBetween_32a.1)).to, ?_⟩
  refine List.forall_mem_cons.mpr ⟨(s_lconst (am_dp pw_X9_hoursBetween_32 dd_X9_hoursBetween_32a.2.1) (by decide)).to, ?_⟩
  refine List.forall_mem_cons.mpr ⟨(s_iloadn (am_dp pw_X9_hoursBetween_32 dd_X9_hoursBetween_32a.2.2.1) rfl).to, ?_⟩
  refine List.forall_mem_cons.mpr ⟨(s_bipush (am_dp pw_X9_hoursBetween_32 dd_X9_hoursBetween_32a.2.2.2.1) (by decide)).to, ?_⟩
  refine List.forall_mem_cons.mpr ⟨(s_iand (am_dp pw_X9_hoursBetween_32 dd_X9_hoursBetween_32a.2.2.2.2.1)).to, ?_⟩
  refine List.forall_mem_cons.mpr ⟨(s_lshl (am_dp pw_X9_hoursBetween_32 dd_X9_hoursBetween_32a.2.2.2.2.2.1)).to, ?_⟩
  refine List.forall_mem_cons.mpr ⟨(s_last (am_dp pw_X9_hoursBetween_32 dd_X9_hoursBetween_32a.2.2.2.2.2.2.1)).to, ?_⟩
  refine List.forall_mem_cons.mpr ⟨(s_iconst (am_dp pw_X9_hoursBetween_32 dd_X9_hoursBetween_32a.2.2.2.2.2.2.2) (by decide)).to, ?_⟩
  refine List.forall_mem_cons.mpr ⟨(s_istoren (am_dp pw_X9_hoursBetween_32 dd_X9_hoursBetween_32b.1) rfl (by decide)).to, ?_⟩
  refine List.forall_mem_cons.mpr ⟨(s_iloadn (am_dp pw_X9_hoursBetween_32 dd_X9_hoursBetween_32b.2.1) rfl).to, ?_⟩
  refine List.forall_mem_cons.mpr ⟨(s_sipush (am_dp pw_X9_hoursBetween_32 dd_X9_hoursBetween_32b.2.2.1) (by decide)).to, ?_⟩
  refine List.forall_mem_cons.mpr ⟨(s_icmp_ge (am_dp pw_X9_hoursBetween_32 dd_X9_hoursBetween_32b.2.2.2.1) (by decide)).to, ?_⟩
  refine List.forall_mem_cons.mpr ⟨(s_aloadn (am_dp pw_X9_hoursBetween_32 dd_X9_hoursBetween_32b.2.2.2.2.1) rfl).to, ?_⟩
  refine List.forall_mem_cons.mpr ⟨(s_get (ci := 9) (k := 4) (am_dp pw_X9_hoursBetween_32 dd_X9_hoursBetween_32b.2.2.2.2.2.1) rfl (by decide) wd495 inX9 rfl).to, ?_⟩
  refine List.forall_mem_cons.mpr ⟨(s_iloadn (am_dp pw_X9_hoursBetween_32 dd_X9_hoursBetween_32b.2.2.2.2.2.2.1) rfl).to, ?_⟩
  refine List.forall_mem_cons.mpr ⟨(s_bipush (am_dp pw_X9_hoursBetween_32 dd_X9_hoursBetween_32b.2.2.2.2.2.2.2) (by decide)).to, ?_⟩
  refine List.forall_mem_cons.mpr ⟨(s_ishr (am_dp pw_X9_hoursBetween_32 dd_X9_hoursBetween_32c.1)).to, ?_⟩
  refine List.forall_mem_cons.mpr ⟨(s_lald (am_dp pw_X9_hoursBetween_32 dd_X9_hoursBetween_32c.2.1)).to, ?_⟩
  refine List.forall_mem_cons.mpr ⟨(s_iloadn (am_dp pw_X9_hoursBetween_32 dd_X9_hoursBetween_32c.2.2.1) rfl).to, ?_⟩
  refine List.forall_mem_cons.mpr ⟨(s_bipush (am_dp pw_X9_hoursBetween_32 dd_X9_hoursBetween_32c.2.2.2.1) (by decide)).to, ?_⟩
  refine List.forall_mem_cons.mpr ⟨(s_iand (am_dp pw_X9_hoursBetween_32 dd_X9_hoursBetween_32c.2.2.2.2.1)).to, ?_⟩
  refine List.forall_mem_cons.mpr ⟨(s_lushr (am_dp pw_X9_hoursBetween_32 dd_X9_hoursBetween_32c.2.2.2.2.2)).to, ?_⟩
  refine List.forall_mem_cons.mpr ⟨(s_lconst (am_dp pw_X9_hoursBetween_64 dd_X9_hoursBetween_64a.1) (by decide)).to, ?_⟩
  refine List.forall_mem_cons.mpr ⟨(s_land (am_dp pw_X9_hoursBetween_64 dd_X9_hoursBetween_64a.2.1)).to, ?_⟩
  refine List.forall_mem_cons.mpr ⟨(s_lconst (am_dp pw_X9_hoursBetween_64 dd_X9_hoursBetween_64a.2.2.1) (by decide)).to, ?_⟩
  refine List.forall_mem_cons.mpr ⟨(s_lcmp (am_dp pw_X9_hoursBetween_64 dd_X9_hoursBetween_64a.2.2.2.1)).to, ?_⟩
  refine List.forall_mem_cons.mpr ⟨(s_if_eq (am_dp pw_X9_hoursBetween_64 dd_X9_hoursBetween_64a.2.2.2.2.1) (by decide)).to, ?_⟩
  refine List.forall_mem_cons.mpr ⟨(s_iloadn (am_dp pw_X9_hoursBetween_64 dd_X9_hoursBetween_64a.2.2.2.2.2.1) rfl).to, ?_⟩
  refine List.forall_mem_cons.mpr ⟨(s_aloadn (am_dp pw_X9_hoursBetween_64 dd_X9_hoursBetween_64a.2.2.2.2.2.2.1) rfl).to, ?_⟩
  refine List.forall_mem_cons.mpr ⟨(s_get (ci := 9) (k := 1) (am_dp pw_X9_hoursBetween_64 dd_X9_hoursBetween_64a.2.2.2.2.2.2.2) rfl (by decide) wd492 inX9 rfl).to, ?_⟩
  refine List.forall_mem_cons.mpr ⟨(s_iadd (am_dp pw_X9_hoursBetween_64 dd_X9_hoursBetween_64b.1)).to, ?_⟩
  refine List.forall_mem_cons.mpr ⟨(s_iconst (am_dp pw_X9_hoursBetween_64 dd_X9_hoursBetween_64b.2.1) (by decide)).to, ?_⟩
  refine List.forall_mem_cons.mpr ⟨(s_isub (am_dp pw_X9_hoursBetween_64 dd_X9_hoursBetween_64b.2.2.1)).to, ?_⟩
  refine List.forall_mem_cons.mpr ⟨(s_aloadn (am_dp pw_X9_hoursBetween_64 dd_X9_hoursBetween_64b.2.2.2.1) rfl).to, ?_⟩
  refine List.forall_mem_cons.mpr ⟨(s_get (ci := 9) (k := 1) (am_dp pw_X9_hoursBetween_64 dd_X9_hoursBetween_64b.2.2.2.2.1) rfl (by decide) wd492 inX9 rfl).to, ?_⟩
  refine List.forall_mem_cons.mpr ⟨(s_idiv (am_dp pw_X9_hoursBetween_64 dd_X9_hoursBetween_64b.2.2.2.2.2.1)).to, ?_⟩
  refine List.forall_mem_cons.mpr ⟨s_iret (am_dp pw_X9_hoursBetween_64 dd_X9_hoursBetween_64b.2.2.2.2.2.2.1) rfl, ?_⟩
  refine List.forall_mem_cons.mpr ⟨(s_aloadn (am_dp pw_X9_hoursBetween_64 dd_X9_hoursBetween_64b.2.2.2.2.2.2.2) rfl).to, ?_⟩
  refine List.forall_mem_cons.mpr ⟨(s_aloadn (am_dp pw_X9_hoursBetween_64 dd_X9_hoursBetween_64c.1) rfl).to, ?_⟩
  refine List.forall_mem_cons.mpr ⟨(s_get (ci := 9) (k := 4) (am_dp pw_X9_hoursBetween_64 dd_X9_hoursBetween_64c.2.1) rfl (by decide) wd495 inX9 rfl).to, ?_⟩
  refine List.forall_mem_cons.mpr ⟨(s_iconst (am_dp pw_X9_hoursBetween_64 dd_X9_hoursBetween_64c.2.2.1) (by decide)).to, ?_⟩
  refine List.forall_mem_cons.mpr ⟨zw_cv106 (am_dp pw_X9_hoursBetween_64 dd_X9_hoursBetween_64c.2.2.2.1) wd969, ?_⟩
  exact fun _ h => absurd h List.not_mem_nil
theorem sn_tX9_hoursBetween_1 : ∀ q ∈ tX9_hoursBetween_1, am_Snd am_P0 RX9 cX9_hoursBetween 4 (Option.some FieldType.int) "hoursBetween" q.1 q.2 := by
  unfold tX9_hoursBetween_1
  refine List.forall_mem_cons.mpr ⟨(s_if_ne (am_dp pw_X9_hoursBetween_64 dd_X9_hoursBetween_64c.2.2.2.2) (by decide)).to, ?_⟩
  refine List.forall_mem_cons.mpr ⟨(s_iconst (am_dp pw_X9_hoursBetween_96 dd_X9_hoursBetween_96a.1) (by decide)).to, ?_⟩
  refine List.forall_mem_cons.mpr ⟨s_iret (am_dp pw_X9_hoursBetween_96 dd_X9_hoursBetween_96a.2.1) rfl, ?_⟩
  refine List.forall_mem_cons.mpr ⟨(s_iinc (am_dp pw_X9_hoursBetween_96 dd_X9_hoursBetween_96a.2.2.1) (by decide) (by decide)).to, ?_⟩
  refine List.forall_mem_cons.mpr ⟨(s_goto (am_dp pw_X9_hoursBetween_96 dd_X9_hoursBetween_96a.2.2.2.1) (by decide)).to, ?_⟩
  refine List.forall_mem_cons.mpr ⟨(s_iconst (am_dp pw_X9_hoursBetween_96 dd_X9_hoursBetween_96a.2.2.2.2.1) (by decide)).to, ?_⟩
  refine List.forall_mem_cons.mpr ⟨s_iret (am_dp pw_X9_hoursBetween_96 dd_X9_hoursBetween_96a.2.2.2.2.2) rfl, ?_⟩
  exact fun _ h => absurd h List.not_mem_nil
theorem sn_tX9_hoursBetween : ∀ q ∈ tX9_hoursBetween, am_Snd am_P0 RX9 cX9_hoursBetween 4 (Option.some FieldType.int) "hoursBetween" q.1 q.2 := by
  unfold tX9_hoursBetween
  exact List.forall_mem_append.mpr ⟨sn_tX9_hoursBetween_0, sn_tX9_hoursBetween_1⟩
theorem sn_tX10_init_0 : ∀ q ∈ tX10_init_0, am_Snd am_P0 RX10 cX10_init 2 (Option.none : Option FieldType) "<init>" q.1 q.2 := by
  unfold tX10_init_0
  refine List.forall_mem_cons.mpr ⟨(s_aloadn (am_dp pw_X10_init_0 dd_X10_init_0a.1) rfl).to, ?_⟩
  refine List.forall_mem_cons.mpr ⟨(s_obj (am_dp pw_X10_init_0 dd_X10_init_0a.2.1) wd159 wd160 wd161).to, ?_⟩
  refine List.forall_mem_cons.mpr ⟨(s_aloadn (am_dp pw_X10_init_0 dd_X10_init_0a.2.2.1) rfl).to, ?_⟩
  refine List.forall_mem_cons.mpr ⟨(s_sipush (am_dp pw_X10_init_0 dd_X10_init_0a.2.2.2.1) (by decide)).to, ?_⟩
  refine List.forall_mem_cons.mpr ⟨(s_newa (kd := 0) (ty := .int) (am_dp pw_X10_init_0 dd_X10_init_0a.2.2.2.2.1) rfl rfl wd195 (by decide) (by decide) (fun _ _ h => h)).to, ?_⟩
  refine List.forall_mem_cons.mpr ⟨(s_putF (ci := 10) (k := 0) (am_dp pw_X10_init_0 dd_X10_init_0a.2.2.2.2.2.1) rfl (by decide) wd579 inX10 tyX10_ok nmX10 rfl rfl rfl rfl).to, ?_⟩
  refine List.forall_mem_cons.mpr ⟨(s_aloadn (am_dp pw_X10_init_0 dd_X10_init_0a.2.2.2.2.2.2.1) rfl).to, ?_⟩
  refine List.forall_mem_cons.mpr ⟨(s_new (ci := 5) (am_dp pw_X10_init_0 dd_X10_init_0a.2.2.2.2.2.2.2) rfl wd162 wd163 wd135 inX5 tyX5_ok (by decide)).to, ?_⟩
  refine List.forall_mem_cons.mpr ⟨(s_dup (am_dp pw_X10_init_0 dd_X10_init_0b.1)).to, ?_⟩
  refine List.forall_mem_cons.mpr ⟨z_ci (ci := 5) (am_dp pw_X10_init_0 dd_X10_init_0b.2.1) mt51 wd164 rfl rfl, ?_⟩
  refine List.forall_mem_cons.mpr ⟨(s_put (ci := 10) (k := 2) (am_dp pw_X10_init_0 dd_X10_init_0b.2.2.1) rfl (by decide) wd581 inX10 tyX10_ok nmX10 rfl rfl).to, ?_⟩
  refine List.forall_mem_cons.mpr ⟨(s_aloadn (am_dp pw_X10_init_0 dd_X10_init_0b.2.2.2.1) rfl).to, ?_⟩
  refine List.forall_mem_cons.mpr ⟨(s_new (ci := 5) (am_dp pw_X10_init_0 dd_X10_init_0b.2.2.2.2.1) rfl wd162 wd163 wd135 inX5 tyX5_ok (by decide)).to, ?_⟩
  refine List.forall_mem_cons.mpr ⟨(s_dup (am_dp pw_X10_init_0 dd_X10_init_0b.2.2.2.2.2.1)).to, ?_⟩
  refine List.forall_mem_cons.mpr ⟨z_ci (ci := 5) (am_dp pw_X10_init_0 dd_X10_init_0b.2.2.2.2.2.2) mt51 wd164 rfl rfl, ?_⟩
  refine List.forall_mem_cons.mpr ⟨(s_put (ci := 10) (k := 3) (am_dp pw_X10_init_32 dd_X10_init_32a.1) rfl (by decide) wd582 inX10 tyX10_ok nmX10 rfl rfl).to, ?_⟩
  refine List.forall_mem_cons.mpr ⟨(s_aloadn (am_dp pw_X10_init_32 dd_X10_init_32a.2.1) rfl).to, ?_⟩
  refine List.forall_mem_cons.mpr ⟨(s_new (ci := 2) (am_dp pw_X10_init_32 dd_X10_init_32a.2.2.1) rfl wd367 wd368 wd140 inX2 tyX2_ok (by decide)).to, ?_⟩
  refine List.forall_mem_cons.mpr ⟨(s_dup (am_dp pw_X10_init_32 dd_X10_init_32a.2.2.2.1)).to, ?_⟩
  refine List.forall_mem_cons.mpr ⟨(s_aloadn (am_dp pw_X10_init_32 dd_X10_init_32a.2.2.2.2.1) rfl).to, ?_⟩
  refine List.forall_mem_cons.mpr ⟨(s_get (ci := 10) (k := 3) (am_dp pw_X10_init_32 dd_X10_init_32a.2.2.2.2.2.1) rfl (by decide) wd582 inX10 rfl).to, ?_⟩
  refine List.forall_mem_cons.mpr ⟨z_ci (ci := 2) (am_dp pw_X10_init_32 dd_X10_init_32a.2.2.2.2.2.2.1) mt9 wd369 rfl rfl, ?_⟩
  refine List.forall_mem_cons.mpr ⟨(s_putF (ci := 10) (k := 4) (am_dp pw_X10_init_32 dd_X10_init_32a.2.2.2.2.2.2.2) rfl (by decide) wd583 inX10 tyX10_ok nmX10 rfl rfl rfl rfl).to, ?_⟩
  refine List.forall_mem_cons.mpr ⟨(s_aloadn (am_dp pw_X10_init_32 dd_X10_init_32b.1) rfl).to, ?_⟩
  refine List.forall_mem_cons.mpr ⟨(s_iconst (am_dp pw_X10_init_32 dd_X10_init_32b.2.1) (by decide)).to, ?_⟩
  refine List.forall_mem_cons.mpr ⟨(s_put (ci := 10) (k := 6) (am_dp pw_X10_init_32 dd_X10_init_32b.2.2.1) rfl (by decide) wd585 inX10 tyX10_ok nmX10 rfl rfl).to, ?_⟩
  refine List.forall_mem_cons.mpr ⟨(s_aloadn (am_dp pw_X10_init_32 dd_X10_init_32b.2.2.2.1) rfl).to, ?_⟩
  refine List.forall_mem_cons.mpr ⟨(s_bipush (am_dp pw_X10_init_32 dd_X10_init_32b.2.2.2.2.1) (by decide)).to, ?_⟩
  refine List.forall_mem_cons.mpr ⟨(s_newq (kd := 4) (am_dp pw_X10_init_32 dd_X10_init_32b.2.2.2.2.2.1) rfl wd475 (fun _ _ h => h.2.2.2.2.1)).to, ?_⟩
  refine List.forall_mem_cons.mpr ⟨(s_putF (ci := 10) (k := 7) (am_dp pw_X10_init_32 dd_X10_init_32b.2.2.2.2.2.2) rfl (by decide) wd586 inX10 tyX10_ok nmX10 rfl rfl rfl rfl).to, ?_⟩
  refine List.forall_mem_cons.mpr ⟨(s_aloadn (am_dp pw_X10_init_64 dd_X10_init_64a.1) rfl).to, ?_⟩
  refine List.forall_mem_cons.mpr ⟨(s_iconst (am_dp pw_X10_init_64 dd_X10_init_64a.2.1) (by decide)).to, ?_⟩
  refine List.forall_mem_cons.mpr ⟨(s_newa (kd := 0) (ty := .int) (am_dp pw_X10_init_64 dd_X10_init_64a.2.2.1) rfl rfl wd195 (by decide) (by decide) (fun _ _ h => h)).to, ?_⟩
  refine List.forall_mem_cons.mpr ⟨(s_putF (ci := 10) (k := 8) (am_dp pw_X10_init_64 dd_X10_init_64a.2.2.2.1) rfl (by decide) wd587 inX10 tyX10_ok nmX10 rfl rfl rfl rfl).to, ?_⟩
  refine List.forall_mem_cons.mpr ⟨(s_aloadn (am_dp pw_X10_init_64 dd_X10_init_64a.2.2.2.2.1) rfl).to, ?_⟩
  refine List.forall_mem_cons.mpr ⟨(s_sipush (am_dp pw_X10_init_64 dd_X10_init_64a.2.2.2.2.2.1) (by decide)).to, ?_⟩
  refine List.forall_mem_cons.mpr ⟨(s_newa (kd := 0) (ty := .int) (am_dp pw_X10_init_64 dd_X10_init_64a.2.2.2.2.2.2.1) rfl rfl wd195 (by decide) (by decide) (fun _ _ h => h)).to, ?_⟩
  refine List.forall_mem_cons.mpr ⟨(s_putF (ci := 10) (k := 9) (am_dp pw_X10_init_64 dd_X10_init_64a.2.2.2.2.2.2.2) rfl (by decide) wd588 inX10 tyX10_ok nmX10 rfl rfl rfl rfl).to, ?_⟩
  refine List.forall_mem_cons.mpr ⟨(s_aloadn (am_dp pw_X10_init_64 dd_X10_init_64b.1) rfl).to, ?_⟩
  refine List.forall_mem_cons.mpr ⟨(s_bipush (am_dp pw_X10_init_64 dd_X10_init_64b.2.1) (by decide)).to, ?_⟩
  refine List.forall_mem_cons.mpr ⟨(s_newa (kd := 1) (ty := .long) (am_dp pw_X10_init_64 dd_X10_init_64b.2.2.1) rfl rfl wd303 (by decide) (by decide) (fun _ _ h => h)).to, ?_⟩
  refine List.forall_mem_cons.mpr ⟨(s_putF (ci := 10) (k := 11) (am_dp pw_X10_init_64 dd_X10_init_64b.2.2.2.1) rfl (by decide) wd590 inX10 tyX10_ok nmX10 rfl rfl rfl rfl).to, ?_⟩
  refine List.forall_mem_cons.mpr ⟨(s_aloadn (am_dp pw_X10_init_64 dd_X10_init_64b.2.2.2.2.1) rfl).to, ?_⟩
  refine List.forall_mem_cons.mpr ⟨(s_bipush (am_dp pw_X10_init_64 dd_X10_init_64b.2.2.2.2.2.1) (by decide)).to, ?_⟩
  refine List.forall_mem_cons.mpr ⟨(s_newa (kd := 1) (ty := .long) (am_dp pw_X10_init_64 dd_X10_init_64b.2.2.2.2.2.2.1) rfl rfl wd303 (by decide) (by decide) (fun _ _ h => h)).to, ?_⟩
  refine List.forall_mem_cons.mpr ⟨(s_putF (ci := 10) (k := 12) (am_dp pw_X10_init_64 dd_X10_init_64b.2.2.2.2.2.2.2) rfl (by decide) wd591 inX10 tyX10_ok nmX10 rfl rfl rfl rfl).to, ?_⟩
  refine List.forall_mem_cons.mpr ⟨(s_aloadn (am_dp pw_X10_init_96 dd_X10_init_96a.1) rfl).to, ?_⟩
  refine List.forall_mem_cons.mpr ⟨(s_iconst (am_dp pw_X10_init_96 dd_X10_init_96a.2.1) (by decide)).to, ?_⟩
  refine List.forall_mem_cons.mpr ⟨(s_put (ci := 10) (k := 14) (am_dp pw_X10_init_96 dd_X10_init_96a.2.2.1) rfl (by decide) wd593 inX10 tyX10_ok nmX10 rfl rfl).to, ?_⟩
  refine List.forall_mem_cons.mpr ⟨(s_aloadn (am_dp pw_X10_init_96 dd_X10_init_96a.2.2.2.1) rfl).to, ?_⟩
  refine List.forall_mem_cons.mpr ⟨(s_iconst (am_dp pw_X10_init_96 dd_X10_init_96a.2.2.2.2.1) (by decide)).to, ?_⟩
  refine List.forall_mem_cons.mpr ⟨(s_put (ci := 10) (k := 15) (am_dp pw_X10_init_96 dd_X10_init_96a.2.2.2.2.2.1) rfl (by decide) wd594 inX10 tyX10_ok nmX10 rfl rfl).to, ?_⟩
  refine List.forall_mem_cons.mpr ⟨(s_iconst (am_dp pw_X10_init_96 dd_X10_init_96a.2.2.2.2.2.2.1) (by decide)).to, ?_⟩
  refine List.forall_mem_cons.mpr ⟨(s_istoren (am_dp pw_X10_init_96 dd_X10_init_96a.2.2.2.2.2.2.2) rfl (by decide)).to, ?_⟩
  refine List.forall_mem_cons.mpr ⟨(s_iloadn (am_dp pw_X10_init_96 dd_X10_init_96b.1) rfl).to, ?_⟩
  refine List.forall_mem_cons.mpr ⟨(s_bipush (am_dp pw_X10_init_96 dd_X10_init_96b.2.1) (by decide)).to, ?_⟩
  refine List.forall_mem_cons.mpr ⟨(s_icmp_ge (am_dp pw_X10_init_96 dd_X10_init_96b.2.2.1) (by decide)).to, ?_⟩
  refine List.forall_mem_cons.mpr ⟨(s_aloadn (am_dp pw_X10_init_96 dd_X10_init_96b.2.2.2.1) rfl).to, ?_⟩
  refine List.forall_mem_cons.mpr ⟨(s_get (ci := 10) (k := 7) (am_dp pw_X10_init_96 dd_X10_init_96b.2.2.2.2.1) rfl (by decide) wd586 inX10 rfl).to, ?_⟩
  refine List.forall_mem_cons.mpr ⟨(s_iloadn (am_dp pw_X10_init_96 dd_X10_init_96b.2.2.2.2.2.1) rfl).to, ?_⟩
  exact fun _ h => absurd h List.not_mem_nil
theorem sn_tX10_init_1 : ∀ q ∈ tX10_init_1, am_Snd am_P0 RX10 cX10_init 2 (Option.none : Option FieldType) "<init>" q.1 q.2 := by
  unfold tX10_init_1
  refine List.forall_mem_cons.mpr ⟨(s_new (ci := 8) (am_dp pw_X10_init_96 dd_X10_init_96b.2.2.2.2.2.2.1) rfl wd475 wd477 wd146 inX8 tyX8_ok (by decide)).to, ?_⟩
  refine List.forall_mem_cons.mpr ⟨(s_dup (am_dp pw_X10_init_96 dd_X10_init_96b.2.2.2.2.2.2.2)).to, ?_⟩
  refine List.forall_mem_cons.mpr ⟨(s_aloadn (am_dp pw_X10_init_96 dd_X10_init_96c.1) rfl).to, ?_⟩
  refine List.forall_mem_cons.mpr ⟨(s_get (ci := 10) (k := 2) (am_dp pw_X10_init_96 dd_X10_init_96c.2.1) rfl (by decide) wd581 inX10 rfl).to, ?_⟩
  refine List.forall_mem_cons.mpr ⟨(s_aloadn (am_dp pw_X10_init_96 dd_X10_init_96c.2.2) rfl).to, ?_⟩
  refine List.forall_mem_cons.mpr ⟨(s_get (ci := 10) (k := 2) (am_dp pw_X10_init_128 dd_X10_init_128a.1) rfl (by decide) wd581 inX10 rfl).to, ?_⟩
  refine List.forall_mem_cons.mpr ⟨(s_get (ci := 5) (k := 4) (am_dp pw_X10_init_128 dd_X10_init_128a.2.1) rfl (by decide) wd318 inX5 rfl).to, ?_⟩
  refine List.forall_mem_cons.mpr ⟨(s_iloadn (am_dp pw_X10_init_128 dd_X10_init_128a.2.2.1) rfl).to, ?_⟩
  refine List.forall_mem_cons.mpr ⟨(s_aald (am_dp pw_X10_init_128 dd_X10_init_128a.2.2.2.1)).to, ?_⟩
  refine List.forall_mem_cons.mpr ⟨z_ci (ci := 8) (am_dp pw_X10_init_128 dd_X10_init_128a.2.2.2.2.1) mt72 wd478 rfl rfl, ?_⟩
  refine List.forall_mem_cons.mpr ⟨(s_aas (am_dp pw_X10_init_128 dd_X10_init_128a.2.2.2.2.2.1)).to, ?_⟩
  refine List.forall_mem_cons.mpr ⟨(s_iinc (am_dp pw_X10_init_128 dd_X10_init_128a.2.2.2.2.2.2.1) (by decide) (by decide)).to, ?_⟩
  refine List.forall_mem_cons.mpr ⟨(s_goto (am_dp pw_X10_init_128 dd_X10_init_128a.2.2.2.2.2.2.2) (by decide)).to, ?_⟩
  refine List.forall_mem_cons.mpr ⟨s_vret (am_dp pw_X10_init_128 dd_X10_init_128b) rfl, ?_⟩
  exact fun _ h => absurd h List.not_mem_nil
theorem sn_tX10_init : ∀ q ∈ tX10_init, am_Snd am_P0 RX10 cX10_init 2 (Option.none : Option FieldType) "<init>" q.1 q.2 := by
  unfold tX10_init
  exact List.forall_mem_append.mpr ⟨sn_tX10_init_0, sn_tX10_init_1⟩
theorem sn_tX10_feed : ∀ q ∈ tX10_feed, am_Snd am_P0 RX10 cX10_feed 6 (Option.some FieldType.int) "feed" q.1 q.2 := by
  unfold tX10_feed
  refine List.forall_mem_cons.mpr ⟨(s_aloadn (am_dp pw_X10_feed_0 dd_X10_feed_0a.1) rfl).to, ?_⟩
  refine List.forall_mem_cons.mpr ⟨(s_get (ci := 10) (k := 1) (am_dp pw_X10_feed_0 dd_X10_feed_0a.2.1) rfl (by decide) wd580 inX10 rfl).to, ?_⟩
  refine List.forall_mem_cons.mpr ⟨(s_bipush (am_dp pw_X10_feed_0 dd_X10_feed_0a.2.2.1) (by decide)).to, ?_⟩
  refine List.forall_mem_cons.mpr ⟨(s_iadd (am_dp pw_X10_feed_0 dd_X10_feed_0a.2.2.2.1)).to, ?_⟩
  refine List.forall_mem_cons.mpr ⟨(s_sipush (am_dp pw_X10_feed_0 dd_X10_feed_0a.2.2.2.2.1) (by decide)).to, ?_⟩
  refine List.forall_mem_cons.mpr ⟨(s_icmp_le (am_dp pw_X10_feed_0 dd_X10_feed_0a.2.2.2.2.2.1) (by decide)).to, ?_⟩
  refine List.forall_mem_cons.mpr ⟨(s_aloadn (am_dp pw_X10_feed_0 dd_X10_feed_0a.2.2.2.2.2.2.1) rfl).to, ?_⟩
  refine List.forall_mem_cons.mpr ⟨(s_get (ci := 10) (k := 8) (am_dp pw_X10_feed_0 dd_X10_feed_0a.2.2.2.2.2.2.2) rfl (by decide) wd587 inX10 rfl).to, ?_⟩
  refine List.forall_mem_cons.mpr ⟨(s_iconst (am_dp pw_X10_feed_0 dd_X10_feed_0b.1) (by decide)).to, ?_⟩
  refine List.forall_mem_cons.mpr ⟨(s_dup2 (am_dp pw_X10_feed_0 dd_X10_feed_0b.2.1)).to, ?_⟩
  refine List.forall_mem_cons.mpr ⟨(s_iald (am_dp pw_X10_feed_0 dd_X10_feed_0b.2.2.1)).to, ?_⟩
  refine List.forall_mem_cons.mpr ⟨(s_iconst (am_dp pw_X10_feed_0 dd_X10_feed_0b.2.2.2.1) (by decide)).to, ?_⟩
  refine List.forall_mem_cons.mpr ⟨(s_iadd (am_dp pw_X10_feed_0 dd_X10_feed_0b.2.2.2.2.1)).to, ?_⟩
  refine List.forall_mem_cons.mpr ⟨(s_iast (am_dp pw_X10_feed_0 dd_X10_feed_0b.2.2.2.2.2.1)).to, ?_⟩
  refine List.forall_mem_cons.mpr ⟨(s_iconst (am_dp pw_X10_feed_0 dd_X10_feed_0b.2.2.2.2.2.2.1) (by decide)).to, ?_⟩
  refine List.forall_mem_cons.mpr ⟨s_iret (am_dp pw_X10_feed_0 dd_X10_feed_0b.2.2.2.2.2.2.2) rfl, ?_⟩
  refine List.forall_mem_cons.mpr ⟨(s_aloadn (am_dp pw_X10_feed_0 dd_X10_feed_0c.1) rfl).to, ?_⟩
  refine List.forall_mem_cons.mpr ⟨(s_iloadn (am_dp pw_X10_feed_0 dd_X10_feed_0c.2.1) rfl).to, ?_⟩
  refine List.forall_mem_cons.mpr ⟨zw_cv152 (am_dp pw_X10_feed_0 dd_X10_feed_0c.2.2.1) wd635, ?_⟩
  refine List.forall_mem_cons.mpr ⟨(s_aloadn (am_dp pw_X10_feed_0 dd_X10_feed_0c.2.2.2.1) rfl).to, ?_⟩
  refine List.forall_mem_cons.mpr ⟨(s_iloadn (am_dp pw_X10_feed_0 dd_X10_feed_0c.2.2.2.2) rfl).to, ?_⟩
  refine List.forall_mem_cons.mpr ⟨zw_cv152 (am_dp pw_X10_feed_32 dd_X10_feed_32a.1) wd635, ?_⟩
  refine List.forall_mem_cons.mpr ⟨(s_aloadn (am_dp pw_X10_feed_32 dd_X10_feed_32a.2.1) rfl).to, ?_⟩
  refine List.forall_mem_cons.mpr ⟨(s_iloadn (am_dp pw_X10_feed_32 dd_X10_feed_32a.2.2.1) rfl).to, ?_⟩
  refine List.forall_mem_cons.mpr ⟨zw_cv152 (am_dp pw_X10_feed_32 dd_X10_feed_32a.2.2.2.1) wd635, ?_⟩
  refine List.forall_mem_cons.mpr ⟨(s_aloadn (am_dp pw_X10_feed_32 dd_X10_feed_32a.2.2.2.2.1) rfl).to, ?_⟩
  refine List.forall_mem_cons.mpr ⟨(s_iload (am_dp pw_X10_feed_32 dd_X10_feed_32a.2.2.2.2.2.1)).to, ?_⟩
  refine List.forall_mem_cons.mpr ⟨zw_cv152 (am_dp pw_X10_feed_32 dd_X10_feed_32a.2.2.2.2.2.2.1) wd635, ?_⟩
  refine List.forall_mem_cons.mpr ⟨(s_aloadn (am_dp pw_X10_feed_32 dd_X10_feed_32a.2.2.2.2.2.2.2) rfl).to, ?_⟩
  refine List.forall_mem_cons.mpr ⟨(s_iload (am_dp pw_X10_feed_32 dd_X10_feed_32b.1)).to, ?_⟩
  refine List.forall_mem_cons.mpr ⟨zw_cv152 (am_dp pw_X10_feed_32 dd_X10_feed_32b.2.1) wd635, ?_⟩
  refine List.forall_mem_cons.mpr ⟨(s_aloadn (am_dp pw_X10_feed_32 dd_X10_feed_32b.2.2.1) rfl).to, ?_⟩
  refine List.forall_mem_cons.mpr ⟨(s_get (ci := 10) (k := 1) (am_dp pw_X10_feed_32 dd_X10_feed_32b.2.2.2.1) rfl (by decide) wd580 inX10 rfl).to, ?_⟩
  refine List.forall_mem_cons.mpr ⟨s_iret (am_dp pw_X10_feed_32 dd_X10_feed_32b.2.2.2.2) rfl, ?_⟩
  exact fun _ h => absurd h List.not_mem_nil
theorem sn_tX10_end : ∀ q ∈ tX10_end, am_Snd am_P0 RX10 cX10_end 2 (Option.some FieldType.boolean) "end" q.1 q.2 := by
  unfold tX10_end
  refine List.forall_mem_cons.mpr ⟨(s_iloadn (am_dp pw_X10_end_0 dd_X10_end_0a.1) rfl).to, ?_⟩
  refine List.forall_mem_cons.mpr ⟨(s_if_lt (am_dp pw_X10_end_0 dd_X10_end_0a.2.1) (by decide)).to, ?_⟩
  refine List.forall_mem_cons.mpr ⟨(s_iloadn (am_dp pw_X10_end_0 dd_X10_end_0a.2.2.1) rfl).to, ?_⟩
  refine List.forall_mem_cons.mpr ⟨(s_aloadn (am_dp pw_X10_end_0 dd_X10_end_0a.2.2.2.1) rfl).to, ?_⟩
  refine List.forall_mem_cons.mpr ⟨(s_get (ci := 10) (k := 1) (am_dp pw_X10_end_0 dd_X10_end_0a.2.2.2.2.1) rfl (by decide) wd580 inX10 rfl).to, ?_⟩
  refine List.forall_mem_cons.mpr ⟨(s_icmp_le (am_dp pw_X10_end_0 dd_X10_end_0a.2.2.2.2.2.1) (by decide)).to, ?_⟩
  refine List.forall_mem_cons.mpr ⟨(s_aloadn (am_dp pw_X10_end_0 dd_X10_end_0a.2.2.2.2.2.2.1) rfl).to, ?_⟩
  refine List.forall_mem_cons.mpr ⟨(s_get (ci := 10) (k := 8) (am_dp pw_X10_end_0 dd_X10_end_0a.2.2.2.2.2.2.2) rfl (by decide) wd587 inX10 rfl).to, ?_⟩
  refine List.forall_mem_cons.mpr ⟨(s_iconst (am_dp pw_X10_end_0 dd_X10_end_0b.1) (by decide)).to, ?_⟩
  refine List.forall_mem_cons.mpr ⟨(s_dup2 (am_dp pw_X10_end_0 dd_X10_end_0b.2.1)).to, ?_⟩
  refine List.forall_mem_cons.mpr ⟨(s_iald (am_dp pw_X10_end_0 dd_X10_end_0b.2.2.1)).to, ?_⟩
  refine List.forall_mem_cons.mpr ⟨(s_iconst (am_dp pw_X10_end_0 dd_X10_end_0b.2.2.2.1) (by decide)).to, ?_⟩
  refine List.forall_mem_cons.mpr ⟨(s_iadd (am_dp pw_X10_end_0 dd_X10_end_0b.2.2.2.2.1)).to, ?_⟩
  refine List.forall_mem_cons.mpr ⟨(s_iast (am_dp pw_X10_end_0 dd_X10_end_0b.2.2.2.2.2.1)).to, ?_⟩
  refine List.forall_mem_cons.mpr ⟨(s_iconst (am_dp pw_X10_end_0 dd_X10_end_0b.2.2.2.2.2.2.1) (by decide)).to, ?_⟩
  refine List.forall_mem_cons.mpr ⟨s_zret (am_dp pw_X10_end_0 dd_X10_end_0b.2.2.2.2.2.2.2) rfl, ?_⟩
  refine List.forall_mem_cons.mpr ⟨(s_aloadn (am_dp pw_X10_end_0 dd_X10_end_0c.1) rfl).to, ?_⟩
  refine List.forall_mem_cons.mpr ⟨(s_iloadn (am_dp pw_X10_end_0 dd_X10_end_0c.2.1) rfl).to, ?_⟩
  refine List.forall_mem_cons.mpr ⟨(s_put (ci := 10) (k := 1) (am_dp pw_X10_end_0 dd_X10_end_0c.2.2.1) rfl (by decide) wd580 inX10 tyX10_ok nmX10 rfl rfl).to, ?_⟩
  refine List.forall_mem_cons.mpr ⟨(s_iconst (am_dp pw_X10_end_0 dd_X10_end_0c.2.2.2.1) (by decide)).to, ?_⟩
  refine List.forall_mem_cons.mpr ⟨s_zret (am_dp pw_X10_end_0 dd_X10_end_0c.2.2.2.2) rfl, ?_⟩
  exact fun _ h => absurd h List.not_mem_nil
theorem sn_tX10_sea_0 : ∀ q ∈ tX10_sea_0, am_Snd am_P0 RX10 cX10_sea 4 (Option.some FieldType.int) "sea" q.1 q.2 := by
  unfold tX10_sea_0
  refine List.forall_mem_cons.mpr ⟨(s_aloadn (am_dp pw_X10_sea_0 dd_X10_sea_0a.1) rfl).to, ?_⟩
  refine List.forall_mem_cons.mpr ⟨(s_get (ci := 10) (k := 4) (am_dp pw_X10_sea_0 dd_X10_sea_0a.2.1) rfl (by decide) wd583 inX10 rfl).to, ?_⟩
  refine List.forall_mem_cons.mpr ⟨(s_aloadn (am_dp pw_X10_sea_0 dd_X10_sea_0a.2.2.1) rfl).to, ?_⟩
  refine List.forall_mem_cons.mpr ⟨(s_get (ci := 10) (k := 3) (am_dp pw_X10_sea_0 dd_X10_sea_0a.2.2.2.1) rfl (by decide) wd582 inX10 rfl).to, ?_⟩
  refine List.forall_mem_cons.mpr ⟨(s_aloadn (am_dp pw_X10_sea_0 dd_X10_sea_0a.2.2.2.2.1) rfl).to, ?_⟩
  refine List.forall_mem_cons.mpr ⟨(s_get (ci := 10) (k := 0) (am_dp pw_X10_sea_0 dd_X10_sea_0a.2.2.2.2.2.1) rfl (by decide) wd579 inX10 rfl).to, ?_⟩
  refine List.forall_mem_cons.mpr ⟨(s_aloadn (am_dp pw_X10_sea_0 dd_X10_sea_0a.2.2.2.2.2.2.1) rfl).to, ?_⟩
  refine List.forall_mem_cons.mpr ⟨(s_get (ci := 10) (k := 1) (am_dp pw_X10_sea_0 dd_X10_sea_0a.2.2.2.2.2.2.2) rfl (by decide) wd580 inX10 rfl).to, ?_⟩
  refine List.forall_mem_cons.mpr ⟨zw_cv10 (am_dp pw_X10_sea_0 dd_X10_sea_0b.1) wd647, ?_⟩
  refine List.forall_mem_cons.mpr ⟨(s_iconst (am_dp pw_X10_sea_0 dd_X10_sea_0b.2.1) (by decide)).to, ?_⟩
  refine List.forall_mem_cons.mpr ⟨(s_istoren (am_dp pw_X10_sea_0 dd_X10_sea_0b.2.2.1) rfl (by decide)).to, ?_⟩
  refine List.forall_mem_cons.mpr ⟨(s_aloadn (am_dp pw_X10_sea_0 dd_X10_sea_0b.2.2.2.1) rfl).to, ?_⟩
  refine List.forall_mem_cons.mpr ⟨(s_get (ci := 10) (k := 4) (am_dp pw_X10_sea_0 dd_X10_sea_0b.2.2.2.2.1) rfl (by decide) wd583 inX10 rfl).to, ?_⟩
  refine List.forall_mem_cons.mpr ⟨(s_iloadn (am_dp pw_X10_sea_0 dd_X10_sea_0b.2.2.2.2.2.1) rfl).to, ?_⟩
  refine List.forall_mem_cons.mpr ⟨(s_if_ne (am_dp pw_X10_sea_0 dd_X10_sea_0b.2.2.2.2.2.2.1) (by decide)).to, ?_⟩
  refine List.forall_mem_cons.mpr ⟨(s_iconst (am_dp pw_X10_sea_0 dd_X10_sea_0b.2.2.2.2.2.2.2) (by decide)).to, ?_⟩
  refine List.forall_mem_cons.mpr ⟨(s_goto (am_dp pw_X10_sea_0 dd_X10_sea_0c) (by decide)).to, ?_⟩
  refine List.forall_mem_cons.mpr ⟨(s_iconst (am_dp pw_X10_sea_32 dd_X10_sea_32a.1) (by decide)).to, ?_⟩
  refine List.forall_mem_cons.mpr ⟨zw_cv11 (am_dp pw_X10_sea_32 dd_X10_sea_32a.2.1) wd677, ?_⟩
  refine List.forall_mem_cons.mpr ⟨(s_aloadn (am_dp pw_X10_sea_32 dd_X10_sea_32a.2.2.1) rfl).to, ?_⟩
  refine List.forall_mem_cons.mpr ⟨(s_get (ci := 10) (k := 4) (am_dp pw_X10_sea_32 dd_X10_sea_32a.2.2.2.1) rfl (by decide) wd583 inX10 rfl).to, ?_⟩
  refine List.forall_mem_cons.mpr ⟨(s_get (ci := 2) (k := 0) (am_dp pw_X10_sea_32 dd_X10_sea_32a.2.2.2.2.1) rfl (by decide) wd468 inX2 rfl).to, ?_⟩
  refine List.forall_mem_cons.mpr ⟨(s_bipush (am_dp pw_X10_sea_32 dd_X10_sea_32a.2.2.2.2.2.1) (by decide)).to, ?_⟩
  refine List.forall_mem_cons.mpr ⟨zw_cv41 (am_dp pw_X10_sea_32 dd_X10_sea_32a.2.2.2.2.2.2.1) wd842, ?_⟩
  refine List.forall_mem_cons.mpr ⟨(s_iinc (am_dp pw_X10_sea_32 dd_X10_sea_32a.2.2.2.2.2.2.2) (by decide) (by decide)).to, ?_⟩
  refine List.forall_mem_cons.mpr ⟨(s_aloadn (am_dp pw_X10_sea_32 dd_X10_sea_32b.1) rfl).to, ?_⟩
  refine List.forall_mem_cons.mpr ⟨(s_get (ci := 10) (k := 4) (am_dp pw_X10_sea_32 dd_X10_sea_32b.2.1) rfl (by decide) wd583 inX10 rfl).to, ?_⟩
  refine List.forall_mem_cons.mpr ⟨(s_get (ci := 2) (k := 0) (am_dp pw_X10_sea_32 dd_X10_sea_32b.2.2.1) rfl (by decide) wd468 inX2 rfl).to, ?_⟩
  refine List.forall_mem_cons.mpr ⟨(s_get (ci := 3) (k := 4) (am_dp pw_X10_sea_32 dd_X10_sea_32b.2.2.2.1) rfl (by decide) wd433 inX3 rfl).to, ?_⟩
  refine List.forall_mem_cons.mpr ⟨(s_if_eq (am_dp pw_X10_sea_32 dd_X10_sea_32b.2.2.2.2) (by decide)).to, ?_⟩
  refine List.forall_mem_cons.mpr ⟨(s_iloadn (am_dp pw_X10_sea_64 dd_X10_sea_64a.1) rfl).to, ?_⟩
  refine List.forall_mem_cons.mpr ⟨(s_sipush (am_dp pw_X10_sea_64 dd_X10_sea_64a.2.1) (by decide)).to, ?_⟩
  refine List.forall_mem_cons.mpr ⟨(s_icmp_lt (am_dp pw_X10_sea_64 dd_X10_sea_64a.2.2.1) (by decide)).to, ?_⟩
  refine List.forall_mem_cons.mpr ⟨(s_aloadn (am_dp pw_X10_sea_64 dd_X10_sea_64a.2.2.2.1) rfl).to, ?_⟩
  refine List.forall_mem_cons.mpr ⟨(s_iconst (am_dp pw_X10_sea_64 dd_X10_sea_64a.2.2.2.2.1) (by decide)).to, ?_⟩
  refine List.forall_mem_cons.mpr ⟨(s_put (ci := 10) (k := 1) (am_dp pw_X10_sea_64 dd_X10_sea_64a.2.2.2.2.2.1) rfl (by decide) wd580 inX10 tyX10_ok nmX10 rfl rfl).to, ?_⟩
  refine List.forall_mem_cons.mpr ⟨(s_aloadn (am_dp pw_X10_sea_64 dd_X10_sea_64a.2.2.2.2.2.2.1) rfl).to, ?_⟩
  refine List.forall_mem_cons.mpr ⟨(s_aloadn (am_dp pw_X10_sea_64 dd_X10_sea_64a.2.2.2.2.2.2.2) rfl).to, ?_⟩
  refine List.forall_mem_cons.mpr ⟨(s_get (ci := 10) (k := 4) (am_dp pw_X10_sea_64 dd_X10_sea_64b.1) rfl (by decide) wd583 inX10 rfl).to, ?_⟩
  refine List.forall_mem_cons.mpr ⟨(s_get (ci := 2) (k := 0) (am_dp pw_X10_sea_64 dd_X10_sea_64b.2.1) rfl (by decide) wd468 inX2 rfl).to, ?_⟩
  refine List.forall_mem_cons.mpr ⟨(s_get (ci := 3) (k := 8) (am_dp pw_X10_sea_64 dd_X10_sea_64b.2.2.1) rfl (by decide) wd441 inX3 rfl).to, ?_⟩
  refine List.forall_mem_cons.mpr ⟨(s_put (ci := 10) (k := 5) (am_dp pw_X10_sea_64 dd_X10_sea_64b.2.2.2.1) rfl (by decide) wd584 inX10 tyX10_ok nmX10 rfl rfl).to, ?_⟩
  refine List.forall_mem_cons.mpr ⟨(s_aloadn (am_dp pw_X10_sea_64 dd_X10_sea_64b.2.2.2.2.1) rfl).to, ?_⟩
  refine List.forall_mem_cons.mpr ⟨(s_aloadn (am_dp pw_X10_sea_64 dd_X10_sea_64b.2.2.2.2.2.1) rfl).to, ?_⟩
  refine List.forall_mem_cons.mpr ⟨(s_get (ci := 10) (k := 4) (am_dp pw_X10_sea_64 dd_X10_sea_64b.2.2.2.2.2.2) rfl (by decide) wd583 inX10 rfl).to, ?_⟩
  refine List.forall_mem_cons.mpr ⟨(s_get (ci := 2) (k := 0) (am_dp pw_X10_sea_96 dd_X10_sea_96a.1) rfl (by decide) wd468 inX2 rfl).to, ?_⟩
  refine List.forall_mem_cons.mpr ⟨(s_get (ci := 3) (k := 9) (am_dp pw_X10_sea_96 dd_X10_sea_96a.2.1) rfl (by decide) wd444 inX3 rfl).to, ?_⟩
  refine List.forall_mem_cons.mpr ⟨(s_put (ci := 10) (k := 6) (am_dp pw_X10_sea_96 dd_X10_sea_96a.2.2.1) rfl (by decide) wd585 inX10 tyX10_ok nmX10 rfl rfl).to, ?_⟩
  refine List.forall_mem_cons.mpr ⟨(s_aloadn (am_dp pw_X10_sea_96 dd_X10_sea_96a.2.2.2.1) rfl).to, ?_⟩
  refine List.forall_mem_cons.mpr ⟨(s_get (ci := 10) (k := 5) (am_dp pw_X10_sea_96 dd_X10_sea_96a.2.2.2.2.1) rfl (by decide) wd584 inX10 rfl).to, ?_⟩
  refine List.forall_mem_cons.mpr ⟨(s_if_eq (am_dp pw_X10_sea_96 dd_X10_sea_96a.2.2.2.2.2.1) (by decide)).to, ?_⟩
  refine List.forall_mem_cons.mpr ⟨(s_aloadn (am_dp pw_X10_sea_96 dd_X10_sea_96a.2.2.2.2.2.2.1) rfl).to, ?_⟩
  refine List.forall_mem_cons.mpr ⟨(s_get (ci := 10) (k := 8) (am_dp pw_X10_sea_96 dd_X10_sea_96a.2.2.2.2.2.2.2) rfl (by decide) wd587 inX10 rfl).to, ?_⟩
  refine List.forall_mem_cons.mpr ⟨(s_iconst (am_dp pw_X10_sea_96 dd_X10_sea_96b.1) (by decide)).to, ?_⟩
  refine List.forall_mem_cons.mpr ⟨(s_dup2 (am_dp pw_X10_sea_96 dd_X10_sea_96b.2.1)).to, ?_⟩
  refine List.forall_mem_cons.mpr ⟨(s_iald (am_dp pw_X10_sea_96 dd_X10_sea_96b.2.2.1)).to, ?_⟩
  refine List.forall_mem_cons.mpr ⟨(s_iconst (am_dp pw_X10_sea_96 dd_X10_sea_96b.2.2.2.1) (by decide)).to, ?_⟩
  refine List.forall_mem_cons.mpr ⟨(s_iadd (am_dp pw_X10_sea_96 dd_X10_sea_96b.2.2.2.2.1)).to, ?_⟩
  refine List.forall_mem_cons.mpr ⟨(s_iast (am_dp pw_X10_sea_96 dd_X10_sea_96b.2.2.2.2.2.1)).to, ?_⟩
  refine List.forall_mem_cons.mpr ⟨(s_iconst (am_dp pw_X10_sea_96 dd_X10_sea_96b.2.2.2.2.2.2.1) (by decide)).to, ?_⟩
  exact fun _ h => absurd h List.not_mem_nil
theorem sn_tX10_sea_1 : ∀ q ∈ tX10_sea_1, am_Snd am_P0 RX10 cX10_sea 4 (Option.some FieldType.int) "sea" q.1 q.2 := by
  unfold tX10_sea_1
  refine List.forall_mem_cons.mpr ⟨s_iret (am_dp pw_X10_sea_96 dd_X10_sea_96b.2.2.2.2.2.2.2) rfl, ?_⟩
  refine List.forall_mem_cons.mpr ⟨(s_aloadn (am_dp pw_X10_sea_96 dd_X10_sea_96c.1) rfl).to, ?_⟩
  refine List.forall_mem_cons.mpr ⟨(s_get (ci := 10) (k := 2) (am_dp pw_X10_sea_96 dd_X10_sea_96c.2) rfl (by decide) wd581 inX10 rfl).to, ?_⟩
  refine List.forall_mem_cons.mpr ⟨(s_astoren (am_dp pw_X10_sea_128 dd_X10_sea_128a.1) rfl (by decide)).to, ?_⟩
  refine List.forall_mem_cons.mpr ⟨(s_aloadn (am_dp pw_X10_sea_128 dd_X10_sea_128a.2.1) rfl).to, ?_⟩
  refine List.forall_mem_cons.mpr ⟨(s_aloadn (am_dp pw_X10_sea_128 dd_X10_sea_128a.2.2.1) rfl).to, ?_⟩
  refine List.forall_mem_cons.mpr ⟨(s_get (ci := 10) (k := 3) (am_dp pw_X10_sea_128 dd_X10_sea_128a.2.2.2.1) rfl (by decide) wd582 inX10 rfl).to, ?_⟩
  refine List.forall_mem_cons.mpr ⟨(s_put (ci := 10) (k := 2) (am_dp pw_X10_sea_128 dd_X10_sea_128a.2.2.2.2.1) rfl (by decide) wd581 inX10 tyX10_ok nmX10 rfl rfl).to, ?_⟩
  refine List.forall_mem_cons.mpr ⟨(s_aloadn (am_dp pw_X10_sea_128 dd_X10_sea_128a.2.2.2.2.2.1) rfl).to, ?_⟩
  refine List.forall_mem_cons.mpr ⟨(s_aloadn (am_dp pw_X10_sea_128 dd_X10_sea_128a.2.2.2.2.2.2.1) rfl).to, ?_⟩
  refine List.forall_mem_cons.mpr ⟨(s_put (ci := 10) (k := 3) (am_dp pw_X10_sea_128 dd_X10_sea_128a.2.2.2.2.2.2.2) rfl (by decide) wd582 inX10 tyX10_ok nmX10 rfl rfl).to, ?_⟩
  refine List.forall_mem_cons.mpr ⟨(s_aloadn (am_dp pw_X10_sea_128 dd_X10_sea_128b.1) rfl).to, ?_⟩
  refine List.forall_mem_cons.mpr ⟨(s_get (ci := 10) (k := 2) (am_dp pw_X10_sea_128 dd_X10_sea_128b.2.1) rfl (by decide) wd581 inX10 rfl).to, ?_⟩
  refine List.forall_mem_cons.mpr ⟨zw_cv53 (am_dp pw_X10_sea_128 dd_X10_sea_128b.2.2.1) wd843, ?_⟩
  refine List.forall_mem_cons.mpr ⟨(s_iconst (am_dp pw_X10_sea_128 dd_X10_sea_128b.2.2.2.1) (by decide)).to, ?_⟩
  refine List.forall_mem_cons.mpr ⟨(s_istoren (am_dp pw_X10_sea_128 dd_X10_sea_128b.2.2.2.2.1) rfl (by decide)).to, ?_⟩
  refine List.forall_mem_cons.mpr ⟨(s_iloadn (am_dp pw_X10_sea_128 dd_X10_sea_128b.2.2.2.2.2.1) rfl).to, ?_⟩
  refine List.forall_mem_cons.mpr ⟨(s_aloadn (am_dp pw_X10_sea_128 dd_X10_sea_128b.2.2.2.2.2.2.1) rfl).to, ?_⟩
  refine List.forall_mem_cons.mpr ⟨(s_get (ci := 10) (k := 2) (am_dp pw_X10_sea_128 dd_X10_sea_128b.2.2.2.2.2.2.2) rfl (by decide) wd581 inX10 rfl).to, ?_⟩
  refine List.forall_mem_cons.mpr ⟨(s_get (ci := 5) (k := 3) (am_dp pw_X10_sea_128 dd_X10_sea_128c.1) rfl (by decide) wd315 inX5 rfl).to, ?_⟩
  refine List.forall_mem_cons.mpr ⟨(s_icmp_ge (am_dp pw_X10_sea_128 dd_X10_sea_128c.2) (by decide)).to, ?_⟩
  refine List.forall_mem_cons.mpr ⟨(s_aloadn (am_dp pw_X10_sea_160 dd_X10_sea_160a.1) rfl).to, ?_⟩
  refine List.forall_mem_cons.mpr ⟨(s_get (ci := 10) (k := 7) (am_dp pw_X10_sea_160 dd_X10_sea_160a.2.1) rfl (by decide) wd586 inX10 rfl).to, ?_⟩
  refine List.forall_mem_cons.mpr ⟨(s_iloadn (am_dp pw_X10_sea_160 dd_X10_sea_160a.2.2.1) rfl).to, ?_⟩
  refine List.forall_mem_cons.mpr ⟨(s_aald (am_dp pw_X10_sea_160 dd_X10_sea_160a.2.2.2.1)).to, ?_⟩
  refine List.forall_mem_cons.mpr ⟨(s_aloadn (am_dp pw_X10_sea_160 dd_X10_sea_160a.2.2.2.2.1) rfl).to, ?_⟩
  refine List.forall_mem_cons.mpr ⟨(s_get (ci := 10) (k := 2) (am_dp pw_X10_sea_160 dd_X10_sea_160a.2.2.2.2.2.1) rfl (by decide) wd581 inX10 rfl).to, ?_⟩
  refine List.forall_mem_cons.mpr ⟨(s_aloadn (am_dp pw_X10_sea_160 dd_X10_sea_160a.2.2.2.2.2.2.1) rfl).to, ?_⟩
  refine List.forall_mem_cons.mpr ⟨(s_get (ci := 10) (k := 2) (am_dp pw_X10_sea_160 dd_X10_sea_160a.2.2.2.2.2.2.2) rfl (by decide) wd581 inX10 rfl).to, ?_⟩
  refine List.forall_mem_cons.mpr ⟨(s_get (ci := 5) (k := 4) (am_dp pw_X10_sea_160 dd_X10_sea_160b.1) rfl (by decide) wd318 inX5 rfl).to, ?_⟩
  refine List.forall_mem_cons.mpr ⟨(s_iloadn (am_dp pw_X10_sea_160 dd_X10_sea_160b.2.1) rfl).to, ?_⟩
  refine List.forall_mem_cons.mpr ⟨(s_aald (am_dp pw_X10_sea_160 dd_X10_sea_160b.2.2.1)).to, ?_⟩
  refine List.forall_mem_cons.mpr ⟨zw_cv73 (am_dp pw_X10_sea_160 dd_X10_sea_160b.2.2.2.1) wd889, ?_⟩
  refine List.forall_mem_cons.mpr ⟨(s_iinc (am_dp pw_X10_sea_160 dd_X10_sea_160b.2.2.2.2.1) (by decide) (by decide)).to, ?_⟩
  refine List.forall_mem_cons.mpr ⟨(s_goto (am_dp pw_X10_sea_160 dd_X10_sea_160b.2.2.2.2.2.1) (by decide)).to, ?_⟩
  refine List.forall_mem_cons.mpr ⟨(s_aloadn (am_dp pw_X10_sea_160 dd_X10_sea_160b.2.2.2.2.2.2.1) rfl).to, ?_⟩
  refine List.forall_mem_cons.mpr ⟨(s_iconst (am_dp pw_X10_sea_160 dd_X10_sea_160b.2.2.2.2.2.2.2) (by decide)).to, ?_⟩
  refine List.forall_mem_cons.mpr ⟨(s_put (ci := 10) (k := 13) (am_dp pw_X10_sea_192 dd_X10_sea_192a.1) rfl (by decide) wd592 inX10 tyX10_ok nmX10 rfl rfl).to, ?_⟩
  refine List.forall_mem_cons.mpr ⟨(s_iloadn (am_dp pw_X10_sea_192 dd_X10_sea_192a.2.1) rfl).to, ?_⟩
  refine List.forall_mem_cons.mpr ⟨s_iret (am_dp pw_X10_sea_192 dd_X10_sea_192a.2.2) rfl, ?_⟩
  exact fun _ h => absurd h List.not_mem_nil
theorem sn_tX10_sea : ∀ q ∈ tX10_sea, am_Snd am_P0 RX10 cX10_sea 4 (Option.some FieldType.int) "sea" q.1 q.2 := by
  unfold tX10_sea
  exact List.forall_mem_append.mpr ⟨sn_tX10_sea_0, sn_tX10_sea_1⟩
theorem sn_tX10_fault : ∀ q ∈ tX10_fault, am_Snd am_P0 RX10 cX10_fault 2 (Option.some FieldType.int) "fault" q.1 q.2 := by
  unfold tX10_fault
  refine List.forall_mem_cons.mpr ⟨(s_iloadn (am_dp pw_X10_fault_0 dd_X10_fault_0a.1) rfl).to, ?_⟩
  refine List.forall_mem_cons.mpr ⟨(s_look (by decide +kernel : decode cX10_fault 1 = .ok (.lookupswitch 37 #[(0, 27), (1, 32)], 27)) (by decide) (by decide) (by decide)).to, ?_⟩
  refine List.forall_mem_cons.mpr ⟨(s_aloadn (am_dp pw_X10_fault_0 dd_X10_fault_0a.2.1) rfl).to, ?_⟩
  refine List.forall_mem_cons.mpr ⟨(s_get (ci := 10) (k := 5) (am_dp pw_X10_fault_0 dd_X10_fault_0a.2.2) rfl (by decide) wd584 inX10 rfl).to, ?_⟩
  refine List.forall_mem_cons.mpr ⟨s_iret (am_dp pw_X10_fault_32 dd_X10_fault_32a.1) rfl, ?_⟩
  refine List.forall_mem_cons.mpr ⟨(s_aloadn (am_dp pw_X10_fault_32 dd_X10_fault_32a.2.1) rfl).to, ?_⟩
  refine List.forall_mem_cons.mpr ⟨(s_get (ci := 10) (k := 6) (am_dp pw_X10_fault_32 dd_X10_fault_32a.2.2.1) rfl (by decide) wd585 inX10 rfl).to, ?_⟩
  refine List.forall_mem_cons.mpr ⟨s_iret (am_dp pw_X10_fault_32 dd_X10_fault_32a.2.2.2.1) rfl, ?_⟩
  refine List.forall_mem_cons.mpr ⟨(s_iconst (am_dp pw_X10_fault_32 dd_X10_fault_32a.2.2.2.2.1) (by decide)).to, ?_⟩
  refine List.forall_mem_cons.mpr ⟨s_iret (am_dp pw_X10_fault_32 dd_X10_fault_32a.2.2.2.2.2) rfl, ?_⟩
  exact fun _ h => absurd h List.not_mem_nil
theorem sn_tX10_has : ∀ q ∈ tX10_has, am_Snd am_P0 RX10 cX10_has 2 (Option.some FieldType.int) "has" q.1 q.2 := by
  unfold tX10_has
  refine List.forall_mem_cons.mpr ⟨(s_iloadn (am_dp pw_X10_has_0 dd_X10_has_0a) rfl).to, ?_⟩
  refine List.forall_mem_cons.mpr ⟨(s_table (by decide +kernel : decode cX10_has 1 = .ok (.tableswitch 114 0 7 #[47, 55, 63, 71, 79, 87, 98, 106], 47)) (by decide) (by decide) (by decide) (by decide)).to, ?_⟩
  refine List.forall_mem_cons.mpr ⟨(s_aloadn (am_dp pw_X10_has_32 dd_X10_has_32a.1) rfl).to, ?_⟩
  refine List.forall_mem_cons.mpr ⟨(s_get (ci := 10) (k := 2) (am_dp pw_X10_has_32 dd_X10_has_32a.2.1) rfl (by decide) wd581 inX10 rfl).to, ?_⟩
  refine List.forall_mem_cons.mpr ⟨(s_get (ci := 5) (k := 0) (am_dp pw_X10_has_32 dd_X10_has_32a.2.2.1) rfl (by decide) wd307 inX5 rfl).to, ?_⟩
  refine List.forall_mem_cons.mpr ⟨s_iret (am_dp pw_X10_has_32 dd_X10_has_32a.2.2.2.1) rfl, ?_⟩
  refine List.forall_mem_cons.mpr ⟨(s_aloadn (am_dp pw_X10_has_32 dd_X10_has_32a.2.2.2.2.1) rfl).to, ?_⟩
  refine List.forall_mem_cons.mpr ⟨(s_get (ci := 10) (k := 2) (am_dp pw_X10_has_32 dd_X10_has_32a.2.2.2.2.2.1) rfl (by decide) wd581 inX10 rfl).to, ?_⟩
  refine List.forall_mem_cons.mpr ⟨(s_get (ci := 5) (k := 1) (am_dp pw_X10_has_32 dd_X10_has_32a.2.2.2.2.2.2.1) rfl (by decide) wd310 inX5 rfl).to, ?_⟩
  refine List.forall_mem_cons.mpr ⟨s_iret (am_dp pw_X10_has_32 dd_X10_has_32a.2.2.2.2.2.2.2) rfl, ?_⟩
  refine List.forall_mem_cons.mpr ⟨(s_aloadn (am_dp pw_X10_has_64 dd_X10_has_64a.1) rfl).to, ?_⟩
  refine List.forall_mem_cons.mpr ⟨(s_get (ci := 10) (k := 2) (am_dp pw_X10_has_64 dd_X10_has_64a.2.1) rfl (by decide) wd581 inX10 rfl).to, ?_⟩
  refine List.forall_mem_cons.mpr ⟨(s_get (ci := 5) (k := 3) (am_dp pw_X10_has_64 dd_X10_has_64a.2.2.1) rfl (by decide) wd315 inX5 rfl).to, ?_⟩
  refine List.forall_mem_cons.mpr ⟨s_iret (am_dp pw_X10_has_64 dd_X10_has_64a.2.2.2.1) rfl, ?_⟩
  refine List.forall_mem_cons.mpr ⟨(s_aloadn (am_dp pw_X10_has_64 dd_X10_has_64a.2.2.2.2.1) rfl).to, ?_⟩
  refine List.forall_mem_cons.mpr ⟨(s_get (ci := 10) (k := 2) (am_dp pw_X10_has_64 dd_X10_has_64a.2.2.2.2.2.1) rfl (by decide) wd581 inX10 rfl).to, ?_⟩
  refine List.forall_mem_cons.mpr ⟨zw_cv59 (am_dp pw_X10_has_64 dd_X10_has_64a.2.2.2.2.2.2.1) wd911, ?_⟩
  refine List.forall_mem_cons.mpr ⟨s_iret (am_dp pw_X10_has_64 dd_X10_has_64a.2.2.2.2.2.2.2) rfl, ?_⟩
  refine List.forall_mem_cons.mpr ⟨(s_aloadn (am_dp pw_X10_has_64 dd_X10_has_64b.1) rfl).to, ?_⟩
  refine List.forall_mem_cons.mpr ⟨(s_get (ci := 10) (k := 2) (am_dp pw_X10_has_64 dd_X10_has_64b.2.1) rfl (by decide) wd581 inX10 rfl).to, ?_⟩
  refine List.forall_mem_cons.mpr ⟨zw_cv61 (am_dp pw_X10_has_64 dd_X10_has_64b.2.2.1) wd912, ?_⟩
  refine List.forall_mem_cons.mpr ⟨s_iret (am_dp pw_X10_has_64 dd_X10_has_64b.2.2.2.1) rfl, ?_⟩
  refine List.forall_mem_cons.mpr ⟨(s_aloadn (am_dp pw_X10_has_64 dd_X10_has_64b.2.2.2.2.1) rfl).to, ?_⟩
  refine List.forall_mem_cons.mpr ⟨(s_get (ci := 10) (k := 2) (am_dp pw_X10_has_64 dd_X10_has_64b.2.2.2.2.2.1) rfl (by decide) wd581 inX10 rfl).to, ?_⟩
  refine List.forall_mem_cons.mpr ⟨(s_get (ci := 5) (k := 5) (am_dp pw_X10_has_64 dd_X10_has_64b.2.2.2.2.2.2.1) rfl (by decide) wd321 inX5 rfl).to, ?_⟩
  refine List.forall_mem_cons.mpr ⟨(s_get (ci := 7) (k := 0) (am_dp pw_X10_has_64 dd_X10_has_64b.2.2.2.2.2.2.2) rfl (by decide) wd178 inX7 rfl).to, ?_⟩
  refine List.forall_mem_cons.mpr ⟨s_iret (am_dp pw_X10_has_96 dd_X10_has_96a.1) rfl, ?_⟩
  refine List.forall_mem_cons.mpr ⟨(s_aloadn (am_dp pw_X10_has_96 dd_X10_has_96a.2.1) rfl).to, ?_⟩
  refine List.forall_mem_cons.mpr ⟨(s_get (ci := 10) (k := 2) (am_dp pw_X10_has_96 dd_X10_has_96a.2.2.1) rfl (by decide) wd581 inX10 rfl).to, ?_⟩
  refine List.forall_mem_cons.mpr ⟨(s_get (ci := 5) (k := 2) (am_dp pw_X10_has_96 dd_X10_has_96a.2.2.2.1) rfl (by decide) wd313 inX5 rfl).to, ?_⟩
  refine List.forall_mem_cons.mpr ⟨s_iret (am_dp pw_X10_has_96 dd_X10_has_96a.2.2.2.2.1) rfl, ?_⟩
  refine List.forall_mem_cons.mpr ⟨(s_aloadn (am_dp pw_X10_has_96 dd_X10_has_96a.2.2.2.2.2.1) rfl).to, ?_⟩
  refine List.forall_mem_cons.mpr ⟨(s_get (ci := 10) (k := 2) (am_dp pw_X10_has_96 dd_X10_has_96a.2.2.2.2.2.2.1) rfl (by decide) wd581 inX10 rfl).to, ?_⟩
  refine List.forall_mem_cons.mpr ⟨zw_cv60 (am_dp pw_X10_has_96 dd_X10_has_96a.2.2.2.2.2.2.2) wd913, ?_⟩
  refine List.forall_mem_cons.mpr ⟨s_iret (am_dp pw_X10_has_96 dd_X10_has_96b.1) rfl, ?_⟩
  refine List.forall_mem_cons.mpr ⟨(s_iconst (am_dp pw_X10_has_96 dd_X10_has_96b.2.1) (by decide)).to, ?_⟩
  refine List.forall_mem_cons.mpr ⟨s_iret (am_dp pw_X10_has_96 dd_X10_has_96b.2.2) rfl, ?_⟩
  exact fun _ h => absurd h List.not_mem_nil
theorem sn_tX10_letter : ∀ q ∈ tX10_letter, am_Snd am_P0 RX10 cX10_letter 4 (Option.some FieldType.int) "letter" q.1 q.2 := by
  unfold tX10_letter
  refine List.forall_mem_cons.mpr ⟨(s_aloadn (am_dp pw_X10_letter_0 dd_X10_letter_0a.1) rfl).to, ?_⟩
  refine List.forall_mem_cons.mpr ⟨(s_iloadn (am_dp pw_X10_letter_0 dd_X10_letter_0a.2.1) rfl).to, ?_⟩
  refine List.forall_mem_cons.mpr ⟨zw_cv150 (am_dp pw_X10_letter_0 dd_X10_letter_0a.2.2.1) wd921, ?_⟩
  refine List.forall_mem_cons.mpr ⟨(s_if_eq (am_dp pw_X10_letter_0 dd_X10_letter_0a.2.2.2.1) (by decide)).to, ?_⟩
  refine List.forall_mem_cons.mpr ⟨(s_iloadn (am_dp pw_X10_letter_0 dd_X10_letter_0a.2.2.2.2.1) rfl).to, ?_⟩
  refine List.forall_mem_cons.mpr ⟨(s_if_lt (am_dp pw_X10_letter_0 dd_X10_letter_0a.2.2.2.2.2.1) (by decide)).to, ?_⟩
  refine List.forall_mem_cons.mpr ⟨(s_iloadn (am_dp pw_X10_letter_0 dd_X10_letter_0a.2.2.2.2.2.2.1) rfl).to, ?_⟩
  refine List.forall_mem_cons.mpr ⟨(s_bipush (am_dp pw_X10_letter_0 dd_X10_letter_0a.2.2.2.2.2.2.2) (by decide)).to, ?_⟩
  refine List.forall_mem_cons.mpr ⟨(s_icmp_lt (am_dp pw_X10_letter_0 dd_X10_letter_0b.1) (by decide)).to, ?_⟩
  refine List.forall_mem_cons.mpr ⟨(s_iconst (am_dp pw_X10_letter_0 dd_X10_letter_0b.2.1) (by decide)).to, ?_⟩
  refine List.forall_mem_cons.mpr ⟨s_iret (am_dp pw_X10_letter_0 dd_X10_letter_0b.2.2.1) rfl, ?_⟩
  refine List.forall_mem_cons.mpr ⟨(s_aloadn (am_dp pw_X10_letter_0 dd_X10_letter_0b.2.2.2.1) rfl).to, ?_⟩
  refine List.forall_mem_cons.mpr ⟨(s_get (ci := 10) (k := 2) (am_dp pw_X10_letter_0 dd_X10_letter_0b.2.2.2.2.1) rfl (by decide) wd581 inX10 rfl).to, ?_⟩
  refine List.forall_mem_cons.mpr ⟨(s_get (ci := 5) (k := 4) (am_dp pw_X10_letter_0 dd_X10_letter_0b.2.2.2.2.2.1) rfl (by decide) wd318 inX5 rfl).to, ?_⟩
  refine List.forall_mem_cons.mpr ⟨(s_iloadn (am_dp pw_X10_letter_0 dd_X10_letter_0b.2.2.2.2.2.2.1) rfl).to, ?_⟩
  refine List.forall_mem_cons.mpr ⟨(s_aald (am_dp pw_X10_letter_0 dd_X10_letter_0b.2.2.2.2.2.2.2)).to, ?_⟩
  refine List.forall_mem_cons.mpr ⟨(s_get (ci := 6) (k := 0) (am_dp pw_X10_letter_0 dd_X10_letter_0c) rfl (by decide) wd239 inX6 rfl).to, ?_⟩
  refine List.forall_mem_cons.mpr ⟨(s_iconst (am_dp pw_X10_letter_32 dd_X10_letter_32a.1) (by decide)).to, ?_⟩
  refine List.forall_mem_cons.mpr ⟨(s_iloadn (am_dp pw_X10_letter_32 dd_X10_letter_32a.2.1) rfl).to, ?_⟩
  refine List.forall_mem_cons.mpr ⟨(s_imul (am_dp pw_X10_letter_32 dd_X10_letter_32a.2.2.1)).to, ?_⟩
  refine List.forall_mem_cons.mpr ⟨(s_ishr (am_dp pw_X10_letter_32 dd_X10_letter_32a.2.2.2.1)).to, ?_⟩
  refine List.forall_mem_cons.mpr ⟨(s_bipush (am_dp pw_X10_letter_32 dd_X10_letter_32a.2.2.2.2.1) (by decide)).to, ?_⟩
  refine List.forall_mem_cons.mpr ⟨(s_iand (am_dp pw_X10_letter_32 dd_X10_letter_32a.2.2.2.2.2.1)).to, ?_⟩
  refine List.forall_mem_cons.mpr ⟨(s_istoren (am_dp pw_X10_letter_32 dd_X10_letter_32a.2.2.2.2.2.2.1) rfl (by decide)).to, ?_⟩
  refine List.forall_mem_cons.mpr ⟨(s_iloadn (am_dp pw_X10_letter_32 dd_X10_letter_32a.2.2.2.2.2.2.2) rfl).to, ?_⟩
  refine List.forall_mem_cons.mpr ⟨(s_if_ne (am_dp pw_X10_letter_32 dd_X10_letter_32b.1) (by decide)).to, ?_⟩
  refine List.forall_mem_cons.mpr ⟨(s_iconst (am_dp pw_X10_letter_32 dd_X10_letter_32b.2.1) (by decide)).to, ?_⟩
  refine List.forall_mem_cons.mpr ⟨(s_goto (am_dp pw_X10_letter_32 dd_X10_letter_32b.2.2.1) (by decide)).to, ?_⟩
  refine List.forall_mem_cons.mpr ⟨(s_iloadn (am_dp pw_X10_letter_32 dd_X10_letter_32b.2.2.2.1) rfl).to, ?_⟩
  refine List.forall_mem_cons.mpr ⟨(s_bipush (am_dp pw_X10_letter_32 dd_X10_letter_32b.2.2.2.2.1) (by decide)).to, ?_⟩
  refine List.forall_mem_cons.mpr ⟨(s_iadd (am_dp pw_X10_letter_32 dd_X10_letter_32b.2.2.2.2.2.1)).to, ?_⟩
  refine List.forall_mem_cons.mpr ⟨s_iret (am_dp pw_X10_letter_32 dd_X10_letter_32b.2.2.2.2.2.2) rfl, ?_⟩
  exact fun _ h => absurd h List.not_mem_nil
theorem sn_tX10_ship : ∀ q ∈ tX10_ship, am_Snd am_P0 RX10 cX10_ship 4 (Option.some FieldType.int) "ship" q.1 q.2 := by
  unfold tX10_ship
  refine List.forall_mem_cons.mpr ⟨(s_aloadn (am_dp pw_X10_ship_0 dd_X10_ship_0a.1) rfl).to, ?_⟩
  refine List.forall_mem_cons.mpr ⟨(s_iloadn (am_dp pw_X10_ship_0 dd_X10_ship_0a.2.1) rfl).to, ?_⟩
  refine List.forall_mem_cons.mpr ⟨zw_cv150 (am_dp pw_X10_ship_0 dd_X10_ship_0a.2.2.1) wd921, ?_⟩
  refine List.forall_mem_cons.mpr ⟨(s_if_ne (am_dp pw_X10_ship_0 dd_X10_ship_0a.2.2.2.1) (by decide)).to, ?_⟩
  refine List.forall_mem_cons.mpr ⟨(s_iconst (am_dp pw_X10_ship_0 dd_X10_ship_0a.2.2.2.2.1) (by decide)).to, ?_⟩
  refine List.forall_mem_cons.mpr ⟨s_iret (am_dp pw_X10_ship_0 dd_X10_ship_0a.2.2.2.2.2.1) rfl, ?_⟩
  refine List.forall_mem_cons.mpr ⟨(s_aloadn (am_dp pw_X10_ship_0 dd_X10_ship_0a.2.2.2.2.2.2.1) rfl).to, ?_⟩
  refine List.forall_mem_cons.mpr ⟨(s_get (ci := 10) (k := 2) (am_dp pw_X10_ship_0 dd_X10_ship_0a.2.2.2.2.2.2.2) rfl (by decide) wd581 inX10 rfl).to, ?_⟩
  refine List.forall_mem_cons.mpr ⟨(s_get (ci := 5) (k := 4) (am_dp pw_X10_ship_0 dd_X10_ship_0b.1) rfl (by decide) wd318 inX5 rfl).to, ?_⟩
  refine List.forall_mem_cons.mpr ⟨(s_iloadn (am_dp pw_X10_ship_0 dd_X10_ship_0b.2.1) rfl).to, ?_⟩
  refine List.forall_mem_cons.mpr ⟨(s_aald (am_dp pw_X10_ship_0 dd_X10_ship_0b.2.2.1)).to, ?_⟩
  refine List.forall_mem_cons.mpr ⟨(s_astoren (am_dp pw_X10_ship_0 dd_X10_ship_0b.2.2.2.1) rfl (by decide)).to, ?_⟩
  refine List.forall_mem_cons.mpr ⟨(s_iloadn (am_dp pw_X10_ship_0 dd_X10_ship_0b.2.2.2.2) rfl).to, ?_⟩
  refine List.forall_mem_cons.mpr ⟨(s_table (by decide +kernel : decode cX10_ship 21 = .ok (.tableswitch 116 0 8 #[51, 56, 61, 66, 71, 76, 85, 99, 104], 51)) (by decide) (by decide) (by decide) (by decide)).to, ?_⟩
  refine List.forall_mem_cons.mpr ⟨(s_aloadn (am_dp pw_X10_ship_64 dd_X10_ship_64a.1) rfl).to, ?_⟩
  refine List.forall_mem_cons.mpr ⟨(s_get (ci := 6) (k := 1) (am_dp pw_X10_ship_64 dd_X10_ship_64a.2.1) rfl (by decide) wd241 inX6 rfl).to, ?_⟩
  refine List.forall_mem_cons.mpr ⟨s_iret (am_dp pw_X10_ship_64 dd_X10_ship_64a.2.2.1) rfl, ?_⟩
  refine List.forall_mem_cons.mpr ⟨(s_aloadn (am_dp pw_X10_ship_64 dd_X10_ship_64a.2.2.2.1) rfl).to, ?_⟩
  refine List.forall_mem_cons.mpr ⟨(s_get (ci := 6) (k := 2) (am_dp pw_X10_ship_64 dd_X10_ship_64a.2.2.2.2.1) rfl (by decide) wd244 inX6 rfl).to, ?_⟩
  refine List.forall_mem_cons.mpr ⟨s_iret (am_dp pw_X10_ship_64 dd_X10_ship_64a.2.2.2.2.2.1) rfl, ?_⟩
  refine List.forall_mem_cons.mpr ⟨(s_aloadn (am_dp pw_X10_ship_64 dd_X10_ship_64a.2.2.2.2.2.2.1) rfl).to, ?_⟩
  refine List.forall_mem_cons.mpr ⟨(s_get (ci := 6) (k := 3) (am_dp pw_X10_ship_64 dd_X10_ship_64a.2.2.2.2.2.2.2) rfl (by decide) wd248 inX6 rfl).to, ?_⟩
  refine List.forall_mem_cons.mpr ⟨s_iret (am_dp pw_X10_ship_64 dd_X10_ship_64b.1) rfl, ?_⟩
  refine List.forall_mem_cons.mpr ⟨(s_aloadn (am_dp pw_X10_ship_64 dd_X10_ship_64b.2.1) rfl).to, ?_⟩
  refine List.forall_mem_cons.mpr ⟨(s_get (ci := 6) (k := 4) (am_dp pw_X10_ship_64 dd_X10_ship_64b.2.2.1) rfl (by decide) wd251 inX6 rfl).to, ?_⟩
  refine List.forall_mem_cons.mpr ⟨s_iret (am_dp pw_X10_ship_64 dd_X10_ship_64b.2.2.2.1) rfl, ?_⟩
  refine List.forall_mem_cons.mpr ⟨(s_aloadn (am_dp pw_X10_ship_64 dd_X10_ship_64b.2.2.2.2.1) rfl).to, ?_⟩
  refine List.forall_mem_cons.mpr ⟨(s_get (ci := 6) (k := 5) (am_dp pw_X10_ship_64 dd_X10_ship_64b.2.2.2.2.2) rfl (by decide) wd255 inX6 rfl).to, ?_⟩
  refine List.forall_mem_cons.mpr ⟨s_iret (am_dp pw_X10_ship_96 dd_X10_ship_96a.1) rfl, ?_⟩
  refine List.forall_mem_cons.mpr ⟨(s_aloadn (am_dp pw_X10_ship_96 dd_X10_ship_96a.2.1) rfl).to, ?_⟩
  refine List.forall_mem_cons.mpr ⟨(s_iloadn (am_dp pw_X10_ship_96 dd_X10_ship_96a.2.2.1) rfl).to, ?_⟩
  refine List.forall_mem_cons.mpr ⟨zw_cv154 (am_dp pw_X10_ship_96 dd_X10_ship_96a.2.2.2.1) wd929, ?_⟩
  refine List.forall_mem_cons.mpr ⟨(s_get (ci := 8) (k := 11) (am_dp pw_X10_ship_96 dd_X10_ship_96a.2.2.2.2.1) rfl (by decide) wd534 inX8 rfl).to, ?_⟩
  refine List.forall_mem_cons.mpr ⟨s_iret (am_dp pw_X10_ship_96 dd_X10_ship_96a.2.2.2.2.2.1) rfl, ?_⟩
  refine List.forall_mem_cons.mpr ⟨(s_aloadn (am_dp pw_X10_ship_96 dd_X10_ship_96a.2.2.2.2.2.2.1) rfl).to, ?_⟩
  refine List.forall_mem_cons.mpr ⟨(s_get (ci := 6) (k := 5) (am_dp pw_X10_ship_96 dd_X10_ship_96a.2.2.2.2.2.2.2) rfl (by decide) wd255 inX6 rfl).to, ?_⟩
  refine List.forall_mem_cons.mpr ⟨(s_aloadn (am_dp pw_X10_ship_96 dd_X10_ship_96b.1) rfl).to, ?_⟩
  refine List.forall_mem_cons.mpr ⟨(s_iloadn (am_dp pw_X10_ship_96 dd_X10_ship_96b.2.1) rfl).to, ?_⟩
  refine List.forall_mem_cons.mpr ⟨zw_cv154 (am_dp pw_X10_ship_96 dd_X10_ship_96b.2.2.1) wd929, ?_⟩
  refine List.forall_mem_cons.mpr ⟨(s_get (ci := 8) (k := 11) (am_dp pw_X10_ship_96 dd_X10_ship_96b.2.2.2.1) rfl (by decide) wd534 inX8 rfl).to, ?_⟩
  refine List.forall_mem_cons.mpr ⟨(s_isub (am_dp pw_X10_ship_96 dd_X10_ship_96b.2.2.2.2.1)).to, ?_⟩
  refine List.forall_mem_cons.mpr ⟨s_iret (am_dp pw_X10_ship_96 dd_X10_ship_96b.2.2.2.2.2.1) rfl, ?_⟩
  refine List.forall_mem_cons.mpr ⟨(s_aloadn (am_dp pw_X10_ship_96 dd_X10_ship_96b.2.2.2.2.2.2.1) rfl).to, ?_⟩
  refine List.forall_mem_cons.mpr ⟨(s_get (ci := 6) (k := 9) (am_dp pw_X10_ship_96 dd_X10_ship_96b.2.2.2.2.2.2.2) rfl (by decide) wd268 inX6 rfl).to, ?_⟩
  refine List.forall_mem_cons.mpr ⟨s_iret (am_dp pw_X10_ship_96 dd_X10_ship_96c.1) rfl, ?_⟩
  refine List.forall_mem_cons.mpr ⟨(s_aloadn (am_dp pw_X10_ship_96 dd_X10_ship_96c.2.1) rfl).to, ?_⟩
  refine List.forall_mem_cons.mpr ⟨(s_iloadn (am_dp pw_X10_ship_96 dd_X10_ship_96c.2.2.1) rfl).to, ?_⟩
  refine List.forall_mem_cons.mpr ⟨zw_cv154 (am_dp pw_X10_ship_96 dd_X10_ship_96c.2.2.2) wd929, ?_⟩
  refine List.forall_mem_cons.mpr ⟨(s_get (ci := 8) (k := 8) (am_dp pw_X10_ship_128 dd_X10_ship_128a.1) rfl (by decide) wd529 inX8 rfl).to, ?_⟩
  refine List.forall_mem_cons.mpr ⟨zw_cs148 (am_dp pw_X10_ship_128 dd_X10_ship_128a.2.1) wd1004, ?_⟩
  refine List.forall_mem_cons.mpr ⟨s_iret (am_dp pw_X10_ship_128 dd_X10_ship_128a.2.2.1) rfl, ?_⟩
  refine List.forall_mem_cons.mpr ⟨(s_iconst (am_dp pw_X10_ship_128 dd_X10_ship_128a.2.2.2.1) (by decide)).to, ?_⟩
  refine List.forall_mem_cons.mpr ⟨s_iret (am_dp pw_X10_ship_128 dd_X10_ship_128a.2.2.2.2) rfl, ?_⟩
  exact fun _ h => absurd h List.not_mem_nil
theorem sn_tX10_saying : ∀ q ∈ tX10_saying, am_Snd am_P0 RX10 cX10_saying 5 (Option.some FieldType.int) "saying" q.1 q.2 := by
  unfold tX10_saying
  refine List.forall_mem_cons.mpr ⟨(s_aloadn (am_dp pw_X10_saying_0 dd_X10_saying_0a.1) rfl).to, ?_⟩
  refine List.forall_mem_cons.mpr ⟨(s_iloadn (am_dp pw_X10_saying_0 dd_X10_saying_0a.2.1) rfl).to, ?_⟩
  refine List.forall_mem_cons.mpr ⟨(s_iloadn (am_dp pw_X10_saying_0 dd_X10_saying_0a.2.2.1) rfl).to, ?_⟩
  refine List.forall_mem_cons.mpr ⟨zw_cv151 (am_dp pw_X10_saying_0 dd_X10_saying_0a.2.2.2.1) wd1011, ?_⟩
  refine List.forall_mem_cons.mpr ⟨(s_if_ne (am_dp pw_X10_saying_0 dd_X10_saying_0a.2.2.2.2.1) (by decide)).to, ?_⟩
  refine List.forall_mem_cons.mpr ⟨(s_iconst (am_dp pw_X10_saying_0 dd_X10_saying_0a.2.2.2.2.2.1) (by decide)).to, ?_⟩
  refine List.forall_mem_cons.mpr ⟨s_iret (am_dp pw_X10_saying_0 dd_X10_saying_0a.2.2.2.2.2.2.1) rfl, ?_⟩
  refine List.forall_mem_cons.mpr ⟨(s_aloadn (am_dp pw_X10_saying_0 dd_X10_saying_0a.2.2.2.2.2.2.2) rfl).to, ?_⟩
  refine List.forall_mem_cons.mpr ⟨(s_get (ci := 10) (k := 2) (am_dp pw_X10_saying_0 dd_X10_saying_0b.1) rfl (by decide) wd581 inX10 rfl).to, ?_⟩
  refine List.forall_mem_cons.mpr ⟨(s_get (ci := 5) (k := 4) (am_dp pw_X10_saying_0 dd_X10_saying_0b.2.1) rfl (by decide) wd318 inX5 rfl).to, ?_⟩
  refine List.forall_mem_cons.mpr ⟨(s_iloadn (am_dp pw_X10_saying_0 dd_X10_saying_0b.2.2.1) rfl).to, ?_⟩
  refine List.forall_mem_cons.mpr ⟨(s_aald (am_dp pw_X10_saying_0 dd_X10_saying_0b.2.2.2.1)).to, ?_⟩
  refine List.forall_mem_cons.mpr ⟨(s_astore (am_dp pw_X10_saying_0 dd_X10_saying_0b.2.2.2.2.1) (by decide)).to, ?_⟩
  refine List.forall_mem_cons.mpr ⟨(s_iloadn (am_dp pw_X10_saying_0 dd_X10_saying_0b.2.2.2.2.2) rfl).to, ?_⟩
  refine List.forall_mem_cons.mpr ⟨(s_table (by decide +kernel : decode cX10_saying 23 = .ok (.tableswitch 108 0 4 #[33, 41, 56, 67, 94], 33)) (by decide) (by decide) (by decide) (by decide)).to, ?_⟩
  refine List.forall_mem_cons.mpr ⟨(s_aload (am_dp pw_X10_saying_32 dd_X10_saying_32a.1)).to, ?_⟩
  refine List.forall_mem_cons.mpr ⟨(s_get (ci := 6) (k := 6) (am_dp pw_X10_saying_32 dd_X10_saying_32a.2.1) rfl (by decide) wd259 inX6 rfl).to, ?_⟩
  refine List.forall_mem_cons.mpr ⟨(s_iloadn (am_dp pw_X10_saying_32 dd_X10_saying_32a.2.2.1) rfl).to, ?_⟩
  refine List.forall_mem_cons.mpr ⟨(s_iald (am_dp pw_X10_saying_32 dd_X10_saying_32a.2.2.2.1)).to, ?_⟩
  refine List.forall_mem_cons.mpr ⟨s_iret (am_dp pw_X10_saying_32 dd_X10_saying_32a.2.2.2.2) rfl, ?_⟩
  refine List.forall_mem_cons.mpr ⟨(s_aloadn (am_dp pw_X10_saying_64 dd_X10_saying_64a.1) rfl).to, ?_⟩
  refine List.forall_mem_cons.mpr ⟨(s_get (ci := 10) (k := 2) (am_dp pw_X10_saying_64 dd_X10_saying_64a.2.1) rfl (by decide) wd581 inX10 rfl).to, ?_⟩
  refine List.forall_mem_cons.mpr ⟨(s_aload (am_dp pw_X10_saying_64 dd_X10_saying_64a.2.2.1)).to, ?_⟩
  refine List.forall_mem_cons.mpr ⟨(s_get (ci := 6) (k := 7) (am_dp pw_X10_saying_64 dd_X10_saying_64a.2.2.2.1) rfl (by decide) wd262 inX6 rfl).to, ?_⟩
  refine List.forall_mem_cons.mpr ⟨(s_iloadn (am_dp pw_X10_saying_64 dd_X10_saying_64a.2.2.2.2.1) rfl).to, ?_⟩
  refine List.forall_mem_cons.mpr ⟨(s_iald (am_dp pw_X10_saying_64 dd_X10_saying_64a.2.2.2.2.2.1)).to, ?_⟩
  refine List.forall_mem_cons.mpr ⟨zw_cv58 (am_dp pw_X10_saying_64 dd_X10_saying_64a.2.2.2.2.2.2.1) wd1015, ?_⟩
  refine List.forall_mem_cons.mpr ⟨s_iret (am_dp pw_X10_saying_64 dd_X10_saying_64a.2.2.2.2.2.2.2) rfl, ?_⟩
  refine List.forall_mem_cons.mpr ⟨(s_aload (am_dp pw_X10_saying_64 dd_X10_saying_64b.1)).to, ?_⟩
  refine List.forall_mem_cons.mpr ⟨(s_get (ci := 6) (k := 8) (am_dp pw_X10_saying_64 dd_X10_saying_64b.2.1) rfl (by decide) wd265 inX6 rfl).to, ?_⟩
  refine List.forall_mem_cons.mpr ⟨(s_iloadn (am_dp pw_X10_saying_64 dd_X10_saying_64b.2.2.1) rfl).to, ?_⟩
  refine List.forall_mem_cons.mpr ⟨(s_zald (am_dp pw_X10_saying_64 dd_X10_saying_64b.2.2.2.1)).to, ?_⟩
  refine List.forall_mem_cons.mpr ⟨zw_cs148 (am_dp pw_X10_saying_64 dd_X10_saying_64b.2.2.2.2.1) wd1004, ?_⟩
  refine List.forall_mem_cons.mpr ⟨s_iret (am_dp pw_X10_saying_64 dd_X10_saying_64b.2.2.2.2.2.1) rfl, ?_⟩
  refine List.forall_mem_cons.mpr ⟨(s_aloadn (am_dp pw_X10_saying_64 dd_X10_saying_64b.2.2.2.2.2.2.1) rfl).to, ?_⟩
  refine List.forall_mem_cons.mpr ⟨(s_get (ci := 10) (k := 7) (am_dp pw_X10_saying_64 dd_X10_saying_64b.2.2.2.2.2.2.2) rfl (by decide) wd586 inX10 rfl).to, ?_⟩
  refine List.forall_mem_cons.mpr ⟨(s_iloadn (am_dp pw_X10_saying_64 dd_X10_saying_64c.1) rfl).to, ?_⟩
  refine List.forall_mem_cons.mpr ⟨(s_aald (am_dp pw_X10_saying_64 dd_X10_saying_64c.2)).to, ?_⟩
  refine List.forall_mem_cons.mpr ⟨(s_aload (am_dp pw_X10_saying_96 dd_X10_saying_96a.1)).to, ?_⟩
  refine List.forall_mem_cons.mpr ⟨(s_get (ci := 6) (k := 7) (am_dp pw_X10_saying_96 dd_X10_saying_96a.2.1) rfl (by decide) wd262 inX6 rfl).to, ?_⟩
  refine List.forall_mem_cons.mpr ⟨(s_iloadn (am_dp pw_X10_saying_96 dd_X10_saying_96a.2.2.1) rfl).to, ?_⟩
  refine List.forall_mem_cons.mpr ⟨(s_iald (am_dp pw_X10_saying_96 dd_X10_saying_96a.2.2.2.1)).to, ?_⟩
  refine List.forall_mem_cons.mpr ⟨(s_aload (am_dp pw_X10_saying_96 dd_X10_saying_96a.2.2.2.2.1)).to, ?_⟩
  refine List.forall_mem_cons.mpr ⟨(s_get (ci := 6) (k := 8) (am_dp pw_X10_saying_96 dd_X10_saying_96a.2.2.2.2.2.1) rfl (by decide) wd265 inX6 rfl).to, ?_⟩
  refine List.forall_mem_cons.mpr ⟨(s_iloadn (am_dp pw_X10_saying_96 dd_X10_saying_96a.2.2.2.2.2.2.1) rfl).to, ?_⟩
  refine List.forall_mem_cons.mpr ⟨(s_zald (am_dp pw_X10_saying_96 dd_X10_saying_96a.2.2.2.2.2.2.2)).to, ?_⟩
  refine List.forall_mem_cons.mpr ⟨zw_cv75 (am_dp pw_X10_saying_96 dd_X10_saying_96b.1) wd1019, ?_⟩
  refine List.forall_mem_cons.mpr ⟨zw_cs148 (am_dp pw_X10_saying_96 dd_X10_saying_96b.2.1) wd1004, ?_⟩
  refine List.forall_mem_cons.mpr ⟨s_iret (am_dp pw_X10_saying_96 dd_X10_saying_96b.2.2.1) rfl, ?_⟩
  refine List.forall_mem_cons.mpr ⟨(s_aloadn (am_dp pw_X10_saying_96 dd_X10_saying_96b.2.2.2.1) rfl).to, ?_⟩
  refine List.forall_mem_cons.mpr ⟨(s_iloadn (am_dp pw_X10_saying_96 dd_X10_saying_96b.2.2.2.2.1) rfl).to, ?_⟩
  refine List.forall_mem_cons.mpr ⟨zw_cv154 (am_dp pw_X10_saying_96 dd_X10_saying_96b.2.2.2.2.2.1) wd929, ?_⟩
  refine List.forall_mem_cons.mpr ⟨(s_get (ci := 8) (k := 10) (am_dp pw_X10_saying_96 dd_X10_saying_96b.2.2.2.2.2.2.1) rfl (by decide) wd533 inX8 rfl).to, ?_⟩
  refine List.forall_mem_cons.mpr ⟨(s_iloadn (am_dp pw_X10_saying_96 dd_X10_saying_96b.2.2.2.2.2.2.2) rfl).to, ?_⟩
  refine List.forall_mem_cons.mpr ⟨(s_zald (am_dp pw_X10_saying_96 dd_X10_saying_96c.1)).to, ?_⟩
  refine List.forall_mem_cons.mpr ⟨zw_cs148 (am_dp pw_X10_saying_96 dd_X10_saying_96c.2) wd1004, ?_⟩
  refine List.forall_mem_cons.mpr ⟨s_iret (am_dp pw_X10_saying_128 dd_X10_saying_128a.1) rfl, ?_⟩
  refine List.forall_mem_cons.mpr ⟨(s_iconst (am_dp pw_X10_saying_128 dd_X10_saying_128a.2.1) (by decide)).to, ?_⟩
  refine List.forall_mem_cons.mpr ⟨s_iret (am_dp pw_X10_saying_128 dd_X10_saying_128a.2.2) rfl, ?_⟩
  exact fun _ h => absurd h List.not_mem_nil
theorem sn_tX10_cell : ∀ q ∈ tX10_cell, am_Snd am_P0 RX10 cX10_cell 6 (Option.some FieldType.int) "cell" q.1 q.2 := by
  unfold tX10_cell
  refine List.forall_mem_cons.mpr ⟨(s_aloadn (am_dp pw_X10_cell_0 dd_X10_cell_0a.1) rfl).to, ?_⟩
  refine List.forall_mem_cons.mpr ⟨(s_get (ci := 10) (k := 2) (am_dp pw_X10_cell_0 dd_X10_cell_0a.2.1) rfl (by decide) wd581 inX10 rfl).to, ?_⟩
  refine List.forall_mem_cons.mpr ⟨(s_iloadn (am_dp pw_X10_cell_0 dd_X10_cell_0a.2.2.1) rfl).to, ?_⟩
  refine List.forall_mem_cons.mpr ⟨(s_iloadn (am_dp pw_X10_cell_0 dd_X10_cell_0a.2.2.2.1) rfl).to, ?_⟩
  refine List.forall_mem_cons.mpr ⟨zw_cv56 (am_dp pw_X10_cell_0 dd_X10_cell_0a.2.2.2.2.1) wd1024, ?_⟩
  refine List.forall_mem_cons.mpr ⟨(s_istore (am_dp pw_X10_cell_0 dd_X10_cell_0a.2.2.2.2.2.1) (by decide)).to, ?_⟩
  refine List.forall_mem_cons.mpr ⟨(s_iload (am_dp pw_X10_cell_0 dd_X10_cell_0a.2.2.2.2.2.2.1)).to, ?_⟩
  refine List.forall_mem_cons.mpr ⟨(s_iconst (am_dp pw_X10_cell_0 dd_X10_cell_0a.2.2.2.2.2.2.2) (by decide)).to, ?_⟩
  refine List.forall_mem_cons.mpr ⟨(s_icmp_eq (am_dp pw_X10_cell_0 dd_X10_cell_0b.1) (by decide)).to, ?_⟩
  refine List.forall_mem_cons.mpr ⟨(s_iloadn (am_dp pw_X10_cell_0 dd_X10_cell_0b.2.1) rfl).to, ?_⟩
  refine List.forall_mem_cons.mpr ⟨zw_cs149 (am_dp pw_X10_cell_0 dd_X10_cell_0b.2.2.1) wd1028, ?_⟩
  refine List.forall_mem_cons.mpr ⟨(s_if_ne (am_dp pw_X10_cell_0 dd_X10_cell_0b.2.2.2.1) (by decide)).to, ?_⟩
  refine List.forall_mem_cons.mpr ⟨(s_iconst (am_dp pw_X10_cell_0 dd_X10_cell_0b.2.2.2.2.1) (by decide)).to, ?_⟩
  refine List.forall_mem_cons.mpr ⟨s_iret (am_dp pw_X10_cell_0 dd_X10_cell_0b.2.2.2.2.2.1) rfl, ?_⟩
  refine List.forall_mem_cons.mpr ⟨(s_iload (am_dp pw_X10_cell_0 dd_X10_cell_0b.2.2.2.2.2.2)).to, ?_⟩
  refine List.forall_mem_cons.mpr ⟨(s_table (by decide +kernel : decode cX10_cell 28 = .ok (.tableswitch 63 0 2 #[28, 39, 49], 28)) (by decide) (by decide) (by decide) (by decide)).to, ?_⟩
  refine List.forall_mem_cons.mpr ⟨(s_aloadn (am_dp pw_X10_cell_32 dd_X10_cell_32a.1) rfl).to, ?_⟩
  refine List.forall_mem_cons.mpr ⟨(s_get (ci := 10) (k := 2) (am_dp pw_X10_cell_32 dd_X10_cell_32a.2.1) rfl (by decide) wd581 inX10 rfl).to, ?_⟩
  refine List.forall_mem_cons.mpr ⟨(s_get (ci := 5) (k := 10) (am_dp pw_X10_cell_32 dd_X10_cell_32a.2.2.1) rfl (by decide) wd334 inX5 rfl).to, ?_⟩
  refine List.forall_mem_cons.mpr ⟨(s_iload (am_dp pw_X10_cell_32 dd_X10_cell_32a.2.2.2)).to, ?_⟩
  refine List.forall_mem_cons.mpr ⟨(s_iald (am_dp pw_X10_cell_64 dd_X10_cell_64a.1)).to, ?_⟩
  refine List.forall_mem_cons.mpr ⟨s_iret (am_dp pw_X10_cell_64 dd_X10_cell_64a.2.1) rfl, ?_⟩
  refine List.forall_mem_cons.mpr ⟨(s_aloadn (am_dp pw_X10_cell_64 dd_X10_cell_64a.2.2.1) rfl).to, ?_⟩
  refine List.forall_mem_cons.mpr ⟨(s_get (ci := 10) (k := 2) (am_dp pw_X10_cell_64 dd_X10_cell_64a.2.2.2.1) rfl (by decide) wd581 inX10 rfl).to, ?_⟩
  refine List.forall_mem_cons.mpr ⟨(s_iload (am_dp pw_X10_cell_64 dd_X10_cell_64a.2.2.2.2.1)).to, ?_⟩
  refine List.forall_mem_cons.mpr ⟨zw_cv54 (am_dp pw_X10_cell_64 dd_X10_cell_64a.2.2.2.2.2.1) wd1031, ?_⟩
  refine List.forall_mem_cons.mpr ⟨s_iret (am_dp pw_X10_cell_64 dd_X10_cell_64a.2.2.2.2.2.2.1) rfl, ?_⟩
  refine List.forall_mem_cons.mpr ⟨(s_aloadn (am_dp pw_X10_cell_64 dd_X10_cell_64a.2.2.2.2.2.2.2) rfl).to, ?_⟩
  refine List.forall_mem_cons.mpr ⟨(s_get (ci := 10) (k := 2) (am_dp pw_X10_cell_64 dd_X10_cell_64b.1) rfl (by decide) wd581 inX10 rfl).to, ?_⟩
  refine List.forall_mem_cons.mpr ⟨(s_iload (am_dp pw_X10_cell_64 dd_X10_cell_64b.2.1)).to, ?_⟩
  refine List.forall_mem_cons.mpr ⟨(s_iloadn (am_dp pw_X10_cell_64 dd_X10_cell_64b.2.2.1) rfl).to, ?_⟩
  refine List.forall_mem_cons.mpr ⟨zw_cv55 (am_dp pw_X10_cell_64 dd_X10_cell_64b.2.2.2.1) wd1035, ?_⟩
  refine List.forall_mem_cons.mpr ⟨zw_cs148 (am_dp pw_X10_cell_64 dd_X10_cell_64b.2.2.2.2.1) wd1004, ?_⟩
  refine List.forall_mem_cons.mpr ⟨s_iret (am_dp pw_X10_cell_64 dd_X10_cell_64b.2.2.2.2.2.1) rfl, ?_⟩
  refine List.forall_mem_cons.mpr ⟨(s_iconst (am_dp pw_X10_cell_64 dd_X10_cell_64b.2.2.2.2.2.2.1) (by decide)).to, ?_⟩
  refine List.forall_mem_cons.mpr ⟨s_iret (am_dp pw_X10_cell_64 dd_X10_cell_64b.2.2.2.2.2.2.2) rfl, ?_⟩
  exact fun _ h => absurd h List.not_mem_nil
theorem sn_tX10_far : ∀ q ∈ tX10_far, am_Snd am_P0 RX10 cX10_far 8 (Option.some FieldType.int) "far" q.1 q.2 := by
  unfold tX10_far
  refine List.forall_mem_cons.mpr ⟨(s_aloadn (am_dp pw_X10_far_0 dd_X10_far_0a.1) rfl).to, ?_⟩
  refine List.forall_mem_cons.mpr ⟨(s_get (ci := 10) (k := 2) (am_dp pw_X10_far_0 dd_X10_far_0a.2.1) rfl (by decide) wd581 inX10 rfl).to, ?_⟩
  refine List.forall_mem_cons.mpr ⟨(s_iloadn (am_dp pw_X10_far_0 dd_X10_far_0a.2.2.1) rfl).to, ?_⟩
  refine List.forall_mem_cons.mpr ⟨(s_iloadn (am_dp pw_X10_far_0 dd_X10_far_0a.2.2.2.1) rfl).to, ?_⟩
  refine List.forall_mem_cons.mpr ⟨zw_cv56 (am_dp pw_X10_far_0 dd_X10_far_0a.2.2.2.2.1) wd1024, ?_⟩
  refine List.forall_mem_cons.mpr ⟨(s_istore (am_dp pw_X10_far_0 dd_X10_far_0a.2.2.2.2.2.1) (by decide)).to, ?_⟩
  refine List.forall_mem_cons.mpr ⟨(s_aloadn (am_dp pw_X10_far_0 dd_X10_far_0a.2.2.2.2.2.2.1) rfl).to, ?_⟩
  refine List.forall_mem_cons.mpr ⟨(s_get (ci := 10) (k := 2) (am_dp pw_X10_far_0 dd_X10_far_0a.2.2.2.2.2.2.2) rfl (by decide) wd581 inX10 rfl).to, ?_⟩
  refine List.forall_mem_cons.mpr ⟨(s_iload (am_dp pw_X10_far_0 dd_X10_far_0b.1)).to, ?_⟩
  refine List.forall_mem_cons.mpr ⟨(s_iload (am_dp pw_X10_far_0 dd_X10_far_0b.2.1)).to, ?_⟩
  refine List.forall_mem_cons.mpr ⟨zw_cv56 (am_dp pw_X10_far_0 dd_X10_far_0b.2.2.1) wd1024, ?_⟩
  refine List.forall_mem_cons.mpr ⟨(s_istore (am_dp pw_X10_far_0 dd_X10_far_0b.2.2.2.1) (by decide)).to, ?_⟩
  refine List.forall_mem_cons.mpr ⟨(s_aloadn (am_dp pw_X10_far_0 dd_X10_far_0b.2.2.2.2.1) rfl).to, ?_⟩
  refine List.forall_mem_cons.mpr ⟨(s_iloadn (am_dp pw_X10_far_0 dd_X10_far_0b.2.2.2.2.2.1) rfl).to, ?_⟩
  refine List.forall_mem_cons.mpr ⟨zw_cv150 (am_dp pw_X10_far_0 dd_X10_far_0b.2.2.2.2.2.2.1) wd921, ?_⟩
  refine List.forall_mem_cons.mpr ⟨(s_if_eq (am_dp pw_X10_far_0 dd_X10_far_0b.2.2.2.2.2.2.2) (by decide)).to, ?_⟩
  refine List.forall_mem_cons.mpr ⟨(s_iload (am_dp pw_X10_far_32 dd_X10_far_32a.1)).to, ?_⟩
  refine List.forall_mem_cons.mpr ⟨(s_iconst (am_dp pw_X10_far_32 dd_X10_far_32a.2.1) (by decide)).to, ?_⟩
  refine List.forall_mem_cons.mpr ⟨(s_icmp_eq (am_dp pw_X10_far_32 dd_X10_far_32a.2.2.1) (by decide)).to, ?_⟩
  refine List.forall_mem_cons.mpr ⟨(s_iload (am_dp pw_X10_far_32 dd_X10_far_32a.2.2.2.1)).to, ?_⟩
  refine List.forall_mem_cons.mpr ⟨(s_iconst (am_dp pw_X10_far_32 dd_X10_far_32a.2.2.2.2.1) (by decide)).to, ?_⟩
  refine List.forall_mem_cons.mpr ⟨(s_icmp_ne (am_dp pw_X10_far_32 dd_X10_far_32a.2.2.2.2.2.1) (by decide)).to, ?_⟩
  refine List.forall_mem_cons.mpr ⟨(s_iconst (am_dp pw_X10_far_32 dd_X10_far_32a.2.2.2.2.2.2.1) (by decide)).to, ?_⟩
  refine List.forall_mem_cons.mpr ⟨s_iret (am_dp pw_X10_far_32 dd_X10_far_32a.2.2.2.2.2.2.2) rfl, ?_⟩
  refine List.forall_mem_cons.mpr ⟨(s_aloadn (am_dp pw_X10_far_32 dd_X10_far_32b.1) rfl).to, ?_⟩
  refine List.forall_mem_cons.mpr ⟨(s_get (ci := 10) (k := 7) (am_dp pw_X10_far_32 dd_X10_far_32b.2.1) rfl (by decide) wd586 inX10 rfl).to, ?_⟩
  refine List.forall_mem_cons.mpr ⟨(s_iloadn (am_dp pw_X10_far_32 dd_X10_far_32b.2.2.1) rfl).to, ?_⟩
  refine List.forall_mem_cons.mpr ⟨(s_aald (am_dp pw_X10_far_32 dd_X10_far_32b.2.2.2.1)).to, ?_⟩
  refine List.forall_mem_cons.mpr ⟨(s_get (ci := 8) (k := 2) (am_dp pw_X10_far_32 dd_X10_far_32b.2.2.2.2.1) rfl (by decide) wd522 inX8 rfl).to, ?_⟩
  refine List.forall_mem_cons.mpr ⟨(s_iload (am_dp pw_X10_far_32 dd_X10_far_32b.2.2.2.2.2.1)).to, ?_⟩
  refine List.forall_mem_cons.mpr ⟨(s_iload (am_dp pw_X10_far_32 dd_X10_far_32b.2.2.2.2.2.2.1)).to, ?_⟩
  refine List.forall_mem_cons.mpr ⟨zw_cv107 (am_dp pw_X10_far_32 dd_X10_far_32b.2.2.2.2.2.2.2) wd1044, ?_⟩
  refine List.forall_mem_cons.mpr ⟨s_iret (am_dp pw_X10_far_32 dd_X10_far_32c) rfl, ?_⟩
  exact fun _ h => absurd h List.not_mem_nil
theorem sn_tX10_can : ∀ q ∈ tX10_can, am_Snd am_P0 RX10 cX10_can 4 (Option.some FieldType.int) "can" q.1 q.2 := by
  unfold tX10_can
  refine List.forall_mem_cons.mpr ⟨(s_iloadn (am_dp pw_X10_can_0 dd_X10_can_0a.1) rfl).to, ?_⟩
  refine List.forall_mem_cons.mpr ⟨(s_iloadn (am_dp pw_X10_can_0 dd_X10_can_0a.2.1) rfl).to, ?_⟩
  refine List.forall_mem_cons.mpr ⟨(s_icmp_eq (am_dp pw_X10_can_0 dd_X10_can_0a.2.2.1) (by decide)).to, ?_⟩
  refine List.forall_mem_cons.mpr ⟨(s_aloadn (am_dp pw_X10_can_0 dd_X10_can_0a.2.2.2.1) rfl).to, ?_⟩
  refine List.forall_mem_cons.mpr ⟨(s_iloadn (am_dp pw_X10_can_0 dd_X10_can_0a.2.2.2.2.1) rfl).to, ?_⟩
  refine List.forall_mem_cons.mpr ⟨(s_iloadn (am_dp pw_X10_can_0 dd_X10_can_0a.2.2.2.2.2.1) rfl).to, ?_⟩
  refine List.forall_mem_cons.mpr ⟨zw_cv151 (am_dp pw_X10_can_0 dd_X10_can_0a.2.2.2.2.2.2.1) wd1011, ?_⟩
  refine List.forall_mem_cons.mpr ⟨(s_if_eq (am_dp pw_X10_can_0 dd_X10_can_0a.2.2.2.2.2.2.2) (by decide)).to, ?_⟩
  refine List.forall_mem_cons.mpr ⟨(s_aloadn (am_dp pw_X10_can_0 dd_X10_can_0b.1) rfl).to, ?_⟩
  refine List.forall_mem_cons.mpr ⟨(s_iloadn (am_dp pw_X10_can_0 dd_X10_can_0b.2.1) rfl).to, ?_⟩
  refine List.forall_mem_cons.mpr ⟨(s_iloadn (am_dp pw_X10_can_0 dd_X10_can_0b.2.2.1) rfl).to, ?_⟩
  refine List.forall_mem_cons.mpr ⟨zw_cv151 (am_dp pw_X10_can_0 dd_X10_can_0b.2.2.2.1) wd1011, ?_⟩
  refine List.forall_mem_cons.mpr ⟨(s_if_ne (am_dp pw_X10_can_0 dd_X10_can_0b.2.2.2.2.1) (by decide)).to, ?_⟩
  refine List.forall_mem_cons.mpr ⟨(s_iconst (am_dp pw_X10_can_0 dd_X10_can_0b.2.2.2.2.2.1) (by decide)).to, ?_⟩
  refine List.forall_mem_cons.mpr ⟨s_iret (am_dp pw_X10_can_0 dd_X10_can_0b.2.2.2.2.2.2.1) rfl, ?_⟩
  refine List.forall_mem_cons.mpr ⟨(s_aloadn (am_dp pw_X10_can_0 dd_X10_can_0b.2.2.2.2.2.2.2) rfl).to, ?_⟩
  refine List.forall_mem_cons.mpr ⟨(s_get (ci := 10) (k := 7) (am_dp pw_X10_can_0 dd_X10_can_0c.1) rfl (by decide) wd586 inX10 rfl).to, ?_⟩
  refine List.forall_mem_cons.mpr ⟨(s_iloadn (am_dp pw_X10_can_0 dd_X10_can_0c.2.1) rfl).to, ?_⟩
  refine List.forall_mem_cons.mpr ⟨(s_aald (am_dp pw_X10_can_0 dd_X10_can_0c.2.2.1)).to, ?_⟩
  refine List.forall_mem_cons.mpr ⟨(s_iloadn (am_dp pw_X10_can_0 dd_X10_can_0c.2.2.2) rfl).to, ?_⟩
  refine List.forall_mem_cons.mpr ⟨(s_iloadn (am_dp pw_X10_can_32 dd_X10_can_32a.1) rfl).to, ?_⟩
  refine List.forall_mem_cons.mpr ⟨zw_cv76 (am_dp pw_X10_can_32 dd_X10_can_32a.2.1) wd1053, ?_⟩
  refine List.forall_mem_cons.mpr ⟨zw_cs148 (am_dp pw_X10_can_32 dd_X10_can_32a.2.2.1) wd1004, ?_⟩
  refine List.forall_mem_cons.mpr ⟨s_iret (am_dp pw_X10_can_32 dd_X10_can_32a.2.2.2) rfl, ?_⟩
  exact fun _ h => absurd h List.not_mem_nil
theorem sn_tX10_reach : ∀ q ∈ tX10_reach, am_Snd am_P0 RX10 cX10_reach 7 (Option.some FieldType.int) "reach" q.1 q.2 := by
  unfold tX10_reach
  refine List.forall_mem_cons.mpr ⟨(s_aloadn (am_dp pw_X10_reach_0 dd_X10_reach_0a.1) rfl).to, ?_⟩
  refine List.forall_mem_cons.mpr ⟨(s_iloadn (am_dp pw_X10_reach_0 dd_X10_reach_0a.2.1) rfl).to, ?_⟩
  refine List.forall_mem_cons.mpr ⟨zw_cv150 (am_dp pw_X10_reach_0 dd_X10_reach_0a.2.2.1) wd921, ?_⟩
  refine List.forall_mem_cons.mpr ⟨(s_if_eq (am_dp pw_X10_reach_0 dd_X10_reach_0a.2.2.2.1) (by decide)).to, ?_⟩
  refine List.forall_mem_cons.mpr ⟨(s_iloadn (am_dp pw_X10_reach_0 dd_X10_reach_0a.2.2.2.2.1) rfl).to, ?_⟩
  refine List.forall_mem_cons.mpr ⟨zw_cs149 (am_dp pw_X10_reach_0 dd_X10_reach_0a.2.2.2.2.2.1) wd1028, ?_⟩
  refine List.forall_mem_cons.mpr ⟨(s_if_eq (am_dp pw_X10_reach_0 dd_X10_reach_0a.2.2.2.2.2.2.1) (by decide)).to, ?_⟩
  refine List.forall_mem_cons.mpr ⟨(s_iloadn (am_dp pw_X10_reach_0 dd_X10_reach_0a.2.2.2.2.2.2.2) rfl).to, ?_⟩
  refine List.forall_mem_cons.mpr ⟨(s_iconst (am_dp pw_X10_reach_0 dd_X10_reach_0b.1) (by decide)).to, ?_⟩
  refine List.forall_mem_cons.mpr ⟨(s_icmp_ge (am_dp pw_X10_reach_0 dd_X10_reach_0b.2.1) (by decide)).to, ?_⟩
  refine List.forall_mem_cons.mpr ⟨(s_iconst (am_dp pw_X10_reach_0 dd_X10_reach_0b.2.2.1) (by decide)).to, ?_⟩
  refine List.forall_mem_cons.mpr ⟨s_iret (am_dp pw_X10_reach_0 dd_X10_reach_0b.2.2.2.1) rfl, ?_⟩
  refine List.forall_mem_cons.mpr ⟨(s_aloadn (am_dp pw_X10_reach_0 dd_X10_reach_0b.2.2.2.2.1) rfl).to, ?_⟩
  refine List.forall_mem_cons.mpr ⟨(s_iloadn (am_dp pw_X10_reach_0 dd_X10_reach_0b.2.2.2.2.2.1) rfl).to, ?_⟩
  refine List.forall_mem_cons.mpr ⟨zw_cv154 (am_dp pw_X10_reach_0 dd_X10_reach_0b.2.2.2.2.2.2.1) wd929, ?_⟩
  refine List.forall_mem_cons.mpr ⟨(s_astore (am_dp pw_X10_reach_0 dd_X10_reach_0b.2.2.2.2.2.2.2) (by decide)).to, ?_⟩
  refine List.forall_mem_cons.mpr ⟨(s_iloadn (am_dp pw_X10_reach_0 dd_X10_reach_0c.1) rfl).to, ?_⟩
  refine List.forall_mem_cons.mpr ⟨(s_iconst (am_dp pw_X10_reach_0 dd_X10_reach_0c.2.1) (by decide)).to, ?_⟩
  refine List.forall_mem_cons.mpr ⟨(s_icmp_ne (am_dp pw_X10_reach_0 dd_X10_reach_0c.2.2) (by decide)).to, ?_⟩
  refine List.forall_mem_cons.mpr ⟨(s_aload (am_dp pw_X10_reach_32 dd_X10_reach_32a.1)).to, ?_⟩
  refine List.forall_mem_cons.mpr ⟨(s_iloadn (am_dp pw_X10_reach_32 dd_X10_reach_32a.2.1) rfl).to, ?_⟩
  refine List.forall_mem_cons.mpr ⟨zw_cv89 (am_dp pw_X10_reach_32 dd_X10_reach_32a.2.2.1) wd1064, ?_⟩
  refine List.forall_mem_cons.mpr ⟨s_iret (am_dp pw_X10_reach_32 dd_X10_reach_32a.2.2.2.1) rfl, ?_⟩
  refine List.forall_mem_cons.mpr ⟨(s_iloadn (am_dp pw_X10_reach_32 dd_X10_reach_32a.2.2.2.2.1) rfl).to, ?_⟩
  refine List.forall_mem_cons.mpr ⟨(s_istore (am_dp pw_X10_reach_32 dd_X10_reach_32a.2.2.2.2.2.1) (by decide)).to, ?_⟩
  refine List.forall_mem_cons.mpr ⟨(s_iconst (am_dp pw_X10_reach_32 dd_X10_reach_32a.2.2.2.2.2.2.1) (by decide)).to, ?_⟩
  refine List.forall_mem_cons.mpr ⟨(s_istore (am_dp pw_X10_reach_32 dd_X10_reach_32a.2.2.2.2.2.2.2) (by decide)).to, ?_⟩
  refine List.forall_mem_cons.mpr ⟨(s_iload (am_dp pw_X10_reach_32 dd_X10_reach_32b.1)).to, ?_⟩
  refine List.forall_mem_cons.mpr ⟨(s_sipush (am_dp pw_X10_reach_32 dd_X10_reach_32b.2.1) (by decide)).to, ?_⟩
  refine List.forall_mem_cons.mpr ⟨(s_icmp_ge (am_dp pw_X10_reach_32 dd_X10_reach_32b.2.2.1) (by decide)).to, ?_⟩
  refine List.forall_mem_cons.mpr ⟨(s_aload (am_dp pw_X10_reach_32 dd_X10_reach_32b.2.2.2.1)).to, ?_⟩
  refine List.forall_mem_cons.mpr ⟨(s_iloadn (am_dp pw_X10_reach_32 dd_X10_reach_32b.2.2.2.2.1) rfl).to, ?_⟩
  refine List.forall_mem_cons.mpr ⟨(s_iload (am_dp pw_X10_reach_32 dd_X10_reach_32b.2.2.2.2.2.1)).to, ?_⟩
  refine List.forall_mem_cons.mpr ⟨zw_cv88 (am_dp pw_X10_reach_32 dd_X10_reach_32b.2.2.2.2.2.2.1) wd1078, ?_⟩
  refine List.forall_mem_cons.mpr ⟨(s_if_eq (am_dp pw_X10_reach_32 dd_X10_reach_32b.2.2.2.2.2.2.2) (by decide)).to, ?_⟩
  refine List.forall_mem_cons.mpr ⟨(s_iload (am_dp pw_X10_reach_64 dd_X10_reach_64a.1)).to, ?_⟩
  refine List.forall_mem_cons.mpr ⟨(s_if_ne (am_dp pw_X10_reach_64 dd_X10_reach_64a.2.1) (by decide)).to, ?_⟩
  refine List.forall_mem_cons.mpr ⟨(s_aloadn (am_dp pw_X10_reach_64 dd_X10_reach_64a.2.2.1) rfl).to, ?_⟩
  refine List.forall_mem_cons.mpr ⟨(s_get (ci := 10) (k := 2) (am_dp pw_X10_reach_64 dd_X10_reach_64a.2.2.2.1) rfl (by decide) wd581 inX10 rfl).to, ?_⟩
  refine List.forall_mem_cons.mpr ⟨(s_iload (am_dp pw_X10_reach_64 dd_X10_reach_64a.2.2.2.2.1)).to, ?_⟩
  refine List.forall_mem_cons.mpr ⟨zw_cv58 (am_dp pw_X10_reach_64 dd_X10_reach_64a.2.2.2.2.2.1) wd1015, ?_⟩
  refine List.forall_mem_cons.mpr ⟨s_iret (am_dp pw_X10_reach_64 dd_X10_reach_64a.2.2.2.2.2.2.1) rfl, ?_⟩
  refine List.forall_mem_cons.mpr ⟨(s_iinc (am_dp pw_X10_reach_64 dd_X10_reach_64a.2.2.2.2.2.2.2) (by decide) (by decide)).to, ?_⟩
  refine List.forall_mem_cons.mpr ⟨(s_iinc (am_dp pw_X10_reach_64 dd_X10_reach_64b.1) (by decide) (by decide)).to, ?_⟩
  refine List.forall_mem_cons.mpr ⟨(s_goto (am_dp pw_X10_reach_64 dd_X10_reach_64b.2.1) (by decide)).to, ?_⟩
  refine List.forall_mem_cons.mpr ⟨(s_iconst (am_dp pw_X10_reach_64 dd_X10_reach_64b.2.2.1) (by decide)).to, ?_⟩
  refine List.forall_mem_cons.mpr ⟨s_iret (am_dp pw_X10_reach_64 dd_X10_reach_64b.2.2.2) rfl, ?_⟩
  exact fun _ h => absurd h List.not_mem_nil
end
section
/-! the machine follows each instruction (by program: gen_prog.py) -/
theorem sn_tX10_may : ∀ q ∈ tX10_may, am_Snd am_P0 RX10 cX10_may 6 (Option.some FieldType.int) "may" q.1 q.2 := by
  unfold tX10_may
  refine List.forall_mem_cons.mpr ⟨(s_aloadn (am_dp pw_X10_may_0 dd_X10_may_0a.1) rfl).to, ?_⟩
  refine List.forall_mem_cons.mpr ⟨(s_get (ci := 10) (k := 2) (am_dp pw_X10_may_0 dd_X10_may_0a.2.1) rfl (by decide) wd581 inX10 rfl).to, ?_⟩
  refine List.forall_mem_cons.mpr ⟨(s_iloadn (am_dp pw_X10_may_0 dd_X10_may_0a.2.2.1) rfl).to, ?_⟩
  refine List.forall_mem_cons.mpr ⟨(s_iload (am_dp pw_X10_may_0 dd_X10_may_0a.2.2.2.1)).to, ?_⟩
  refine List.forall_mem_cons.mpr ⟨zw_cv56 (am_dp pw_X10_may_0 dd_X10_may_0a.2.2.2.2.1) wd1024, ?_⟩
  refine List.forall_mem_cons.mpr ⟨(s_istore (am_dp pw_X10_may_0 dd_X10_may_0a.2.2.2.2.2.1) (by decide)).to, ?_⟩
  refine List.forall_mem_cons.mpr ⟨(s_aloadn (am_dp pw_X10_may_0 dd_X10_may_0a.2.2.2.2.2.2.1) rfl).to, ?_⟩
  refine List.forall_mem_cons.mpr ⟨(s_iloadn (am_dp pw_X10_may_0 dd_X10_may_0a.2.2.2.2.2.2.2) rfl).to, ?_⟩
  refine List.forall_mem_cons.mpr ⟨zw_cv150 (am_dp pw_X10_may_0 dd_X10_may_0b.1) wd921, ?_⟩
  refine List.forall_mem_cons.mpr ⟨(s_if_eq (am_dp pw_X10_may_0 dd_X10_may_0b.2.1) (by decide)).to, ?_⟩
  refine List.forall_mem_cons.mpr ⟨(s_iloadn (am_dp pw_X10_may_0 dd_X10_may_0b.2.2.1) rfl).to, ?_⟩
  refine List.forall_mem_cons.mpr ⟨zw_cs149 (am_dp pw_X10_may_0 dd_X10_may_0b.2.2.2.1) wd1028, ?_⟩
  refine List.forall_mem_cons.mpr ⟨(s_if_eq (am_dp pw_X10_may_0 dd_X10_may_0b.2.2.2.2.1) (by decide)).to, ?_⟩
  refine List.forall_mem_cons.mpr ⟨(s_iload (am_dp pw_X10_may_0 dd_X10_may_0b.2.2.2.2.2.1)).to, ?_⟩
  refine List.forall_mem_cons.mpr ⟨(s_iconst (am_dp pw_X10_may_0 dd_X10_may_0b.2.2.2.2.2.2.1) (by decide)).to, ?_⟩
  refine List.forall_mem_cons.mpr ⟨(s_icmp_ne (am_dp pw_X10_may_0 dd_X10_may_0b.2.2.2.2.2.2.2) (by decide)).to, ?_⟩
  refine List.forall_mem_cons.mpr ⟨(s_iconst (am_dp pw_X10_may_32 dd_X10_may_32a.1) (by decide)).to, ?_⟩
  refine List.forall_mem_cons.mpr ⟨s_iret (am_dp pw_X10_may_32 dd_X10_may_32a.2.1) rfl, ?_⟩
  refine List.forall_mem_cons.mpr ⟨(s_aloadn (am_dp pw_X10_may_32 dd_X10_may_32a.2.2.1) rfl).to, ?_⟩
  refine List.forall_mem_cons.mpr ⟨(s_iloadn (am_dp pw_X10_may_32 dd_X10_may_32a.2.2.2.1) rfl).to, ?_⟩
  refine List.forall_mem_cons.mpr ⟨zw_cv154 (am_dp pw_X10_may_32 dd_X10_may_32a.2.2.2.2.1) wd929, ?_⟩
  refine List.forall_mem_cons.mpr ⟨(s_iloadn (am_dp pw_X10_may_32 dd_X10_may_32a.2.2.2.2.2.1) rfl).to, ?_⟩
  refine List.forall_mem_cons.mpr ⟨(s_iload (am_dp pw_X10_may_32 dd_X10_may_32a.2.2.2.2.2.2.1)).to, ?_⟩
  refine List.forall_mem_cons.mpr ⟨zw_cv88 (am_dp pw_X10_may_32 dd_X10_may_32a.2.2.2.2.2.2.2) wd1078, ?_⟩
  refine List.forall_mem_cons.mpr ⟨zw_cs148 (am_dp pw_X10_may_32 dd_X10_may_32b.1) wd1004, ?_⟩
  refine List.forall_mem_cons.mpr ⟨s_iret (am_dp pw_X10_may_32 dd_X10_may_32b.2) rfl, ?_⟩
  exact fun _ h => absurd h List.not_mem_nil
theorem sn_tX10_judge : ∀ q ∈ tX10_judge, am_Snd am_P0 RX10 cX10_judge 3 (Option.some FieldType.int) "judge" q.1 q.2 := by
  unfold tX10_judge
  refine List.forall_mem_cons.mpr ⟨(s_aloadn (am_dp pw_X10_judge_0 dd_X10_judge_0a.1) rfl).to, ?_⟩
  refine List.forall_mem_cons.mpr ⟨(s_iloadn (am_dp pw_X10_judge_0 dd_X10_judge_0a.2.1) rfl).to, ?_⟩
  refine List.forall_mem_cons.mpr ⟨zw_cv150 (am_dp pw_X10_judge_0 dd_X10_judge_0a.2.2.1) wd921, ?_⟩
  refine List.forall_mem_cons.mpr ⟨(s_if_eq (am_dp pw_X10_judge_0 dd_X10_judge_0a.2.2.2.1) (by decide)).to, ?_⟩
  refine List.forall_mem_cons.mpr ⟨(s_iloadn (am_dp pw_X10_judge_0 dd_X10_judge_0a.2.2.2.2.1) rfl).to, ?_⟩
  refine List.forall_mem_cons.mpr ⟨(s_if_lt (am_dp pw_X10_judge_0 dd_X10_judge_0a.2.2.2.2.2.1) (by decide)).to, ?_⟩
  refine List.forall_mem_cons.mpr ⟨(s_iloadn (am_dp pw_X10_judge_0 dd_X10_judge_0a.2.2.2.2.2.2.1) rfl).to, ?_⟩
  refine List.forall_mem_cons.mpr ⟨(s_iconst (am_dp pw_X10_judge_0 dd_X10_judge_0a.2.2.2.2.2.2.2) (by decide)).to, ?_⟩
  refine List.forall_mem_cons.mpr ⟨(s_icmp_lt (am_dp pw_X10_judge_0 dd_X10_judge_0b.1) (by decide)).to, ?_⟩
  refine List.forall_mem_cons.mpr ⟨(s_iconst (am_dp pw_X10_judge_0 dd_X10_judge_0b.2.1) (by decide)).to, ?_⟩
  refine List.forall_mem_cons.mpr ⟨s_iret (am_dp pw_X10_judge_0 dd_X10_judge_0b.2.2.1) rfl, ?_⟩
  refine List.forall_mem_cons.mpr ⟨(s_aloadn (am_dp pw_X10_judge_0 dd_X10_judge_0b.2.2.2.1) rfl).to, ?_⟩
  refine List.forall_mem_cons.mpr ⟨(s_iloadn (am_dp pw_X10_judge_0 dd_X10_judge_0b.2.2.2.2.1) rfl).to, ?_⟩
  refine List.forall_mem_cons.mpr ⟨zw_cv156 (am_dp pw_X10_judge_0 dd_X10_judge_0b.2.2.2.2.2.1) wd1090, ?_⟩
  refine List.forall_mem_cons.mpr ⟨(s_iloadn (am_dp pw_X10_judge_0 dd_X10_judge_0b.2.2.2.2.2.2.1) rfl).to, ?_⟩
  refine List.forall_mem_cons.mpr ⟨(s_ishr (am_dp pw_X10_judge_0 dd_X10_judge_0b.2.2.2.2.2.2.2)).to, ?_⟩
  refine List.forall_mem_cons.mpr ⟨(s_iconst (am_dp pw_X10_judge_0 dd_X10_judge_0c.1) (by decide)).to, ?_⟩
  refine List.forall_mem_cons.mpr ⟨(s_iand (am_dp pw_X10_judge_0 dd_X10_judge_0c.2.1)).to, ?_⟩
  refine List.forall_mem_cons.mpr ⟨s_iret (am_dp pw_X10_judge_0 dd_X10_judge_0c.2.2) rfl, ?_⟩
  exact fun _ h => absurd h List.not_mem_nil
theorem sn_tX10_tale : ∀ q ∈ tX10_tale, am_Snd am_P0 RX10 cX10_tale 6 (Option.some FieldType.int) "tale" q.1 q.2 := by
  unfold tX10_tale
  refine List.forall_mem_cons.mpr ⟨(s_aloadn (am_dp pw_X10_tale_0 dd_X10_tale_0a.1) rfl).to, ?_⟩
  refine List.forall_mem_cons.mpr ⟨(s_iloadn (am_dp pw_X10_tale_0 dd_X10_tale_0a.2.1) rfl).to, ?_⟩
  refine List.forall_mem_cons.mpr ⟨zw_cv150 (am_dp pw_X10_tale_0 dd_X10_tale_0a.2.2.1) wd921, ?_⟩
  refine List.forall_mem_cons.mpr ⟨(s_if_eq (am_dp pw_X10_tale_0 dd_X10_tale_0a.2.2.2.1) (by decide)).to, ?_⟩
  refine List.forall_mem_cons.mpr ⟨(s_iloadn (am_dp pw_X10_tale_0 dd_X10_tale_0a.2.2.2.2.1) rfl).to, ?_⟩
  refine List.forall_mem_cons.mpr ⟨(s_if_ge (am_dp pw_X10_tale_0 dd_X10_tale_0a.2.2.2.2.2.1) (by decide)).to, ?_⟩
  refine List.forall_mem_cons.mpr ⟨(s_iconst (am_dp pw_X10_tale_0 dd_X10_tale_0a.2.2.2.2.2.2.1) (by decide)).to, ?_⟩
  refine List.forall_mem_cons.mpr ⟨s_iret (am_dp pw_X10_tale_0 dd_X10_tale_0a.2.2.2.2.2.2.2) rfl, ?_⟩
  refine List.forall_mem_cons.mpr ⟨(s_aloadn (am_dp pw_X10_tale_0 dd_X10_tale_0b.1) rfl).to, ?_⟩
  refine List.forall_mem_cons.mpr ⟨(s_iloadn (am_dp pw_X10_tale_0 dd_X10_tale_0b.2.1) rfl).to, ?_⟩
  refine List.forall_mem_cons.mpr ⟨zw_cv156 (am_dp pw_X10_tale_0 dd_X10_tale_0b.2.2.1) wd1090, ?_⟩
  refine List.forall_mem_cons.mpr ⟨(s_istoren (am_dp pw_X10_tale_0 dd_X10_tale_0b.2.2.2.1) rfl (by decide)).to, ?_⟩
  refine List.forall_mem_cons.mpr ⟨(s_iloadn (am_dp pw_X10_tale_0 dd_X10_tale_0b.2.2.2.2.1) rfl).to, ?_⟩
  refine List.forall_mem_cons.mpr ⟨(s_istore (am_dp pw_X10_tale_0 dd_X10_tale_0b.2.2.2.2.2.1) (by decide)).to, ?_⟩
  refine List.forall_mem_cons.mpr ⟨(s_iconst (am_dp pw_X10_tale_0 dd_X10_tale_0b.2.2.2.2.2.2.1) (by decide)).to, ?_⟩
  refine List.forall_mem_cons.mpr ⟨(s_istore (am_dp pw_X10_tale_0 dd_X10_tale_0b.2.2.2.2.2.2.2) (by decide)).to, ?_⟩
  refine List.forall_mem_cons.mpr ⟨(s_iload (am_dp pw_X10_tale_0 dd_X10_tale_0c.1)).to, ?_⟩
  refine List.forall_mem_cons.mpr ⟨(s_iconst (am_dp pw_X10_tale_0 dd_X10_tale_0c.2.1) (by decide)).to, ?_⟩
  refine List.forall_mem_cons.mpr ⟨(s_icmp_ge (am_dp pw_X10_tale_0 dd_X10_tale_0c.2.2) (by decide)).to, ?_⟩
  refine List.forall_mem_cons.mpr ⟨(s_iloadn (am_dp pw_X10_tale_32 dd_X10_tale_32a.1) rfl).to, ?_⟩
  refine List.forall_mem_cons.mpr ⟨(s_iload (am_dp pw_X10_tale_32 dd_X10_tale_32a.2.1)).to, ?_⟩
  refine List.forall_mem_cons.mpr ⟨(s_ishr (am_dp pw_X10_tale_32 dd_X10_tale_32a.2.2.1)).to, ?_⟩
  refine List.forall_mem_cons.mpr ⟨(s_iconst (am_dp pw_X10_tale_32 dd_X10_tale_32a.2.2.2.1) (by decide)).to, ?_⟩
  refine List.forall_mem_cons.mpr ⟨(s_iand (am_dp pw_X10_tale_32 dd_X10_tale_32a.2.2.2.2.1)).to, ?_⟩
  refine List.forall_mem_cons.mpr ⟨(s_if_eq (am_dp pw_X10_tale_32 dd_X10_tale_32a.2.2.2.2.2.1) (by decide)).to, ?_⟩
  refine List.forall_mem_cons.mpr ⟨(s_iload (am_dp pw_X10_tale_32 dd_X10_tale_32a.2.2.2.2.2.2.1)).to, ?_⟩
  refine List.forall_mem_cons.mpr ⟨(s_if_ne (am_dp pw_X10_tale_32 dd_X10_tale_32a.2.2.2.2.2.2.2) (by decide)).to, ?_⟩
  refine List.forall_mem_cons.mpr ⟨(s_iload (am_dp pw_X10_tale_32 dd_X10_tale_32b.1)).to, ?_⟩
  refine List.forall_mem_cons.mpr ⟨s_iret (am_dp pw_X10_tale_32 dd_X10_tale_32b.2.1) rfl, ?_⟩
  refine List.forall_mem_cons.mpr ⟨(s_iinc (am_dp pw_X10_tale_32 dd_X10_tale_32b.2.2.1) (by decide) (by decide)).to, ?_⟩
  refine List.forall_mem_cons.mpr ⟨(s_iinc (am_dp pw_X10_tale_32 dd_X10_tale_32b.2.2.2.1) (by decide) (by decide)).to, ?_⟩
  refine List.forall_mem_cons.mpr ⟨(s_goto (am_dp pw_X10_tale_32 dd_X10_tale_32b.2.2.2.2.1) (by decide)).to, ?_⟩
  refine List.forall_mem_cons.mpr ⟨(s_iconst (am_dp pw_X10_tale_32 dd_X10_tale_32b.2.2.2.2.2.1) (by decide)).to, ?_⟩
  refine List.forall_mem_cons.mpr ⟨s_iret (am_dp pw_X10_tale_32 dd_X10_tale_32b.2.2.2.2.2.2) rfl, ?_⟩
  exact fun _ h => absurd h List.not_mem_nil
theorem sn_tX10_bars : ∀ q ∈ tX10_bars, am_Snd am_P0 RX10 cX10_bars 2 (Option.some FieldType.int) "bars" q.1 q.2 := by
  unfold tX10_bars
  refine List.forall_mem_cons.mpr ⟨(s_aloadn (am_dp pw_X10_bars_0 dd_X10_bars_0a.1) rfl).to, ?_⟩
  refine List.forall_mem_cons.mpr ⟨(s_iloadn (am_dp pw_X10_bars_0 dd_X10_bars_0a.2.1) rfl).to, ?_⟩
  refine List.forall_mem_cons.mpr ⟨zw_cv150 (am_dp pw_X10_bars_0 dd_X10_bars_0a.2.2.1) wd921, ?_⟩
  refine List.forall_mem_cons.mpr ⟨(s_if_eq (am_dp pw_X10_bars_0 dd_X10_bars_0a.2.2.2.1) (by decide)).to, ?_⟩
  refine List.forall_mem_cons.mpr ⟨(s_aloadn (am_dp pw_X10_bars_0 dd_X10_bars_0a.2.2.2.2.1) rfl).to, ?_⟩
  refine List.forall_mem_cons.mpr ⟨(s_get (ci := 10) (k := 7) (am_dp pw_X10_bars_0 dd_X10_bars_0a.2.2.2.2.2.1) rfl (by decide) wd586 inX10 rfl).to, ?_⟩
  refine List.forall_mem_cons.mpr ⟨(s_iloadn (am_dp pw_X10_bars_0 dd_X10_bars_0a.2.2.2.2.2.2.1) rfl).to, ?_⟩
  refine List.forall_mem_cons.mpr ⟨(s_aald (am_dp pw_X10_bars_0 dd_X10_bars_0a.2.2.2.2.2.2.2)).to, ?_⟩
  refine List.forall_mem_cons.mpr ⟨zw_cv80 (am_dp pw_X10_bars_0 dd_X10_bars_0b.1) wd1141, ?_⟩
  refine List.forall_mem_cons.mpr ⟨(s_goto (am_dp pw_X10_bars_0 dd_X10_bars_0b.2.1) (by decide)).to, ?_⟩
  refine List.forall_mem_cons.mpr ⟨(s_iconst (am_dp pw_X10_bars_0 dd_X10_bars_0b.2.2.1) (by decide)).to, ?_⟩
  refine List.forall_mem_cons.mpr ⟨s_iret (am_dp pw_X10_bars_0 dd_X10_bars_0b.2.2.2) rfl, ?_⟩
  exact fun _ h => absurd h List.not_mem_nil
theorem sn_tX10_clash_0 : ∀ q ∈ tX10_clash_0, am_Snd am_P0 RX10 cX10_clash 7 (Option.some FieldType.int) "clash" q.1 q.2 := by
  unfold tX10_clash_0
  refine List.forall_mem_cons.mpr ⟨(s_aloadn (am_dp pw_X10_clash_0 dd_X10_clash_0a.1) rfl).to, ?_⟩
  refine List.forall_mem_cons.mpr ⟨(s_iloadn (am_dp pw_X10_clash_0 dd_X10_clash_0a.2.1) rfl).to, ?_⟩
  refine List.forall_mem_cons.mpr ⟨zw_cv150 (am_dp pw_X10_clash_0 dd_X10_clash_0a.2.2.1) wd921, ?_⟩
  refine List.forall_mem_cons.mpr ⟨(s_if_eq (am_dp pw_X10_clash_0 dd_X10_clash_0a.2.2.2.1) (by decide)).to, ?_⟩
  refine List.forall_mem_cons.mpr ⟨(s_iloadn (am_dp pw_X10_clash_0 dd_X10_clash_0a.2.2.2.2.1) rfl).to, ?_⟩
  refine List.forall_mem_cons.mpr ⟨(s_if_lt (am_dp pw_X10_clash_0 dd_X10_clash_0a.2.2.2.2.2.1) (by decide)).to, ?_⟩
  refine List.forall_mem_cons.mpr ⟨(s_iloadn (am_dp pw_X10_clash_0 dd_X10_clash_0a.2.2.2.2.2.2.1) rfl).to, ?_⟩
  refine List.forall_mem_cons.mpr ⟨(s_iconst (am_dp pw_X10_clash_0 dd_X10_clash_0a.2.2.2.2.2.2.2) (by decide)).to, ?_⟩
  refine List.forall_mem_cons.mpr ⟨(s_icmp_le (am_dp pw_X10_clash_0 dd_X10_clash_0b.1) (by decide)).to, ?_⟩
  refine List.forall_mem_cons.mpr ⟨(s_iconst (am_dp pw_X10_clash_0 dd_X10_clash_0b.2.1) (by decide)).to, ?_⟩
  refine List.forall_mem_cons.mpr ⟨s_iret (am_dp pw_X10_clash_0 dd_X10_clash_0b.2.2.1) rfl, ?_⟩
  refine List.forall_mem_cons.mpr ⟨(s_aloadn (am_dp pw_X10_clash_0 dd_X10_clash_0b.2.2.2.1) rfl).to, ?_⟩
  refine List.forall_mem_cons.mpr ⟨(s_iloadn (am_dp pw_X10_clash_0 dd_X10_clash_0b.2.2.2.2.1) rfl).to, ?_⟩
  refine List.forall_mem_cons.mpr ⟨zw_cv154 (am_dp pw_X10_clash_0 dd_X10_clash_0b.2.2.2.2.2.1) wd929, ?_⟩
  refine List.forall_mem_cons.mpr ⟨(s_astoren (am_dp pw_X10_clash_0 dd_X10_clash_0b.2.2.2.2.2.2.1) rfl (by decide)).to, ?_⟩
  refine List.forall_mem_cons.mpr ⟨(s_aloadn (am_dp pw_X10_clash_0 dd_X10_clash_0b.2.2.2.2.2.2.2) rfl).to, ?_⟩
  refine List.forall_mem_cons.mpr ⟨zw_cv91 (am_dp pw_X10_clash_0 dd_X10_clash_0c.1) wd1149, ?_⟩
  refine List.forall_mem_cons.mpr ⟨(s_istore (am_dp pw_X10_clash_0 dd_X10_clash_0c.2.1) (by decide)).to, ?_⟩
  refine List.forall_mem_cons.mpr ⟨(s_aloadn (am_dp pw_X10_clash_0 dd_X10_clash_0c.2.2) rfl).to, ?_⟩
  refine List.forall_mem_cons.mpr ⟨(s_iload (am_dp pw_X10_clash_32 dd_X10_clash_32a.1)).to, ?_⟩
  refine List.forall_mem_cons.mpr ⟨zw_cv92 (am_dp pw_X10_clash_32 dd_X10_clash_32a.2.1) wd1153, ?_⟩
  refine List.forall_mem_cons.mpr ⟨(s_istore (am_dp pw_X10_clash_32 dd_X10_clash_32a.2.2.1) (by decide)).to, ?_⟩
  refine List.forall_mem_cons.mpr ⟨(s_iload (am_dp pw_X10_clash_32 dd_X10_clash_32a.2.2.2.1)).to, ?_⟩
  refine List.forall_mem_cons.mpr ⟨(s_iconst (am_dp pw_X10_clash_32 dd_X10_clash_32a.2.2.2.2.1) (by decide)).to, ?_⟩
  refine List.forall_mem_cons.mpr ⟨(s_icmp_eq (am_dp pw_X10_clash_32 dd_X10_clash_32a.2.2.2.2.2.1) (by decide)).to, ?_⟩
  refine List.forall_mem_cons.mpr ⟨(s_iload (am_dp pw_X10_clash_32 dd_X10_clash_32a.2.2.2.2.2.2.1)).to, ?_⟩
  refine List.forall_mem_cons.mpr ⟨(s_bipush (am_dp pw_X10_clash_32 dd_X10_clash_32a.2.2.2.2.2.2.2) (by decide)).to, ?_⟩
  refine List.forall_mem_cons.mpr ⟨(s_irem (am_dp pw_X10_clash_32 dd_X10_clash_32b.1)).to, ?_⟩
  refine List.forall_mem_cons.mpr ⟨(s_istore (am_dp pw_X10_clash_32 dd_X10_clash_32b.2.1) (by decide)).to, ?_⟩
  refine List.forall_mem_cons.mpr ⟨(s_iloadn (am_dp pw_X10_clash_32 dd_X10_clash_32b.2.2.1) rfl).to, ?_⟩
  refine List.forall_mem_cons.mpr ⟨(s_if_ne (am_dp pw_X10_clash_32 dd_X10_clash_32b.2.2.2.1) (by decide)).to, ?_⟩
  refine List.forall_mem_cons.mpr ⟨(s_iload (am_dp pw_X10_clash_32 dd_X10_clash_32b.2.2.2.2.1)).to, ?_⟩
  refine List.forall_mem_cons.mpr ⟨(s_goto (am_dp pw_X10_clash_32 dd_X10_clash_32b.2.2.2.2.2.1) (by decide)).to, ?_⟩
  refine List.forall_mem_cons.mpr ⟨(s_iloadn (am_dp pw_X10_clash_32 dd_X10_clash_32b.2.2.2.2.2.2.1) rfl).to, ?_⟩
  refine List.forall_mem_cons.mpr ⟨(s_iconst (am_dp pw_X10_clash_32 dd_X10_clash_32b.2.2.2.2.2.2.2) (by decide)).to, ?_⟩
  refine List.forall_mem_cons.mpr ⟨(s_icmp_ne (am_dp pw_X10_clash_32 dd_X10_clash_32c) (by decide)).to, ?_⟩
  refine List.forall_mem_cons.mpr ⟨(s_iload (am_dp pw_X10_clash_64 dd_X10_clash_64a.1)).to, ?_⟩
  refine List.forall_mem_cons.mpr ⟨(s_bipush (am_dp pw_X10_clash_64 dd_X10_clash_64a.2.1) (by decide)).to, ?_⟩
  refine List.forall_mem_cons.mpr ⟨(s_idiv (am_dp pw_X10_clash_64 dd_X10_clash_64a.2.2.1)).to, ?_⟩
  refine List.forall_mem_cons.mpr ⟨(s_goto (am_dp pw_X10_clash_64 dd_X10_clash_64a.2.2.2.1) (by decide)).to, ?_⟩
  refine List.forall_mem_cons.mpr ⟨(s_aloadn (am_dp pw_X10_clash_64 dd_X10_clash_64a.2.2.2.2.1) rfl).to, ?_⟩
  refine List.forall_mem_cons.mpr ⟨(s_get (ci := 8) (k := 0) (am_dp pw_X10_clash_64 dd_X10_clash_64a.2.2.2.2.2.1) rfl (by decide) wd519 inX8 rfl).to, ?_⟩
  refine List.forall_mem_cons.mpr ⟨(s_get (ci := 6) (k := 6) (am_dp pw_X10_clash_64 dd_X10_clash_64a.2.2.2.2.2.2.1) rfl (by decide) wd259 inX6 rfl).to, ?_⟩
  refine List.forall_mem_cons.mpr ⟨(s_iload (am_dp pw_X10_clash_64 dd_X10_clash_64a.2.2.2.2.2.2.2)).to, ?_⟩
  refine List.forall_mem_cons.mpr ⟨(s_iald (am_dp pw_X10_clash_64 dd_X10_clash_64b.1)).to, ?_⟩
  refine List.forall_mem_cons.mpr ⟨s_iret (am_dp pw_X10_clash_64 dd_X10_clash_64b.2.1) rfl, ?_⟩
  refine List.forall_mem_cons.mpr ⟨(s_iload (am_dp pw_X10_clash_64 dd_X10_clash_64b.2.2.1)).to, ?_⟩
  refine List.forall_mem_cons.mpr ⟨(s_iconst (am_dp pw_X10_clash_64 dd_X10_clash_64b.2.2.2.1) (by decide)).to, ?_⟩
  refine List.forall_mem_cons.mpr ⟨(s_icmp_eq (am_dp pw_X10_clash_64 dd_X10_clash_64b.2.2.2.2.1) (by decide)).to, ?_⟩
  refine List.forall_mem_cons.mpr ⟨(s_iloadn (am_dp pw_X10_clash_64 dd_X10_clash_64b.2.2.2.2.2.1) rfl).to, ?_⟩
  refine List.forall_mem_cons.mpr ⟨(s_if_ne (am_dp pw_X10_clash_64 dd_X10_clash_64b.2.2.2.2.2.2.1) (by decide)).to, ?_⟩
  refine List.forall_mem_cons.mpr ⟨(s_iconst (am_dp pw_X10_clash_64 dd_X10_clash_64b.2.2.2.2.2.2.2) (by decide)).to, ?_⟩
  refine List.forall_mem_cons.mpr ⟨s_iret (am_dp pw_X10_clash_96 dd_X10_clash_96a.1) rfl, ?_⟩
  refine List.forall_mem_cons.mpr ⟨(s_iloadn (am_dp pw_X10_clash_96 dd_X10_clash_96a.2.1) rfl).to, ?_⟩
  refine List.forall_mem_cons.mpr ⟨(s_iconst (am_dp pw_X10_clash_96 dd_X10_clash_96a.2.2.1) (by decide)).to, ?_⟩
  refine List.forall_mem_cons.mpr ⟨(s_icmp_ne (am_dp pw_X10_clash_96 dd_X10_clash_96a.2.2.2.1) (by decide)).to, ?_⟩
  refine List.forall_mem_cons.mpr ⟨(s_iload (am_dp pw_X10_clash_96 dd_X10_clash_96a.2.2.2.2.1)).to, ?_⟩
  refine List.forall_mem_cons.mpr ⟨(s_goto (am_dp pw_X10_clash_96 dd_X10_clash_96a.2.2.2.2.2.1) (by decide)).to, ?_⟩
  refine List.forall_mem_cons.mpr ⟨(s_aloadn (am_dp pw_X10_clash_96 dd_X10_clash_96a.2.2.2.2.2.2.1) rfl).to, ?_⟩
  refine List.forall_mem_cons.mpr ⟨(s_get (ci := 8) (k := 0) (am_dp pw_X10_clash_96 dd_X10_clash_96a.2.2.2.2.2.2.2) rfl (by decide) wd519 inX8 rfl).to, ?_⟩
  exact fun _ h => absurd h List.not_mem_nil
theorem sn_tX10_clash_1 : ∀ q ∈ tX10_clash_1, am_Snd am_P0 RX10 cX10_clash 7 (Option.some FieldType.int) "clash" q.1 q.2 := by
  unfold tX10_clash_1
  refine List.forall_mem_cons.mpr ⟨(s_get (ci := 6) (k := 6) (am_dp pw_X10_clash_96 dd_X10_clash_96b.1) rfl (by decide) wd259 inX6 rfl).to, ?_⟩
  refine List.forall_mem_cons.mpr ⟨(s_iload (am_dp pw_X10_clash_96 dd_X10_clash_96b.2.1)).to, ?_⟩
  refine List.forall_mem_cons.mpr ⟨(s_iald (am_dp pw_X10_clash_96 dd_X10_clash_96b.2.2.1)).to, ?_⟩
  refine List.forall_mem_cons.mpr ⟨s_iret (am_dp pw_X10_clash_96 dd_X10_clash_96b.2.2.2) rfl, ?_⟩
  exact fun _ h => absurd h List.not_mem_nil
theorem sn_tX10_clash : ∀ q ∈ tX10_clash, am_Snd am_P0 RX10 cX10_clash 7 (Option.some FieldType.int) "clash" q.1 q.2 := by
  unfold tX10_clash
  exact List.forall_mem_append.mpr ⟨sn_tX10_clash_0, sn_tX10_clash_1⟩
theorem sn_tX10_who : ∀ q ∈ tX10_who, am_Snd am_P0 RX10 cX10_who 2 (Option.some FieldType.int) "who" q.1 q.2 := by
  unfold tX10_who
  refine List.forall_mem_cons.mpr ⟨(s_aloadn (am_dp pw_X10_who_0 dd_X10_who_0a.1) rfl).to, ?_⟩
  refine List.forall_mem_cons.mpr ⟨(s_iloadn (am_dp pw_X10_who_0 dd_X10_who_0a.2.1) rfl).to, ?_⟩
  refine List.forall_mem_cons.mpr ⟨zw_cv150 (am_dp pw_X10_who_0 dd_X10_who_0a.2.2.1) wd921, ?_⟩
  refine List.forall_mem_cons.mpr ⟨(s_if_eq (am_dp pw_X10_who_0 dd_X10_who_0a.2.2.2.1) (by decide)).to, ?_⟩
  refine List.forall_mem_cons.mpr ⟨(s_aloadn (am_dp pw_X10_who_0 dd_X10_who_0a.2.2.2.2.1) rfl).to, ?_⟩
  refine List.forall_mem_cons.mpr ⟨(s_iloadn (am_dp pw_X10_who_0 dd_X10_who_0a.2.2.2.2.2.1) rfl).to, ?_⟩
  refine List.forall_mem_cons.mpr ⟨zw_cv155 (am_dp pw_X10_who_0 dd_X10_who_0a.2.2.2.2.2.2.1) wd1120, ?_⟩
  refine List.forall_mem_cons.mpr ⟨(s_goto (am_dp pw_X10_who_0 dd_X10_who_0a.2.2.2.2.2.2.2) (by decide)).to, ?_⟩
  refine List.forall_mem_cons.mpr ⟨(s_iconst (am_dp pw_X10_who_0 dd_X10_who_0b.1) (by decide)).to, ?_⟩
  refine List.forall_mem_cons.mpr ⟨s_iret (am_dp pw_X10_who_0 dd_X10_who_0b.2) rfl, ?_⟩
  exact fun _ h => absurd h List.not_mem_nil
theorem sn_tX10_swap : ∀ q ∈ tX10_swap, am_Snd am_P0 RX10 cX10_swap 5 (Option.some FieldType.int) "swap" q.1 q.2 := by
  unfold tX10_swap
  refine List.forall_mem_cons.mpr ⟨(s_iloadn (am_dp pw_X10_swap_0 dd_X10_swap_0a.1) rfl).to, ?_⟩
  refine List.forall_mem_cons.mpr ⟨(s_iloadn (am_dp pw_X10_swap_0 dd_X10_swap_0a.2.1) rfl).to, ?_⟩
  refine List.forall_mem_cons.mpr ⟨(s_icmp_eq (am_dp pw_X10_swap_0 dd_X10_swap_0a.2.2.1) (by decide)).to, ?_⟩
  refine List.forall_mem_cons.mpr ⟨(s_aloadn (am_dp pw_X10_swap_0 dd_X10_swap_0a.2.2.2.1) rfl).to, ?_⟩
  refine List.forall_mem_cons.mpr ⟨(s_iloadn (am_dp pw_X10_swap_0 dd_X10_swap_0a.2.2.2.2.1) rfl).to, ?_⟩
  refine List.forall_mem_cons.mpr ⟨zw_cv150 (am_dp pw_X10_swap_0 dd_X10_swap_0a.2.2.2.2.2.1) wd921, ?_⟩
  refine List.forall_mem_cons.mpr ⟨(s_if_eq (am_dp pw_X10_swap_0 dd_X10_swap_0a.2.2.2.2.2.2.1) (by decide)).to, ?_⟩
  refine List.forall_mem_cons.mpr ⟨(s_aloadn (am_dp pw_X10_swap_0 dd_X10_swap_0a.2.2.2.2.2.2.2) rfl).to, ?_⟩
  refine List.forall_mem_cons.mpr ⟨(s_iloadn (am_dp pw_X10_swap_0 dd_X10_swap_0b.1) rfl).to, ?_⟩
  refine List.forall_mem_cons.mpr ⟨zw_cv150 (am_dp pw_X10_swap_0 dd_X10_swap_0b.2.1) wd921, ?_⟩
  refine List.forall_mem_cons.mpr ⟨(s_if_ne (am_dp pw_X10_swap_0 dd_X10_swap_0b.2.2.1) (by decide)).to, ?_⟩
  refine List.forall_mem_cons.mpr ⟨(s_iconst (am_dp pw_X10_swap_0 dd_X10_swap_0b.2.2.2.1) (by decide)).to, ?_⟩
  refine List.forall_mem_cons.mpr ⟨s_iret (am_dp pw_X10_swap_0 dd_X10_swap_0b.2.2.2.2.1) rfl, ?_⟩
  refine List.forall_mem_cons.mpr ⟨(s_aloadn (am_dp pw_X10_swap_0 dd_X10_swap_0b.2.2.2.2.2.1) rfl).to, ?_⟩
  refine List.forall_mem_cons.mpr ⟨(s_get (ci := 10) (k := 2) (am_dp pw_X10_swap_0 dd_X10_swap_0b.2.2.2.2.2.2.1) rfl (by decide) wd581 inX10 rfl).to, ?_⟩
  refine List.forall_mem_cons.mpr ⟨(s_get (ci := 5) (k := 4) (am_dp pw_X10_swap_0 dd_X10_swap_0b.2.2.2.2.2.2.2) rfl (by decide) wd318 inX5 rfl).to, ?_⟩
  refine List.forall_mem_cons.mpr ⟨(s_iloadn (am_dp pw_X10_swap_0 dd_X10_swap_0c.1) rfl).to, ?_⟩
  refine List.forall_mem_cons.mpr ⟨(s_aald (am_dp pw_X10_swap_0 dd_X10_swap_0c.2)).to, ?_⟩
  refine List.forall_mem_cons.mpr ⟨(s_astoren (am_dp pw_X10_swap_32 dd_X10_swap_32a.1) rfl (by decide)).to, ?_⟩
  refine List.forall_mem_cons.mpr ⟨(s_aloadn (am_dp pw_X10_swap_32 dd_X10_swap_32a.2.1) rfl).to, ?_⟩
  refine List.forall_mem_cons.mpr ⟨(s_get (ci := 10) (k := 2) (am_dp pw_X10_swap_32 dd_X10_swap_32a.2.2.1) rfl (by decide) wd581 inX10 rfl).to, ?_⟩
  refine List.forall_mem_cons.mpr ⟨(s_get (ci := 5) (k := 4) (am_dp pw_X10_swap_32 dd_X10_swap_32a.2.2.2.1) rfl (by decide) wd318 inX5 rfl).to, ?_⟩
  refine List.forall_mem_cons.mpr ⟨(s_iloadn (am_dp pw_X10_swap_32 dd_X10_swap_32a.2.2.2.2.1) rfl).to, ?_⟩
  refine List.forall_mem_cons.mpr ⟨(s_aald (am_dp pw_X10_swap_32 dd_X10_swap_32a.2.2.2.2.2.1)).to, ?_⟩
  refine List.forall_mem_cons.mpr ⟨(s_astore (am_dp pw_X10_swap_32 dd_X10_swap_32a.2.2.2.2.2.2.1) (by decide)).to, ?_⟩
  refine List.forall_mem_cons.mpr ⟨(s_aloadn (am_dp pw_X10_swap_32 dd_X10_swap_32a.2.2.2.2.2.2.2) rfl).to, ?_⟩
  refine List.forall_mem_cons.mpr ⟨(s_get (ci := 6) (k := 5) (am_dp pw_X10_swap_32 dd_X10_swap_32b.1) rfl (by decide) wd255 inX6 rfl).to, ?_⟩
  refine List.forall_mem_cons.mpr ⟨(s_if_eq (am_dp pw_X10_swap_32 dd_X10_swap_32b.2.1) (by decide)).to, ?_⟩
  refine List.forall_mem_cons.mpr ⟨(s_aload (am_dp pw_X10_swap_32 dd_X10_swap_32b.2.2.1)).to, ?_⟩
  refine List.forall_mem_cons.mpr ⟨(s_get (ci := 6) (k := 5) (am_dp pw_X10_swap_32 dd_X10_swap_32b.2.2.2.1) rfl (by decide) wd255 inX6 rfl).to, ?_⟩
  refine List.forall_mem_cons.mpr ⟨(s_if_ne (am_dp pw_X10_swap_32 dd_X10_swap_32b.2.2.2.2.1) (by decide)).to, ?_⟩
  refine List.forall_mem_cons.mpr ⟨(s_iconst (am_dp pw_X10_swap_32 dd_X10_swap_32b.2.2.2.2.2.1) (by decide)).to, ?_⟩
  refine List.forall_mem_cons.mpr ⟨s_iret (am_dp pw_X10_swap_32 dd_X10_swap_32b.2.2.2.2.2.2.1) rfl, ?_⟩
  refine List.forall_mem_cons.mpr ⟨(s_aloadn (am_dp pw_X10_swap_32 dd_X10_swap_32b.2.2.2.2.2.2.2) rfl).to, ?_⟩
  refine List.forall_mem_cons.mpr ⟨(s_get (ci := 10) (k := 7) (am_dp pw_X10_swap_32 dd_X10_swap_32c) rfl (by decide) wd586 inX10 rfl).to, ?_⟩
  refine List.forall_mem_cons.mpr ⟨(s_iloadn (am_dp pw_X10_swap_64 dd_X10_swap_64a.1) rfl).to, ?_⟩
  refine List.forall_mem_cons.mpr ⟨(s_aald (am_dp pw_X10_swap_64 dd_X10_swap_64a.2.1)).to, ?_⟩
  refine List.forall_mem_cons.mpr ⟨(s_aload (am_dp pw_X10_swap_64 dd_X10_swap_64a.2.2.1)).to, ?_⟩
  refine List.forall_mem_cons.mpr ⟨(s_iconst (am_dp pw_X10_swap_64 dd_X10_swap_64a.2.2.2.1) (by decide)).to, ?_⟩
  refine List.forall_mem_cons.mpr ⟨(s_iconst (am_dp pw_X10_swap_64 dd_X10_swap_64a.2.2.2.2.1) (by decide)).to, ?_⟩
  refine List.forall_mem_cons.mpr ⟨zw_cv79 (am_dp pw_X10_swap_64 dd_X10_swap_64a.2.2.2.2.2.1) wd1124, ?_⟩
  refine List.forall_mem_cons.mpr ⟨(s_if_eq (am_dp pw_X10_swap_64 dd_X10_swap_64a.2.2.2.2.2.2.1) (by decide)).to, ?_⟩
  refine List.forall_mem_cons.mpr ⟨(s_aloadn (am_dp pw_X10_swap_64 dd_X10_swap_64a.2.2.2.2.2.2.2) rfl).to, ?_⟩
  refine List.forall_mem_cons.mpr ⟨(s_get (ci := 10) (k := 7) (am_dp pw_X10_swap_64 dd_X10_swap_64b.1) rfl (by decide) wd586 inX10 rfl).to, ?_⟩
  refine List.forall_mem_cons.mpr ⟨(s_iloadn (am_dp pw_X10_swap_64 dd_X10_swap_64b.2.1) rfl).to, ?_⟩
  refine List.forall_mem_cons.mpr ⟨(s_aald (am_dp pw_X10_swap_64 dd_X10_swap_64b.2.2.1)).to, ?_⟩
  refine List.forall_mem_cons.mpr ⟨(s_aloadn (am_dp pw_X10_swap_64 dd_X10_swap_64b.2.2.2.1) rfl).to, ?_⟩
  refine List.forall_mem_cons.mpr ⟨(s_iconst (am_dp pw_X10_swap_64 dd_X10_swap_64b.2.2.2.2.1) (by decide)).to, ?_⟩
  refine List.forall_mem_cons.mpr ⟨(s_iconst (am_dp pw_X10_swap_64 dd_X10_swap_64b.2.2.2.2.2.1) (by decide)).to, ?_⟩
  refine List.forall_mem_cons.mpr ⟨zw_cv79 (am_dp pw_X10_swap_64 dd_X10_swap_64b.2.2.2.2.2.2.1) wd1124, ?_⟩
  refine List.forall_mem_cons.mpr ⟨(s_if_eq (am_dp pw_X10_swap_64 dd_X10_swap_64b.2.2.2.2.2.2.2) (by decide)).to, ?_⟩
  refine List.forall_mem_cons.mpr ⟨(s_iconst (am_dp pw_X10_swap_64 dd_X10_swap_64c.1) (by decide)).to, ?_⟩
  refine List.forall_mem_cons.mpr ⟨(s_goto (am_dp pw_X10_swap_64 dd_X10_swap_64c.2) (by decide)).to, ?_⟩
  refine List.forall_mem_cons.mpr ⟨(s_iconst (am_dp pw_X10_swap_96 dd_X10_swap_96a.1) (by decide)).to, ?_⟩
  refine List.forall_mem_cons.mpr ⟨zw_cs148 (am_dp pw_X10_swap_96 dd_X10_swap_96a.2.1) wd1004, ?_⟩
  refine List.forall_mem_cons.mpr ⟨s_iret (am_dp pw_X10_swap_96 dd_X10_swap_96a.2.2) rfl, ?_⟩
  exact fun _ h => absurd h List.not_mem_nil
theorem sn_tX10_kinds : ∀ q ∈ tX10_kinds, am_Snd am_P0 RX10 cX10_kinds 4 (Option.some FieldType.int) "kinds" q.1 q.2 := by
  unfold tX10_kinds
  refine List.forall_mem_cons.mpr ⟨(s_iloadn (am_dp pw_X10_kinds_0 dd_X10_kinds_0a.1) rfl).to, ?_⟩
  refine List.forall_mem_cons.mpr ⟨(s_iconst (am_dp pw_X10_kinds_0 dd_X10_kinds_0a.2.1) (by decide)).to, ?_⟩
  refine List.forall_mem_cons.mpr ⟨(s_icmp_lt (am_dp pw_X10_kinds_0 dd_X10_kinds_0a.2.2.1) (by decide)).to, ?_⟩
  refine List.forall_mem_cons.mpr ⟨(s_iloadn (am_dp pw_X10_kinds_0 dd_X10_kinds_0a.2.2.2.1) rfl).to, ?_⟩
  refine List.forall_mem_cons.mpr ⟨(s_iconst (am_dp pw_X10_kinds_0 dd_X10_kinds_0a.2.2.2.2.1) (by decide)).to, ?_⟩
  refine List.forall_mem_cons.mpr ⟨(s_icmp_lt (am_dp pw_X10_kinds_0 dd_X10_kinds_0a.2.2.2.2.2.1) (by decide)).to, ?_⟩
  refine List.forall_mem_cons.mpr ⟨(s_iconst (am_dp pw_X10_kinds_0 dd_X10_kinds_0a.2.2.2.2.2.2.1) (by decide)).to, ?_⟩
  refine List.forall_mem_cons.mpr ⟨s_iret (am_dp pw_X10_kinds_0 dd_X10_kinds_0a.2.2.2.2.2.2.2) rfl, ?_⟩
  refine List.forall_mem_cons.mpr ⟨(s_iconst (am_dp pw_X10_kinds_0 dd_X10_kinds_0b.1) (by decide)).to, ?_⟩
  refine List.forall_mem_cons.mpr ⟨(s_istoren (am_dp pw_X10_kinds_0 dd_X10_kinds_0b.2.1) rfl (by decide)).to, ?_⟩
  refine List.forall_mem_cons.mpr ⟨(s_iconst (am_dp pw_X10_kinds_0 dd_X10_kinds_0b.2.2.1) (by decide)).to, ?_⟩
  refine List.forall_mem_cons.mpr ⟨(s_istoren (am_dp pw_X10_kinds_0 dd_X10_kinds_0b.2.2.2.1) rfl (by decide)).to, ?_⟩
  refine List.forall_mem_cons.mpr ⟨(s_iloadn (am_dp pw_X10_kinds_0 dd_X10_kinds_0b.2.2.2.2.1) rfl).to, ?_⟩
  refine List.forall_mem_cons.mpr ⟨(s_aloadn (am_dp pw_X10_kinds_0 dd_X10_kinds_0b.2.2.2.2.2.1) rfl).to, ?_⟩
  refine List.forall_mem_cons.mpr ⟨(s_get (ci := 10) (k := 2) (am_dp pw_X10_kinds_0 dd_X10_kinds_0b.2.2.2.2.2.2.1) rfl (by decide) wd581 inX10 rfl).to, ?_⟩
  refine List.forall_mem_cons.mpr ⟨(s_get (ci := 5) (k := 3) (am_dp pw_X10_kinds_0 dd_X10_kinds_0b.2.2.2.2.2.2.2) rfl (by decide) wd315 inX5 rfl).to, ?_⟩
  refine List.forall_mem_cons.mpr ⟨(s_icmp_ge (am_dp pw_X10_kinds_0 dd_X10_kinds_0c.1) (by decide)).to, ?_⟩
  refine List.forall_mem_cons.mpr ⟨(s_aloadn (am_dp pw_X10_kinds_0 dd_X10_kinds_0c.2.1) rfl).to, ?_⟩
  refine List.forall_mem_cons.mpr ⟨(s_get (ci := 10) (k := 2) (am_dp pw_X10_kinds_0 dd_X10_kinds_0c.2.2.1) rfl (by decide) wd581 inX10 rfl).to, ?_⟩
  refine List.forall_mem_cons.mpr ⟨(s_get (ci := 5) (k := 4) (am_dp pw_X10_kinds_0 dd_X10_kinds_0c.2.2.2) rfl (by decide) wd318 inX5 rfl).to, ?_⟩
  refine List.forall_mem_cons.mpr ⟨(s_iloadn (am_dp pw_X10_kinds_32 dd_X10_kinds_32a.1) rfl).to, ?_⟩
  refine List.forall_mem_cons.mpr ⟨(s_aald (am_dp pw_X10_kinds_32 dd_X10_kinds_32a.2.1)).to, ?_⟩
  refine List.forall_mem_cons.mpr ⟨(s_get (ci := 6) (k := 5) (am_dp pw_X10_kinds_32 dd_X10_kinds_32a.2.2.1) rfl (by decide) wd255 inX6 rfl).to, ?_⟩
  refine List.forall_mem_cons.mpr ⟨(s_if_le (am_dp pw_X10_kinds_32 dd_X10_kinds_32a.2.2.2.1) (by decide)).to, ?_⟩
  refine List.forall_mem_cons.mpr ⟨(s_aloadn (am_dp pw_X10_kinds_32 dd_X10_kinds_32a.2.2.2.2.1) rfl).to, ?_⟩
  refine List.forall_mem_cons.mpr ⟨(s_iloadn (am_dp pw_X10_kinds_32 dd_X10_kinds_32a.2.2.2.2.2.1) rfl).to, ?_⟩
  refine List.forall_mem_cons.mpr ⟨zw_cv156 (am_dp pw_X10_kinds_32 dd_X10_kinds_32a.2.2.2.2.2.2.1) wd1090, ?_⟩
  refine List.forall_mem_cons.mpr ⟨zw_cs157 (am_dp pw_X10_kinds_32 dd_X10_kinds_32a.2.2.2.2.2.2.2) wd1170, ?_⟩
  refine List.forall_mem_cons.mpr ⟨(s_iloadn (am_dp pw_X10_kinds_32 dd_X10_kinds_32b.1) rfl).to, ?_⟩
  refine List.forall_mem_cons.mpr ⟨(s_icmp_ne (am_dp pw_X10_kinds_32 dd_X10_kinds_32b.2.1) (by decide)).to, ?_⟩
  refine List.forall_mem_cons.mpr ⟨(s_iinc (am_dp pw_X10_kinds_32 dd_X10_kinds_32b.2.2.1) (by decide) (by decide)).to, ?_⟩
  refine List.forall_mem_cons.mpr ⟨(s_iinc (am_dp pw_X10_kinds_32 dd_X10_kinds_32b.2.2.2.1) (by decide) (by decide)).to, ?_⟩
  refine List.forall_mem_cons.mpr ⟨(s_goto (am_dp pw_X10_kinds_32 dd_X10_kinds_32b.2.2.2.2.1) (by decide)).to, ?_⟩
  refine List.forall_mem_cons.mpr ⟨(s_iloadn (am_dp pw_X10_kinds_32 dd_X10_kinds_32b.2.2.2.2.2) rfl).to, ?_⟩
  refine List.forall_mem_cons.mpr ⟨s_iret (am_dp pw_X10_kinds_64 dd_X10_kinds_64a) rfl, ?_⟩
  exact fun _ h => absurd h List.not_mem_nil
theorem sn_tX10_lies : ∀ q ∈ tX10_lies, am_Snd am_P0 RX10 cX10_lies 3 (Option.some FieldType.int) "lies" q.1 q.2 := by
  unfold tX10_lies
  refine List.forall_mem_cons.mpr ⟨(s_iconst (am_dp pw_X10_lies_0 dd_X10_lies_0a.1) (by decide)).to, ?_⟩
  refine List.forall_mem_cons.mpr ⟨(s_istoren (am_dp pw_X10_lies_0 dd_X10_lies_0a.2.1) rfl (by decide)).to, ?_⟩
  refine List.forall_mem_cons.mpr ⟨(s_iconst (am_dp pw_X10_lies_0 dd_X10_lies_0a.2.2.1) (by decide)).to, ?_⟩
  refine List.forall_mem_cons.mpr ⟨(s_istoren (am_dp pw_X10_lies_0 dd_X10_lies_0a.2.2.2.1) rfl (by decide)).to, ?_⟩
  refine List.forall_mem_cons.mpr ⟨(s_iloadn (am_dp pw_X10_lies_0 dd_X10_lies_0a.2.2.2.2.1) rfl).to, ?_⟩
  refine List.forall_mem_cons.mpr ⟨(s_aloadn (am_dp pw_X10_lies_0 dd_X10_lies_0a.2.2.2.2.2.1) rfl).to, ?_⟩
  refine List.forall_mem_cons.mpr ⟨(s_get (ci := 10) (k := 2) (am_dp pw_X10_lies_0 dd_X10_lies_0a.2.2.2.2.2.2.1) rfl (by decide) wd581 inX10 rfl).to, ?_⟩
  refine List.forall_mem_cons.mpr ⟨(s_get (ci := 5) (k := 3) (am_dp pw_X10_lies_0 dd_X10_lies_0a.2.2.2.2.2.2.2) rfl (by decide) wd315 inX5 rfl).to, ?_⟩
  refine List.forall_mem_cons.mpr ⟨(s_icmp_ge (am_dp pw_X10_lies_0 dd_X10_lies_0b.1) (by decide)).to, ?_⟩
  refine List.forall_mem_cons.mpr ⟨(s_iloadn (am_dp pw_X10_lies_0 dd_X10_lies_0b.2.1) rfl).to, ?_⟩
  refine List.forall_mem_cons.mpr ⟨(s_aloadn (am_dp pw_X10_lies_0 dd_X10_lies_0b.2.2.1) rfl).to, ?_⟩
  refine List.forall_mem_cons.mpr ⟨(s_get (ci := 10) (k := 2) (am_dp pw_X10_lies_0 dd_X10_lies_0b.2.2.2.1) rfl (by decide) wd581 inX10 rfl).to, ?_⟩
  refine List.forall_mem_cons.mpr ⟨(s_get (ci := 5) (k := 4) (am_dp pw_X10_lies_0 dd_X10_lies_0b.2.2.2.2.1) rfl (by decide) wd318 inX5 rfl).to, ?_⟩
  refine List.forall_mem_cons.mpr ⟨(s_iloadn (am_dp pw_X10_lies_0 dd_X10_lies_0b.2.2.2.2.2.1) rfl).to, ?_⟩
  refine List.forall_mem_cons.mpr ⟨(s_aald (am_dp pw_X10_lies_0 dd_X10_lies_0b.2.2.2.2.2.2.1)).to, ?_⟩
  refine List.forall_mem_cons.mpr ⟨(s_get (ci := 6) (k := 5) (am_dp pw_X10_lies_0 dd_X10_lies_0b.2.2.2.2.2.2.2) rfl (by decide) wd255 inX6 rfl).to, ?_⟩
  refine List.forall_mem_cons.mpr ⟨(s_aloadn (am_dp pw_X10_lies_0 dd_X10_lies_0c.1) rfl).to, ?_⟩
  refine List.forall_mem_cons.mpr ⟨(s_iloadn (am_dp pw_X10_lies_0 dd_X10_lies_0c.2.1) rfl).to, ?_⟩
  refine List.forall_mem_cons.mpr ⟨zw_cv154 (am_dp pw_X10_lies_0 dd_X10_lies_0c.2.2) wd929, ?_⟩
  refine List.forall_mem_cons.mpr ⟨(s_get (ci := 8) (k := 11) (am_dp pw_X10_lies_32 dd_X10_lies_32a.1) rfl (by decide) wd534 inX8 rfl).to, ?_⟩
  refine List.forall_mem_cons.mpr ⟨(s_isub (am_dp pw_X10_lies_32 dd_X10_lies_32a.2.1)).to, ?_⟩
  refine List.forall_mem_cons.mpr ⟨(s_iadd (am_dp pw_X10_lies_32 dd_X10_lies_32a.2.2.1)).to, ?_⟩
  refine List.forall_mem_cons.mpr ⟨(s_istoren (am_dp pw_X10_lies_32 dd_X10_lies_32a.2.2.2.1) rfl (by decide)).to, ?_⟩
  refine List.forall_mem_cons.mpr ⟨(s_iinc (am_dp pw_X10_lies_32 dd_X10_lies_32a.2.2.2.2.1) (by decide) (by decide)).to, ?_⟩
  refine List.forall_mem_cons.mpr ⟨(s_goto (am_dp pw_X10_lies_32 dd_X10_lies_32a.2.2.2.2.2.1) (by decide)).to, ?_⟩
  refine List.forall_mem_cons.mpr ⟨(s_iloadn (am_dp pw_X10_lies_32 dd_X10_lies_32a.2.2.2.2.2.2.1) rfl).to, ?_⟩
  refine List.forall_mem_cons.mpr ⟨s_iret (am_dp pw_X10_lies_32 dd_X10_lies_32a.2.2.2.2.2.2.2) rfl, ?_⟩
  exact fun _ h => absurd h List.not_mem_nil
theorem sn_tX10_met_0 : ∀ q ∈ tX10_met_0, am_Snd am_P0 RX10 cX10_met 13 (Option.some FieldType.int) "met" q.1 q.2 := by
  unfold tX10_met_0
  refine List.forall_mem_cons.mpr ⟨(s_iloadn (am_dp pw_X10_met_0 dd_X10_met_0a.1) rfl).to, ?_⟩
  refine List.forall_mem_cons.mpr ⟨(s_iloadn (am_dp pw_X10_met_0 dd_X10_met_0a.2.1) rfl).to, ?_⟩
  refine List.forall_mem_cons.mpr ⟨(s_icmp_eq (am_dp pw_X10_met_0 dd_X10_met_0a.2.2.1) (by decide)).to, ?_⟩
  refine List.forall_mem_cons.mpr ⟨(s_aloadn (am_dp pw_X10_met_0 dd_X10_met_0a.2.2.2.1) rfl).to, ?_⟩
  refine List.forall_mem_cons.mpr ⟨(s_iloadn (am_dp pw_X10_met_0 dd_X10_met_0a.2.2.2.2.1) rfl).to, ?_⟩
  refine List.forall_mem_cons.mpr ⟨zw_cv150 (am_dp pw_X10_met_0 dd_X10_met_0a.2.2.2.2.2.1) wd921, ?_⟩
  refine List.forall_mem_cons.mpr ⟨(s_if_eq (am_dp pw_X10_met_0 dd_X10_met_0a.2.2.2.2.2.2.1) (by decide)).to, ?_⟩
  refine List.forall_mem_cons.mpr ⟨(s_aloadn (am_dp pw_X10_met_0 dd_X10_met_0a.2.2.2.2.2.2.2) rfl).to, ?_⟩
  refine List.forall_mem_cons.mpr ⟨(s_iloadn (am_dp pw_X10_met_0 dd_X10_met_0b.1) rfl).to, ?_⟩
  refine List.forall_mem_cons.mpr ⟨zw_cv150 (am_dp pw_X10_met_0 dd_X10_met_0b.2.1) wd921, ?_⟩
  refine List.forall_mem_cons.mpr ⟨(s_if_eq (am_dp pw_X10_met_0 dd_X10_met_0b.2.2.1) (by decide)).to, ?_⟩
  refine List.forall_mem_cons.mpr ⟨(s_iloadn (am_dp pw_X10_met_0 dd_X10_met_0b.2.2.2.1) rfl).to, ?_⟩
  refine List.forall_mem_cons.mpr ⟨(s_if_lt (am_dp pw_X10_met_0 dd_X10_met_0b.2.2.2.2.1) (by decide)).to, ?_⟩
  refine List.forall_mem_cons.mpr ⟨(s_iloadn (am_dp pw_X10_met_0 dd_X10_met_0b.2.2.2.2.2.1) rfl).to, ?_⟩
  refine List.forall_mem_cons.mpr ⟨(s_iconst (am_dp pw_X10_met_0 dd_X10_met_0b.2.2.2.2.2.2.1) (by decide)).to, ?_⟩
  refine List.forall_mem_cons.mpr ⟨(s_icmp_le (am_dp pw_X10_met_0 dd_X10_met_0b.2.2.2.2.2.2.2) (by decide)).to, ?_⟩
  refine List.forall_mem_cons.mpr ⟨(s_iconst (am_dp pw_X10_met_0 dd_X10_met_0c.1) (by decide)).to, ?_⟩
  refine List.forall_mem_cons.mpr ⟨s_iret (am_dp pw_X10_met_0 dd_X10_met_0c.2) rfl, ?_⟩
  refine List.forall_mem_cons.mpr ⟨(s_aloadn (am_dp pw_X10_met_32 dd_X10_met_32a.1) rfl).to, ?_⟩
  refine List.forall_mem_cons.mpr ⟨(s_iloadn (am_dp pw_X10_met_32 dd_X10_met_32a.2.1) rfl).to, ?_⟩
  refine List.forall_mem_cons.mpr ⟨zw_cv154 (am_dp pw_X10_met_32 dd_X10_met_32a.2.2.1) wd929, ?_⟩
  refine List.forall_mem_cons.mpr ⟨(s_astore (am_dp pw_X10_met_32 dd_X10_met_32a.2.2.2.1) (by decide)).to, ?_⟩
  refine List.forall_mem_cons.mpr ⟨(s_aloadn (am_dp pw_X10_met_32 dd_X10_met_32a.2.2.2.2.1) rfl).to, ?_⟩
  refine List.forall_mem_cons.mpr ⟨(s_iloadn (am_dp pw_X10_met_32 dd_X10_met_32a.2.2.2.2.2.1) rfl).to, ?_⟩
  refine List.forall_mem_cons.mpr ⟨zw_cv154 (am_dp pw_X10_met_32 dd_X10_met_32a.2.2.2.2.2.2.1) wd929, ?_⟩
  refine List.forall_mem_cons.mpr ⟨(s_astore (am_dp pw_X10_met_32 dd_X10_met_32a.2.2.2.2.2.2.2) (by decide)).to, ?_⟩
  refine List.forall_mem_cons.mpr ⟨(s_aload (am_dp pw_X10_met_32 dd_X10_met_32b.1)).to, ?_⟩
  refine List.forall_mem_cons.mpr ⟨(s_iconst (am_dp pw_X10_met_32 dd_X10_met_32b.2.1) (by decide)).to, ?_⟩
  refine List.forall_mem_cons.mpr ⟨zw_cv100 (am_dp pw_X10_met_32 dd_X10_met_32b.2.2.1) wd1181, ?_⟩
  refine List.forall_mem_cons.mpr ⟨(s_aload (am_dp pw_X10_met_32 dd_X10_met_32b.2.2.2.1)).to, ?_⟩
  refine List.forall_mem_cons.mpr ⟨(s_iconst (am_dp pw_X10_met_32 dd_X10_met_32b.2.2.2.2.1) (by decide)).to, ?_⟩
  refine List.forall_mem_cons.mpr ⟨zw_cv100 (am_dp pw_X10_met_32 dd_X10_met_32b.2.2.2.2.2.1) wd1181, ?_⟩
  refine List.forall_mem_cons.mpr ⟨(s_land (am_dp pw_X10_met_32 dd_X10_met_32b.2.2.2.2.2.2.1)).to, ?_⟩
  refine List.forall_mem_cons.mpr ⟨(s_lstore (am_dp pw_X10_met_32 dd_X10_met_32b.2.2.2.2.2.2.2) (by decide)).to, ?_⟩
  refine List.forall_mem_cons.mpr ⟨(s_iconst (am_dp pw_X10_met_32 dd_X10_met_32c.1) (by decide)).to, ?_⟩
  refine List.forall_mem_cons.mpr ⟨(s_istore (am_dp pw_X10_met_32 dd_X10_met_32c.2) (by decide)).to, ?_⟩
  refine List.forall_mem_cons.mpr ⟨(s_iconst (am_dp pw_X10_met_64 dd_X10_met_64a.1) (by decide)).to, ?_⟩
  refine List.forall_mem_cons.mpr ⟨(s_istore (am_dp pw_X10_met_64 dd_X10_met_64a.2.1) (by decide)).to, ?_⟩
  refine List.forall_mem_cons.mpr ⟨(s_iconst (am_dp pw_X10_met_64 dd_X10_met_64a.2.2.1) (by decide)).to, ?_⟩
  refine List.forall_mem_cons.mpr ⟨(s_istore (am_dp pw_X10_met_64 dd_X10_met_64a.2.2.2.1) (by decide)).to, ?_⟩
  refine List.forall_mem_cons.mpr ⟨(s_iconst (am_dp pw_X10_met_64 dd_X10_met_64a.2.2.2.2.1) (by decide)).to, ?_⟩
  refine List.forall_mem_cons.mpr ⟨(s_istore (am_dp pw_X10_met_64 dd_X10_met_64a.2.2.2.2.2.1) (by decide)).to, ?_⟩
  refine List.forall_mem_cons.mpr ⟨(s_iload (am_dp pw_X10_met_64 dd_X10_met_64a.2.2.2.2.2.2.1)).to, ?_⟩
  refine List.forall_mem_cons.mpr ⟨(s_bipush (am_dp pw_X10_met_64 dd_X10_met_64a.2.2.2.2.2.2.2) (by decide)).to, ?_⟩
  refine List.forall_mem_cons.mpr ⟨(s_icmp_ge (am_dp pw_X10_met_64 dd_X10_met_64b.1) (by decide)).to, ?_⟩
  refine List.forall_mem_cons.mpr ⟨(s_lload (am_dp pw_X10_met_64 dd_X10_met_64b.2.1)).to, ?_⟩
  refine List.forall_mem_cons.mpr ⟨(s_iload (am_dp pw_X10_met_64 dd_X10_met_64b.2.2.1)).to, ?_⟩
  refine List.forall_mem_cons.mpr ⟨(s_lushr (am_dp pw_X10_met_64 dd_X10_met_64b.2.2.2.1)).to, ?_⟩
  refine List.forall_mem_cons.mpr ⟨(s_lconst (am_dp pw_X10_met_64 dd_X10_met_64b.2.2.2.2.1) (by decide)).to, ?_⟩
  refine List.forall_mem_cons.mpr ⟨(s_land (am_dp pw_X10_met_64 dd_X10_met_64b.2.2.2.2.2.1)).to, ?_⟩
  refine List.forall_mem_cons.mpr ⟨(s_lconst (am_dp pw_X10_met_64 dd_X10_met_64b.2.2.2.2.2.2.1) (by decide)).to, ?_⟩
  refine List.forall_mem_cons.mpr ⟨(s_lcmp (am_dp pw_X10_met_64 dd_X10_met_64b.2.2.2.2.2.2.2)).to, ?_⟩
  refine List.forall_mem_cons.mpr ⟨(s_if_ne (am_dp pw_X10_met_64 dd_X10_met_64c.1) (by decide)).to, ?_⟩
  refine List.forall_mem_cons.mpr ⟨(s_iconst (am_dp pw_X10_met_64 dd_X10_met_64c.2.1) (by decide)).to, ?_⟩
  refine List.forall_mem_cons.mpr ⟨(s_goto (am_dp pw_X10_met_64 dd_X10_met_64c.2.2) (by decide)).to, ?_⟩
  refine List.forall_mem_cons.mpr ⟨(s_aload (am_dp pw_X10_met_96 dd_X10_met_96a.1)).to, ?_⟩
  refine List.forall_mem_cons.mpr ⟨(s_aload (am_dp pw_X10_met_96 dd_X10_met_96a.2.1)).to, ?_⟩
  refine List.forall_mem_cons.mpr ⟨(s_iload (am_dp pw_X10_met_96 dd_X10_met_96a.2.2.1)).to, ?_⟩
  refine List.forall_mem_cons.mpr ⟨zw_cv90 (am_dp pw_X10_met_96 dd_X10_met_96a.2.2.2.1) wd1185, ?_⟩
  refine List.forall_mem_cons.mpr ⟨(s_istore (am_dp pw_X10_met_96 dd_X10_met_96a.2.2.2.2.1) (by decide)).to, ?_⟩
  exact fun _ h => absurd h List.not_mem_nil
theorem sn_tX10_met_1 : ∀ q ∈ tX10_met_1, am_Snd am_P0 RX10 cX10_met 13 (Option.some FieldType.int) "met" q.1 q.2 := by
  unfold tX10_met_1
  refine List.forall_mem_cons.mpr ⟨(s_iload (am_dp pw_X10_met_96 dd_X10_met_96a.2.2.2.2.2.1)).to, ?_⟩
  refine List.forall_mem_cons.mpr ⟨(s_if_le (am_dp pw_X10_met_96 dd_X10_met_96a.2.2.2.2.2.2.1) (by decide)).to, ?_⟩
  refine List.forall_mem_cons.mpr ⟨(s_iinc (am_dp pw_X10_met_96 dd_X10_met_96a.2.2.2.2.2.2.2) (by decide) (by decide)).to, ?_⟩
  refine List.forall_mem_cons.mpr ⟨(s_iload (am_dp pw_X10_met_96 dd_X10_met_96b.1)).to, ?_⟩
  refine List.forall_mem_cons.mpr ⟨(s_iload (am_dp pw_X10_met_96 dd_X10_met_96b.2.1)).to, ?_⟩
  refine List.forall_mem_cons.mpr ⟨(s_iadd (am_dp pw_X10_met_96 dd_X10_met_96b.2.2.1)).to, ?_⟩
  refine List.forall_mem_cons.mpr ⟨(s_istore (am_dp pw_X10_met_96 dd_X10_met_96b.2.2.2.1) (by decide)).to, ?_⟩
  refine List.forall_mem_cons.mpr ⟨(s_iload (am_dp pw_X10_met_96 dd_X10_met_96b.2.2.2.2.1)).to, ?_⟩
  refine List.forall_mem_cons.mpr ⟨(s_iconst (am_dp pw_X10_met_96 dd_X10_met_96b.2.2.2.2.2.1) (by decide)).to, ?_⟩
  refine List.forall_mem_cons.mpr ⟨(s_icmp_ne (am_dp pw_X10_met_96 dd_X10_met_96b.2.2.2.2.2.2) (by decide)).to, ?_⟩
  refine List.forall_mem_cons.mpr ⟨(s_iload (am_dp pw_X10_met_128 dd_X10_met_128a.1)).to, ?_⟩
  refine List.forall_mem_cons.mpr ⟨(s_goto (am_dp pw_X10_met_128 dd_X10_met_128a.2.1) (by decide)).to, ?_⟩
  refine List.forall_mem_cons.mpr ⟨(s_iload (am_dp pw_X10_met_128 dd_X10_met_128a.2.2.1)).to, ?_⟩
  refine List.forall_mem_cons.mpr ⟨(s_istore (am_dp pw_X10_met_128 dd_X10_met_128a.2.2.2.1) (by decide)).to, ?_⟩
  refine List.forall_mem_cons.mpr ⟨(s_iinc (am_dp pw_X10_met_128 dd_X10_met_128a.2.2.2.2.1) (by decide) (by decide)).to, ?_⟩
  refine List.forall_mem_cons.mpr ⟨(s_goto (am_dp pw_X10_met_128 dd_X10_met_128a.2.2.2.2.2.1) (by decide)).to, ?_⟩
  refine List.forall_mem_cons.mpr ⟨(s_iloadn (am_dp pw_X10_met_128 dd_X10_met_128a.2.2.2.2.2.2.1) rfl).to, ?_⟩
  refine List.forall_mem_cons.mpr ⟨(s_if_ne (am_dp pw_X10_met_128 dd_X10_met_128a.2.2.2.2.2.2.2) (by decide)).to, ?_⟩
  refine List.forall_mem_cons.mpr ⟨(s_iload (am_dp pw_X10_met_128 dd_X10_met_128b.1)).to, ?_⟩
  refine List.forall_mem_cons.mpr ⟨(s_goto (am_dp pw_X10_met_128 dd_X10_met_128b.2.1) (by decide)).to, ?_⟩
  refine List.forall_mem_cons.mpr ⟨(s_iloadn (am_dp pw_X10_met_128 dd_X10_met_128b.2.2.1) rfl).to, ?_⟩
  refine List.forall_mem_cons.mpr ⟨(s_iconst (am_dp pw_X10_met_128 dd_X10_met_128b.2.2.2.1) (by decide)).to, ?_⟩
  refine List.forall_mem_cons.mpr ⟨(s_icmp_ne (am_dp pw_X10_met_128 dd_X10_met_128b.2.2.2.2.1) (by decide)).to, ?_⟩
  refine List.forall_mem_cons.mpr ⟨(s_iload (am_dp pw_X10_met_128 dd_X10_met_128b.2.2.2.2.2.1)).to, ?_⟩
  refine List.forall_mem_cons.mpr ⟨(s_goto (am_dp pw_X10_met_128 dd_X10_met_128b.2.2.2.2.2.2) (by decide)).to, ?_⟩
  refine List.forall_mem_cons.mpr ⟨(s_iload (am_dp pw_X10_met_160 dd_X10_met_160a.1)).to, ?_⟩
  refine List.forall_mem_cons.mpr ⟨s_iret (am_dp pw_X10_met_160 dd_X10_met_160a.2) rfl, ?_⟩
  exact fun _ h => absurd h List.not_mem_nil
theorem sn_tX10_met : ∀ q ∈ tX10_met, am_Snd am_P0 RX10 cX10_met 13 (Option.some FieldType.int) "met" q.1 q.2 := by
  unfold tX10_met
  exact List.forall_mem_append.mpr ⟨sn_tX10_met_0, sn_tX10_met_1⟩
theorem sn_tX10_sighting : ∀ q ∈ tX10_sighting, am_Snd am_P0 RX10 cX10_sighting 3 (Option.some FieldType.int) "sighting" q.1 q.2 := by
  unfold tX10_sighting
  refine List.forall_mem_cons.mpr ⟨(s_iloadn (am_dp pw_X10_sighting_0 dd_X10_sighting_0a.1) rfl).to, ?_⟩
  refine List.forall_mem_cons.mpr ⟨(s_if_lt (am_dp pw_X10_sighting_0 dd_X10_sighting_0a.2.1) (by decide)).to, ?_⟩
  refine List.forall_mem_cons.mpr ⟨(s_iloadn (am_dp pw_X10_sighting_0 dd_X10_sighting_0a.2.2.1) rfl).to, ?_⟩
  refine List.forall_mem_cons.mpr ⟨(s_aloadn (am_dp pw_X10_sighting_0 dd_X10_sighting_0a.2.2.2.1) rfl).to, ?_⟩
  refine List.forall_mem_cons.mpr ⟨(s_get (ci := 10) (k := 2) (am_dp pw_X10_sighting_0 dd_X10_sighting_0a.2.2.2.2.1) rfl (by decide) wd581 inX10 rfl).to, ?_⟩
  refine List.forall_mem_cons.mpr ⟨(s_get (ci := 5) (k := 5) (am_dp pw_X10_sighting_0 dd_X10_sighting_0a.2.2.2.2.2.1) rfl (by decide) wd321 inX5 rfl).to, ?_⟩
  refine List.forall_mem_cons.mpr ⟨(s_get (ci := 7) (k := 0) (am_dp pw_X10_sighting_0 dd_X10_sighting_0a.2.2.2.2.2.2.1) rfl (by decide) wd178 inX7 rfl).to, ?_⟩
  refine List.forall_mem_cons.mpr ⟨(s_icmp_lt (am_dp pw_X10_sighting_0 dd_X10_sighting_0a.2.2.2.2.2.2.2) (by decide)).to, ?_⟩
  refine List.forall_mem_cons.mpr ⟨(s_iconst (am_dp pw_X10_sighting_0 dd_X10_sighting_0b.1) (by decide)).to, ?_⟩
  refine List.forall_mem_cons.mpr ⟨s_iret (am_dp pw_X10_sighting_0 dd_X10_sighting_0b.2.1) rfl, ?_⟩
  refine List.forall_mem_cons.mpr ⟨(s_iloadn (am_dp pw_X10_sighting_0 dd_X10_sighting_0b.2.2) rfl).to, ?_⟩
  refine List.forall_mem_cons.mpr ⟨(s_table (by decide +kernel : decode cX10_sighting 21 = .ok (.tableswitch 83 0 3 #[31, 44, 64, 77], 31)) (by decide) (by decide) (by decide) (by decide)).to, ?_⟩
  refine List.forall_mem_cons.mpr ⟨(s_aloadn (am_dp pw_X10_sighting_32 dd_X10_sighting_32a.1) rfl).to, ?_⟩
  refine List.forall_mem_cons.mpr ⟨(s_get (ci := 10) (k := 2) (am_dp pw_X10_sighting_32 dd_X10_sighting_32a.2.1) rfl (by decide) wd581 inX10 rfl).to, ?_⟩
  refine List.forall_mem_cons.mpr ⟨(s_get (ci := 5) (k := 5) (am_dp pw_X10_sighting_32 dd_X10_sighting_32a.2.2.1) rfl (by decide) wd321 inX5 rfl).to, ?_⟩
  refine List.forall_mem_cons.mpr ⟨(s_get (ci := 7) (k := 1) (am_dp pw_X10_sighting_32 dd_X10_sighting_32a.2.2.2.1) rfl (by decide) wd181 inX7 rfl).to, ?_⟩
  refine List.forall_mem_cons.mpr ⟨(s_iloadn (am_dp pw_X10_sighting_32 dd_X10_sighting_32a.2.2.2.2.1) rfl).to, ?_⟩
  refine List.forall_mem_cons.mpr ⟨(s_iald (am_dp pw_X10_sighting_32 dd_X10_sighting_32a.2.2.2.2.2)).to, ?_⟩
  refine List.forall_mem_cons.mpr ⟨s_iret (am_dp pw_X10_sighting_64 dd_X10_sighting_64a.1) rfl, ?_⟩
  refine List.forall_mem_cons.mpr ⟨(s_aloadn (am_dp pw_X10_sighting_64 dd_X10_sighting_64a.2.1) rfl).to, ?_⟩
  refine List.forall_mem_cons.mpr ⟨(s_get (ci := 10) (k := 2) (am_dp pw_X10_sighting_64 dd_X10_sighting_64a.2.2.1) rfl (by decide) wd581 inX10 rfl).to, ?_⟩
  refine List.forall_mem_cons.mpr ⟨(s_aloadn (am_dp pw_X10_sighting_64 dd_X10_sighting_64a.2.2.2.1) rfl).to, ?_⟩
  refine List.forall_mem_cons.mpr ⟨(s_get (ci := 10) (k := 2) (am_dp pw_X10_sighting_64 dd_X10_sighting_64a.2.2.2.2.1) rfl (by decide) wd581 inX10 rfl).to, ?_⟩
  refine List.forall_mem_cons.mpr ⟨(s_get (ci := 5) (k := 5) (am_dp pw_X10_sighting_64 dd_X10_sighting_64a.2.2.2.2.2.1) rfl (by decide) wd321 inX5 rfl).to, ?_⟩
  refine List.forall_mem_cons.mpr ⟨(s_get (ci := 7) (k := 2) (am_dp pw_X10_sighting_64 dd_X10_sighting_64a.2.2.2.2.2.2.1) rfl (by decide) wd183 inX7 rfl).to, ?_⟩
  refine List.forall_mem_cons.mpr ⟨(s_iloadn (am_dp pw_X10_sighting_64 dd_X10_sighting_64a.2.2.2.2.2.2.2) rfl).to, ?_⟩
  refine List.forall_mem_cons.mpr ⟨(s_iald (am_dp pw_X10_sighting_64 dd_X10_sighting_64b.1)).to, ?_⟩
  refine List.forall_mem_cons.mpr ⟨zw_cv58 (am_dp pw_X10_sighting_64 dd_X10_sighting_64b.2.1) wd1015, ?_⟩
  refine List.forall_mem_cons.mpr ⟨s_iret (am_dp pw_X10_sighting_64 dd_X10_sighting_64b.2.2.1) rfl, ?_⟩
  refine List.forall_mem_cons.mpr ⟨(s_aloadn (am_dp pw_X10_sighting_64 dd_X10_sighting_64b.2.2.2.1) rfl).to, ?_⟩
  refine List.forall_mem_cons.mpr ⟨(s_get (ci := 10) (k := 2) (am_dp pw_X10_sighting_64 dd_X10_sighting_64b.2.2.2.2.1) rfl (by decide) wd581 inX10 rfl).to, ?_⟩
  refine List.forall_mem_cons.mpr ⟨(s_get (ci := 5) (k := 5) (am_dp pw_X10_sighting_64 dd_X10_sighting_64b.2.2.2.2.2.1) rfl (by decide) wd321 inX5 rfl).to, ?_⟩
  refine List.forall_mem_cons.mpr ⟨(s_get (ci := 7) (k := 3) (am_dp pw_X10_sighting_64 dd_X10_sighting_64b.2.2.2.2.2.2.1) rfl (by decide) wd185 inX7 rfl).to, ?_⟩
  refine List.forall_mem_cons.mpr ⟨(s_iloadn (am_dp pw_X10_sighting_64 dd_X10_sighting_64b.2.2.2.2.2.2.2) rfl).to, ?_⟩
  refine List.forall_mem_cons.mpr ⟨(s_iald (am_dp pw_X10_sighting_96 dd_X10_sighting_96a.1)).to, ?_⟩
  refine List.forall_mem_cons.mpr ⟨s_iret (am_dp pw_X10_sighting_96 dd_X10_sighting_96a.2.1) rfl, ?_⟩
  refine List.forall_mem_cons.mpr ⟨(s_aloadn (am_dp pw_X10_sighting_96 dd_X10_sighting_96a.2.2.1) rfl).to, ?_⟩
  refine List.forall_mem_cons.mpr ⟨(s_iloadn (am_dp pw_X10_sighting_96 dd_X10_sighting_96a.2.2.2.1) rfl).to, ?_⟩
  refine List.forall_mem_cons.mpr ⟨zw_cv158 (am_dp pw_X10_sighting_96 dd_X10_sighting_96a.2.2.2.2.1) wd1190, ?_⟩
  refine List.forall_mem_cons.mpr ⟨s_iret (am_dp pw_X10_sighting_96 dd_X10_sighting_96a.2.2.2.2.2.1) rfl, ?_⟩
  refine List.forall_mem_cons.mpr ⟨(s_iconst (am_dp pw_X10_sighting_96 dd_X10_sighting_96a.2.2.2.2.2.2.1) (by decide)).to, ?_⟩
  refine List.forall_mem_cons.mpr ⟨s_iret (am_dp pw_X10_sighting_96 dd_X10_sighting_96a.2.2.2.2.2.2.2) rfl, ?_⟩
  exact fun _ h => absurd h List.not_mem_nil
theorem sn_tX10_strange : ∀ q ∈ tX10_strange, am_Snd am_P0 RX10 cX10_strange 3 (Option.some FieldType.int) "strange" q.1 q.2 := by
  unfold tX10_strange
  refine List.forall_mem_cons.mpr ⟨(s_iconst (am_dp pw_X10_strange_0 dd_X10_strange_0a.1) (by decide)).to, ?_⟩
  refine List.forall_mem_cons.mpr ⟨(s_istoren (am_dp pw_X10_strange_0 dd_X10_strange_0a.2.1) rfl (by decide)).to, ?_⟩
  refine List.forall_mem_cons.mpr ⟨(s_iconst (am_dp pw_X10_strange_0 dd_X10_strange_0a.2.2.1) (by decide)).to, ?_⟩
  refine List.forall_mem_cons.mpr ⟨(s_istoren (am_dp pw_X10_strange_0 dd_X10_strange_0a.2.2.2.1) rfl (by decide)).to, ?_⟩
  refine List.forall_mem_cons.mpr ⟨(s_iloadn (am_dp pw_X10_strange_0 dd_X10_strange_0a.2.2.2.2.1) rfl).to, ?_⟩
  refine List.forall_mem_cons.mpr ⟨(s_aloadn (am_dp pw_X10_strange_0 dd_X10_strange_0a.2.2.2.2.2.1) rfl).to, ?_⟩
  refine List.forall_mem_cons.mpr ⟨(s_get (ci := 10) (k := 2) (am_dp pw_X10_strange_0 dd_X10_strange_0a.2.2.2.2.2.2.1) rfl (by decide) wd581 inX10 rfl).to, ?_⟩
  refine List.forall_mem_cons.mpr ⟨(s_get (ci := 5) (k := 5) (am_dp pw_X10_strange_0 dd_X10_strange_0a.2.2.2.2.2.2.2) rfl (by decide) wd321 inX5 rfl).to, ?_⟩
  refine List.forall_mem_cons.mpr ⟨(s_get (ci := 7) (k := 0) (am_dp pw_X10_strange_0 dd_X10_strange_0b.1) rfl (by decide) wd178 inX7 rfl).to, ?_⟩
  refine List.forall_mem_cons.mpr ⟨(s_icmp_ge (am_dp pw_X10_strange_0 dd_X10_strange_0b.2.1) (by decide)).to, ?_⟩
  refine List.forall_mem_cons.mpr ⟨(s_aloadn (am_dp pw_X10_strange_0 dd_X10_strange_0b.2.2.1) rfl).to, ?_⟩
  refine List.forall_mem_cons.mpr ⟨(s_iloadn (am_dp pw_X10_strange_0 dd_X10_strange_0b.2.2.2.1) rfl).to, ?_⟩
  refine List.forall_mem_cons.mpr ⟨zw_cv158 (am_dp pw_X10_strange_0 dd_X10_strange_0b.2.2.2.2.1) wd1190, ?_⟩
  refine List.forall_mem_cons.mpr ⟨(s_if_ne (am_dp pw_X10_strange_0 dd_X10_strange_0b.2.2.2.2.2.1) (by decide)).to, ?_⟩
  refine List.forall_mem_cons.mpr ⟨(s_iinc (am_dp pw_X10_strange_0 dd_X10_strange_0b.2.2.2.2.2.2.1) (by decide) (by decide)).to, ?_⟩
  refine List.forall_mem_cons.mpr ⟨(s_iinc (am_dp pw_X10_strange_0 dd_X10_strange_0b.2.2.2.2.2.2.2) (by decide) (by decide)).to, ?_⟩
  refine List.forall_mem_cons.mpr ⟨(s_goto (am_dp pw_X10_strange_32 dd_X10_strange_32a.1) (by decide)).to, ?_⟩
  refine List.forall_mem_cons.mpr ⟨(s_iloadn (am_dp pw_X10_strange_32 dd_X10_strange_32a.2.1) rfl).to, ?_⟩
  refine List.forall_mem_cons.mpr ⟨s_iret (am_dp pw_X10_strange_32 dd_X10_strange_32a.2.2) rfl, ?_⟩
  exact fun _ h => absurd h List.not_mem_nil
theorem sn_tX10_doubted_0 : ∀ q ∈ tX10_doubted_0, am_Snd am_P0 RX10 cX10_doubted 4 (Option.some FieldType.int) "doubted" q.1 q.2 := by
  unfold tX10_doubted_0
  refine List.forall_mem_cons.mpr ⟨(s_iconst (am_dp pw_X10_doubted_0 dd_X10_doubted_0a.1) (by decide)).to, ?_⟩
  refine List.forall_mem_cons.mpr ⟨(s_istoren (am_dp pw_X10_doubted_0 dd_X10_doubted_0a.2.1) rfl (by decide)).to, ?_⟩
  refine List.forall_mem_cons.mpr ⟨(s_iconst (am_dp pw_X10_doubted_0 dd_X10_doubted_0a.2.2.1) (by decide)).to, ?_⟩
  refine List.forall_mem_cons.mpr ⟨(s_istoren (am_dp pw_X10_doubted_0 dd_X10_doubted_0a.2.2.2.1) rfl (by decide)).to, ?_⟩
  refine List.forall_mem_cons.mpr ⟨(s_iloadn (am_dp pw_X10_doubted_0 dd_X10_doubted_0a.2.2.2.2.1) rfl).to, ?_⟩
  refine List.forall_mem_cons.mpr ⟨(s_aloadn (am_dp pw_X10_doubted_0 dd_X10_doubted_0a.2.2.2.2.2.1) rfl).to, ?_⟩
  refine List.forall_mem_cons.mpr ⟨(s_get (ci := 10) (k := 2) (am_dp pw_X10_doubted_0 dd_X10_doubted_0a.2.2.2.2.2.2.1) rfl (by decide) wd581 inX10 rfl).to, ?_⟩
  refine List.forall_mem_cons.mpr ⟨(s_get (ci := 5) (k := 5) (am_dp pw_X10_doubted_0 dd_X10_doubted_0a.2.2.2.2.2.2.2) rfl (by decide) wd321 inX5 rfl).to, ?_⟩
  refine List.forall_mem_cons.mpr ⟨(s_get (ci := 7) (k := 0) (am_dp pw_X10_doubted_0 dd_X10_doubted_0b.1) rfl (by decide) wd178 inX7 rfl).to, ?_⟩
  refine List.forall_mem_cons.mpr ⟨(s_icmp_ge (am_dp pw_X10_doubted_0 dd_X10_doubted_0b.2.1) (by decide)).to, ?_⟩
  refine List.forall_mem_cons.mpr ⟨(s_aloadn (am_dp pw_X10_doubted_0 dd_X10_doubted_0b.2.2.1) rfl).to, ?_⟩
  refine List.forall_mem_cons.mpr ⟨(s_iloadn (am_dp pw_X10_doubted_0 dd_X10_doubted_0b.2.2.2.1) rfl).to, ?_⟩
  refine List.forall_mem_cons.mpr ⟨zw_cv158 (am_dp pw_X10_doubted_0 dd_X10_doubted_0b.2.2.2.2.1) wd1190, ?_⟩
  refine List.forall_mem_cons.mpr ⟨(s_if_ne (am_dp pw_X10_doubted_0 dd_X10_doubted_0b.2.2.2.2.2.1) (by decide)).to, ?_⟩
  refine List.forall_mem_cons.mpr ⟨(s_iloadn (am_dp pw_X10_doubted_0 dd_X10_doubted_0b.2.2.2.2.2.2.1) rfl).to, ?_⟩
  refine List.forall_mem_cons.mpr ⟨(s_iconst (am_dp pw_X10_doubted_0 dd_X10_doubted_0b.2.2.2.2.2.2.2) (by decide)).to, ?_⟩
  refine List.forall_mem_cons.mpr ⟨(s_aloadn (am_dp pw_X10_doubted_0 dd_X10_doubted_0c.1) rfl).to, ?_⟩
  refine List.forall_mem_cons.mpr ⟨(s_get (ci := 10) (k := 2) (am_dp pw_X10_doubted_0 dd_X10_doubted_0c.2) rfl (by decide) wd581 inX10 rfl).to, ?_⟩
  refine List.forall_mem_cons.mpr ⟨(s_get (ci := 5) (k := 5) (am_dp pw_X10_doubted_32 dd_X10_doubted_32a.1) rfl (by decide) wd321 inX5 rfl).to, ?_⟩
  refine List.forall_mem_cons.mpr ⟨(s_get (ci := 7) (k := 1) (am_dp pw_X10_doubted_32 dd_X10_doubted_32a.2.1) rfl (by decide) wd181 inX7 rfl).to, ?_⟩
  refine List.forall_mem_cons.mpr ⟨(s_iloadn (am_dp pw_X10_doubted_32 dd_X10_doubted_32a.2.2.1) rfl).to, ?_⟩
  refine List.forall_mem_cons.mpr ⟨(s_iald (am_dp pw_X10_doubted_32 dd_X10_doubted_32a.2.2.2.1)).to, ?_⟩
  refine List.forall_mem_cons.mpr ⟨(s_ishl (am_dp pw_X10_doubted_32 dd_X10_doubted_32a.2.2.2.2.1)).to, ?_⟩
  refine List.forall_mem_cons.mpr ⟨(s_ior (am_dp pw_X10_doubted_32 dd_X10_doubted_32a.2.2.2.2.2.1)).to, ?_⟩
  refine List.forall_mem_cons.mpr ⟨(s_istoren (am_dp pw_X10_doubted_32 dd_X10_doubted_32a.2.2.2.2.2.2.1) rfl (by decide)).to, ?_⟩
  refine List.forall_mem_cons.mpr ⟨(s_iinc (am_dp pw_X10_doubted_32 dd_X10_doubted_32a.2.2.2.2.2.2.2) (by decide) (by decide)).to, ?_⟩
  refine List.forall_mem_cons.mpr ⟨(s_goto (am_dp pw_X10_doubted_32 dd_X10_doubted_32b.1) (by decide)).to, ?_⟩
  refine List.forall_mem_cons.mpr ⟨(s_iconst (am_dp pw_X10_doubted_32 dd_X10_doubted_32b.2.1) (by decide)).to, ?_⟩
  refine List.forall_mem_cons.mpr ⟨(s_istoren (am_dp pw_X10_doubted_32 dd_X10_doubted_32b.2.2.1) rfl (by decide)).to, ?_⟩
  refine List.forall_mem_cons.mpr ⟨(s_iconst (am_dp pw_X10_doubted_32 dd_X10_doubted_32b.2.2.2.1) (by decide)).to, ?_⟩
  refine List.forall_mem_cons.mpr ⟨(s_istoren (am_dp pw_X10_doubted_32 dd_X10_doubted_32b.2.2.2.2.1) rfl (by decide)).to, ?_⟩
  refine List.forall_mem_cons.mpr ⟨(s_iloadn (am_dp pw_X10_doubted_32 dd_X10_doubted_32b.2.2.2.2.2.1) rfl).to, ?_⟩
  refine List.forall_mem_cons.mpr ⟨(s_aloadn (am_dp pw_X10_doubted_32 dd_X10_doubted_32b.2.2.2.2.2.2.1) rfl).to, ?_⟩
  refine List.forall_mem_cons.mpr ⟨(s_get (ci := 10) (k := 2) (am_dp pw_X10_doubted_32 dd_X10_doubted_32b.2.2.2.2.2.2.2) rfl (by decide) wd581 inX10 rfl).to, ?_⟩
  refine List.forall_mem_cons.mpr ⟨(s_get (ci := 5) (k := 3) (am_dp pw_X10_doubted_32 dd_X10_doubted_32c.1) rfl (by decide) wd315 inX5 rfl).to, ?_⟩
  refine List.forall_mem_cons.mpr ⟨(s_icmp_ge (am_dp pw_X10_doubted_32 dd_X10_doubted_32c.2) (by decide)).to, ?_⟩
  refine List.forall_mem_cons.mpr ⟨(s_iloadn (am_dp pw_X10_doubted_64 dd_X10_doubted_64a.1) rfl).to, ?_⟩
  refine List.forall_mem_cons.mpr ⟨(s_aloadn (am_dp pw_X10_doubted_64 dd_X10_doubted_64a.2.1) rfl).to, ?_⟩
  refine List.forall_mem_cons.mpr ⟨(s_get (ci := 10) (k := 2) (am_dp pw_X10_doubted_64 dd_X10_doubted_64a.2.2.1) rfl (by decide) wd581 inX10 rfl).to, ?_⟩
  refine List.forall_mem_cons.mpr ⟨(s_get (ci := 5) (k := 4) (am_dp pw_X10_doubted_64 dd_X10_doubted_64a.2.2.2.1) rfl (by decide) wd318 inX5 rfl).to, ?_⟩
  refine List.forall_mem_cons.mpr ⟨(s_iloadn (am_dp pw_X10_doubted_64 dd_X10_doubted_64a.2.2.2.2.1) rfl).to, ?_⟩
  refine List.forall_mem_cons.mpr ⟨(s_aald (am_dp pw_X10_doubted_64 dd_X10_doubted_64a.2.2.2.2.2.1)).to, ?_⟩
  refine List.forall_mem_cons.mpr ⟨(s_get (ci := 6) (k := 1) (am_dp pw_X10_doubted_64 dd_X10_doubted_64a.2.2.2.2.2.2.1) rfl (by decide) wd241 inX6 rfl).to, ?_⟩
  refine List.forall_mem_cons.mpr ⟨(s_ishr (am_dp pw_X10_doubted_64 dd_X10_doubted_64a.2.2.2.2.2.2.2)).to, ?_⟩
  refine List.forall_mem_cons.mpr ⟨(s_iconst (am_dp pw_X10_doubted_64 dd_X10_doubted_64b.1) (by decide)).to, ?_⟩
  refine List.forall_mem_cons.mpr ⟨(s_iand (am_dp pw_X10_doubted_64 dd_X10_doubted_64b.2.1)).to, ?_⟩
  refine List.forall_mem_cons.mpr ⟨(s_if_eq (am_dp pw_X10_doubted_64 dd_X10_doubted_64b.2.2.1) (by decide)).to, ?_⟩
  refine List.forall_mem_cons.mpr ⟨(s_aloadn (am_dp pw_X10_doubted_64 dd_X10_doubted_64b.2.2.2.1) rfl).to, ?_⟩
  refine List.forall_mem_cons.mpr ⟨(s_iloadn (am_dp pw_X10_doubted_64 dd_X10_doubted_64b.2.2.2.2.1) rfl).to, ?_⟩
  refine List.forall_mem_cons.mpr ⟨zw_cv156 (am_dp pw_X10_doubted_64 dd_X10_doubted_64b.2.2.2.2.2.1) wd1090, ?_⟩
  refine List.forall_mem_cons.mpr ⟨(s_iconst (am_dp pw_X10_doubted_64 dd_X10_doubted_64b.2.2.2.2.2.2.1) (by decide)).to, ?_⟩
  refine List.forall_mem_cons.mpr ⟨(s_ishr (am_dp pw_X10_doubted_64 dd_X10_doubted_64b.2.2.2.2.2.2.2)).to, ?_⟩
  refine List.forall_mem_cons.mpr ⟨(s_iconst (am_dp pw_X10_doubted_64 dd_X10_doubted_64c.1) (by decide)).to, ?_⟩
  refine List.forall_mem_cons.mpr ⟨(s_iand (am_dp pw_X10_doubted_64 dd_X10_doubted_64c.2.1)).to, ?_⟩
  refine List.forall_mem_cons.mpr ⟨(s_if_eq (am_dp pw_X10_doubted_64 dd_X10_doubted_64c.2.2.1) (by decide)).to, ?_⟩
  refine List.forall_mem_cons.mpr ⟨(s_iloadn (am_dp pw_X10_doubted_64 dd_X10_doubted_64c.2.2.2) rfl).to, ?_⟩
  refine List.forall_mem_cons.mpr ⟨(s_iconst (am_dp pw_X10_doubted_96 dd_X10_doubted_96a.1) (by decide)).to, ?_⟩
  refine List.forall_mem_cons.mpr ⟨(s_iloadn (am_dp pw_X10_doubted_96 dd_X10_doubted_96a.2.1) rfl).to, ?_⟩
  refine List.forall_mem_cons.mpr ⟨(s_ishl (am_dp pw_X10_doubted_96 dd_X10_doubted_96a.2.2.1)).to, ?_⟩
  refine List.forall_mem_cons.mpr ⟨(s_ior (am_dp pw_X10_doubted_96 dd_X10_doubted_96a.2.2.2.1)).to, ?_⟩
  exact fun _ h => absurd h List.not_mem_nil
theorem sn_tX10_doubted_1 : ∀ q ∈ tX10_doubted_1, am_Snd am_P0 RX10 cX10_doubted 4 (Option.some FieldType.int) "doubted" q.1 q.2 := by
  unfold tX10_doubted_1
  refine List.forall_mem_cons.mpr ⟨(s_istoren (am_dp pw_X10_doubted_96 dd_X10_doubted_96a.2.2.2.2.1) rfl (by decide)).to, ?_⟩
  refine List.forall_mem_cons.mpr ⟨(s_iinc (am_dp pw_X10_doubted_96 dd_X10_doubted_96a.2.2.2.2.2.1) (by decide) (by decide)).to, ?_⟩
  refine List.forall_mem_cons.mpr ⟨(s_goto (am_dp pw_X10_doubted_96 dd_X10_doubted_96a.2.2.2.2.2.2.1) (by decide)).to, ?_⟩
  refine List.forall_mem_cons.mpr ⟨(s_iloadn (am_dp pw_X10_doubted_96 dd_X10_doubted_96a.2.2.2.2.2.2.2) rfl).to, ?_⟩
  refine List.forall_mem_cons.mpr ⟨s_iret (am_dp pw_X10_doubted_96 dd_X10_doubted_96b) rfl, ?_⟩
  exact fun _ h => absurd h List.not_mem_nil
theorem sn_tX10_doubted : ∀ q ∈ tX10_doubted, am_Snd am_P0 RX10 cX10_doubted 4 (Option.some FieldType.int) "doubted" q.1 q.2 := by
  unfold tX10_doubted
  exact List.forall_mem_append.mpr ⟨sn_tX10_doubted_0, sn_tX10_doubted_1⟩
theorem sn_tX10_gaps : ∀ q ∈ tX10_gaps, am_Snd am_P0 RX10 cX10_gaps 4 (Option.some FieldType.int) "gaps" q.1 q.2 := by
  unfold tX10_gaps
  refine List.forall_mem_cons.mpr ⟨(s_aloadn (am_dp pw_X10_gaps_0 dd_X10_gaps_0a.1) rfl).to, ?_⟩
  refine List.forall_mem_cons.mpr ⟨(s_iloadn (am_dp pw_X10_gaps_0 dd_X10_gaps_0a.2.1) rfl).to, ?_⟩
  refine List.forall_mem_cons.mpr ⟨zw_cv150 (am_dp pw_X10_gaps_0 dd_X10_gaps_0a.2.2.1) wd921, ?_⟩
  refine List.forall_mem_cons.mpr ⟨(s_if_eq (am_dp pw_X10_gaps_0 dd_X10_gaps_0a.2.2.2.1) (by decide)).to, ?_⟩
  refine List.forall_mem_cons.mpr ⟨(s_iloadn (am_dp pw_X10_gaps_0 dd_X10_gaps_0a.2.2.2.2.1) rfl).to, ?_⟩
  refine List.forall_mem_cons.mpr ⟨(s_if_lt (am_dp pw_X10_gaps_0 dd_X10_gaps_0a.2.2.2.2.2.1) (by decide)).to, ?_⟩
  refine List.forall_mem_cons.mpr ⟨(s_iloadn (am_dp pw_X10_gaps_0 dd_X10_gaps_0a.2.2.2.2.2.2.1) rfl).to, ?_⟩
  refine List.forall_mem_cons.mpr ⟨(s_iconst (am_dp pw_X10_gaps_0 dd_X10_gaps_0a.2.2.2.2.2.2.2) (by decide)).to, ?_⟩
  refine List.forall_mem_cons.mpr ⟨(s_icmp_le (am_dp pw_X10_gaps_0 dd_X10_gaps_0b.1) (by decide)).to, ?_⟩
  refine List.forall_mem_cons.mpr ⟨(s_iconst (am_dp pw_X10_gaps_0 dd_X10_gaps_0b.2.1) (by decide)).to, ?_⟩
  refine List.forall_mem_cons.mpr ⟨s_iret (am_dp pw_X10_gaps_0 dd_X10_gaps_0b.2.2.1) rfl, ?_⟩
  refine List.forall_mem_cons.mpr ⟨(s_aloadn (am_dp pw_X10_gaps_0 dd_X10_gaps_0b.2.2.2.1) rfl).to, ?_⟩
  refine List.forall_mem_cons.mpr ⟨(s_get (ci := 10) (k := 7) (am_dp pw_X10_gaps_0 dd_X10_gaps_0b.2.2.2.2.1) rfl (by decide) wd586 inX10 rfl).to, ?_⟩
  refine List.forall_mem_cons.mpr ⟨(s_iloadn (am_dp pw_X10_gaps_0 dd_X10_gaps_0b.2.2.2.2.2.1) rfl).to, ?_⟩
  refine List.forall_mem_cons.mpr ⟨(s_aald (am_dp pw_X10_gaps_0 dd_X10_gaps_0b.2.2.2.2.2.2.1)).to, ?_⟩
  refine List.forall_mem_cons.mpr ⟨(s_astoren (am_dp pw_X10_gaps_0 dd_X10_gaps_0b.2.2.2.2.2.2.2) rfl (by decide)).to, ?_⟩
  refine List.forall_mem_cons.mpr ⟨(s_aloadn (am_dp pw_X10_gaps_0 dd_X10_gaps_0c.1) rfl).to, ?_⟩
  refine List.forall_mem_cons.mpr ⟨zw_cv98 (am_dp pw_X10_gaps_0 dd_X10_gaps_0c.2.1) wd1094, ?_⟩
  refine List.forall_mem_cons.mpr ⟨(s_iloadn (am_dp pw_X10_gaps_0 dd_X10_gaps_0c.2.2.1) rfl).to, ?_⟩
  refine List.forall_mem_cons.mpr ⟨(s_if_ne (am_dp pw_X10_gaps_0 dd_X10_gaps_0c.2.2.2) (by decide)).to, ?_⟩
  refine List.forall_mem_cons.mpr ⟨(s_aloadn (am_dp pw_X10_gaps_32 dd_X10_gaps_32a.1) rfl).to, ?_⟩
  refine List.forall_mem_cons.mpr ⟨(s_get (ci := 8) (k := 13) (am_dp pw_X10_gaps_32 dd_X10_gaps_32a.2.1) rfl (by decide) wd539 inX8 rfl).to, ?_⟩
  refine List.forall_mem_cons.mpr ⟨(s_goto (am_dp pw_X10_gaps_32 dd_X10_gaps_32a.2.2.1) (by decide)).to, ?_⟩
  refine List.forall_mem_cons.mpr ⟨(s_aloadn (am_dp pw_X10_gaps_32 dd_X10_gaps_32a.2.2.2.1) rfl).to, ?_⟩
  refine List.forall_mem_cons.mpr ⟨(s_get (ci := 8) (k := 14) (am_dp pw_X10_gaps_32 dd_X10_gaps_32a.2.2.2.2.1) rfl (by decide) wd541 inX8 rfl).to, ?_⟩
  refine List.forall_mem_cons.mpr ⟨s_iret (am_dp pw_X10_gaps_32 dd_X10_gaps_32a.2.2.2.2.2) rfl, ?_⟩
  exact fun _ h => absurd h List.not_mem_nil
theorem sn_tX10_chance : ∀ q ∈ tX10_chance, am_Snd am_P0 RX10 cX10_chance 2 (Option.some FieldType.long) "chance" q.1 q.2 := by
  unfold tX10_chance
  refine List.forall_mem_cons.mpr ⟨(s_aloadn (am_dp pw_X10_chance_0 dd_X10_chance_0a.1) rfl).to, ?_⟩
  refine List.forall_mem_cons.mpr ⟨(s_iloadn (am_dp pw_X10_chance_0 dd_X10_chance_0a.2.1) rfl).to, ?_⟩
  refine List.forall_mem_cons.mpr ⟨zw_cv150 (am_dp pw_X10_chance_0 dd_X10_chance_0a.2.2.1) wd921, ?_⟩
  refine List.forall_mem_cons.mpr ⟨(s_if_eq (am_dp pw_X10_chance_0 dd_X10_chance_0a.2.2.2.1) (by decide)).to, ?_⟩
  refine List.forall_mem_cons.mpr ⟨(s_aloadn (am_dp pw_X10_chance_0 dd_X10_chance_0a.2.2.2.2.1) rfl).to, ?_⟩
  refine List.forall_mem_cons.mpr ⟨(s_iloadn (am_dp pw_X10_chance_0 dd_X10_chance_0a.2.2.2.2.2.1) rfl).to, ?_⟩
  refine List.forall_mem_cons.mpr ⟨zw_cv159 (am_dp pw_X10_chance_0 dd_X10_chance_0a.2.2.2.2.2.2.1) wd1210, ?_⟩
  refine List.forall_mem_cons.mpr ⟨(s_goto (am_dp pw_X10_chance_0 dd_X10_chance_0a.2.2.2.2.2.2.2) (by decide)).to, ?_⟩
  refine List.forall_mem_cons.mpr ⟨(s_ldc2 (am_dp pw_X10_chance_0 dd_X10_chance_0b.1) wd1222).to, ?_⟩
  refine List.forall_mem_cons.mpr ⟨s_lret (am_dp pw_X10_chance_0 dd_X10_chance_0b.2) rfl, ?_⟩
  exact fun _ h => absurd h List.not_mem_nil
theorem sn_tX10_beyond : ∀ q ∈ tX10_beyond, am_Snd am_P0 RX10 cX10_beyond 5 (Option.some FieldType.int) "beyond" q.1 q.2 := by
  unfold tX10_beyond
  refine List.forall_mem_cons.mpr ⟨(s_iconst (am_dp pw_X10_beyond_0 dd_X10_beyond_0a.1) (by decide)).to, ?_⟩
  refine List.forall_mem_cons.mpr ⟨(s_istoren (am_dp pw_X10_beyond_0 dd_X10_beyond_0a.2.1) rfl (by decide)).to, ?_⟩
  refine List.forall_mem_cons.mpr ⟨(s_iconst (am_dp pw_X10_beyond_0 dd_X10_beyond_0a.2.2.1) (by decide)).to, ?_⟩
  refine List.forall_mem_cons.mpr ⟨(s_istoren (am_dp pw_X10_beyond_0 dd_X10_beyond_0a.2.2.2.1) rfl (by decide)).to, ?_⟩
  refine List.forall_mem_cons.mpr ⟨(s_iloadn (am_dp pw_X10_beyond_0 dd_X10_beyond_0a.2.2.2.2.1) rfl).to, ?_⟩
  refine List.forall_mem_cons.mpr ⟨(s_aloadn (am_dp pw_X10_beyond_0 dd_X10_beyond_0a.2.2.2.2.2.1) rfl).to, ?_⟩
  refine List.forall_mem_cons.mpr ⟨(s_get (ci := 10) (k := 2) (am_dp pw_X10_beyond_0 dd_X10_beyond_0a.2.2.2.2.2.2.1) rfl (by decide) wd581 inX10 rfl).to, ?_⟩
  refine List.forall_mem_cons.mpr ⟨(s_get (ci := 5) (k := 3) (am_dp pw_X10_beyond_0 dd_X10_beyond_0a.2.2.2.2.2.2.2) rfl (by decide) wd315 inX5 rfl).to, ?_⟩
  refine List.forall_mem_cons.mpr ⟨(s_icmp_ge (am_dp pw_X10_beyond_0 dd_X10_beyond_0b.1) (by decide)).to, ?_⟩
  refine List.forall_mem_cons.mpr ⟨(s_aloadn (am_dp pw_X10_beyond_0 dd_X10_beyond_0b.2.1) rfl).to, ?_⟩
  refine List.forall_mem_cons.mpr ⟨(s_iloadn (am_dp pw_X10_beyond_0 dd_X10_beyond_0b.2.2.1) rfl).to, ?_⟩
  refine List.forall_mem_cons.mpr ⟨zw_cv159 (am_dp pw_X10_beyond_0 dd_X10_beyond_0b.2.2.2.1) wd1210, ?_⟩
  refine List.forall_mem_cons.mpr ⟨(s_lstoren (am_dp pw_X10_beyond_0 dd_X10_beyond_0b.2.2.2.2.1) rfl (by decide)).to, ?_⟩
  refine List.forall_mem_cons.mpr ⟨(s_aloadn (am_dp pw_X10_beyond_0 dd_X10_beyond_0b.2.2.2.2.2.1) rfl).to, ?_⟩
  refine List.forall_mem_cons.mpr ⟨(s_get (ci := 10) (k := 7) (am_dp pw_X10_beyond_0 dd_X10_beyond_0b.2.2.2.2.2.2.1) rfl (by decide) wd586 inX10 rfl).to, ?_⟩
  refine List.forall_mem_cons.mpr ⟨(s_iloadn (am_dp pw_X10_beyond_0 dd_X10_beyond_0b.2.2.2.2.2.2.2) rfl).to, ?_⟩
  refine List.forall_mem_cons.mpr ⟨(s_aald (am_dp pw_X10_beyond_0 dd_X10_beyond_0c.1)).to, ?_⟩
  refine List.forall_mem_cons.mpr ⟨(s_get (ci := 8) (k := 14) (am_dp pw_X10_beyond_0 dd_X10_beyond_0c.2.1) rfl (by decide) wd541 inX8 rfl).to, ?_⟩
  refine List.forall_mem_cons.mpr ⟨(s_if_le (am_dp pw_X10_beyond_0 dd_X10_beyond_0c.2.2) (by decide)).to, ?_⟩
  refine List.forall_mem_cons.mpr ⟨(s_lloadn (am_dp pw_X10_beyond_32 dd_X10_beyond_32a.1) rfl).to, ?_⟩
  refine List.forall_mem_cons.mpr ⟨(s_aloadn (am_dp pw_X10_beyond_32 dd_X10_beyond_32a.2.1) rfl).to, ?_⟩
  refine List.forall_mem_cons.mpr ⟨(s_get (ci := 10) (k := 2) (am_dp pw_X10_beyond_32 dd_X10_beyond_32a.2.2.1) rfl (by decide) wd581 inX10 rfl).to, ?_⟩
  refine List.forall_mem_cons.mpr ⟨(s_get (ci := 5) (k := 3) (am_dp pw_X10_beyond_32 dd_X10_beyond_32a.2.2.2.1) rfl (by decide) wd315 inX5 rfl).to, ?_⟩
  refine List.forall_mem_cons.mpr ⟨(s_i2l (am_dp pw_X10_beyond_32 dd_X10_beyond_32a.2.2.2.2.1)).to, ?_⟩
  refine List.forall_mem_cons.mpr ⟨(s_lmul (am_dp pw_X10_beyond_32 dd_X10_beyond_32a.2.2.2.2.2.1)).to, ?_⟩
  refine List.forall_mem_cons.mpr ⟨(s_ldc2 (am_dp pw_X10_beyond_32 dd_X10_beyond_32a.2.2.2.2.2.2.1) wd1227).to, ?_⟩
  refine List.forall_mem_cons.mpr ⟨(s_lcmp (am_dp pw_X10_beyond_32 dd_X10_beyond_32a.2.2.2.2.2.2.2)).to, ?_⟩
  refine List.forall_mem_cons.mpr ⟨(s_if_ge (am_dp pw_X10_beyond_32 dd_X10_beyond_32b.1) (by decide)).to, ?_⟩
  refine List.forall_mem_cons.mpr ⟨(s_iloadn (am_dp pw_X10_beyond_32 dd_X10_beyond_32b.2.1) rfl).to, ?_⟩
  refine List.forall_mem_cons.mpr ⟨(s_iconst (am_dp pw_X10_beyond_32 dd_X10_beyond_32b.2.2.1) (by decide)).to, ?_⟩
  refine List.forall_mem_cons.mpr ⟨(s_iloadn (am_dp pw_X10_beyond_32 dd_X10_beyond_32b.2.2.2.1) rfl).to, ?_⟩
  refine List.forall_mem_cons.mpr ⟨(s_ishl (am_dp pw_X10_beyond_32 dd_X10_beyond_32b.2.2.2.2.1)).to, ?_⟩
  refine List.forall_mem_cons.mpr ⟨(s_ior (am_dp pw_X10_beyond_32 dd_X10_beyond_32b.2.2.2.2.2.1)).to, ?_⟩
  refine List.forall_mem_cons.mpr ⟨(s_istoren (am_dp pw_X10_beyond_32 dd_X10_beyond_32b.2.2.2.2.2.2.1) rfl (by decide)).to, ?_⟩
  refine List.forall_mem_cons.mpr ⟨(s_iinc (am_dp pw_X10_beyond_32 dd_X10_beyond_32b.2.2.2.2.2.2.2) (by decide) (by decide)).to, ?_⟩
  refine List.forall_mem_cons.mpr ⟨(s_goto (am_dp pw_X10_beyond_32 dd_X10_beyond_32c.1) (by decide)).to, ?_⟩
  refine List.forall_mem_cons.mpr ⟨(s_iloadn (am_dp pw_X10_beyond_32 dd_X10_beyond_32c.2.1) rfl).to, ?_⟩
  refine List.forall_mem_cons.mpr ⟨s_iret (am_dp pw_X10_beyond_32 dd_X10_beyond_32c.2.2) rfl, ?_⟩
  exact fun _ h => absurd h List.not_mem_nil
theorem sn_tX10_settles : ∀ q ∈ tX10_settles, am_Snd am_P0 RX10 cX10_settles 8 (Option.some FieldType.int) "settles" q.1 q.2 := by
  unfold tX10_settles
  refine List.forall_mem_cons.mpr ⟨(s_aloadn (am_dp pw_X10_settles_0 dd_X10_settles_0a.1) rfl).to, ?_⟩
  refine List.forall_mem_cons.mpr ⟨(s_get (ci := 10) (k := 2) (am_dp pw_X10_settles_0 dd_X10_settles_0a.2.1) rfl (by decide) wd581 inX10 rfl).to, ?_⟩
  refine List.forall_mem_cons.mpr ⟨(s_iloadn (am_dp pw_X10_settles_0 dd_X10_settles_0a.2.2.1) rfl).to, ?_⟩
  refine List.forall_mem_cons.mpr ⟨(s_iloadn (am_dp pw_X10_settles_0 dd_X10_settles_0a.2.2.2.1) rfl).to, ?_⟩
  refine List.forall_mem_cons.mpr ⟨zw_cv56 (am_dp pw_X10_settles_0 dd_X10_settles_0a.2.2.2.2.1) wd1024, ?_⟩
  refine List.forall_mem_cons.mpr ⟨(s_istore (am_dp pw_X10_settles_0 dd_X10_settles_0a.2.2.2.2.2.1) (by decide)).to, ?_⟩
  refine List.forall_mem_cons.mpr ⟨(s_iload (am_dp pw_X10_settles_0 dd_X10_settles_0a.2.2.2.2.2.2.1)).to, ?_⟩
  refine List.forall_mem_cons.mpr ⟨(s_iconst (am_dp pw_X10_settles_0 dd_X10_settles_0a.2.2.2.2.2.2.2) (by decide)).to, ?_⟩
  refine List.forall_mem_cons.mpr ⟨(s_icmp_eq (am_dp pw_X10_settles_0 dd_X10_settles_0b.1) (by decide)).to, ?_⟩
  refine List.forall_mem_cons.mpr ⟨(s_iloadn (am_dp pw_X10_settles_0 dd_X10_settles_0b.2.1) rfl).to, ?_⟩
  refine List.forall_mem_cons.mpr ⟨zw_cs149 (am_dp pw_X10_settles_0 dd_X10_settles_0b.2.2.1) wd1028, ?_⟩
  refine List.forall_mem_cons.mpr ⟨(s_if_ne (am_dp pw_X10_settles_0 dd_X10_settles_0b.2.2.2.1) (by decide)).to, ?_⟩
  refine List.forall_mem_cons.mpr ⟨(s_iconst (am_dp pw_X10_settles_0 dd_X10_settles_0b.2.2.2.2.1) (by decide)).to, ?_⟩
  refine List.forall_mem_cons.mpr ⟨s_iret (am_dp pw_X10_settles_0 dd_X10_settles_0b.2.2.2.2.2.1) rfl, ?_⟩
  refine List.forall_mem_cons.mpr ⟨(s_iconst (am_dp pw_X10_settles_0 dd_X10_settles_0b.2.2.2.2.2.2.1) (by decide)).to, ?_⟩
  refine List.forall_mem_cons.mpr ⟨(s_istore (am_dp pw_X10_settles_0 dd_X10_settles_0b.2.2.2.2.2.2.2) (by decide)).to, ?_⟩
  refine List.forall_mem_cons.mpr ⟨(s_iconst (am_dp pw_X10_settles_0 dd_X10_settles_0c.1) (by decide)).to, ?_⟩
  refine List.forall_mem_cons.mpr ⟨(s_istore (am_dp pw_X10_settles_0 dd_X10_settles_0c.2) (by decide)).to, ?_⟩
  refine List.forall_mem_cons.mpr ⟨(s_iload (am_dp pw_X10_settles_32 dd_X10_settles_32a.1)).to, ?_⟩
  refine List.forall_mem_cons.mpr ⟨(s_aloadn (am_dp pw_X10_settles_32 dd_X10_settles_32a.2.1) rfl).to, ?_⟩
  refine List.forall_mem_cons.mpr ⟨(s_get (ci := 10) (k := 2) (am_dp pw_X10_settles_32 dd_X10_settles_32a.2.2.1) rfl (by decide) wd581 inX10 rfl).to, ?_⟩
  refine List.forall_mem_cons.mpr ⟨(s_get (ci := 5) (k := 3) (am_dp pw_X10_settles_32 dd_X10_settles_32a.2.2.2.1) rfl (by decide) wd315 inX5 rfl).to, ?_⟩
  refine List.forall_mem_cons.mpr ⟨(s_icmp_ge (am_dp pw_X10_settles_32 dd_X10_settles_32a.2.2.2.2.1) (by decide)).to, ?_⟩
  refine List.forall_mem_cons.mpr ⟨(s_aloadn (am_dp pw_X10_settles_32 dd_X10_settles_32a.2.2.2.2.2.1) rfl).to, ?_⟩
  refine List.forall_mem_cons.mpr ⟨(s_iload (am_dp pw_X10_settles_32 dd_X10_settles_32a.2.2.2.2.2.2.1)).to, ?_⟩
  refine List.forall_mem_cons.mpr ⟨zw_cv154 (am_dp pw_X10_settles_32 dd_X10_settles_32a.2.2.2.2.2.2.2) wd929, ?_⟩
  refine List.forall_mem_cons.mpr ⟨(s_astore (am_dp pw_X10_settles_32 dd_X10_settles_32b.1) (by decide)).to, ?_⟩
  refine List.forall_mem_cons.mpr ⟨(s_aloadn (am_dp pw_X10_settles_32 dd_X10_settles_32b.2.1) rfl).to, ?_⟩
  refine List.forall_mem_cons.mpr ⟨(s_get (ci := 10) (k := 2) (am_dp pw_X10_settles_32 dd_X10_settles_32b.2.2.1) rfl (by decide) wd581 inX10 rfl).to, ?_⟩
  refine List.forall_mem_cons.mpr ⟨(s_get (ci := 5) (k := 4) (am_dp pw_X10_settles_32 dd_X10_settles_32b.2.2.2.1) rfl (by decide) wd318 inX5 rfl).to, ?_⟩
  refine List.forall_mem_cons.mpr ⟨(s_iload (am_dp pw_X10_settles_32 dd_X10_settles_32b.2.2.2.2.1)).to, ?_⟩
  refine List.forall_mem_cons.mpr ⟨(s_aald (am_dp pw_X10_settles_32 dd_X10_settles_32b.2.2.2.2.2.1)).to, ?_⟩
  refine List.forall_mem_cons.mpr ⟨(s_get (ci := 6) (k := 5) (am_dp pw_X10_settles_32 dd_X10_settles_32b.2.2.2.2.2.2) rfl (by decide) wd255 inX6 rfl).to, ?_⟩
  refine List.forall_mem_cons.mpr ⟨(s_if_le (am_dp pw_X10_settles_64 dd_X10_settles_64a.1) (by decide)).to, ?_⟩
  refine List.forall_mem_cons.mpr ⟨(s_aload (am_dp pw_X10_settles_64 dd_X10_settles_64a.2.1)).to, ?_⟩
  refine List.forall_mem_cons.mpr ⟨(s_iloadn (am_dp pw_X10_settles_64 dd_X10_settles_64a.2.2.1) rfl).to, ?_⟩
  refine List.forall_mem_cons.mpr ⟨(s_iload (am_dp pw_X10_settles_64 dd_X10_settles_64a.2.2.2.1)).to, ?_⟩
  refine List.forall_mem_cons.mpr ⟨zw_cv88 (am_dp pw_X10_settles_64 dd_X10_settles_64a.2.2.2.2.1) wd1078, ?_⟩
  refine List.forall_mem_cons.mpr ⟨(s_if_eq (am_dp pw_X10_settles_64 dd_X10_settles_64a.2.2.2.2.2.1) (by decide)).to, ?_⟩
  refine List.forall_mem_cons.mpr ⟨(s_aload (am_dp pw_X10_settles_64 dd_X10_settles_64a.2.2.2.2.2.2.1)).to, ?_⟩
  refine List.forall_mem_cons.mpr ⟨(s_iloadn (am_dp pw_X10_settles_64 dd_X10_settles_64a.2.2.2.2.2.2.2) rfl).to, ?_⟩
  refine List.forall_mem_cons.mpr ⟨zw_cv89 (am_dp pw_X10_settles_64 dd_X10_settles_64b.1) wd1064, ?_⟩
  refine List.forall_mem_cons.mpr ⟨(s_iconst (am_dp pw_X10_settles_64 dd_X10_settles_64b.2.1) (by decide)).to, ?_⟩
  refine List.forall_mem_cons.mpr ⟨(s_icmp_le (am_dp pw_X10_settles_64 dd_X10_settles_64b.2.2.1) (by decide)).to, ?_⟩
  refine List.forall_mem_cons.mpr ⟨(s_iinc (am_dp pw_X10_settles_64 dd_X10_settles_64b.2.2.2.1) (by decide) (by decide)).to, ?_⟩
  refine List.forall_mem_cons.mpr ⟨(s_iinc (am_dp pw_X10_settles_64 dd_X10_settles_64b.2.2.2.2.1) (by decide) (by decide)).to, ?_⟩
  refine List.forall_mem_cons.mpr ⟨(s_goto (am_dp pw_X10_settles_64 dd_X10_settles_64b.2.2.2.2.2) (by decide)).to, ?_⟩
  refine List.forall_mem_cons.mpr ⟨(s_iload (am_dp pw_X10_settles_96 dd_X10_settles_96a.1)).to, ?_⟩
  refine List.forall_mem_cons.mpr ⟨s_iret (am_dp pw_X10_settles_96 dd_X10_settles_96a.2) rfl, ?_⟩
  exact fun _ h => absurd h List.not_mem_nil
theorem sn_tX10_next : ∀ q ∈ tX10_next, am_Snd am_P0 RX10 cX10_next 2 (Option.some FieldType.int) "next" q.1 q.2 := by
  unfold tX10_next
  refine List.forall_mem_cons.mpr ⟨(s_iloadn (am_dp pw_X10_next_0 dd_X10_next_0a.1) rfl).to, ?_⟩
  refine List.forall_mem_cons.mpr ⟨(s_if_lt (am_dp pw_X10_next_0 dd_X10_next_0a.2.1) (by decide)).to, ?_⟩
  refine List.forall_mem_cons.mpr ⟨(s_iloadn (am_dp pw_X10_next_0 dd_X10_next_0a.2.2.1) rfl).to, ?_⟩
  refine List.forall_mem_cons.mpr ⟨(s_iconst (am_dp pw_X10_next_0 dd_X10_next_0a.2.2.2.1) (by decide)).to, ?_⟩
  refine List.forall_mem_cons.mpr ⟨(s_icmp_le (am_dp pw_X10_next_0 dd_X10_next_0a.2.2.2.2.1) (by decide)).to, ?_⟩
  refine List.forall_mem_cons.mpr ⟨(s_iconst (am_dp pw_X10_next_0 dd_X10_next_0a.2.2.2.2.2.1) (by decide)).to, ?_⟩
  refine List.forall_mem_cons.mpr ⟨s_iret (am_dp pw_X10_next_0 dd_X10_next_0a.2.2.2.2.2.2.1) rfl, ?_⟩
  refine List.forall_mem_cons.mpr ⟨(s_aloadn (am_dp pw_X10_next_0 dd_X10_next_0a.2.2.2.2.2.2.2) rfl).to, ?_⟩
  refine List.forall_mem_cons.mpr ⟨(s_get (ci := 10) (k := 13) (am_dp pw_X10_next_0 dd_X10_next_0b.1) rfl (by decide) wd592 inX10 rfl).to, ?_⟩
  refine List.forall_mem_cons.mpr ⟨(s_if_ne (am_dp pw_X10_next_0 dd_X10_next_0b.2.1) (by decide)).to, ?_⟩
  refine List.forall_mem_cons.mpr ⟨(s_aloadn (am_dp pw_X10_next_0 dd_X10_next_0b.2.2.1) rfl).to, ?_⟩
  refine List.forall_mem_cons.mpr ⟨zw_cv160 (am_dp pw_X10_next_0 dd_X10_next_0b.2.2.2.1) wd1236, ?_⟩
  refine List.forall_mem_cons.mpr ⟨(s_aloadn (am_dp pw_X10_next_0 dd_X10_next_0b.2.2.2.2.1) rfl).to, ?_⟩
  refine List.forall_mem_cons.mpr ⟨(s_iconst (am_dp pw_X10_next_0 dd_X10_next_0b.2.2.2.2.2.1) (by decide)).to, ?_⟩
  refine List.forall_mem_cons.mpr ⟨(s_put (ci := 10) (k := 13) (am_dp pw_X10_next_0 dd_X10_next_0b.2.2.2.2.2.2.1) rfl (by decide) wd592 inX10 tyX10_ok nmX10 rfl rfl).to, ?_⟩
  refine List.forall_mem_cons.mpr ⟨(s_aloadn (am_dp pw_X10_next_0 dd_X10_next_0b.2.2.2.2.2.2.2) rfl).to, ?_⟩
  refine List.forall_mem_cons.mpr ⟨(s_get (ci := 10) (k := 16) (am_dp pw_X10_next_0 dd_X10_next_0c.1) rfl (by decide) wd595 inX10 rfl).to, ?_⟩
  refine List.forall_mem_cons.mpr ⟨(s_if_ne (am_dp pw_X10_next_0 dd_X10_next_0c.2) (by decide)).to, ?_⟩
  refine List.forall_mem_cons.mpr ⟨(s_iconst (am_dp pw_X10_next_32 dd_X10_next_32a.1) (by decide)).to, ?_⟩
  refine List.forall_mem_cons.mpr ⟨s_iret (am_dp pw_X10_next_32 dd_X10_next_32a.2.1) rfl, ?_⟩
  refine List.forall_mem_cons.mpr ⟨(s_iloadn (am_dp pw_X10_next_32 dd_X10_next_32a.2.2.1) rfl).to, ?_⟩
  refine List.forall_mem_cons.mpr ⟨(s_if_ne (am_dp pw_X10_next_32 dd_X10_next_32a.2.2.2.1) (by decide)).to, ?_⟩
  refine List.forall_mem_cons.mpr ⟨(s_aloadn (am_dp pw_X10_next_32 dd_X10_next_32a.2.2.2.2.1) rfl).to, ?_⟩
  refine List.forall_mem_cons.mpr ⟨(s_get (ci := 10) (k := 14) (am_dp pw_X10_next_32 dd_X10_next_32a.2.2.2.2.2.1) rfl (by decide) wd593 inX10 rfl).to, ?_⟩
  refine List.forall_mem_cons.mpr ⟨(s_goto (am_dp pw_X10_next_32 dd_X10_next_32a.2.2.2.2.2.2.1) (by decide)).to, ?_⟩
  refine List.forall_mem_cons.mpr ⟨(s_iloadn (am_dp pw_X10_next_32 dd_X10_next_32a.2.2.2.2.2.2.2) rfl).to, ?_⟩
  refine List.forall_mem_cons.mpr ⟨(s_iconst (am_dp pw_X10_next_32 dd_X10_next_32b.1) (by decide)).to, ?_⟩
  refine List.forall_mem_cons.mpr ⟨(s_icmp_ne (am_dp pw_X10_next_32 dd_X10_next_32b.2.1) (by decide)).to, ?_⟩
  refine List.forall_mem_cons.mpr ⟨(s_aloadn (am_dp pw_X10_next_32 dd_X10_next_32b.2.2.1) rfl).to, ?_⟩
  refine List.forall_mem_cons.mpr ⟨(s_get (ci := 10) (k := 2) (am_dp pw_X10_next_32 dd_X10_next_32b.2.2.2.1) rfl (by decide) wd581 inX10 rfl).to, ?_⟩
  refine List.forall_mem_cons.mpr ⟨(s_aloadn (am_dp pw_X10_next_32 dd_X10_next_32b.2.2.2.2.1) rfl).to, ?_⟩
  refine List.forall_mem_cons.mpr ⟨(s_get (ci := 10) (k := 15) (am_dp pw_X10_next_32 dd_X10_next_32b.2.2.2.2.2.1) rfl (by decide) wd594 inX10 rfl).to, ?_⟩
  refine List.forall_mem_cons.mpr ⟨zw_cv58 (am_dp pw_X10_next_32 dd_X10_next_32b.2.2.2.2.2.2.1) wd1015, ?_⟩
  refine List.forall_mem_cons.mpr ⟨(s_goto (am_dp pw_X10_next_32 dd_X10_next_32b.2.2.2.2.2.2.2) (by decide)).to, ?_⟩
  refine List.forall_mem_cons.mpr ⟨(s_aloadn (am_dp pw_X10_next_64 dd_X10_next_64a.1) rfl).to, ?_⟩
  refine List.forall_mem_cons.mpr ⟨(s_get (ci := 10) (k := 16) (am_dp pw_X10_next_64 dd_X10_next_64a.2.1) rfl (by decide) wd595 inX10 rfl).to, ?_⟩
  refine List.forall_mem_cons.mpr ⟨s_iret (am_dp pw_X10_next_64 dd_X10_next_64a.2.2) rfl, ?_⟩
  exact fun _ h => absurd h List.not_mem_nil
theorem sn_tX10_off : ∀ q ∈ tX10_off, am_Snd am_P0 RX10 cX10_off 2 (Option.some FieldType.int) "off" q.1 q.2 := by
  unfold tX10_off
  refine List.forall_mem_cons.mpr ⟨(s_aloadn (am_dp pw_X10_off_0 dd_X10_off_0a.1) rfl).to, ?_⟩
  refine List.forall_mem_cons.mpr ⟨(s_iloadn (am_dp pw_X10_off_0 dd_X10_off_0a.2.1) rfl).to, ?_⟩
  refine List.forall_mem_cons.mpr ⟨zw_cv150 (am_dp pw_X10_off_0 dd_X10_off_0a.2.2.1) wd921, ?_⟩
  refine List.forall_mem_cons.mpr ⟨(s_if_eq (am_dp pw_X10_off_0 dd_X10_off_0a.2.2.2.1) (by decide)).to, ?_⟩
  refine List.forall_mem_cons.mpr ⟨(s_aloadn (am_dp pw_X10_off_0 dd_X10_off_0a.2.2.2.2.1) rfl).to, ?_⟩
  refine List.forall_mem_cons.mpr ⟨(s_get (ci := 10) (k := 7) (am_dp pw_X10_off_0 dd_X10_off_0a.2.2.2.2.2.1) rfl (by decide) wd586 inX10 rfl).to, ?_⟩
  refine List.forall_mem_cons.mpr ⟨(s_iloadn (am_dp pw_X10_off_0 dd_X10_off_0a.2.2.2.2.2.2.1) rfl).to, ?_⟩
  refine List.forall_mem_cons.mpr ⟨(s_aald (am_dp pw_X10_off_0 dd_X10_off_0a.2.2.2.2.2.2.2)).to, ?_⟩
  refine List.forall_mem_cons.mpr ⟨zw_cv81 (am_dp pw_X10_off_0 dd_X10_off_0b.1) wd1255, ?_⟩
  refine List.forall_mem_cons.mpr ⟨(s_goto (am_dp pw_X10_off_0 dd_X10_off_0b.2.1) (by decide)).to, ?_⟩
  refine List.forall_mem_cons.mpr ⟨(s_bipush (am_dp pw_X10_off_0 dd_X10_off_0b.2.2.1) (by decide)).to, ?_⟩
  refine List.forall_mem_cons.mpr ⟨s_iret (am_dp pw_X10_off_0 dd_X10_off_0b.2.2.2) rfl, ?_⟩
  exact fun _ h => absurd h List.not_mem_nil
theorem sn_tX10_whose : ∀ q ∈ tX10_whose, am_Snd am_P0 RX10 cX10_whose 4 (Option.some FieldType.int) "whose" q.1 q.2 := by
  unfold tX10_whose
  refine List.forall_mem_cons.mpr ⟨(s_iconst (am_dp pw_X10_whose_0 dd_X10_whose_0a.1) (by decide)).to, ?_⟩
  refine List.forall_mem_cons.mpr ⟨(s_istoren (am_dp pw_X10_whose_0 dd_X10_whose_0a.2.1) rfl (by decide)).to, ?_⟩
  refine List.forall_mem_cons.mpr ⟨(s_iconst (am_dp pw_X10_whose_0 dd_X10_whose_0a.2.2.1) (by decide)).to, ?_⟩
  refine List.forall_mem_cons.mpr ⟨(s_istoren (am_dp pw_X10_whose_0 dd_X10_whose_0a.2.2.2.1) rfl (by decide)).to, ?_⟩
  refine List.forall_mem_cons.mpr ⟨(s_iloadn (am_dp pw_X10_whose_0 dd_X10_whose_0a.2.2.2.2.1) rfl).to, ?_⟩
  refine List.forall_mem_cons.mpr ⟨(s_aloadn (am_dp pw_X10_whose_0 dd_X10_whose_0a.2.2.2.2.2.1) rfl).to, ?_⟩
  refine List.forall_mem_cons.mpr ⟨(s_get (ci := 10) (k := 2) (am_dp pw_X10_whose_0 dd_X10_whose_0a.2.2.2.2.2.2.1) rfl (by decide) wd581 inX10 rfl).to, ?_⟩
  refine List.forall_mem_cons.mpr ⟨(s_get (ci := 5) (k := 3) (am_dp pw_X10_whose_0 dd_X10_whose_0a.2.2.2.2.2.2.2) rfl (by decide) wd315 inX5 rfl).to, ?_⟩
  refine List.forall_mem_cons.mpr ⟨(s_icmp_ge (am_dp pw_X10_whose_0 dd_X10_whose_0b.1) (by decide)).to, ?_⟩
  refine List.forall_mem_cons.mpr ⟨(s_aloadn (am_dp pw_X10_whose_0 dd_X10_whose_0b.2.1) rfl).to, ?_⟩
  refine List.forall_mem_cons.mpr ⟨(s_iloadn (am_dp pw_X10_whose_0 dd_X10_whose_0b.2.2.1) rfl).to, ?_⟩
  refine List.forall_mem_cons.mpr ⟨zw_cv154 (am_dp pw_X10_whose_0 dd_X10_whose_0b.2.2.2.1) wd929, ?_⟩
  refine List.forall_mem_cons.mpr ⟨(s_get (ci := 8) (k := 11) (am_dp pw_X10_whose_0 dd_X10_whose_0b.2.2.2.2.1) rfl (by decide) wd534 inX8 rfl).to, ?_⟩
  refine List.forall_mem_cons.mpr ⟨(s_aloadn (am_dp pw_X10_whose_0 dd_X10_whose_0b.2.2.2.2.2.1) rfl).to, ?_⟩
  refine List.forall_mem_cons.mpr ⟨(s_get (ci := 10) (k := 2) (am_dp pw_X10_whose_0 dd_X10_whose_0b.2.2.2.2.2.2.1) rfl (by decide) wd581 inX10 rfl).to, ?_⟩
  refine List.forall_mem_cons.mpr ⟨(s_get (ci := 5) (k := 4) (am_dp pw_X10_whose_0 dd_X10_whose_0b.2.2.2.2.2.2.2) rfl (by decide) wd318 inX5 rfl).to, ?_⟩
  refine List.forall_mem_cons.mpr ⟨(s_iloadn (am_dp pw_X10_whose_0 dd_X10_whose_0c.1) rfl).to, ?_⟩
  refine List.forall_mem_cons.mpr ⟨(s_aald (am_dp pw_X10_whose_0 dd_X10_whose_0c.2)).to, ?_⟩
  refine List.forall_mem_cons.mpr ⟨(s_get (ci := 6) (k := 5) (am_dp pw_X10_whose_32 dd_X10_whose_32a.1) rfl (by decide) wd255 inX6 rfl).to, ?_⟩
  refine List.forall_mem_cons.mpr ⟨(s_icmp_ge (am_dp pw_X10_whose_32 dd_X10_whose_32a.2.1) (by decide)).to, ?_⟩
  refine List.forall_mem_cons.mpr ⟨(s_aloadn (am_dp pw_X10_whose_32 dd_X10_whose_32a.2.2.1) rfl).to, ?_⟩
  refine List.forall_mem_cons.mpr ⟨(s_get (ci := 10) (k := 7) (am_dp pw_X10_whose_32 dd_X10_whose_32a.2.2.2.1) rfl (by decide) wd586 inX10 rfl).to, ?_⟩
  refine List.forall_mem_cons.mpr ⟨(s_iloadn (am_dp pw_X10_whose_32 dd_X10_whose_32a.2.2.2.2.1) rfl).to, ?_⟩
  refine List.forall_mem_cons.mpr ⟨(s_aald (am_dp pw_X10_whose_32 dd_X10_whose_32a.2.2.2.2.2.1)).to, ?_⟩
  refine List.forall_mem_cons.mpr ⟨zw_cv81 (am_dp pw_X10_whose_32 dd_X10_whose_32a.2.2.2.2.2.2.1) wd1255, ?_⟩
  refine List.forall_mem_cons.mpr ⟨(s_istoren (am_dp pw_X10_whose_32 dd_X10_whose_32a.2.2.2.2.2.2.2) rfl (by decide)).to, ?_⟩
  refine List.forall_mem_cons.mpr ⟨(s_iloadn (am_dp pw_X10_whose_32 dd_X10_whose_32b.1) rfl).to, ?_⟩
  refine List.forall_mem_cons.mpr ⟨(s_bipush (am_dp pw_X10_whose_32 dd_X10_whose_32b.2.1) (by decide)).to, ?_⟩
  refine List.forall_mem_cons.mpr ⟨(s_icmp_eq (am_dp pw_X10_whose_32 dd_X10_whose_32b.2.2.1) (by decide)).to, ?_⟩
  refine List.forall_mem_cons.mpr ⟨(s_iloadn (am_dp pw_X10_whose_32 dd_X10_whose_32b.2.2.2.1) rfl).to, ?_⟩
  refine List.forall_mem_cons.mpr ⟨(s_if_eq (am_dp pw_X10_whose_32 dd_X10_whose_32b.2.2.2.2.1) (by decide)).to, ?_⟩
  refine List.forall_mem_cons.mpr ⟨(s_iloadn (am_dp pw_X10_whose_32 dd_X10_whose_32b.2.2.2.2.2.1) rfl).to, ?_⟩
  refine List.forall_mem_cons.mpr ⟨(s_iconst (am_dp pw_X10_whose_32 dd_X10_whose_32b.2.2.2.2.2.2.1) (by decide)).to, ?_⟩
  refine List.forall_mem_cons.mpr ⟨(s_iloadn (am_dp pw_X10_whose_32 dd_X10_whose_32b.2.2.2.2.2.2.2) rfl).to, ?_⟩
  refine List.forall_mem_cons.mpr ⟨(s_ishl (am_dp pw_X10_whose_32 dd_X10_whose_32c.1)).to, ?_⟩
  refine List.forall_mem_cons.mpr ⟨(s_ior (am_dp pw_X10_whose_32 dd_X10_whose_32c.2.1)).to, ?_⟩
  refine List.forall_mem_cons.mpr ⟨(s_istoren (am_dp pw_X10_whose_32 dd_X10_whose_32c.2.2) rfl (by decide)).to, ?_⟩
  refine List.forall_mem_cons.mpr ⟨(s_iinc (am_dp pw_X10_whose_64 dd_X10_whose_64a.1) (by decide) (by decide)).to, ?_⟩
  refine List.forall_mem_cons.mpr ⟨(s_goto (am_dp pw_X10_whose_64 dd_X10_whose_64a.2.1) (by decide)).to, ?_⟩
  refine List.forall_mem_cons.mpr ⟨(s_iloadn (am_dp pw_X10_whose_64 dd_X10_whose_64a.2.2.1) rfl).to, ?_⟩
  refine List.forall_mem_cons.mpr ⟨s_iret (am_dp pw_X10_whose_64 dd_X10_whose_64a.2.2.2) rfl, ?_⟩
  exact fun _ h => absurd h List.not_mem_nil
theorem sn_tX10_add : ∀ q ∈ tX10_add, am_Snd am_P0 RX10 cX10_add 8 (Option.some FieldType.int) "add" q.1 q.2 := by
  unfold tX10_add
  refine List.forall_mem_cons.mpr ⟨(s_aloadn (am_dp pw_X10_add_0 dd_X10_add_0a.1) rfl).to, ?_⟩
  refine List.forall_mem_cons.mpr ⟨(s_get (ci := 10) (k := 2) (am_dp pw_X10_add_0 dd_X10_add_0a.2.1) rfl (by decide) wd581 inX10 rfl).to, ?_⟩
  refine List.forall_mem_cons.mpr ⟨(s_iloadn (am_dp pw_X10_add_0 dd_X10_add_0a.2.2.1) rfl).to, ?_⟩
  refine List.forall_mem_cons.mpr ⟨(s_iload (am_dp pw_X10_add_0 dd_X10_add_0a.2.2.2.1)).to, ?_⟩
  refine List.forall_mem_cons.mpr ⟨zw_cv56 (am_dp pw_X10_add_0 dd_X10_add_0a.2.2.2.2.1) wd1024, ?_⟩
  refine List.forall_mem_cons.mpr ⟨(s_istore (am_dp pw_X10_add_0 dd_X10_add_0a.2.2.2.2.2.1) (by decide)).to, ?_⟩
  refine List.forall_mem_cons.mpr ⟨(s_aloadn (am_dp pw_X10_add_0 dd_X10_add_0a.2.2.2.2.2.2.1) rfl).to, ?_⟩
  refine List.forall_mem_cons.mpr ⟨(s_iloadn (am_dp pw_X10_add_0 dd_X10_add_0a.2.2.2.2.2.2.2) rfl).to, ?_⟩
  refine List.forall_mem_cons.mpr ⟨zw_cv150 (am_dp pw_X10_add_0 dd_X10_add_0b.1) wd921, ?_⟩
  refine List.forall_mem_cons.mpr ⟨(s_if_eq (am_dp pw_X10_add_0 dd_X10_add_0b.2.1) (by decide)).to, ?_⟩
  refine List.forall_mem_cons.mpr ⟨(s_iloadn (am_dp pw_X10_add_0 dd_X10_add_0b.2.2.1) rfl).to, ?_⟩
  refine List.forall_mem_cons.mpr ⟨zw_cs149 (am_dp pw_X10_add_0 dd_X10_add_0b.2.2.2.1) wd1028, ?_⟩
  refine List.forall_mem_cons.mpr ⟨(s_if_eq (am_dp pw_X10_add_0 dd_X10_add_0b.2.2.2.2.1) (by decide)).to, ?_⟩
  refine List.forall_mem_cons.mpr ⟨(s_iload (am_dp pw_X10_add_0 dd_X10_add_0b.2.2.2.2.2.1)).to, ?_⟩
  refine List.forall_mem_cons.mpr ⟨(s_iconst (am_dp pw_X10_add_0 dd_X10_add_0b.2.2.2.2.2.2.1) (by decide)).to, ?_⟩
  refine List.forall_mem_cons.mpr ⟨(s_icmp_eq (am_dp pw_X10_add_0 dd_X10_add_0b.2.2.2.2.2.2.2) (by decide)).to, ?_⟩
  refine List.forall_mem_cons.mpr ⟨(s_aloadn (am_dp pw_X10_add_32 dd_X10_add_32a.1) rfl).to, ?_⟩
  refine List.forall_mem_cons.mpr ⟨(s_get (ci := 10) (k := 2) (am_dp pw_X10_add_32 dd_X10_add_32a.2.1) rfl (by decide) wd581 inX10 rfl).to, ?_⟩
  refine List.forall_mem_cons.mpr ⟨(s_get (ci := 5) (k := 4) (am_dp pw_X10_add_32 dd_X10_add_32a.2.2.1) rfl (by decide) wd318 inX5 rfl).to, ?_⟩
  refine List.forall_mem_cons.mpr ⟨(s_iloadn (am_dp pw_X10_add_32 dd_X10_add_32a.2.2.2.1) rfl).to, ?_⟩
  refine List.forall_mem_cons.mpr ⟨(s_aald (am_dp pw_X10_add_32 dd_X10_add_32a.2.2.2.2.1)).to, ?_⟩
  refine List.forall_mem_cons.mpr ⟨(s_iloadn (am_dp pw_X10_add_32 dd_X10_add_32a.2.2.2.2.2.1) rfl).to, ?_⟩
  refine List.forall_mem_cons.mpr ⟨zw_cv65 (am_dp pw_X10_add_32 dd_X10_add_32a.2.2.2.2.2.2.1) wd1272, ?_⟩
  refine List.forall_mem_cons.mpr ⟨(s_if_ne (am_dp pw_X10_add_32 dd_X10_add_32a.2.2.2.2.2.2.2) (by decide)).to, ?_⟩
  refine List.forall_mem_cons.mpr ⟨(s_aloadn (am_dp pw_X10_add_32 dd_X10_add_32b.1) rfl).to, ?_⟩
  refine List.forall_mem_cons.mpr ⟨(s_get (ci := 10) (k := 2) (am_dp pw_X10_add_32 dd_X10_add_32b.2.1) rfl (by decide) wd581 inX10 rfl).to, ?_⟩
  refine List.forall_mem_cons.mpr ⟨zw_cv59 (am_dp pw_X10_add_32 dd_X10_add_32b.2.2.1) wd911, ?_⟩
  refine List.forall_mem_cons.mpr ⟨(s_bipush (am_dp pw_X10_add_32 dd_X10_add_32b.2.2.2.1) (by decide)).to, ?_⟩
  refine List.forall_mem_cons.mpr ⟨(s_icmp_lt (am_dp pw_X10_add_32 dd_X10_add_32b.2.2.2.2.1) (by decide)).to, ?_⟩
  refine List.forall_mem_cons.mpr ⟨(s_aloadn (am_dp pw_X10_add_32 dd_X10_add_32b.2.2.2.2.2.1) rfl).to, ?_⟩
  refine List.forall_mem_cons.mpr ⟨(s_get (ci := 10) (k := 8) (am_dp pw_X10_add_32 dd_X10_add_32b.2.2.2.2.2.2) rfl (by decide) wd587 inX10 rfl).to, ?_⟩
  refine List.forall_mem_cons.mpr ⟨(s_iconst (am_dp pw_X10_add_64 dd_X10_add_64a.1) (by decide)).to, ?_⟩
  refine List.forall_mem_cons.mpr ⟨(s_dup2 (am_dp pw_X10_add_64 dd_X10_add_64a.2.1)).to, ?_⟩
  refine List.forall_mem_cons.mpr ⟨(s_iald (am_dp pw_X10_add_64 dd_X10_add_64a.2.2.1)).to, ?_⟩
  refine List.forall_mem_cons.mpr ⟨(s_iconst (am_dp pw_X10_add_64 dd_X10_add_64a.2.2.2.1) (by decide)).to, ?_⟩
  refine List.forall_mem_cons.mpr ⟨(s_iadd (am_dp pw_X10_add_64 dd_X10_add_64a.2.2.2.2.1)).to, ?_⟩
  refine List.forall_mem_cons.mpr ⟨(s_iast (am_dp pw_X10_add_64 dd_X10_add_64a.2.2.2.2.2.1)).to, ?_⟩
  refine List.forall_mem_cons.mpr ⟨(s_iconst (am_dp pw_X10_add_64 dd_X10_add_64a.2.2.2.2.2.2.1) (by decide)).to, ?_⟩
  refine List.forall_mem_cons.mpr ⟨s_iret (am_dp pw_X10_add_64 dd_X10_add_64a.2.2.2.2.2.2.2) rfl, ?_⟩
  refine List.forall_mem_cons.mpr ⟨(s_aloadn (am_dp pw_X10_add_64 dd_X10_add_64b.1) rfl).to, ?_⟩
  refine List.forall_mem_cons.mpr ⟨(s_get (ci := 10) (k := 2) (am_dp pw_X10_add_64 dd_X10_add_64b.2.1) rfl (by decide) wd581 inX10 rfl).to, ?_⟩
  refine List.forall_mem_cons.mpr ⟨(s_get (ci := 5) (k := 4) (am_dp pw_X10_add_64 dd_X10_add_64b.2.2.1) rfl (by decide) wd318 inX5 rfl).to, ?_⟩
  refine List.forall_mem_cons.mpr ⟨(s_iloadn (am_dp pw_X10_add_64 dd_X10_add_64b.2.2.2.1) rfl).to, ?_⟩
  refine List.forall_mem_cons.mpr ⟨(s_aald (am_dp pw_X10_add_64 dd_X10_add_64b.2.2.2.2.1)).to, ?_⟩
  refine List.forall_mem_cons.mpr ⟨(s_iloadn (am_dp pw_X10_add_64 dd_X10_add_64b.2.2.2.2.2.1) rfl).to, ?_⟩
  refine List.forall_mem_cons.mpr ⟨(s_iload (am_dp pw_X10_add_64 dd_X10_add_64b.2.2.2.2.2.2.1)).to, ?_⟩
  refine List.forall_mem_cons.mpr ⟨(s_iload (am_dp pw_X10_add_64 dd_X10_add_64b.2.2.2.2.2.2.2)).to, ?_⟩
  refine List.forall_mem_cons.mpr ⟨zw_cv66 (am_dp pw_X10_add_64 dd_X10_add_64c.1) wd1273, ?_⟩
  refine List.forall_mem_cons.mpr ⟨(s_istore (am_dp pw_X10_add_64 dd_X10_add_64c.2.1) (by decide)).to, ?_⟩
  refine List.forall_mem_cons.mpr ⟨(s_aloadn (am_dp pw_X10_add_64 dd_X10_add_64c.2.2.1) rfl).to, ?_⟩
  refine List.forall_mem_cons.mpr ⟨(s_iloadn (am_dp pw_X10_add_64 dd_X10_add_64c.2.2.2.1) rfl).to, ?_⟩
  refine List.forall_mem_cons.mpr ⟨zw_cv153 (am_dp pw_X10_add_64 dd_X10_add_64c.2.2.2.2) wd1274, ?_⟩
  refine List.forall_mem_cons.mpr ⟨(s_iload (am_dp pw_X10_add_96 dd_X10_add_96a.1)).to, ?_⟩
  refine List.forall_mem_cons.mpr ⟨s_iret (am_dp pw_X10_add_96 dd_X10_add_96a.2) rfl, ?_⟩
  exact fun _ h => absurd h List.not_mem_nil
theorem sn_tX10_drop : ∀ q ∈ tX10_drop, am_Snd am_P0 RX10 cX10_drop 3 (Option.some FieldType.int) "drop" q.1 q.2 := by
  unfold tX10_drop
  refine List.forall_mem_cons.mpr ⟨(s_aloadn (am_dp pw_X10_drop_0 dd_X10_drop_0a.1) rfl).to, ?_⟩
  refine List.forall_mem_cons.mpr ⟨(s_iloadn (am_dp pw_X10_drop_0 dd_X10_drop_0a.2.1) rfl).to, ?_⟩
  refine List.forall_mem_cons.mpr ⟨(s_iloadn (am_dp pw_X10_drop_0 dd_X10_drop_0a.2.2.1) rfl).to, ?_⟩
  refine List.forall_mem_cons.mpr ⟨zw_cv151 (am_dp pw_X10_drop_0 dd_X10_drop_0a.2.2.2.1) wd1011, ?_⟩
  refine List.forall_mem_cons.mpr ⟨(s_if_ne (am_dp pw_X10_drop_0 dd_X10_drop_0a.2.2.2.2.1) (by decide)).to, ?_⟩
  refine List.forall_mem_cons.mpr ⟨(s_aloadn (am_dp pw_X10_drop_0 dd_X10_drop_0a.2.2.2.2.2.1) rfl).to, ?_⟩
  refine List.forall_mem_cons.mpr ⟨(s_get (ci := 10) (k := 8) (am_dp pw_X10_drop_0 dd_X10_drop_0a.2.2.2.2.2.2.1) rfl (by decide) wd587 inX10 rfl).to, ?_⟩
  refine List.forall_mem_cons.mpr ⟨(s_iconst (am_dp pw_X10_drop_0 dd_X10_drop_0a.2.2.2.2.2.2.2) (by decide)).to, ?_⟩
  refine List.forall_mem_cons.mpr ⟨(s_dup2 (am_dp pw_X10_drop_0 dd_X10_drop_0b.1)).to, ?_⟩
  refine List.forall_mem_cons.mpr ⟨(s_iald (am_dp pw_X10_drop_0 dd_X10_drop_0b.2.1)).to, ?_⟩
  refine List.forall_mem_cons.mpr ⟨(s_iconst (am_dp pw_X10_drop_0 dd_X10_drop_0b.2.2.1) (by decide)).to, ?_⟩
  refine List.forall_mem_cons.mpr ⟨(s_iadd (am_dp pw_X10_drop_0 dd_X10_drop_0b.2.2.2.1)).to, ?_⟩
  refine List.forall_mem_cons.mpr ⟨(s_iast (am_dp pw_X10_drop_0 dd_X10_drop_0b.2.2.2.2.1)).to, ?_⟩
  refine List.forall_mem_cons.mpr ⟨(s_iconst (am_dp pw_X10_drop_0 dd_X10_drop_0b.2.2.2.2.2.1) (by decide)).to, ?_⟩
  refine List.forall_mem_cons.mpr ⟨s_iret (am_dp pw_X10_drop_0 dd_X10_drop_0b.2.2.2.2.2.2.1) rfl, ?_⟩
  refine List.forall_mem_cons.mpr ⟨(s_aloadn (am_dp pw_X10_drop_0 dd_X10_drop_0b.2.2.2.2.2.2.2) rfl).to, ?_⟩
  refine List.forall_mem_cons.mpr ⟨(s_get (ci := 10) (k := 2) (am_dp pw_X10_drop_0 dd_X10_drop_0c.1) rfl (by decide) wd581 inX10 rfl).to, ?_⟩
  refine List.forall_mem_cons.mpr ⟨(s_get (ci := 5) (k := 4) (am_dp pw_X10_drop_0 dd_X10_drop_0c.2.1) rfl (by decide) wd318 inX5 rfl).to, ?_⟩
  refine List.forall_mem_cons.mpr ⟨(s_iloadn (am_dp pw_X10_drop_0 dd_X10_drop_0c.2.2.1) rfl).to, ?_⟩
  refine List.forall_mem_cons.mpr ⟨(s_aald (am_dp pw_X10_drop_0 dd_X10_drop_0c.2.2.2.1)).to, ?_⟩
  refine List.forall_mem_cons.mpr ⟨(s_iloadn (am_dp pw_X10_drop_0 dd_X10_drop_0c.2.2.2.2.1) rfl).to, ?_⟩
  refine List.forall_mem_cons.mpr ⟨zw_cv67 (am_dp pw_X10_drop_0 dd_X10_drop_0c.2.2.2.2.2) wd1283, ?_⟩
  refine List.forall_mem_cons.mpr ⟨(s_aloadn (am_dp pw_X10_drop_32 dd_X10_drop_32a.1) rfl).to, ?_⟩
  refine List.forall_mem_cons.mpr ⟨(s_iloadn (am_dp pw_X10_drop_32 dd_X10_drop_32a.2.1) rfl).to, ?_⟩
  refine List.forall_mem_cons.mpr ⟨zw_cv153 (am_dp pw_X10_drop_32 dd_X10_drop_32a.2.2.1) wd1274, ?_⟩
  refine List.forall_mem_cons.mpr ⟨(s_aloadn (am_dp pw_X10_drop_32 dd_X10_drop_32a.2.2.2.1) rfl).to, ?_⟩
  refine List.forall_mem_cons.mpr ⟨(s_get (ci := 10) (k := 2) (am_dp pw_X10_drop_32 dd_X10_drop_32a.2.2.2.2.1) rfl (by decide) wd581 inX10 rfl).to, ?_⟩
  refine List.forall_mem_cons.mpr ⟨(s_get (ci := 5) (k := 4) (am_dp pw_X10_drop_32 dd_X10_drop_32a.2.2.2.2.2.1) rfl (by decide) wd318 inX5 rfl).to, ?_⟩
  refine List.forall_mem_cons.mpr ⟨(s_iloadn (am_dp pw_X10_drop_32 dd_X10_drop_32a.2.2.2.2.2.2.1) rfl).to, ?_⟩
  refine List.forall_mem_cons.mpr ⟨(s_aald (am_dp pw_X10_drop_32 dd_X10_drop_32a.2.2.2.2.2.2.2)).to, ?_⟩
  refine List.forall_mem_cons.mpr ⟨(s_get (ci := 6) (k := 5) (am_dp pw_X10_drop_32 dd_X10_drop_32b.1) rfl (by decide) wd255 inX6 rfl).to, ?_⟩
  refine List.forall_mem_cons.mpr ⟨s_iret (am_dp pw_X10_drop_32 dd_X10_drop_32b.2) rfl, ?_⟩
  exact fun _ h => absurd h List.not_mem_nil
theorem sn_tX10_spot : ∀ q ∈ tX10_spot, am_Snd am_P0 RX10 cX10_spot 6 (Option.some FieldType.int) "spot" q.1 q.2 := by
  unfold tX10_spot
  refine List.forall_mem_cons.mpr ⟨(s_aloadn (am_dp pw_X10_spot_0 dd_X10_spot_0a.1) rfl).to, ?_⟩
  refine List.forall_mem_cons.mpr ⟨(s_get (ci := 10) (k := 2) (am_dp pw_X10_spot_0 dd_X10_spot_0a.2.1) rfl (by decide) wd581 inX10 rfl).to, ?_⟩
  refine List.forall_mem_cons.mpr ⟨(s_iloadn (am_dp pw_X10_spot_0 dd_X10_spot_0a.2.2.1) rfl).to, ?_⟩
  refine List.forall_mem_cons.mpr ⟨(s_iloadn (am_dp pw_X10_spot_0 dd_X10_spot_0a.2.2.2.1) rfl).to, ?_⟩
  refine List.forall_mem_cons.mpr ⟨zw_cv56 (am_dp pw_X10_spot_0 dd_X10_spot_0a.2.2.2.2.1) wd1024, ?_⟩
  refine List.forall_mem_cons.mpr ⟨(s_istore (am_dp pw_X10_spot_0 dd_X10_spot_0a.2.2.2.2.2.1) (by decide)).to, ?_⟩
  refine List.forall_mem_cons.mpr ⟨(s_iloadn (am_dp pw_X10_spot_0 dd_X10_spot_0a.2.2.2.2.2.2.1) rfl).to, ?_⟩
  refine List.forall_mem_cons.mpr ⟨(s_if_lt (am_dp pw_X10_spot_0 dd_X10_spot_0a.2.2.2.2.2.2.2) (by decide)).to, ?_⟩
  refine List.forall_mem_cons.mpr ⟨(s_iloadn (am_dp pw_X10_spot_0 dd_X10_spot_0b.1) rfl).to, ?_⟩
  refine List.forall_mem_cons.mpr ⟨(s_iconst (am_dp pw_X10_spot_0 dd_X10_spot_0b.2.1) (by decide)).to, ?_⟩
  refine List.forall_mem_cons.mpr ⟨(s_icmp_ge (am_dp pw_X10_spot_0 dd_X10_spot_0b.2.2.1) (by decide)).to, ?_⟩
  refine List.forall_mem_cons.mpr ⟨(s_iload (am_dp pw_X10_spot_0 dd_X10_spot_0b.2.2.2.1)).to, ?_⟩
  refine List.forall_mem_cons.mpr ⟨(s_iconst (am_dp pw_X10_spot_0 dd_X10_spot_0b.2.2.2.2.1) (by decide)).to, ?_⟩
  refine List.forall_mem_cons.mpr ⟨(s_icmp_eq (am_dp pw_X10_spot_0 dd_X10_spot_0b.2.2.2.2.2.1) (by decide)).to, ?_⟩
  refine List.forall_mem_cons.mpr ⟨(s_iload (am_dp pw_X10_spot_0 dd_X10_spot_0b.2.2.2.2.2.2.1)).to, ?_⟩
  refine List.forall_mem_cons.mpr ⟨zw_cs149 (am_dp pw_X10_spot_0 dd_X10_spot_0b.2.2.2.2.2.2.2) wd1028, ?_⟩
  refine List.forall_mem_cons.mpr ⟨(s_if_eq (am_dp pw_X10_spot_0 dd_X10_spot_0c) (by decide)).to, ?_⟩
  refine List.forall_mem_cons.mpr ⟨(s_aloadn (am_dp pw_X10_spot_32 dd_X10_spot_32a.1) rfl).to, ?_⟩
  refine List.forall_mem_cons.mpr ⟨(s_get (ci := 10) (k := 2) (am_dp pw_X10_spot_32 dd_X10_spot_32a.2.1) rfl (by decide) wd581 inX10 rfl).to, ?_⟩
  refine List.forall_mem_cons.mpr ⟨(s_get (ci := 5) (k := 5) (am_dp pw_X10_spot_32 dd_X10_spot_32a.2.2.1) rfl (by decide) wd321 inX5 rfl).to, ?_⟩
  refine List.forall_mem_cons.mpr ⟨(s_get (ci := 7) (k := 0) (am_dp pw_X10_spot_32 dd_X10_spot_32a.2.2.2.1) rfl (by decide) wd178 inX7 rfl).to, ?_⟩
  refine List.forall_mem_cons.mpr ⟨(s_bipush (am_dp pw_X10_spot_32 dd_X10_spot_32a.2.2.2.2.1) (by decide)).to, ?_⟩
  refine List.forall_mem_cons.mpr ⟨(s_icmp_lt (am_dp pw_X10_spot_32 dd_X10_spot_32a.2.2.2.2.2.1) (by decide)).to, ?_⟩
  refine List.forall_mem_cons.mpr ⟨(s_aloadn (am_dp pw_X10_spot_32 dd_X10_spot_32a.2.2.2.2.2.2.1) rfl).to, ?_⟩
  refine List.forall_mem_cons.mpr ⟨(s_get (ci := 10) (k := 8) (am_dp pw_X10_spot_32 dd_X10_spot_32a.2.2.2.2.2.2.2) rfl (by decide) wd587 inX10 rfl).to, ?_⟩
  refine List.forall_mem_cons.mpr ⟨(s_iconst (am_dp pw_X10_spot_32 dd_X10_spot_32b.1) (by decide)).to, ?_⟩
  refine List.forall_mem_cons.mpr ⟨(s_dup2 (am_dp pw_X10_spot_32 dd_X10_spot_32b.2.1)).to, ?_⟩
  refine List.forall_mem_cons.mpr ⟨(s_iald (am_dp pw_X10_spot_32 dd_X10_spot_32b.2.2.1)).to, ?_⟩
  refine List.forall_mem_cons.mpr ⟨(s_iconst (am_dp pw_X10_spot_32 dd_X10_spot_32b.2.2.2.1) (by decide)).to, ?_⟩
  refine List.forall_mem_cons.mpr ⟨(s_iadd (am_dp pw_X10_spot_32 dd_X10_spot_32b.2.2.2.2.1)).to, ?_⟩
  refine List.forall_mem_cons.mpr ⟨(s_iast (am_dp pw_X10_spot_32 dd_X10_spot_32b.2.2.2.2.2.1)).to, ?_⟩
  refine List.forall_mem_cons.mpr ⟨(s_iconst (am_dp pw_X10_spot_32 dd_X10_spot_32b.2.2.2.2.2.2.1) (by decide)).to, ?_⟩
  refine List.forall_mem_cons.mpr ⟨s_iret (am_dp pw_X10_spot_32 dd_X10_spot_32b.2.2.2.2.2.2.2) rfl, ?_⟩
  refine List.forall_mem_cons.mpr ⟨(s_aloadn (am_dp pw_X10_spot_32 dd_X10_spot_32c.1) rfl).to, ?_⟩
  refine List.forall_mem_cons.mpr ⟨(s_get (ci := 10) (k := 2) (am_dp pw_X10_spot_32 dd_X10_spot_32c.2) rfl (by decide) wd581 inX10 rfl).to, ?_⟩
  refine List.forall_mem_cons.mpr ⟨(s_get (ci := 5) (k := 5) (am_dp pw_X10_spot_64 dd_X10_spot_64a.1) rfl (by decide) wd321 inX5 rfl).to, ?_⟩
  refine List.forall_mem_cons.mpr ⟨(s_iloadn (am_dp pw_X10_spot_64 dd_X10_spot_64a.2.1) rfl).to, ?_⟩
  refine List.forall_mem_cons.mpr ⟨(s_iload (am_dp pw_X10_spot_64 dd_X10_spot_64a.2.2.1)).to, ?_⟩
  refine List.forall_mem_cons.mpr ⟨(s_iload (am_dp pw_X10_spot_64 dd_X10_spot_64a.2.2.2.1)).to, ?_⟩
  refine List.forall_mem_cons.mpr ⟨zw_cv71 (am_dp pw_X10_spot_64 dd_X10_spot_64a.2.2.2.2.1) wd1291, ?_⟩
  refine List.forall_mem_cons.mpr ⟨(s_aloadn (am_dp pw_X10_spot_64 dd_X10_spot_64a.2.2.2.2.2.1) rfl).to, ?_⟩
  refine List.forall_mem_cons.mpr ⟨(s_get (ci := 10) (k := 2) (am_dp pw_X10_spot_64 dd_X10_spot_64a.2.2.2.2.2.2.1) rfl (by decide) wd581 inX10 rfl).to, ?_⟩
  refine List.forall_mem_cons.mpr ⟨(s_get (ci := 5) (k := 5) (am_dp pw_X10_spot_64 dd_X10_spot_64a.2.2.2.2.2.2.2) rfl (by decide) wd321 inX5 rfl).to, ?_⟩
  refine List.forall_mem_cons.mpr ⟨(s_get (ci := 7) (k := 0) (am_dp pw_X10_spot_64 dd_X10_spot_64b.1) rfl (by decide) wd178 inX7 rfl).to, ?_⟩
  refine List.forall_mem_cons.mpr ⟨s_iret (am_dp pw_X10_spot_64 dd_X10_spot_64b.2) rfl, ?_⟩
  exact fun _ h => absurd h List.not_mem_nil
theorem sn_tX10_image_0 : ∀ q ∈ tX10_image_0, am_Snd am_P0 RX10 cX10_image 4 (Option.some FieldType.int) "image" q.1 q.2 := by
  unfold tX10_image_0
  refine List.forall_mem_cons.mpr ⟨(s_aloadn (am_dp pw_X10_image_0 dd_X10_image_0a.1) rfl).to, ?_⟩
  refine List.forall_mem_cons.mpr ⟨(s_iconst (am_dp pw_X10_image_0 dd_X10_image_0a.2.1) (by decide)).to, ?_⟩
  refine List.forall_mem_cons.mpr ⟨(s_put (ci := 10) (k := 10) (am_dp pw_X10_image_0 dd_X10_image_0a.2.2.1) rfl (by decide) wd589 inX10 tyX10_ok nmX10 rfl rfl).to, ?_⟩
  refine List.forall_mem_cons.mpr ⟨(s_aloadn (am_dp pw_X10_image_0 dd_X10_image_0a.2.2.2.1) rfl).to, ?_⟩
  refine List.forall_mem_cons.mpr ⟨(s_aloadn (am_dp pw_X10_image_0 dd_X10_image_0a.2.2.2.2.1) rfl).to, ?_⟩
  refine List.forall_mem_cons.mpr ⟨(s_get (ci := 10) (k := 2) (am_dp pw_X10_image_0 dd_X10_image_0a.2.2.2.2.2.1) rfl (by decide) wd581 inX10 rfl).to, ?_⟩
  refine List.forall_mem_cons.mpr ⟨zw_cv59 (am_dp pw_X10_image_0 dd_X10_image_0a.2.2.2.2.2.2.1) wd911, ?_⟩
  refine List.forall_mem_cons.mpr ⟨zw_cv162 (am_dp pw_X10_image_0 dd_X10_image_0a.2.2.2.2.2.2.2) wd1296, ?_⟩
  refine List.forall_mem_cons.mpr ⟨(s_iconst (am_dp pw_X10_image_0 dd_X10_image_0b.1) (by decide)).to, ?_⟩
  refine List.forall_mem_cons.mpr ⟨(s_istoren (am_dp pw_X10_image_0 dd_X10_image_0b.2.1) rfl (by decide)).to, ?_⟩
  refine List.forall_mem_cons.mpr ⟨(s_iloadn (am_dp pw_X10_image_0 dd_X10_image_0b.2.2.1) rfl).to, ?_⟩
  refine List.forall_mem_cons.mpr ⟨(s_aloadn (am_dp pw_X10_image_0 dd_X10_image_0b.2.2.2.1) rfl).to, ?_⟩
  refine List.forall_mem_cons.mpr ⟨(s_get (ci := 10) (k := 2) (am_dp pw_X10_image_0 dd_X10_image_0b.2.2.2.2.1) rfl (by decide) wd581 inX10 rfl).to, ?_⟩
  refine List.forall_mem_cons.mpr ⟨(s_get (ci := 5) (k := 3) (am_dp pw_X10_image_0 dd_X10_image_0b.2.2.2.2.2.1) rfl (by decide) wd315 inX5 rfl).to, ?_⟩
  refine List.forall_mem_cons.mpr ⟨(s_icmp_ge (am_dp pw_X10_image_0 dd_X10_image_0b.2.2.2.2.2.2.1) (by decide)).to, ?_⟩
  refine List.forall_mem_cons.mpr ⟨(s_aloadn (am_dp pw_X10_image_0 dd_X10_image_0b.2.2.2.2.2.2.2) rfl).to, ?_⟩
  refine List.forall_mem_cons.mpr ⟨(s_get (ci := 10) (k := 2) (am_dp pw_X10_image_0 dd_X10_image_0c) rfl (by decide) wd581 inX10 rfl).to, ?_⟩
  refine List.forall_mem_cons.mpr ⟨(s_get (ci := 5) (k := 4) (am_dp pw_X10_image_32 dd_X10_image_32a.1) rfl (by decide) wd318 inX5 rfl).to, ?_⟩
  refine List.forall_mem_cons.mpr ⟨(s_iloadn (am_dp pw_X10_image_32 dd_X10_image_32a.2.1) rfl).to, ?_⟩
  refine List.forall_mem_cons.mpr ⟨(s_aald (am_dp pw_X10_image_32 dd_X10_image_32a.2.2.1)).to, ?_⟩
  refine List.forall_mem_cons.mpr ⟨(s_astoren (am_dp pw_X10_image_32 dd_X10_image_32a.2.2.2.1) rfl (by decide)).to, ?_⟩
  refine List.forall_mem_cons.mpr ⟨(s_iconst (am_dp pw_X10_image_32 dd_X10_image_32a.2.2.2.2.1) (by decide)).to, ?_⟩
  refine List.forall_mem_cons.mpr ⟨(s_istoren (am_dp pw_X10_image_32 dd_X10_image_32a.2.2.2.2.2.1) rfl (by decide)).to, ?_⟩
  refine List.forall_mem_cons.mpr ⟨(s_iloadn (am_dp pw_X10_image_32 dd_X10_image_32a.2.2.2.2.2.2.1) rfl).to, ?_⟩
  refine List.forall_mem_cons.mpr ⟨(s_aloadn (am_dp pw_X10_image_32 dd_X10_image_32a.2.2.2.2.2.2.2) rfl).to, ?_⟩
  refine List.forall_mem_cons.mpr ⟨(s_get (ci := 6) (k := 5) (am_dp pw_X10_image_32 dd_X10_image_32b.1) rfl (by decide) wd255 inX6 rfl).to, ?_⟩
  refine List.forall_mem_cons.mpr ⟨(s_icmp_ge (am_dp pw_X10_image_32 dd_X10_image_32b.2.1) (by decide)).to, ?_⟩
  refine List.forall_mem_cons.mpr ⟨(s_aloadn (am_dp pw_X10_image_32 dd_X10_image_32b.2.2.1) rfl).to, ?_⟩
  refine List.forall_mem_cons.mpr ⟨(s_iloadn (am_dp pw_X10_image_32 dd_X10_image_32b.2.2.2.1) rfl).to, ?_⟩
  refine List.forall_mem_cons.mpr ⟨zw_cv162 (am_dp pw_X10_image_32 dd_X10_image_32b.2.2.2.2.1) wd1296, ?_⟩
  refine List.forall_mem_cons.mpr ⟨(s_aloadn (am_dp pw_X10_image_32 dd_X10_image_32b.2.2.2.2.2.1) rfl).to, ?_⟩
  refine List.forall_mem_cons.mpr ⟨(s_aloadn (am_dp pw_X10_image_32 dd_X10_image_32b.2.2.2.2.2.2.1) rfl).to, ?_⟩
  refine List.forall_mem_cons.mpr ⟨(s_get (ci := 6) (k := 6) (am_dp pw_X10_image_32 dd_X10_image_32b.2.2.2.2.2.2.2) rfl (by decide) wd259 inX6 rfl).to, ?_⟩
  refine List.forall_mem_cons.mpr ⟨(s_iloadn (am_dp pw_X10_image_32 dd_X10_image_32c.1) rfl).to, ?_⟩
  refine List.forall_mem_cons.mpr ⟨(s_iald (am_dp pw_X10_image_32 dd_X10_image_32c.2.1)).to, ?_⟩
  refine List.forall_mem_cons.mpr ⟨zw_cv162 (am_dp pw_X10_image_32 dd_X10_image_32c.2.2) wd1296, ?_⟩
  refine List.forall_mem_cons.mpr ⟨(s_aloadn (am_dp pw_X10_image_64 dd_X10_image_64a.1) rfl).to, ?_⟩
  refine List.forall_mem_cons.mpr ⟨(s_aloadn (am_dp pw_X10_image_64 dd_X10_image_64a.2.1) rfl).to, ?_⟩
  refine List.forall_mem_cons.mpr ⟨(s_get (ci := 10) (k := 2) (am_dp pw_X10_image_64 dd_X10_image_64a.2.2.1) rfl (by decide) wd581 inX10 rfl).to, ?_⟩
  refine List.forall_mem_cons.mpr ⟨(s_aloadn (am_dp pw_X10_image_64 dd_X10_image_64a.2.2.2.1) rfl).to, ?_⟩
  refine List.forall_mem_cons.mpr ⟨(s_get (ci := 6) (k := 7) (am_dp pw_X10_image_64 dd_X10_image_64a.2.2.2.2.1) rfl (by decide) wd262 inX6 rfl).to, ?_⟩
  refine List.forall_mem_cons.mpr ⟨(s_iloadn (am_dp pw_X10_image_64 dd_X10_image_64a.2.2.2.2.2.1) rfl).to, ?_⟩
  refine List.forall_mem_cons.mpr ⟨(s_iald (am_dp pw_X10_image_64 dd_X10_image_64a.2.2.2.2.2.2.1)).to, ?_⟩
  refine List.forall_mem_cons.mpr ⟨zw_cv58 (am_dp pw_X10_image_64 dd_X10_image_64a.2.2.2.2.2.2.2) wd1015, ?_⟩
  refine List.forall_mem_cons.mpr ⟨zw_cv162 (am_dp pw_X10_image_64 dd_X10_image_64b.1) wd1296, ?_⟩
  refine List.forall_mem_cons.mpr ⟨(s_aloadn (am_dp pw_X10_image_64 dd_X10_image_64b.2.1) rfl).to, ?_⟩
  refine List.forall_mem_cons.mpr ⟨(s_aloadn (am_dp pw_X10_image_64 dd_X10_image_64b.2.2.1) rfl).to, ?_⟩
  refine List.forall_mem_cons.mpr ⟨(s_get (ci := 6) (k := 8) (am_dp pw_X10_image_64 dd_X10_image_64b.2.2.2.1) rfl (by decide) wd265 inX6 rfl).to, ?_⟩
  refine List.forall_mem_cons.mpr ⟨(s_iloadn (am_dp pw_X10_image_64 dd_X10_image_64b.2.2.2.2.1) rfl).to, ?_⟩
  refine List.forall_mem_cons.mpr ⟨(s_zald (am_dp pw_X10_image_64 dd_X10_image_64b.2.2.2.2.2.1)).to, ?_⟩
  refine List.forall_mem_cons.mpr ⟨zw_cs148 (am_dp pw_X10_image_64 dd_X10_image_64b.2.2.2.2.2.2.1) wd1004, ?_⟩
  refine List.forall_mem_cons.mpr ⟨zw_cv162 (am_dp pw_X10_image_64 dd_X10_image_64b.2.2.2.2.2.2.2) wd1296, ?_⟩
  refine List.forall_mem_cons.mpr ⟨(s_iinc (am_dp pw_X10_image_64 dd_X10_image_64c) (by decide) (by decide)).to, ?_⟩
  refine List.forall_mem_cons.mpr ⟨(s_goto (am_dp pw_X10_image_96 dd_X10_image_96a.1) (by decide)).to, ?_⟩
  refine List.forall_mem_cons.mpr ⟨(s_iinc (am_dp pw_X10_image_96 dd_X10_image_96a.2.1) (by decide) (by decide)).to, ?_⟩
  refine List.forall_mem_cons.mpr ⟨(s_goto (am_dp pw_X10_image_96 dd_X10_image_96a.2.2.1) (by decide)).to, ?_⟩
  refine List.forall_mem_cons.mpr ⟨(s_aloadn (am_dp pw_X10_image_96 dd_X10_image_96a.2.2.2.1) rfl).to, ?_⟩
  refine List.forall_mem_cons.mpr ⟨(s_aloadn (am_dp pw_X10_image_96 dd_X10_image_96a.2.2.2.2.1) rfl).to, ?_⟩
  refine List.forall_mem_cons.mpr ⟨(s_get (ci := 10) (k := 2) (am_dp pw_X10_image_96 dd_X10_image_96a.2.2.2.2.2.1) rfl (by decide) wd581 inX10 rfl).to, ?_⟩
  refine List.forall_mem_cons.mpr ⟨(s_get (ci := 5) (k := 5) (am_dp pw_X10_image_96 dd_X10_image_96a.2.2.2.2.2.2.1) rfl (by decide) wd321 inX5 rfl).to, ?_⟩
  exact fun _ h => absurd h List.not_mem_nil
theorem sn_tX10_image_1 : ∀ q ∈ tX10_image_1, am_Snd am_P0 RX10 cX10_image 4 (Option.some FieldType.int) "image" q.1 q.2 := by
  unfold tX10_image_1
  refine List.forall_mem_cons.mpr ⟨(s_get (ci := 7) (k := 0) (am_dp pw_X10_image_96 dd_X10_image_96a.2.2.2.2.2.2.2) rfl (by decide) wd178 inX7 rfl).to, ?_⟩
  refine List.forall_mem_cons.mpr ⟨zw_cv162 (am_dp pw_X10_image_96 dd_X10_image_96b.1) wd1296, ?_⟩
  refine List.forall_mem_cons.mpr ⟨(s_iconst (am_dp pw_X10_image_96 dd_X10_image_96b.2.1) (by decide)).to, ?_⟩
  refine List.forall_mem_cons.mpr ⟨(s_istoren (am_dp pw_X10_image_96 dd_X10_image_96b.2.2.1) rfl (by decide)).to, ?_⟩
  refine List.forall_mem_cons.mpr ⟨(s_iloadn (am_dp pw_X10_image_96 dd_X10_image_96b.2.2.2.1) rfl).to, ?_⟩
  refine List.forall_mem_cons.mpr ⟨(s_aloadn (am_dp pw_X10_image_96 dd_X10_image_96b.2.2.2.2.1) rfl).to, ?_⟩
  refine List.forall_mem_cons.mpr ⟨(s_get (ci := 10) (k := 2) (am_dp pw_X10_image_96 dd_X10_image_96b.2.2.2.2.2.1) rfl (by decide) wd581 inX10 rfl).to, ?_⟩
  refine List.forall_mem_cons.mpr ⟨(s_get (ci := 5) (k := 5) (am_dp pw_X10_image_96 dd_X10_image_96b.2.2.2.2.2.2) rfl (by decide) wd321 inX5 rfl).to, ?_⟩
  refine List.forall_mem_cons.mpr ⟨(s_get (ci := 7) (k := 0) (am_dp pw_X10_image_128 dd_X10_image_128a.1) rfl (by decide) wd178 inX7 rfl).to, ?_⟩
  refine List.forall_mem_cons.mpr ⟨(s_icmp_ge (am_dp pw_X10_image_128 dd_X10_image_128a.2.1) (by decide)).to, ?_⟩
  refine List.forall_mem_cons.mpr ⟨(s_aloadn (am_dp pw_X10_image_128 dd_X10_image_128a.2.2.1) rfl).to, ?_⟩
  refine List.forall_mem_cons.mpr ⟨(s_aloadn (am_dp pw_X10_image_128 dd_X10_image_128a.2.2.2.1) rfl).to, ?_⟩
  refine List.forall_mem_cons.mpr ⟨(s_get (ci := 10) (k := 2) (am_dp pw_X10_image_128 dd_X10_image_128a.2.2.2.2.1) rfl (by decide) wd581 inX10 rfl).to, ?_⟩
  refine List.forall_mem_cons.mpr ⟨(s_get (ci := 5) (k := 5) (am_dp pw_X10_image_128 dd_X10_image_128a.2.2.2.2.2.1) rfl (by decide) wd321 inX5 rfl).to, ?_⟩
  refine List.forall_mem_cons.mpr ⟨(s_get (ci := 7) (k := 1) (am_dp pw_X10_image_128 dd_X10_image_128a.2.2.2.2.2.2.1) rfl (by decide) wd181 inX7 rfl).to, ?_⟩
  refine List.forall_mem_cons.mpr ⟨(s_iloadn (am_dp pw_X10_image_128 dd_X10_image_128a.2.2.2.2.2.2.2) rfl).to, ?_⟩
  refine List.forall_mem_cons.mpr ⟨(s_iald (am_dp pw_X10_image_128 dd_X10_image_128b.1)).to, ?_⟩
  refine List.forall_mem_cons.mpr ⟨zw_cv162 (am_dp pw_X10_image_128 dd_X10_image_128b.2.1) wd1296, ?_⟩
  refine List.forall_mem_cons.mpr ⟨(s_aloadn (am_dp pw_X10_image_128 dd_X10_image_128b.2.2.1) rfl).to, ?_⟩
  refine List.forall_mem_cons.mpr ⟨(s_aloadn (am_dp pw_X10_image_128 dd_X10_image_128b.2.2.2.1) rfl).to, ?_⟩
  refine List.forall_mem_cons.mpr ⟨(s_get (ci := 10) (k := 2) (am_dp pw_X10_image_128 dd_X10_image_128b.2.2.2.2.1) rfl (by decide) wd581 inX10 rfl).to, ?_⟩
  refine List.forall_mem_cons.mpr ⟨(s_aloadn (am_dp pw_X10_image_128 dd_X10_image_128b.2.2.2.2.2.1) rfl).to, ?_⟩
  refine List.forall_mem_cons.mpr ⟨(s_get (ci := 10) (k := 2) (am_dp pw_X10_image_128 dd_X10_image_128b.2.2.2.2.2.2) rfl (by decide) wd581 inX10 rfl).to, ?_⟩
  refine List.forall_mem_cons.mpr ⟨(s_get (ci := 5) (k := 5) (am_dp pw_X10_image_160 dd_X10_image_160a.1) rfl (by decide) wd321 inX5 rfl).to, ?_⟩
  refine List.forall_mem_cons.mpr ⟨(s_get (ci := 7) (k := 2) (am_dp pw_X10_image_160 dd_X10_image_160a.2.1) rfl (by decide) wd183 inX7 rfl).to, ?_⟩
  refine List.forall_mem_cons.mpr ⟨(s_iloadn (am_dp pw_X10_image_160 dd_X10_image_160a.2.2.1) rfl).to, ?_⟩
  refine List.forall_mem_cons.mpr ⟨(s_iald (am_dp pw_X10_image_160 dd_X10_image_160a.2.2.2.1)).to, ?_⟩
  refine List.forall_mem_cons.mpr ⟨zw_cv58 (am_dp pw_X10_image_160 dd_X10_image_160a.2.2.2.2.1) wd1015, ?_⟩
  refine List.forall_mem_cons.mpr ⟨zw_cv162 (am_dp pw_X10_image_160 dd_X10_image_160a.2.2.2.2.2.1) wd1296, ?_⟩
  refine List.forall_mem_cons.mpr ⟨(s_aloadn (am_dp pw_X10_image_160 dd_X10_image_160a.2.2.2.2.2.2.1) rfl).to, ?_⟩
  refine List.forall_mem_cons.mpr ⟨(s_aloadn (am_dp pw_X10_image_160 dd_X10_image_160a.2.2.2.2.2.2.2) rfl).to, ?_⟩
  refine List.forall_mem_cons.mpr ⟨(s_get (ci := 10) (k := 2) (am_dp pw_X10_image_160 dd_X10_image_160b.1) rfl (by decide) wd581 inX10 rfl).to, ?_⟩
  refine List.forall_mem_cons.mpr ⟨(s_get (ci := 5) (k := 5) (am_dp pw_X10_image_160 dd_X10_image_160b.2.1) rfl (by decide) wd321 inX5 rfl).to, ?_⟩
  refine List.forall_mem_cons.mpr ⟨(s_get (ci := 7) (k := 3) (am_dp pw_X10_image_160 dd_X10_image_160b.2.2.1) rfl (by decide) wd185 inX7 rfl).to, ?_⟩
  refine List.forall_mem_cons.mpr ⟨(s_iloadn (am_dp pw_X10_image_160 dd_X10_image_160b.2.2.2.1) rfl).to, ?_⟩
  refine List.forall_mem_cons.mpr ⟨(s_iald (am_dp pw_X10_image_160 dd_X10_image_160b.2.2.2.2.1)).to, ?_⟩
  refine List.forall_mem_cons.mpr ⟨zw_cv162 (am_dp pw_X10_image_160 dd_X10_image_160b.2.2.2.2.2.1) wd1296, ?_⟩
  refine List.forall_mem_cons.mpr ⟨(s_iinc (am_dp pw_X10_image_160 dd_X10_image_160b.2.2.2.2.2.2) (by decide) (by decide)).to, ?_⟩
  refine List.forall_mem_cons.mpr ⟨(s_goto (am_dp pw_X10_image_192 dd_X10_image_192a.1) (by decide)).to, ?_⟩
  refine List.forall_mem_cons.mpr ⟨(s_aloadn (am_dp pw_X10_image_192 dd_X10_image_192a.2.1) rfl).to, ?_⟩
  refine List.forall_mem_cons.mpr ⟨(s_aloadn (am_dp pw_X10_image_192 dd_X10_image_192a.2.2.1) rfl).to, ?_⟩
  refine List.forall_mem_cons.mpr ⟨(s_get (ci := 10) (k := 9) (am_dp pw_X10_image_192 dd_X10_image_192a.2.2.2.1) rfl (by decide) wd588 inX10 rfl).to, ?_⟩
  refine List.forall_mem_cons.mpr ⟨(s_aloadn (am_dp pw_X10_image_192 dd_X10_image_192a.2.2.2.2.1) rfl).to, ?_⟩
  refine List.forall_mem_cons.mpr ⟨(s_get (ci := 10) (k := 10) (am_dp pw_X10_image_192 dd_X10_image_192a.2.2.2.2.2.1) rfl (by decide) wd589 inX10 rfl).to, ?_⟩
  refine List.forall_mem_cons.mpr ⟨zw_cs163 (am_dp pw_X10_image_192 dd_X10_image_192a.2.2.2.2.2.2.1) wd1300, ?_⟩
  refine List.forall_mem_cons.mpr ⟨zw_cv162 (am_dp pw_X10_image_192 dd_X10_image_192a.2.2.2.2.2.2.2) wd1296, ?_⟩
  refine List.forall_mem_cons.mpr ⟨(s_aloadn (am_dp pw_X10_image_192 dd_X10_image_192b.1) rfl).to, ?_⟩
  refine List.forall_mem_cons.mpr ⟨(s_get (ci := 10) (k := 10) (am_dp pw_X10_image_192 dd_X10_image_192b.2.1) rfl (by decide) wd589 inX10 rfl).to, ?_⟩
  refine List.forall_mem_cons.mpr ⟨s_iret (am_dp pw_X10_image_192 dd_X10_image_192b.2.2) rfl, ?_⟩
  exact fun _ h => absurd h List.not_mem_nil
theorem sn_tX10_image : ∀ q ∈ tX10_image, am_Snd am_P0 RX10 cX10_image 4 (Option.some FieldType.int) "image" q.1 q.2 := by
  unfold tX10_image
  exact List.forall_mem_append.mpr ⟨sn_tX10_image_0, sn_tX10_image_1⟩
theorem sn_tX10_octet : ∀ q ∈ tX10_octet, am_Snd am_P0 RX10 cX10_octet 2 (Option.some FieldType.int) "octet" q.1 q.2 := by
  unfold tX10_octet
  refine List.forall_mem_cons.mpr ⟨(s_iloadn (am_dp pw_X10_octet_0 dd_X10_octet_0a.1) rfl).to, ?_⟩
  refine List.forall_mem_cons.mpr ⟨(s_if_lt (am_dp pw_X10_octet_0 dd_X10_octet_0a.2.1) (by decide)).to, ?_⟩
  refine List.forall_mem_cons.mpr ⟨(s_iloadn (am_dp pw_X10_octet_0 dd_X10_octet_0a.2.2.1) rfl).to, ?_⟩
  refine List.forall_mem_cons.mpr ⟨(s_aloadn (am_dp pw_X10_octet_0 dd_X10_octet_0a.2.2.2.1) rfl).to, ?_⟩
  refine List.forall_mem_cons.mpr ⟨(s_get (ci := 10) (k := 10) (am_dp pw_X10_octet_0 dd_X10_octet_0a.2.2.2.2.1) rfl (by decide) wd589 inX10 rfl).to, ?_⟩
  refine List.forall_mem_cons.mpr ⟨(s_icmp_lt (am_dp pw_X10_octet_0 dd_X10_octet_0a.2.2.2.2.2.1) (by decide)).to, ?_⟩
  refine List.forall_mem_cons.mpr ⟨(s_iconst (am_dp pw_X10_octet_0 dd_X10_octet_0a.2.2.2.2.2.2.1) (by decide)).to, ?_⟩
  refine List.forall_mem_cons.mpr ⟨(s_goto (am_dp pw_X10_octet_0 dd_X10_octet_0a.2.2.2.2.2.2.2) (by decide)).to, ?_⟩
  refine List.forall_mem_cons.mpr ⟨(s_aloadn (am_dp pw_X10_octet_0 dd_X10_octet_0b.1) rfl).to, ?_⟩
  refine List.forall_mem_cons.mpr ⟨(s_get (ci := 10) (k := 9) (am_dp pw_X10_octet_0 dd_X10_octet_0b.2.1) rfl (by decide) wd588 inX10 rfl).to, ?_⟩
  refine List.forall_mem_cons.mpr ⟨(s_iloadn (am_dp pw_X10_octet_0 dd_X10_octet_0b.2.2.1) rfl).to, ?_⟩
  refine List.forall_mem_cons.mpr ⟨(s_iald (am_dp pw_X10_octet_0 dd_X10_octet_0b.2.2.2.1)).to, ?_⟩
  refine List.forall_mem_cons.mpr ⟨s_iret (am_dp pw_X10_octet_0 dd_X10_octet_0b.2.2.2.2) rfl, ?_⟩
  exact fun _ h => absurd h List.not_mem_nil
theorem sn_tX10_on : ∀ q ∈ tX10_on, am_Snd am_P0 RX10 cX10_on 3 (Option.some FieldType.boolean) "on" q.1 q.2 := by
  unfold tX10_on
  refine List.forall_mem_cons.mpr ⟨(s_aloadn (am_dp pw_X10_on_0 dd_X10_on_0a.1) rfl).to, ?_⟩
  refine List.forall_mem_cons.mpr ⟨(s_get (ci := 10) (k := 1) (am_dp pw_X10_on_0 dd_X10_on_0a.2.1) rfl (by decide) wd580 inX10 rfl).to, ?_⟩
  refine List.forall_mem_cons.mpr ⟨(s_istoren (am_dp pw_X10_on_0 dd_X10_on_0a.2.2.1) rfl (by decide)).to, ?_⟩
  refine List.forall_mem_cons.mpr ⟨(s_aloadn (am_dp pw_X10_on_0 dd_X10_on_0a.2.2.2.1) rfl).to, ?_⟩
  refine List.forall_mem_cons.mpr ⟨(s_iconst (am_dp pw_X10_on_0 dd_X10_on_0a.2.2.2.2.1) (by decide)).to, ?_⟩
  refine List.forall_mem_cons.mpr ⟨(s_put (ci := 10) (k := 1) (am_dp pw_X10_on_0 dd_X10_on_0a.2.2.2.2.2.1) rfl (by decide) wd580 inX10 tyX10_ok nmX10 rfl rfl).to, ?_⟩
  refine List.forall_mem_cons.mpr ⟨(s_aloadn (am_dp pw_X10_on_0 dd_X10_on_0a.2.2.2.2.2.2.1) rfl).to, ?_⟩
  refine List.forall_mem_cons.mpr ⟨(s_iloadn (am_dp pw_X10_on_0 dd_X10_on_0a.2.2.2.2.2.2.2) rfl).to, ?_⟩
  refine List.forall_mem_cons.mpr ⟨zw_cv164 (am_dp pw_X10_on_0 dd_X10_on_0b.1) wd1311, ?_⟩
  refine List.forall_mem_cons.mpr ⟨(s_if_ne (am_dp pw_X10_on_0 dd_X10_on_0b.2.1) (by decide)).to, ?_⟩
  refine List.forall_mem_cons.mpr ⟨(s_aloadn (am_dp pw_X10_on_0 dd_X10_on_0b.2.2.1) rfl).to, ?_⟩
  refine List.forall_mem_cons.mpr ⟨(s_get (ci := 10) (k := 8) (am_dp pw_X10_on_0 dd_X10_on_0b.2.2.2.1) rfl (by decide) wd587 inX10 rfl).to, ?_⟩
  refine List.forall_mem_cons.mpr ⟨(s_iconst (am_dp pw_X10_on_0 dd_X10_on_0b.2.2.2.2.1) (by decide)).to, ?_⟩
  refine List.forall_mem_cons.mpr ⟨(s_dup2 (am_dp pw_X10_on_0 dd_X10_on_0b.2.2.2.2.2.1)).to, ?_⟩
  refine List.forall_mem_cons.mpr ⟨(s_iald (am_dp pw_X10_on_0 dd_X10_on_0b.2.2.2.2.2.2.1)).to, ?_⟩
  refine List.forall_mem_cons.mpr ⟨(s_iconst (am_dp pw_X10_on_0 dd_X10_on_0b.2.2.2.2.2.2.2) (by decide)).to, ?_⟩
  refine List.forall_mem_cons.mpr ⟨(s_iadd (am_dp pw_X10_on_0 dd_X10_on_0c.1)).to, ?_⟩
  refine List.forall_mem_cons.mpr ⟨(s_iast (am_dp pw_X10_on_0 dd_X10_on_0c.2.1)).to, ?_⟩
  refine List.forall_mem_cons.mpr ⟨(s_iconst (am_dp pw_X10_on_0 dd_X10_on_0c.2.2.1) (by decide)).to, ?_⟩
  refine List.forall_mem_cons.mpr ⟨s_zret (am_dp pw_X10_on_0 dd_X10_on_0c.2.2.2.1) rfl, ?_⟩
  refine List.forall_mem_cons.mpr ⟨(s_aloadn (am_dp pw_X10_on_0 dd_X10_on_0c.2.2.2.2.1) rfl).to, ?_⟩
  refine List.forall_mem_cons.mpr ⟨zw_cv165 (am_dp pw_X10_on_0 dd_X10_on_0c.2.2.2.2.2) wd1319, ?_⟩
  refine List.forall_mem_cons.mpr ⟨(s_iconst (am_dp pw_X10_on_32 dd_X10_on_32a.1) (by decide)).to, ?_⟩
  refine List.forall_mem_cons.mpr ⟨(s_istoren (am_dp pw_X10_on_32 dd_X10_on_32a.2.1) rfl (by decide)).to, ?_⟩
  refine List.forall_mem_cons.mpr ⟨(s_iloadn (am_dp pw_X10_on_32 dd_X10_on_32a.2.2.1) rfl).to, ?_⟩
  refine List.forall_mem_cons.mpr ⟨(s_aloadn (am_dp pw_X10_on_32 dd_X10_on_32a.2.2.2.1) rfl).to, ?_⟩
  refine List.forall_mem_cons.mpr ⟨(s_get (ci := 10) (k := 2) (am_dp pw_X10_on_32 dd_X10_on_32a.2.2.2.2.1) rfl (by decide) wd581 inX10 rfl).to, ?_⟩
  refine List.forall_mem_cons.mpr ⟨(s_get (ci := 5) (k := 3) (am_dp pw_X10_on_32 dd_X10_on_32a.2.2.2.2.2.1) rfl (by decide) wd315 inX5 rfl).to, ?_⟩
  refine List.forall_mem_cons.mpr ⟨(s_icmp_ge (am_dp pw_X10_on_32 dd_X10_on_32a.2.2.2.2.2.2.1) (by decide)).to, ?_⟩
  refine List.forall_mem_cons.mpr ⟨(s_aloadn (am_dp pw_X10_on_32 dd_X10_on_32a.2.2.2.2.2.2.2) rfl).to, ?_⟩
  refine List.forall_mem_cons.mpr ⟨(s_iloadn (am_dp pw_X10_on_32 dd_X10_on_32b.1) rfl).to, ?_⟩
  refine List.forall_mem_cons.mpr ⟨zw_cv153 (am_dp pw_X10_on_32 dd_X10_on_32b.2.1) wd1274, ?_⟩
  refine List.forall_mem_cons.mpr ⟨(s_iinc (am_dp pw_X10_on_32 dd_X10_on_32b.2.2.1) (by decide) (by decide)).to, ?_⟩
  refine List.forall_mem_cons.mpr ⟨(s_goto (am_dp pw_X10_on_32 dd_X10_on_32b.2.2.2.1) (by decide)).to, ?_⟩
  refine List.forall_mem_cons.mpr ⟨(s_iconst (am_dp pw_X10_on_32 dd_X10_on_32b.2.2.2.2.1) (by decide)).to, ?_⟩
  refine List.forall_mem_cons.mpr ⟨s_zret (am_dp pw_X10_on_32 dd_X10_on_32b.2.2.2.2.2) rfl, ?_⟩
  exact fun _ h => absurd h List.not_mem_nil
theorem sn_tX10_status : ∀ q ∈ tX10_status, am_Snd am_P0 RX10 cX10_status 2 (Option.some FieldType.int) "status" q.1 q.2 := by
  unfold tX10_status
  refine List.forall_mem_cons.mpr ⟨(s_iloadn (am_dp pw_X10_status_0 dd_X10_status_0a.1) rfl).to, ?_⟩
  refine List.forall_mem_cons.mpr ⟨(s_if_lt (am_dp pw_X10_status_0 dd_X10_status_0a.2.1) (by decide)).to, ?_⟩
  refine List.forall_mem_cons.mpr ⟨(s_iloadn (am_dp pw_X10_status_0 dd_X10_status_0a.2.2.1) rfl).to, ?_⟩
  refine List.forall_mem_cons.mpr ⟨(s_aloadn (am_dp pw_X10_status_0 dd_X10_status_0a.2.2.2.1) rfl).to, ?_⟩
  refine List.forall_mem_cons.mpr ⟨(s_get (ci := 10) (k := 8) (am_dp pw_X10_status_0 dd_X10_status_0a.2.2.2.2.1) rfl (by decide) wd587 inX10 rfl).to, ?_⟩
  refine List.forall_mem_cons.mpr ⟨(s_len (am_dp pw_X10_status_0 dd_X10_status_0a.2.2.2.2.2.1)).to, ?_⟩
  refine List.forall_mem_cons.mpr ⟨(s_icmp_lt (am_dp pw_X10_status_0 dd_X10_status_0a.2.2.2.2.2.2.1) (by decide)).to, ?_⟩
  refine List.forall_mem_cons.mpr ⟨(s_iconst (am_dp pw_X10_status_0 dd_X10_status_0a.2.2.2.2.2.2.2) (by decide)).to, ?_⟩
  refine List.forall_mem_cons.mpr ⟨(s_goto (am_dp pw_X10_status_0 dd_X10_status_0b.1) (by decide)).to, ?_⟩
  refine List.forall_mem_cons.mpr ⟨(s_aloadn (am_dp pw_X10_status_0 dd_X10_status_0b.2.1) rfl).to, ?_⟩
  refine List.forall_mem_cons.mpr ⟨(s_get (ci := 10) (k := 8) (am_dp pw_X10_status_0 dd_X10_status_0b.2.2.1) rfl (by decide) wd587 inX10 rfl).to, ?_⟩
  refine List.forall_mem_cons.mpr ⟨(s_iloadn (am_dp pw_X10_status_0 dd_X10_status_0b.2.2.2.1) rfl).to, ?_⟩
  refine List.forall_mem_cons.mpr ⟨(s_iald (am_dp pw_X10_status_0 dd_X10_status_0b.2.2.2.2.1)).to, ?_⟩
  refine List.forall_mem_cons.mpr ⟨s_iret (am_dp pw_X10_status_0 dd_X10_status_0b.2.2.2.2.2) rfl, ?_⟩
  exact fun _ h => absurd h List.not_mem_nil
theorem sn_tX10_bit : ∀ q ∈ tX10_bit, am_Snd am_P0 RX10 cX10_bit 1 (Option.some FieldType.int) "bit" q.1 q.2 := by
  unfold tX10_bit
  refine List.forall_mem_cons.mpr ⟨(s_iloadn (am_dp pw_X10_bit_0 dd_X10_bit_0a.1) rfl).to, ?_⟩
  refine List.forall_mem_cons.mpr ⟨(s_if_eq (am_dp pw_X10_bit_0 dd_X10_bit_0a.2.1) (by decide)).to, ?_⟩
  refine List.forall_mem_cons.mpr ⟨(s_iconst (am_dp pw_X10_bit_0 dd_X10_bit_0a.2.2.1) (by decide)).to, ?_⟩
  refine List.forall_mem_cons.mpr ⟨(s_goto (am_dp pw_X10_bit_0 dd_X10_bit_0a.2.2.2.1) (by decide)).to, ?_⟩
  refine List.forall_mem_cons.mpr ⟨(s_iconst (am_dp pw_X10_bit_0 dd_X10_bit_0a.2.2.2.2.1) (by decide)).to, ?_⟩
  refine List.forall_mem_cons.mpr ⟨s_iret (am_dp pw_X10_bit_0 dd_X10_bit_0a.2.2.2.2.2) rfl, ?_⟩
  exact fun _ h => absurd h List.not_mem_nil
theorem sn_tX10_isHour : ∀ q ∈ tX10_isHour, am_Snd am_P0 RX10 cX10_isHour 1 (Option.some FieldType.boolean) "isHour" q.1 q.2 := by
  unfold tX10_isHour
  refine List.forall_mem_cons.mpr ⟨(s_iloadn (am_dp pw_X10_isHour_0 dd_X10_isHour_0a.1) rfl).to, ?_⟩
  refine List.forall_mem_cons.mpr ⟨(s_if_lt (am_dp pw_X10_isHour_0 dd_X10_isHour_0a.2.1) (by decide)).to, ?_⟩
  refine List.forall_mem_cons.mpr ⟨(s_iloadn (am_dp pw_X10_isHour_0 dd_X10_isHour_0a.2.2.1) rfl).to, ?_⟩
  refine List.forall_mem_cons.mpr ⟨(s_bipush (am_dp pw_X10_isHour_0 dd_X10_isHour_0a.2.2.2.1) (by decide)).to, ?_⟩
  refine List.forall_mem_cons.mpr ⟨(s_icmp_ge (am_dp pw_X10_isHour_0 dd_X10_isHour_0a.2.2.2.2.1) (by decide)).to, ?_⟩
  refine List.forall_mem_cons.mpr ⟨(s_iconst (am_dp pw_X10_isHour_0 dd_X10_isHour_0a.2.2.2.2.2.1) (by decide)).to, ?_⟩
  refine List.forall_mem_cons.mpr ⟨(s_goto (am_dp pw_X10_isHour_0 dd_X10_isHour_0a.2.2.2.2.2.2.1) (by decide)).to, ?_⟩
  refine List.forall_mem_cons.mpr ⟨(s_iconst (am_dp pw_X10_isHour_0 dd_X10_isHour_0a.2.2.2.2.2.2.2) (by decide)).to, ?_⟩
  refine List.forall_mem_cons.mpr ⟨s_zret (am_dp pw_X10_isHour_0 dd_X10_isHour_0b) rfl, ?_⟩
  exact fun _ h => absurd h List.not_mem_nil
theorem sn_tX10_isShip : ∀ q ∈ tX10_isShip, am_Snd am_P0 RX10 cX10_isShip 2 (Option.some FieldType.boolean) "isShip" q.1 q.2 := by
  unfold tX10_isShip
  refine List.forall_mem_cons.mpr ⟨(s_iloadn (am_dp pw_X10_isShip_0 dd_X10_isShip_0a.1) rfl).to, ?_⟩
  refine List.forall_mem_cons.mpr ⟨(s_if_lt (am_dp pw_X10_isShip_0 dd_X10_isShip_0a.2.1) (by decide)).to, ?_⟩
  refine List.forall_mem_cons.mpr ⟨(s_iloadn (am_dp pw_X10_isShip_0 dd_X10_isShip_0a.2.2.1) rfl).to, ?_⟩
  refine List.forall_mem_cons.mpr ⟨(s_aloadn (am_dp pw_X10_isShip_0 dd_X10_isShip_0a.2.2.2.1) rfl).to, ?_⟩
  refine List.forall_mem_cons.mpr ⟨(s_get (ci := 10) (k := 2) (am_dp pw_X10_isShip_0 dd_X10_isShip_0a.2.2.2.2.1) rfl (by decide) wd581 inX10 rfl).to, ?_⟩
  refine List.forall_mem_cons.mpr ⟨(s_get (ci := 5) (k := 3) (am_dp pw_X10_isShip_0 dd_X10_isShip_0a.2.2.2.2.2.1) rfl (by decide) wd315 inX5 rfl).to, ?_⟩
  refine List.forall_mem_cons.mpr ⟨(s_icmp_ge (am_dp pw_X10_isShip_0 dd_X10_isShip_0a.2.2.2.2.2.2.1) (by decide)).to, ?_⟩
  refine List.forall_mem_cons.mpr ⟨(s_iconst (am_dp pw_X10_isShip_0 dd_X10_isShip_0a.2.2.2.2.2.2.2) (by decide)).to, ?_⟩
  refine List.forall_mem_cons.mpr ⟨(s_goto (am_dp pw_X10_isShip_0 dd_X10_isShip_0b.1) (by decide)).to, ?_⟩
  refine List.forall_mem_cons.mpr ⟨(s_iconst (am_dp pw_X10_isShip_0 dd_X10_isShip_0b.2.1) (by decide)).to, ?_⟩
  refine List.forall_mem_cons.mpr ⟨s_zret (am_dp pw_X10_isShip_0 dd_X10_isShip_0b.2.2) rfl, ?_⟩
  exact fun _ h => absurd h List.not_mem_nil
theorem sn_tX10_isSaying : ∀ q ∈ tX10_isSaying, am_Snd am_P0 RX10 cX10_isSaying 3 (Option.some FieldType.boolean) "isSaying" q.1 q.2 := by
  unfold tX10_isSaying
  refine List.forall_mem_cons.mpr ⟨(s_aloadn (am_dp pw_X10_isSaying_0 dd_X10_isSaying_0a.1) rfl).to, ?_⟩
  refine List.forall_mem_cons.mpr ⟨(s_iloadn (am_dp pw_X10_isSaying_0 dd_X10_isSaying_0a.2.1) rfl).to, ?_⟩
  refine List.forall_mem_cons.mpr ⟨zw_cv150 (am_dp pw_X10_isSaying_0 dd_X10_isSaying_0a.2.2.1) wd921, ?_⟩
  refine List.forall_mem_cons.mpr ⟨(s_if_eq (am_dp pw_X10_isSaying_0 dd_X10_isSaying_0a.2.2.2.1) (by decide)).to, ?_⟩
  refine List.forall_mem_cons.mpr ⟨(s_iloadn (am_dp pw_X10_isSaying_0 dd_X10_isSaying_0a.2.2.2.2.1) rfl).to, ?_⟩
  refine List.forall_mem_cons.mpr ⟨(s_if_lt (am_dp pw_X10_isSaying_0 dd_X10_isSaying_0a.2.2.2.2.2.1) (by decide)).to, ?_⟩
  refine List.forall_mem_cons.mpr ⟨(s_iloadn (am_dp pw_X10_isSaying_0 dd_X10_isSaying_0a.2.2.2.2.2.2.1) rfl).to, ?_⟩
  refine List.forall_mem_cons.mpr ⟨(s_aloadn (am_dp pw_X10_isSaying_0 dd_X10_isSaying_0a.2.2.2.2.2.2.2) rfl).to, ?_⟩
  refine List.forall_mem_cons.mpr ⟨(s_get (ci := 10) (k := 2) (am_dp pw_X10_isSaying_0 dd_X10_isSaying_0b.1) rfl (by decide) wd581 inX10 rfl).to, ?_⟩
  refine List.forall_mem_cons.mpr ⟨(s_get (ci := 5) (k := 4) (am_dp pw_X10_isSaying_0 dd_X10_isSaying_0b.2.1) rfl (by decide) wd318 inX5 rfl).to, ?_⟩
  refine List.forall_mem_cons.mpr ⟨(s_iloadn (am_dp pw_X10_isSaying_0 dd_X10_isSaying_0b.2.2.1) rfl).to, ?_⟩
  refine List.forall_mem_cons.mpr ⟨(s_aald (am_dp pw_X10_isSaying_0 dd_X10_isSaying_0b.2.2.2.1)).to, ?_⟩
  refine List.forall_mem_cons.mpr ⟨(s_get (ci := 6) (k := 5) (am_dp pw_X10_isSaying_0 dd_X10_isSaying_0b.2.2.2.2.1) rfl (by decide) wd255 inX6 rfl).to, ?_⟩
  refine List.forall_mem_cons.mpr ⟨(s_icmp_ge (am_dp pw_X10_isSaying_0 dd_X10_isSaying_0b.2.2.2.2.2.1) (by decide)).to, ?_⟩
  refine List.forall_mem_cons.mpr ⟨(s_iconst (am_dp pw_X10_isSaying_0 dd_X10_isSaying_0b.2.2.2.2.2.2.1) (by decide)).to, ?_⟩
  refine List.forall_mem_cons.mpr ⟨(s_goto (am_dp pw_X10_isSaying_0 dd_X10_isSaying_0b.2.2.2.2.2.2.2) (by decide)).to, ?_⟩
  refine List.forall_mem_cons.mpr ⟨(s_iconst (am_dp pw_X10_isSaying_32 dd_X10_isSaying_32a.1) (by decide)).to, ?_⟩
  refine List.forall_mem_cons.mpr ⟨s_zret (am_dp pw_X10_isSaying_32 dd_X10_isSaying_32a.2) rfl, ?_⟩
  exact fun _ h => absurd h List.not_mem_nil
theorem sn_tX10_putFour : ∀ q ∈ tX10_putFour, am_Snd am_P0 RX10 cX10_putFour 3 (Option.none : Option FieldType) "putFour" q.1 q.2 := by
  unfold tX10_putFour
  refine List.forall_mem_cons.mpr ⟨(s_bipush (am_dp pw_X10_putFour_0 dd_X10_putFour_0a.1) (by decide)).to, ?_⟩
  refine List.forall_mem_cons.mpr ⟨(s_istoren (am_dp pw_X10_putFour_0 dd_X10_putFour_0a.2.1) rfl (by decide)).to, ?_⟩
  refine List.forall_mem_cons.mpr ⟨(s_iloadn (am_dp pw_X10_putFour_0 dd_X10_putFour_0a.2.2.1) rfl).to, ?_⟩
  refine List.forall_mem_cons.mpr ⟨(s_if_lt (am_dp pw_X10_putFour_0 dd_X10_putFour_0a.2.2.2.1) (by decide)).to, ?_⟩
  refine List.forall_mem_cons.mpr ⟨(s_aloadn (am_dp pw_X10_putFour_0 dd_X10_putFour_0a.2.2.2.2.1) rfl).to, ?_⟩
  refine List.forall_mem_cons.mpr ⟨(s_get (ci := 10) (k := 0) (am_dp pw_X10_putFour_0 dd_X10_putFour_0a.2.2.2.2.2.1) rfl (by decide) wd579 inX10 rfl).to, ?_⟩
  refine List.forall_mem_cons.mpr ⟨(s_aloadn (am_dp pw_X10_putFour_0 dd_X10_putFour_0a.2.2.2.2.2.2.1) rfl).to, ?_⟩
  refine List.forall_mem_cons.mpr ⟨(s_get (ci := 10) (k := 1) (am_dp pw_X10_putFour_0 dd_X10_putFour_0a.2.2.2.2.2.2.2) rfl (by decide) wd580 inX10 rfl).to, ?_⟩
  refine List.forall_mem_cons.mpr ⟨(s_iloadn (am_dp pw_X10_putFour_0 dd_X10_putFour_0b.1) rfl).to, ?_⟩
  refine List.forall_mem_cons.mpr ⟨(s_iloadn (am_dp pw_X10_putFour_0 dd_X10_putFour_0b.2.1) rfl).to, ?_⟩
  refine List.forall_mem_cons.mpr ⟨(s_iushr (am_dp pw_X10_putFour_0 dd_X10_putFour_0b.2.2.1)).to, ?_⟩
  refine List.forall_mem_cons.mpr ⟨(s_sipush (am_dp pw_X10_putFour_0 dd_X10_putFour_0b.2.2.2.1) (by decide)).to, ?_⟩
  refine List.forall_mem_cons.mpr ⟨(s_iand (am_dp pw_X10_putFour_0 dd_X10_putFour_0b.2.2.2.2.1)).to, ?_⟩
  refine List.forall_mem_cons.mpr ⟨(s_iast (am_dp pw_X10_putFour_0 dd_X10_putFour_0b.2.2.2.2.2.1)).to, ?_⟩
  refine List.forall_mem_cons.mpr ⟨(s_aloadn (am_dp pw_X10_putFour_0 dd_X10_putFour_0b.2.2.2.2.2.2.1) rfl).to, ?_⟩
  refine List.forall_mem_cons.mpr ⟨(s_dup (am_dp pw_X10_putFour_0 dd_X10_putFour_0b.2.2.2.2.2.2.2)).to, ?_⟩
  refine List.forall_mem_cons.mpr ⟨(s_get (ci := 10) (k := 1) (am_dp pw_X10_putFour_0 dd_X10_putFour_0c.1) rfl (by decide) wd580 inX10 rfl).to, ?_⟩
  refine List.forall_mem_cons.mpr ⟨(s_iconst (am_dp pw_X10_putFour_0 dd_X10_putFour_0c.2.1) (by decide)).to, ?_⟩
  refine List.forall_mem_cons.mpr ⟨(s_iadd (am_dp pw_X10_putFour_0 dd_X10_putFour_0c.2.2.1)).to, ?_⟩
  refine List.forall_mem_cons.mpr ⟨(s_put (ci := 10) (k := 1) (am_dp pw_X10_putFour_0 dd_X10_putFour_0c.2.2.2) rfl (by decide) wd580 inX10 tyX10_ok nmX10 rfl rfl).to, ?_⟩
  refine List.forall_mem_cons.mpr ⟨(s_iinc (am_dp pw_X10_putFour_32 dd_X10_putFour_32a.1) (by decide) (by decide)).to, ?_⟩
  refine List.forall_mem_cons.mpr ⟨(s_goto (am_dp pw_X10_putFour_32 dd_X10_putFour_32a.2.1) (by decide)).to, ?_⟩
  refine List.forall_mem_cons.mpr ⟨s_vret (am_dp pw_X10_putFour_32 dd_X10_putFour_32a.2.2) rfl, ?_⟩
  exact fun _ h => absurd h List.not_mem_nil
theorem sn_tX10_forget : ∀ q ∈ tX10_forget, am_Snd am_P0 RX10 cX10_forget 3 (Option.none : Option FieldType) "forget" q.1 q.2 := by
  unfold tX10_forget
  refine List.forall_mem_cons.mpr ⟨(s_aloadn (am_dp pw_X10_forget_0 dd_X10_forget_0a.1) rfl).to, ?_⟩
  refine List.forall_mem_cons.mpr ⟨(s_get (ci := 10) (k := 7) (am_dp pw_X10_forget_0 dd_X10_forget_0a.2.1) rfl (by decide) wd586 inX10 rfl).to, ?_⟩
  refine List.forall_mem_cons.mpr ⟨(s_iloadn (am_dp pw_X10_forget_0 dd_X10_forget_0a.2.2.1) rfl).to, ?_⟩
  refine List.forall_mem_cons.mpr ⟨(s_aald (am_dp pw_X10_forget_0 dd_X10_forget_0a.2.2.2.1)).to, ?_⟩
  refine List.forall_mem_cons.mpr ⟨zw_cv74 (am_dp pw_X10_forget_0 dd_X10_forget_0a.2.2.2.2.1) wd1278, ?_⟩
  refine List.forall_mem_cons.mpr ⟨(s_iconst (am_dp pw_X10_forget_0 dd_X10_forget_0a.2.2.2.2.2.1) (by decide)).to, ?_⟩
  refine List.forall_mem_cons.mpr ⟨(s_istoren (am_dp pw_X10_forget_0 dd_X10_forget_0a.2.2.2.2.2.2.1) rfl (by decide)).to, ?_⟩
  refine List.forall_mem_cons.mpr ⟨(s_iloadn (am_dp pw_X10_forget_0 dd_X10_forget_0a.2.2.2.2.2.2.2) rfl).to, ?_⟩
  refine List.forall_mem_cons.mpr ⟨(s_aloadn (am_dp pw_X10_forget_0 dd_X10_forget_0b.1) rfl).to, ?_⟩
  refine List.forall_mem_cons.mpr ⟨(s_get (ci := 10) (k := 2) (am_dp pw_X10_forget_0 dd_X10_forget_0b.2.1) rfl (by decide) wd581 inX10 rfl).to, ?_⟩
  refine List.forall_mem_cons.mpr ⟨(s_get (ci := 5) (k := 3) (am_dp pw_X10_forget_0 dd_X10_forget_0b.2.2.1) rfl (by decide) wd315 inX5 rfl).to, ?_⟩
  refine List.forall_mem_cons.mpr ⟨(s_icmp_ge (am_dp pw_X10_forget_0 dd_X10_forget_0b.2.2.2.1) (by decide)).to, ?_⟩
  refine List.forall_mem_cons.mpr ⟨(s_aloadn (am_dp pw_X10_forget_0 dd_X10_forget_0b.2.2.2.2.1) rfl).to, ?_⟩
  refine List.forall_mem_cons.mpr ⟨(s_get (ci := 10) (k := 7) (am_dp pw_X10_forget_0 dd_X10_forget_0b.2.2.2.2.2.1) rfl (by decide) wd586 inX10 rfl).to, ?_⟩
  refine List.forall_mem_cons.mpr ⟨(s_iloadn (am_dp pw_X10_forget_0 dd_X10_forget_0b.2.2.2.2.2.2.1) rfl).to, ?_⟩
  refine List.forall_mem_cons.mpr ⟨(s_aald (am_dp pw_X10_forget_0 dd_X10_forget_0b.2.2.2.2.2.2.2)).to, ?_⟩
  refine List.forall_mem_cons.mpr ⟨(s_iconst (am_dp pw_X10_forget_0 dd_X10_forget_0c.1) (by decide)).to, ?_⟩
  refine List.forall_mem_cons.mpr ⟨(s_put (ci := 8) (k := 6) (am_dp pw_X10_forget_0 dd_X10_forget_0c.2) rfl (by decide) wd527 inX8 tyX8_ok nmX8 rfl rfl).to, ?_⟩
  refine List.forall_mem_cons.mpr ⟨(s_iinc (am_dp pw_X10_forget_32 dd_X10_forget_32a.1) (by decide) (by decide)).to, ?_⟩
  refine List.forall_mem_cons.mpr ⟨(s_goto (am_dp pw_X10_forget_32 dd_X10_forget_32a.2.1) (by decide)).to, ?_⟩
  refine List.forall_mem_cons.mpr ⟨(s_aloadn (am_dp pw_X10_forget_32 dd_X10_forget_32a.2.2.1) rfl).to, ?_⟩
  refine List.forall_mem_cons.mpr ⟨(s_iconst (am_dp pw_X10_forget_32 dd_X10_forget_32a.2.2.2.1) (by decide)).to, ?_⟩
  refine List.forall_mem_cons.mpr ⟨(s_put (ci := 10) (k := 13) (am_dp pw_X10_forget_32 dd_X10_forget_32a.2.2.2.2.1) rfl (by decide) wd592 inX10 tyX10_ok nmX10 rfl rfl).to, ?_⟩
  refine List.forall_mem_cons.mpr ⟨s_vret (am_dp pw_X10_forget_32 dd_X10_forget_32a.2.2.2.2.2) rfl, ?_⟩
  exact fun _ h => absurd h List.not_mem_nil
theorem sn_tX10_settled : ∀ q ∈ tX10_settled, am_Snd am_P0 RX10 cX10_settled 2 (Option.some (FieldType.object "ToldTracks$Track")) "settled" q.1 q.2 := by
  unfold tX10_settled
  refine List.forall_mem_cons.mpr ⟨(s_aloadn (am_dp pw_X10_settled_0 dd_X10_settled_0a.1) rfl).to, ?_⟩
  refine List.forall_mem_cons.mpr ⟨(s_get (ci := 10) (k := 7) (am_dp pw_X10_settled_0 dd_X10_settled_0a.2.1) rfl (by decide) wd586 inX10 rfl).to, ?_⟩
  refine List.forall_mem_cons.mpr ⟨(s_iloadn (am_dp pw_X10_settled_0 dd_X10_settled_0a.2.2.1) rfl).to, ?_⟩
  refine List.forall_mem_cons.mpr ⟨(s_aald (am_dp pw_X10_settled_0 dd_X10_settled_0a.2.2.2.1)).to, ?_⟩
  refine List.forall_mem_cons.mpr ⟨zw_cv83 (am_dp pw_X10_settled_0 dd_X10_settled_0a.2.2.2.2.1) wd933, ?_⟩
  refine List.forall_mem_cons.mpr ⟨(s_aloadn (am_dp pw_X10_settled_0 dd_X10_settled_0a.2.2.2.2.2.1) rfl).to, ?_⟩
  refine List.forall_mem_cons.mpr ⟨(s_get (ci := 10) (k := 7) (am_dp pw_X10_settled_0 dd_X10_settled_0a.2.2.2.2.2.2.1) rfl (by decide) wd586 inX10 rfl).to, ?_⟩
  refine List.forall_mem_cons.mpr ⟨(s_iloadn (am_dp pw_X10_settled_0 dd_X10_settled_0a.2.2.2.2.2.2.2) rfl).to, ?_⟩
  refine List.forall_mem_cons.mpr ⟨(s_aald (am_dp pw_X10_settled_0 dd_X10_settled_0b.1)).to, ?_⟩
  refine List.forall_mem_cons.mpr ⟨s_aret (am_dp pw_X10_settled_0 dd_X10_settled_0b.2) rfl (Or.inl ⟨_, rfl⟩), ?_⟩
  exact fun _ h => absurd h List.not_mem_nil
theorem sn_tX10_sayersOf : ∀ q ∈ tX10_sayersOf, am_Snd am_P0 RX10 cX10_sayersOf 5 (Option.some FieldType.int) "sayersOf" q.1 q.2 := by
  unfold tX10_sayersOf
  refine List.forall_mem_cons.mpr ⟨(s_aloadn (am_dp pw_X10_sayersOf_0 dd_X10_sayersOf_0a.1) rfl).to, ?_⟩
  refine List.forall_mem_cons.mpr ⟨(s_get (ci := 10) (k := 2) (am_dp pw_X10_sayersOf_0 dd_X10_sayersOf_0a.2.1) rfl (by decide) wd581 inX10 rfl).to, ?_⟩
  refine List.forall_mem_cons.mpr ⟨(s_get (ci := 5) (k := 4) (am_dp pw_X10_sayersOf_0 dd_X10_sayersOf_0a.2.2.1) rfl (by decide) wd318 inX5 rfl).to, ?_⟩
  refine List.forall_mem_cons.mpr ⟨(s_iloadn (am_dp pw_X10_sayersOf_0 dd_X10_sayersOf_0a.2.2.2.1) rfl).to, ?_⟩
  refine List.forall_mem_cons.mpr ⟨(s_aald (am_dp pw_X10_sayersOf_0 dd_X10_sayersOf_0a.2.2.2.2.1)).to, ?_⟩
  refine List.forall_mem_cons.mpr ⟨(s_astoren (am_dp pw_X10_sayersOf_0 dd_X10_sayersOf_0a.2.2.2.2.2.1) rfl (by decide)).to, ?_⟩
  refine List.forall_mem_cons.mpr ⟨(s_iconst (am_dp pw_X10_sayersOf_0 dd_X10_sayersOf_0a.2.2.2.2.2.2.1) (by decide)).to, ?_⟩
  refine List.forall_mem_cons.mpr ⟨(s_istoren (am_dp pw_X10_sayersOf_0 dd_X10_sayersOf_0a.2.2.2.2.2.2.2) rfl (by decide)).to, ?_⟩
  refine List.forall_mem_cons.mpr ⟨(s_iconst (am_dp pw_X10_sayersOf_0 dd_X10_sayersOf_0b.1) (by decide)).to, ?_⟩
  refine List.forall_mem_cons.mpr ⟨(s_istore (am_dp pw_X10_sayersOf_0 dd_X10_sayersOf_0b.2.1) (by decide)).to, ?_⟩
  refine List.forall_mem_cons.mpr ⟨(s_iload (am_dp pw_X10_sayersOf_0 dd_X10_sayersOf_0b.2.2.1)).to, ?_⟩
  refine List.forall_mem_cons.mpr ⟨(s_aloadn (am_dp pw_X10_sayersOf_0 dd_X10_sayersOf_0b.2.2.2.1) rfl).to, ?_⟩
  refine List.forall_mem_cons.mpr ⟨(s_get (ci := 10) (k := 2) (am_dp pw_X10_sayersOf_0 dd_X10_sayersOf_0b.2.2.2.2.1) rfl (by decide) wd581 inX10 rfl).to, ?_⟩
  refine List.forall_mem_cons.mpr ⟨(s_get (ci := 5) (k := 3) (am_dp pw_X10_sayersOf_0 dd_X10_sayersOf_0b.2.2.2.2.2.1) rfl (by decide) wd315 inX5 rfl).to, ?_⟩
  refine List.forall_mem_cons.mpr ⟨(s_icmp_ge (am_dp pw_X10_sayersOf_0 dd_X10_sayersOf_0b.2.2.2.2.2.2.1) (by decide)).to, ?_⟩
  refine List.forall_mem_cons.mpr ⟨(s_iload (am_dp pw_X10_sayersOf_0 dd_X10_sayersOf_0b.2.2.2.2.2.2.2)).to, ?_⟩
  refine List.forall_mem_cons.mpr ⟨(s_iloadn (am_dp pw_X10_sayersOf_0 dd_X10_sayersOf_0c.1) rfl).to, ?_⟩
  refine List.forall_mem_cons.mpr ⟨(s_icmp_eq (am_dp pw_X10_sayersOf_0 dd_X10_sayersOf_0c.2) (by decide)).to, ?_⟩
  refine List.forall_mem_cons.mpr ⟨(s_aloadn (am_dp pw_X10_sayersOf_32 dd_X10_sayersOf_32a.1) rfl).to, ?_⟩
  refine List.forall_mem_cons.mpr ⟨(s_get (ci := 6) (k := 5) (am_dp pw_X10_sayersOf_32 dd_X10_sayersOf_32a.2.1) rfl (by decide) wd255 inX6 rfl).to, ?_⟩
  refine List.forall_mem_cons.mpr ⟨(s_if_le (am_dp pw_X10_sayersOf_32 dd_X10_sayersOf_32a.2.2.1) (by decide)).to, ?_⟩
  refine List.forall_mem_cons.mpr ⟨(s_aloadn (am_dp pw_X10_sayersOf_32 dd_X10_sayersOf_32a.2.2.2.1) rfl).to, ?_⟩
  refine List.forall_mem_cons.mpr ⟨(s_get (ci := 10) (k := 7) (am_dp pw_X10_sayersOf_32 dd_X10_sayersOf_32a.2.2.2.2.1) rfl (by decide) wd586 inX10 rfl).to, ?_⟩
  refine List.forall_mem_cons.mpr ⟨(s_iload (am_dp pw_X10_sayersOf_32 dd_X10_sayersOf_32a.2.2.2.2.2.1)).to, ?_⟩
  refine List.forall_mem_cons.mpr ⟨(s_aald (am_dp pw_X10_sayersOf_32 dd_X10_sayersOf_32a.2.2.2.2.2.2.1)).to, ?_⟩
  refine List.forall_mem_cons.mpr ⟨(s_aloadn (am_dp pw_X10_sayersOf_32 dd_X10_sayersOf_32a.2.2.2.2.2.2.2) rfl).to, ?_⟩
  refine List.forall_mem_cons.mpr ⟨(s_iconst (am_dp pw_X10_sayersOf_32 dd_X10_sayersOf_32b.1) (by decide)).to, ?_⟩
  refine List.forall_mem_cons.mpr ⟨(s_iconst (am_dp pw_X10_sayersOf_32 dd_X10_sayersOf_32b.2.1) (by decide)).to, ?_⟩
  refine List.forall_mem_cons.mpr ⟨zw_cv79 (am_dp pw_X10_sayersOf_32 dd_X10_sayersOf_32b.2.2.1) wd1124, ?_⟩
  refine List.forall_mem_cons.mpr ⟨(s_if_eq (am_dp pw_X10_sayersOf_32 dd_X10_sayersOf_32b.2.2.2.1) (by decide)).to, ?_⟩
  refine List.forall_mem_cons.mpr ⟨(s_iloadn (am_dp pw_X10_sayersOf_32 dd_X10_sayersOf_32b.2.2.2.2.1) rfl).to, ?_⟩
  refine List.forall_mem_cons.mpr ⟨(s_iconst (am_dp pw_X10_sayersOf_32 dd_X10_sayersOf_32b.2.2.2.2.2.1) (by decide)).to, ?_⟩
  refine List.forall_mem_cons.mpr ⟨(s_iload (am_dp pw_X10_sayersOf_32 dd_X10_sayersOf_32b.2.2.2.2.2.2.1)).to, ?_⟩
  refine List.forall_mem_cons.mpr ⟨(s_ishl (am_dp pw_X10_sayersOf_32 dd_X10_sayersOf_32b.2.2.2.2.2.2.2)).to, ?_⟩
  refine List.forall_mem_cons.mpr ⟨(s_ior (am_dp pw_X10_sayersOf_32 dd_X10_sayersOf_32c.1)).to, ?_⟩
  refine List.forall_mem_cons.mpr ⟨(s_istoren (am_dp pw_X10_sayersOf_32 dd_X10_sayersOf_32c.2.1) rfl (by decide)).to, ?_⟩
  refine List.forall_mem_cons.mpr ⟨(s_iinc (am_dp pw_X10_sayersOf_32 dd_X10_sayersOf_32c.2.2) (by decide) (by decide)).to, ?_⟩
  refine List.forall_mem_cons.mpr ⟨(s_goto (am_dp pw_X10_sayersOf_64 dd_X10_sayersOf_64a.1) (by decide)).to, ?_⟩
  refine List.forall_mem_cons.mpr ⟨(s_iloadn (am_dp pw_X10_sayersOf_64 dd_X10_sayersOf_64a.2.1) rfl).to, ?_⟩
  refine List.forall_mem_cons.mpr ⟨s_iret (am_dp pw_X10_sayersOf_64 dd_X10_sayersOf_64a.2.2) rfl, ?_⟩
  exact fun _ h => absurd h List.not_mem_nil
theorem sn_tX10_kindsOf : ∀ q ∈ tX10_kindsOf, am_Snd am_P0 RX10 cX10_kindsOf 3 (Option.some FieldType.int) "kindsOf" q.1 q.2 := by
  unfold tX10_kindsOf
  refine List.forall_mem_cons.mpr ⟨(s_aloadn (am_dp pw_X10_kindsOf_0 dd_X10_kindsOf_0a.1) rfl).to, ?_⟩
  refine List.forall_mem_cons.mpr ⟨(s_get (ci := 10) (k := 7) (am_dp pw_X10_kindsOf_0 dd_X10_kindsOf_0a.2.1) rfl (by decide) wd586 inX10 rfl).to, ?_⟩
  refine List.forall_mem_cons.mpr ⟨(s_iloadn (am_dp pw_X10_kindsOf_0 dd_X10_kindsOf_0a.2.2.1) rfl).to, ?_⟩
  refine List.forall_mem_cons.mpr ⟨(s_aald (am_dp pw_X10_kindsOf_0 dd_X10_kindsOf_0a.2.2.2.1)).to, ?_⟩
  refine List.forall_mem_cons.mpr ⟨(s_astoren (am_dp pw_X10_kindsOf_0 dd_X10_kindsOf_0a.2.2.2.2.1) rfl (by decide)).to, ?_⟩
  refine List.forall_mem_cons.mpr ⟨(s_aloadn (am_dp pw_X10_kindsOf_0 dd_X10_kindsOf_0a.2.2.2.2.2.1) rfl).to, ?_⟩
  refine List.forall_mem_cons.mpr ⟨(s_get (ci := 8) (k := 6) (am_dp pw_X10_kindsOf_0 dd_X10_kindsOf_0a.2.2.2.2.2.2.1) rfl (by decide) wd527 inX8 rfl).to, ?_⟩
  refine List.forall_mem_cons.mpr ⟨(s_if_ne (am_dp pw_X10_kindsOf_0 dd_X10_kindsOf_0a.2.2.2.2.2.2.2) (by decide)).to, ?_⟩
  refine List.forall_mem_cons.mpr ⟨(s_aloadn (am_dp pw_X10_kindsOf_0 dd_X10_kindsOf_0b.1) rfl).to, ?_⟩
  refine List.forall_mem_cons.mpr ⟨zw_cv98 (am_dp pw_X10_kindsOf_0 dd_X10_kindsOf_0b.2.1) wd1094, ?_⟩
  refine List.forall_mem_cons.mpr ⟨(s_aloadn (am_dp pw_X10_kindsOf_0 dd_X10_kindsOf_0b.2.2.1) rfl).to, ?_⟩
  refine List.forall_mem_cons.mpr ⟨(s_aloadn (am_dp pw_X10_kindsOf_0 dd_X10_kindsOf_0b.2.2.2.1) rfl).to, ?_⟩
  refine List.forall_mem_cons.mpr ⟨zw_cv93 (am_dp pw_X10_kindsOf_0 dd_X10_kindsOf_0b.2.2.2.2.1) wd1104, ?_⟩
  refine List.forall_mem_cons.mpr ⟨(s_aloadn (am_dp pw_X10_kindsOf_0 dd_X10_kindsOf_0b.2.2.2.2.2.1) rfl).to, ?_⟩
  refine List.forall_mem_cons.mpr ⟨(s_iloadn (am_dp pw_X10_kindsOf_0 dd_X10_kindsOf_0b.2.2.2.2.2.2.1) rfl).to, ?_⟩
  refine List.forall_mem_cons.mpr ⟨zw_cv155 (am_dp pw_X10_kindsOf_0 dd_X10_kindsOf_0b.2.2.2.2.2.2.2) wd1120, ?_⟩
  refine List.forall_mem_cons.mpr ⟨(s_if_eq (am_dp pw_X10_kindsOf_0 dd_X10_kindsOf_0c.1) (by decide)).to, ?_⟩
  refine List.forall_mem_cons.mpr ⟨(s_iconst (am_dp pw_X10_kindsOf_0 dd_X10_kindsOf_0c.2) (by decide)).to, ?_⟩
  refine List.forall_mem_cons.mpr ⟨(s_goto (am_dp pw_X10_kindsOf_32 dd_X10_kindsOf_32a.1) (by decide)).to, ?_⟩
  refine List.forall_mem_cons.mpr ⟨(s_iconst (am_dp pw_X10_kindsOf_32 dd_X10_kindsOf_32a.2.1) (by decide)).to, ?_⟩
  refine List.forall_mem_cons.mpr ⟨zw_cs148 (am_dp pw_X10_kindsOf_32 dd_X10_kindsOf_32a.2.2.1) wd1004, ?_⟩
  refine List.forall_mem_cons.mpr ⟨(s_iconst (am_dp pw_X10_kindsOf_32 dd_X10_kindsOf_32a.2.2.2.1) (by decide)).to, ?_⟩
  refine List.forall_mem_cons.mpr ⟨(s_ishl (am_dp pw_X10_kindsOf_32 dd_X10_kindsOf_32a.2.2.2.2.1)).to, ?_⟩
  refine List.forall_mem_cons.mpr ⟨(s_ior (am_dp pw_X10_kindsOf_32 dd_X10_kindsOf_32a.2.2.2.2.2.1)).to, ?_⟩
  refine List.forall_mem_cons.mpr ⟨(s_put (ci := 8) (k := 7) (am_dp pw_X10_kindsOf_32 dd_X10_kindsOf_32a.2.2.2.2.2.2.1) rfl (by decide) wd528 inX8 tyX8_ok nmX8 rfl rfl).to, ?_⟩
  refine List.forall_mem_cons.mpr ⟨(s_aloadn (am_dp pw_X10_kindsOf_32 dd_X10_kindsOf_32a.2.2.2.2.2.2.2) rfl).to, ?_⟩
  refine List.forall_mem_cons.mpr ⟨(s_iconst (am_dp pw_X10_kindsOf_32 dd_X10_kindsOf_32b.1) (by decide)).to, ?_⟩
  refine List.forall_mem_cons.mpr ⟨(s_put (ci := 8) (k := 6) (am_dp pw_X10_kindsOf_32 dd_X10_kindsOf_32b.2.1) rfl (by decide) wd527 inX8 tyX8_ok nmX8 rfl rfl).to, ?_⟩
  refine List.forall_mem_cons.mpr ⟨(s_aloadn (am_dp pw_X10_kindsOf_32 dd_X10_kindsOf_32b.2.2.1) rfl).to, ?_⟩
  refine List.forall_mem_cons.mpr ⟨(s_get (ci := 8) (k := 7) (am_dp pw_X10_kindsOf_32 dd_X10_kindsOf_32b.2.2.2.1) rfl (by decide) wd528 inX8 rfl).to, ?_⟩
  refine List.forall_mem_cons.mpr ⟨s_iret (am_dp pw_X10_kindsOf_32 dd_X10_kindsOf_32b.2.2.2.2) rfl, ?_⟩
  exact fun _ h => absurd h List.not_mem_nil
theorem sn_tX10_plainestOf : ∀ q ∈ tX10_plainestOf, am_Snd am_P0 RX10 cX10_plainestOf 2 (Option.some FieldType.int) "plainestOf" q.1 q.2 := by
  unfold tX10_plainestOf
  refine List.forall_mem_cons.mpr ⟨(s_iconst (am_dp pw_X10_plainestOf_0 dd_X10_plainestOf_0a.1) (by decide)).to, ?_⟩
  refine List.forall_mem_cons.mpr ⟨(s_istoren (am_dp pw_X10_plainestOf_0 dd_X10_plainestOf_0a.2.1) rfl (by decide)).to, ?_⟩
  refine List.forall_mem_cons.mpr ⟨(s_iloadn (am_dp pw_X10_plainestOf_0 dd_X10_plainestOf_0a.2.2.1) rfl).to, ?_⟩
  refine List.forall_mem_cons.mpr ⟨(s_iconst (am_dp pw_X10_plainestOf_0 dd_X10_plainestOf_0a.2.2.2.1) (by decide)).to, ?_⟩
  refine List.forall_mem_cons.mpr ⟨(s_icmp_ge (am_dp pw_X10_plainestOf_0 dd_X10_plainestOf_0a.2.2.2.2.1) (by decide)).to, ?_⟩
  refine List.forall_mem_cons.mpr ⟨(s_iloadn (am_dp pw_X10_plainestOf_0 dd_X10_plainestOf_0a.2.2.2.2.2.1) rfl).to, ?_⟩
  refine List.forall_mem_cons.mpr ⟨(s_iloadn (am_dp pw_X10_plainestOf_0 dd_X10_plainestOf_0a.2.2.2.2.2.2.1) rfl).to, ?_⟩
  refine List.forall_mem_cons.mpr ⟨(s_ishr (am_dp pw_X10_plainestOf_0 dd_X10_plainestOf_0a.2.2.2.2.2.2.2)).to, ?_⟩
  refine List.forall_mem_cons.mpr ⟨(s_iconst (am_dp pw_X10_plainestOf_0 dd_X10_plainestOf_0b.1) (by decide)).to, ?_⟩
  refine List.forall_mem_cons.mpr ⟨(s_iand (am_dp pw_X10_plainestOf_0 dd_X10_plainestOf_0b.2.1)).to, ?_⟩
  refine List.forall_mem_cons.mpr ⟨(s_if_eq (am_dp pw_X10_plainestOf_0 dd_X10_plainestOf_0b.2.2.1) (by decide)).to, ?_⟩
  refine List.forall_mem_cons.mpr ⟨(s_iloadn (am_dp pw_X10_plainestOf_0 dd_X10_plainestOf_0b.2.2.2.1) rfl).to, ?_⟩
  refine List.forall_mem_cons.mpr ⟨s_iret (am_dp pw_X10_plainestOf_0 dd_X10_plainestOf_0b.2.2.2.2.1) rfl, ?_⟩
  refine List.forall_mem_cons.mpr ⟨(s_iinc (am_dp pw_X10_plainestOf_0 dd_X10_plainestOf_0b.2.2.2.2.2.1) (by decide) (by decide)).to, ?_⟩
  refine List.forall_mem_cons.mpr ⟨(s_goto (am_dp pw_X10_plainestOf_0 dd_X10_plainestOf_0b.2.2.2.2.2.2.1) (by decide)).to, ?_⟩
  refine List.forall_mem_cons.mpr ⟨(s_iconst (am_dp pw_X10_plainestOf_0 dd_X10_plainestOf_0b.2.2.2.2.2.2.2) (by decide)).to, ?_⟩
  refine List.forall_mem_cons.mpr ⟨s_iret (am_dp pw_X10_plainestOf_0 dd_X10_plainestOf_0c) rfl, ?_⟩
  exact fun _ h => absurd h List.not_mem_nil
end
section
/-! the machine follows each instruction (by program: gen_prog.py) -/
theorem sn_tX10_explainersOf : ∀ q ∈ tX10_explainersOf, am_Snd am_P0 RX10 cX10_explainersOf 5 (Option.some FieldType.int) "explainersOf" q.1 q.2 := by
  unfold tX10_explainersOf
  refine List.forall_mem_cons.mpr ⟨(s_aloadn (am_dp pw_X10_explainersOf_0 dd_X10_explainersOf_0a.1) rfl).to, ?_⟩
  refine List.forall_mem_cons.mpr ⟨(s_get (ci := 10) (k := 2) (am_dp pw_X10_explainersOf_0 dd_X10_explainersOf_0a.2.1) rfl (by decide) wd581 inX10 rfl).to, ?_⟩
  refine List.forall_mem_cons.mpr ⟨(s_get (ci := 5) (k := 5) (am_dp pw_X10_explainersOf_0 dd_X10_explainersOf_0a.2.2.1) rfl (by decide) wd321 inX5 rfl).to, ?_⟩
  refine List.forall_mem_cons.mpr ⟨(s_astoren (am_dp pw_X10_explainersOf_0 dd_X10_explainersOf_0a.2.2.2.1) rfl (by decide)).to, ?_⟩
  refine List.forall_mem_cons.mpr ⟨(s_iconst (am_dp pw_X10_explainersOf_0 dd_X10_explainersOf_0a.2.2.2.2.1) (by decide)).to, ?_⟩
  refine List.forall_mem_cons.mpr ⟨(s_istoren (am_dp pw_X10_explainersOf_0 dd_X10_explainersOf_0a.2.2.2.2.2.1) rfl (by decide)).to, ?_⟩
  refine List.forall_mem_cons.mpr ⟨(s_iconst (am_dp pw_X10_explainersOf_0 dd_X10_explainersOf_0a.2.2.2.2.2.2.1) (by decide)).to, ?_⟩
  refine List.forall_mem_cons.mpr ⟨(s_istore (am_dp pw_X10_explainersOf_0 dd_X10_explainersOf_0a.2.2.2.2.2.2.2) (by decide)).to, ?_⟩
  refine List.forall_mem_cons.mpr ⟨(s_iload (am_dp pw_X10_explainersOf_0 dd_X10_explainersOf_0b.1)).to, ?_⟩
  refine List.forall_mem_cons.mpr ⟨(s_aloadn (am_dp pw_X10_explainersOf_0 dd_X10_explainersOf_0b.2.1) rfl).to, ?_⟩
  refine List.forall_mem_cons.mpr ⟨(s_get (ci := 10) (k := 2) (am_dp pw_X10_explainersOf_0 dd_X10_explainersOf_0b.2.2.1) rfl (by decide) wd581 inX10 rfl).to, ?_⟩
  refine List.forall_mem_cons.mpr ⟨(s_get (ci := 5) (k := 3) (am_dp pw_X10_explainersOf_0 dd_X10_explainersOf_0b.2.2.2.1) rfl (by decide) wd315 inX5 rfl).to, ?_⟩
  refine List.forall_mem_cons.mpr ⟨(s_icmp_ge (am_dp pw_X10_explainersOf_0 dd_X10_explainersOf_0b.2.2.2.2.1) (by decide)).to, ?_⟩
  refine List.forall_mem_cons.mpr ⟨(s_aloadn (am_dp pw_X10_explainersOf_0 dd_X10_explainersOf_0b.2.2.2.2.2.1) rfl).to, ?_⟩
  refine List.forall_mem_cons.mpr ⟨(s_get (ci := 10) (k := 2) (am_dp pw_X10_explainersOf_0 dd_X10_explainersOf_0b.2.2.2.2.2.2.1) rfl (by decide) wd581 inX10 rfl).to, ?_⟩
  refine List.forall_mem_cons.mpr ⟨(s_get (ci := 5) (k := 4) (am_dp pw_X10_explainersOf_0 dd_X10_explainersOf_0b.2.2.2.2.2.2.2) rfl (by decide) wd318 inX5 rfl).to, ?_⟩
  refine List.forall_mem_cons.mpr ⟨(s_iload (am_dp pw_X10_explainersOf_32 dd_X10_explainersOf_32a.1)).to, ?_⟩
  refine List.forall_mem_cons.mpr ⟨(s_aald (am_dp pw_X10_explainersOf_32 dd_X10_explainersOf_32a.2.1)).to, ?_⟩
  refine List.forall_mem_cons.mpr ⟨(s_get (ci := 6) (k := 1) (am_dp pw_X10_explainersOf_32 dd_X10_explainersOf_32a.2.2.1) rfl (by decide) wd241 inX6 rfl).to, ?_⟩
  refine List.forall_mem_cons.mpr ⟨(s_aloadn (am_dp pw_X10_explainersOf_32 dd_X10_explainersOf_32a.2.2.2.1) rfl).to, ?_⟩
  refine List.forall_mem_cons.mpr ⟨(s_get (ci := 7) (k := 1) (am_dp pw_X10_explainersOf_32 dd_X10_explainersOf_32a.2.2.2.2.1) rfl (by decide) wd181 inX7 rfl).to, ?_⟩
  refine List.forall_mem_cons.mpr ⟨(s_iloadn (am_dp pw_X10_explainersOf_32 dd_X10_explainersOf_32a.2.2.2.2.2.1) rfl).to, ?_⟩
  refine List.forall_mem_cons.mpr ⟨(s_iald (am_dp pw_X10_explainersOf_32 dd_X10_explainersOf_32a.2.2.2.2.2.2.1)).to, ?_⟩
  refine List.forall_mem_cons.mpr ⟨(s_icmp_ne (am_dp pw_X10_explainersOf_32 dd_X10_explainersOf_32a.2.2.2.2.2.2.2) (by decide)).to, ?_⟩
  refine List.forall_mem_cons.mpr ⟨(s_aloadn (am_dp pw_X10_explainersOf_32 dd_X10_explainersOf_32b.1) rfl).to, ?_⟩
  refine List.forall_mem_cons.mpr ⟨(s_iload (am_dp pw_X10_explainersOf_32 dd_X10_explainersOf_32b.2.1)).to, ?_⟩
  refine List.forall_mem_cons.mpr ⟨zw_cv154 (am_dp pw_X10_explainersOf_32 dd_X10_explainersOf_32b.2.2.1) wd929, ?_⟩
  refine List.forall_mem_cons.mpr ⟨(s_aloadn (am_dp pw_X10_explainersOf_32 dd_X10_explainersOf_32b.2.2.2.1) rfl).to, ?_⟩
  refine List.forall_mem_cons.mpr ⟨(s_get (ci := 7) (k := 3) (am_dp pw_X10_explainersOf_32 dd_X10_explainersOf_32b.2.2.2.2.1) rfl (by decide) wd185 inX7 rfl).to, ?_⟩
  refine List.forall_mem_cons.mpr ⟨(s_iloadn (am_dp pw_X10_explainersOf_32 dd_X10_explainersOf_32b.2.2.2.2.2.1) rfl).to, ?_⟩
  refine List.forall_mem_cons.mpr ⟨(s_iald (am_dp pw_X10_explainersOf_32 dd_X10_explainersOf_32b.2.2.2.2.2.2.1)).to, ?_⟩
  refine List.forall_mem_cons.mpr ⟨(s_aloadn (am_dp pw_X10_explainersOf_32 dd_X10_explainersOf_32b.2.2.2.2.2.2.2) rfl).to, ?_⟩
  refine List.forall_mem_cons.mpr ⟨(s_get (ci := 7) (k := 2) (am_dp pw_X10_explainersOf_32 dd_X10_explainersOf_32c.1) rfl (by decide) wd183 inX7 rfl).to, ?_⟩
  refine List.forall_mem_cons.mpr ⟨(s_iloadn (am_dp pw_X10_explainersOf_32 dd_X10_explainersOf_32c.2) rfl).to, ?_⟩
  refine List.forall_mem_cons.mpr ⟨(s_iald (am_dp pw_X10_explainersOf_64 dd_X10_explainersOf_64a.1)).to, ?_⟩
  refine List.forall_mem_cons.mpr ⟨zw_cv88 (am_dp pw_X10_explainersOf_64 dd_X10_explainersOf_64a.2.1) wd1078, ?_⟩
  refine List.forall_mem_cons.mpr ⟨(s_if_eq (am_dp pw_X10_explainersOf_64 dd_X10_explainersOf_64a.2.2.1) (by decide)).to, ?_⟩
  refine List.forall_mem_cons.mpr ⟨(s_iloadn (am_dp pw_X10_explainersOf_64 dd_X10_explainersOf_64a.2.2.2.1) rfl).to, ?_⟩
  refine List.forall_mem_cons.mpr ⟨(s_iconst (am_dp pw_X10_explainersOf_64 dd_X10_explainersOf_64a.2.2.2.2.1) (by decide)).to, ?_⟩
  refine List.forall_mem_cons.mpr ⟨(s_iload (am_dp pw_X10_explainersOf_64 dd_X10_explainersOf_64a.2.2.2.2.2.1)).to, ?_⟩
  refine List.forall_mem_cons.mpr ⟨(s_ishl (am_dp pw_X10_explainersOf_64 dd_X10_explainersOf_64a.2.2.2.2.2.2.1)).to, ?_⟩
  refine List.forall_mem_cons.mpr ⟨(s_ior (am_dp pw_X10_explainersOf_64 dd_X10_explainersOf_64a.2.2.2.2.2.2.2)).to, ?_⟩
  refine List.forall_mem_cons.mpr ⟨(s_istoren (am_dp pw_X10_explainersOf_64 dd_X10_explainersOf_64b.1) rfl (by decide)).to, ?_⟩
  refine List.forall_mem_cons.mpr ⟨(s_iinc (am_dp pw_X10_explainersOf_64 dd_X10_explainersOf_64b.2.1) (by decide) (by decide)).to, ?_⟩
  refine List.forall_mem_cons.mpr ⟨(s_goto (am_dp pw_X10_explainersOf_64 dd_X10_explainersOf_64b.2.2.1) (by decide)).to, ?_⟩
  refine List.forall_mem_cons.mpr ⟨(s_iloadn (am_dp pw_X10_explainersOf_64 dd_X10_explainersOf_64b.2.2.2.1) rfl).to, ?_⟩
  refine List.forall_mem_cons.mpr ⟨s_iret (am_dp pw_X10_explainersOf_64 dd_X10_explainersOf_64b.2.2.2.2) rfl, ?_⟩
  exact fun _ h => absurd h List.not_mem_nil
theorem sn_tX10_chanceOf_0 : ∀ q ∈ tX10_chanceOf_0, am_Snd am_P0 RX10 cX10_chanceOf 8 (Option.some FieldType.long) "chanceOf" q.1 q.2 := by
  unfold tX10_chanceOf_0
  refine List.forall_mem_cons.mpr ⟨(s_aloadn (am_dp pw_X10_chanceOf_0 dd_X10_chanceOf_0a.1) rfl).to, ?_⟩
  refine List.forall_mem_cons.mpr ⟨(s_get (ci := 10) (k := 7) (am_dp pw_X10_chanceOf_0 dd_X10_chanceOf_0a.2.1) rfl (by decide) wd586 inX10 rfl).to, ?_⟩
  refine List.forall_mem_cons.mpr ⟨(s_iloadn (am_dp pw_X10_chanceOf_0 dd_X10_chanceOf_0a.2.2.1) rfl).to, ?_⟩
  refine List.forall_mem_cons.mpr ⟨(s_aald (am_dp pw_X10_chanceOf_0 dd_X10_chanceOf_0a.2.2.2.1)).to, ?_⟩
  refine List.forall_mem_cons.mpr ⟨(s_astoren (am_dp pw_X10_chanceOf_0 dd_X10_chanceOf_0a.2.2.2.2.1) rfl (by decide)).to, ?_⟩
  refine List.forall_mem_cons.mpr ⟨(s_aloadn (am_dp pw_X10_chanceOf_0 dd_X10_chanceOf_0a.2.2.2.2.2.1) rfl).to, ?_⟩
  refine List.forall_mem_cons.mpr ⟨zw_cv98 (am_dp pw_X10_chanceOf_0 dd_X10_chanceOf_0a.2.2.2.2.2.2.1) wd1094, ?_⟩
  refine List.forall_mem_cons.mpr ⟨(s_aloadn (am_dp pw_X10_chanceOf_0 dd_X10_chanceOf_0a.2.2.2.2.2.2.2) rfl).to, ?_⟩
  refine List.forall_mem_cons.mpr ⟨(s_get (ci := 10) (k := 2) (am_dp pw_X10_chanceOf_0 dd_X10_chanceOf_0b.1) rfl (by decide) wd581 inX10 rfl).to, ?_⟩
  refine List.forall_mem_cons.mpr ⟨(s_get (ci := 5) (k := 2) (am_dp pw_X10_chanceOf_0 dd_X10_chanceOf_0b.2.1) rfl (by decide) wd313 inX5 rfl).to, ?_⟩
  refine List.forall_mem_cons.mpr ⟨(s_istoren (am_dp pw_X10_chanceOf_0 dd_X10_chanceOf_0b.2.2.1) rfl (by decide)).to, ?_⟩
  refine List.forall_mem_cons.mpr ⟨(s_aloadn (am_dp pw_X10_chanceOf_0 dd_X10_chanceOf_0b.2.2.2.1) rfl).to, ?_⟩
  refine List.forall_mem_cons.mpr ⟨zw_cv97 (am_dp pw_X10_chanceOf_0 dd_X10_chanceOf_0b.2.2.2.2.1) wd1214, ?_⟩
  refine List.forall_mem_cons.mpr ⟨(s_istore (am_dp pw_X10_chanceOf_0 dd_X10_chanceOf_0b.2.2.2.2.2.1) (by decide)).to, ?_⟩
  refine List.forall_mem_cons.mpr ⟨(s_aloadn (am_dp pw_X10_chanceOf_0 dd_X10_chanceOf_0b.2.2.2.2.2.2.1) rfl).to, ?_⟩
  refine List.forall_mem_cons.mpr ⟨(s_get (ci := 10) (k := 11) (am_dp pw_X10_chanceOf_0 dd_X10_chanceOf_0b.2.2.2.2.2.2.2) rfl (by decide) wd590 inX10 rfl).to, ?_⟩
  refine List.forall_mem_cons.mpr ⟨(s_lconst (am_dp pw_X10_chanceOf_0 dd_X10_chanceOf_0c.1) (by decide)).to, ?_⟩
  refine List.forall_mem_cons.mpr ⟨zw_cs322 (am_dp pw_X10_chanceOf_0 dd_X10_chanceOf_0c.2) wd1218, ?_⟩
  refine List.forall_mem_cons.mpr ⟨(s_aloadn (am_dp pw_X10_chanceOf_32 dd_X10_chanceOf_32a.1) rfl).to, ?_⟩
  refine List.forall_mem_cons.mpr ⟨(s_get (ci := 10) (k := 11) (am_dp pw_X10_chanceOf_32 dd_X10_chanceOf_32a.2.1) rfl (by decide) wd590 inX10 rfl).to, ?_⟩
  refine List.forall_mem_cons.mpr ⟨(s_iconst (am_dp pw_X10_chanceOf_32 dd_X10_chanceOf_32a.2.2.1) (by decide)).to, ?_⟩
  refine List.forall_mem_cons.mpr ⟨(s_ldc2 (am_dp pw_X10_chanceOf_32 dd_X10_chanceOf_32a.2.2.2.1) wd1219).to, ?_⟩
  refine List.forall_mem_cons.mpr ⟨(s_last (am_dp pw_X10_chanceOf_32 dd_X10_chanceOf_32a.2.2.2.2.1)).to, ?_⟩
  refine List.forall_mem_cons.mpr ⟨(s_iconst (am_dp pw_X10_chanceOf_32 dd_X10_chanceOf_32a.2.2.2.2.2.1) (by decide)).to, ?_⟩
  refine List.forall_mem_cons.mpr ⟨(s_istore (am_dp pw_X10_chanceOf_32 dd_X10_chanceOf_32a.2.2.2.2.2.2.1) (by decide)).to, ?_⟩
  refine List.forall_mem_cons.mpr ⟨(s_iload (am_dp pw_X10_chanceOf_32 dd_X10_chanceOf_32a.2.2.2.2.2.2.2)).to, ?_⟩
  refine List.forall_mem_cons.mpr ⟨(s_iload (am_dp pw_X10_chanceOf_32 dd_X10_chanceOf_32b.1)).to, ?_⟩
  refine List.forall_mem_cons.mpr ⟨(s_icmp_ge (am_dp pw_X10_chanceOf_32 dd_X10_chanceOf_32b.2.1) (by decide)).to, ?_⟩
  refine List.forall_mem_cons.mpr ⟨(s_iload (am_dp pw_X10_chanceOf_32 dd_X10_chanceOf_32b.2.2.1)).to, ?_⟩
  refine List.forall_mem_cons.mpr ⟨(s_iconst (am_dp pw_X10_chanceOf_32 dd_X10_chanceOf_32b.2.2.2.1) (by decide)).to, ?_⟩
  refine List.forall_mem_cons.mpr ⟨(s_iadd (am_dp pw_X10_chanceOf_32 dd_X10_chanceOf_32b.2.2.2.2.1)).to, ?_⟩
  refine List.forall_mem_cons.mpr ⟨(s_bipush (am_dp pw_X10_chanceOf_32 dd_X10_chanceOf_32b.2.2.2.2.2.1) (by decide)).to, ?_⟩
  refine List.forall_mem_cons.mpr ⟨zw_cs309 (am_dp pw_X10_chanceOf_32 dd_X10_chanceOf_32b.2.2.2.2.2.2.1) wd1220, ?_⟩
  refine List.forall_mem_cons.mpr ⟨(s_istore (am_dp pw_X10_chanceOf_32 dd_X10_chanceOf_32b.2.2.2.2.2.2.2) (by decide)).to, ?_⟩
  refine List.forall_mem_cons.mpr ⟨(s_iload (am_dp pw_X10_chanceOf_32 dd_X10_chanceOf_32c)).to, ?_⟩
  refine List.forall_mem_cons.mpr ⟨(s_if_le (am_dp pw_X10_chanceOf_64 dd_X10_chanceOf_64a.1) (by decide)).to, ?_⟩
  refine List.forall_mem_cons.mpr ⟨(s_aloadn (am_dp pw_X10_chanceOf_64 dd_X10_chanceOf_64a.2.1) rfl).to, ?_⟩
  refine List.forall_mem_cons.mpr ⟨(s_get (ci := 10) (k := 11) (am_dp pw_X10_chanceOf_64 dd_X10_chanceOf_64a.2.2.1) rfl (by decide) wd590 inX10 rfl).to, ?_⟩
  refine List.forall_mem_cons.mpr ⟨(s_iload (am_dp pw_X10_chanceOf_64 dd_X10_chanceOf_64a.2.2.2.1)).to, ?_⟩
  refine List.forall_mem_cons.mpr ⟨(s_aloadn (am_dp pw_X10_chanceOf_64 dd_X10_chanceOf_64a.2.2.2.2.1) rfl).to, ?_⟩
  refine List.forall_mem_cons.mpr ⟨(s_get (ci := 10) (k := 11) (am_dp pw_X10_chanceOf_64 dd_X10_chanceOf_64a.2.2.2.2.2.1) rfl (by decide) wd590 inX10 rfl).to, ?_⟩
  refine List.forall_mem_cons.mpr ⟨(s_iload (am_dp pw_X10_chanceOf_64 dd_X10_chanceOf_64a.2.2.2.2.2.2.1)).to, ?_⟩
  refine List.forall_mem_cons.mpr ⟨(s_lald (am_dp pw_X10_chanceOf_64 dd_X10_chanceOf_64a.2.2.2.2.2.2.2)).to, ?_⟩
  refine List.forall_mem_cons.mpr ⟨(s_bipush (am_dp pw_X10_chanceOf_64 dd_X10_chanceOf_64b.1) (by decide)).to, ?_⟩
  refine List.forall_mem_cons.mpr ⟨(s_iloadn (am_dp pw_X10_chanceOf_64 dd_X10_chanceOf_64b.2.1) rfl).to, ?_⟩
  refine List.forall_mem_cons.mpr ⟨(s_isub (am_dp pw_X10_chanceOf_64 dd_X10_chanceOf_64b.2.2.1)).to, ?_⟩
  refine List.forall_mem_cons.mpr ⟨(s_i2l (am_dp pw_X10_chanceOf_64 dd_X10_chanceOf_64b.2.2.2.1)).to, ?_⟩
  refine List.forall_mem_cons.mpr ⟨(s_lmul (am_dp pw_X10_chanceOf_64 dd_X10_chanceOf_64b.2.2.2.2.1)).to, ?_⟩
  refine List.forall_mem_cons.mpr ⟨(s_aloadn (am_dp pw_X10_chanceOf_64 dd_X10_chanceOf_64b.2.2.2.2.2.1) rfl).to, ?_⟩
  refine List.forall_mem_cons.mpr ⟨(s_get (ci := 10) (k := 11) (am_dp pw_X10_chanceOf_64 dd_X10_chanceOf_64b.2.2.2.2.2.2.1) rfl (by decide) wd590 inX10 rfl).to, ?_⟩
  refine List.forall_mem_cons.mpr ⟨(s_iload (am_dp pw_X10_chanceOf_64 dd_X10_chanceOf_64b.2.2.2.2.2.2.2)).to, ?_⟩
  refine List.forall_mem_cons.mpr ⟨(s_iconst (am_dp pw_X10_chanceOf_64 dd_X10_chanceOf_64c.1) (by decide)).to, ?_⟩
  refine List.forall_mem_cons.mpr ⟨(s_isub (am_dp pw_X10_chanceOf_64 dd_X10_chanceOf_64c.2.1)).to, ?_⟩
  refine List.forall_mem_cons.mpr ⟨(s_lald (am_dp pw_X10_chanceOf_64 dd_X10_chanceOf_64c.2.2)).to, ?_⟩
  refine List.forall_mem_cons.mpr ⟨(s_iloadn (am_dp pw_X10_chanceOf_96 dd_X10_chanceOf_96a.1) rfl).to, ?_⟩
  refine List.forall_mem_cons.mpr ⟨(s_i2l (am_dp pw_X10_chanceOf_96 dd_X10_chanceOf_96a.2.1)).to, ?_⟩
  refine List.forall_mem_cons.mpr ⟨(s_lmul (am_dp pw_X10_chanceOf_96 dd_X10_chanceOf_96a.2.2.1)).to, ?_⟩
  refine List.forall_mem_cons.mpr ⟨(s_ladd (am_dp pw_X10_chanceOf_96 dd_X10_chanceOf_96a.2.2.2.1)).to, ?_⟩
  refine List.forall_mem_cons.mpr ⟨(s_ldc2 (am_dp pw_X10_chanceOf_96 dd_X10_chanceOf_96a.2.2.2.2.1) wd1221).to, ?_⟩
  refine List.forall_mem_cons.mpr ⟨(s_ldiv (am_dp pw_X10_chanceOf_96 dd_X10_chanceOf_96a.2.2.2.2.2.1)).to, ?_⟩
  exact fun _ h => absurd h List.not_mem_nil
theorem sn_tX10_chanceOf_1 : ∀ q ∈ tX10_chanceOf_1, am_Snd am_P0 RX10 cX10_chanceOf 8 (Option.some FieldType.long) "chanceOf" q.1 q.2 := by
  unfold tX10_chanceOf_1
  refine List.forall_mem_cons.mpr ⟨(s_last (am_dp pw_X10_chanceOf_96 dd_X10_chanceOf_96a.2.2.2.2.2.2.1)).to, ?_⟩
  refine List.forall_mem_cons.mpr ⟨(s_iinc (am_dp pw_X10_chanceOf_96 dd_X10_chanceOf_96a.2.2.2.2.2.2.2) (by decide) (by decide)).to, ?_⟩
  refine List.forall_mem_cons.mpr ⟨(s_goto (am_dp pw_X10_chanceOf_96 dd_X10_chanceOf_96b.1) (by decide)).to, ?_⟩
  refine List.forall_mem_cons.mpr ⟨(s_aloadn (am_dp pw_X10_chanceOf_96 dd_X10_chanceOf_96b.2.1) rfl).to, ?_⟩
  refine List.forall_mem_cons.mpr ⟨(s_get (ci := 10) (k := 11) (am_dp pw_X10_chanceOf_96 dd_X10_chanceOf_96b.2.2.1) rfl (by decide) wd590 inX10 rfl).to, ?_⟩
  refine List.forall_mem_cons.mpr ⟨(s_iconst (am_dp pw_X10_chanceOf_96 dd_X10_chanceOf_96b.2.2.2.1) (by decide)).to, ?_⟩
  refine List.forall_mem_cons.mpr ⟨(s_aloadn (am_dp pw_X10_chanceOf_96 dd_X10_chanceOf_96b.2.2.2.2.1) rfl).to, ?_⟩
  refine List.forall_mem_cons.mpr ⟨(s_get (ci := 10) (k := 11) (am_dp pw_X10_chanceOf_96 dd_X10_chanceOf_96b.2.2.2.2.2.1) rfl (by decide) wd590 inX10 rfl).to, ?_⟩
  refine List.forall_mem_cons.mpr ⟨(s_iconst (am_dp pw_X10_chanceOf_96 dd_X10_chanceOf_96b.2.2.2.2.2.2.1) (by decide)).to, ?_⟩
  refine List.forall_mem_cons.mpr ⟨(s_lald (am_dp pw_X10_chanceOf_96 dd_X10_chanceOf_96b.2.2.2.2.2.2.2)).to, ?_⟩
  refine List.forall_mem_cons.mpr ⟨(s_bipush (am_dp pw_X10_chanceOf_96 dd_X10_chanceOf_96c.1) (by decide)).to, ?_⟩
  refine List.forall_mem_cons.mpr ⟨(s_iloadn (am_dp pw_X10_chanceOf_96 dd_X10_chanceOf_96c.2.1) rfl).to, ?_⟩
  refine List.forall_mem_cons.mpr ⟨(s_isub (am_dp pw_X10_chanceOf_96 dd_X10_chanceOf_96c.2.2.1)).to, ?_⟩
  refine List.forall_mem_cons.mpr ⟨(s_i2l (am_dp pw_X10_chanceOf_96 dd_X10_chanceOf_96c.2.2.2.1)).to, ?_⟩
  refine List.forall_mem_cons.mpr ⟨(s_lmul (am_dp pw_X10_chanceOf_96 dd_X10_chanceOf_96c.2.2.2.2)).to, ?_⟩
  refine List.forall_mem_cons.mpr ⟨(s_ldc2 (am_dp pw_X10_chanceOf_128 dd_X10_chanceOf_128a.1) wd1221).to, ?_⟩
  refine List.forall_mem_cons.mpr ⟨(s_ldiv (am_dp pw_X10_chanceOf_128 dd_X10_chanceOf_128a.2.1)).to, ?_⟩
  refine List.forall_mem_cons.mpr ⟨(s_last (am_dp pw_X10_chanceOf_128 dd_X10_chanceOf_128a.2.2.1)).to, ?_⟩
  refine List.forall_mem_cons.mpr ⟨(s_iinc (am_dp pw_X10_chanceOf_128 dd_X10_chanceOf_128a.2.2.2.1) (by decide) (by decide)).to, ?_⟩
  refine List.forall_mem_cons.mpr ⟨(s_goto (am_dp pw_X10_chanceOf_128 dd_X10_chanceOf_128a.2.2.2.2.1) (by decide)).to, ?_⟩
  refine List.forall_mem_cons.mpr ⟨(s_lconst (am_dp pw_X10_chanceOf_128 dd_X10_chanceOf_128a.2.2.2.2.2.1) (by decide)).to, ?_⟩
  refine List.forall_mem_cons.mpr ⟨(s_lstore (am_dp pw_X10_chanceOf_128 dd_X10_chanceOf_128a.2.2.2.2.2.2.1) (by decide)).to, ?_⟩
  refine List.forall_mem_cons.mpr ⟨(s_aloadn (am_dp pw_X10_chanceOf_128 dd_X10_chanceOf_128a.2.2.2.2.2.2.2) rfl).to, ?_⟩
  refine List.forall_mem_cons.mpr ⟨(s_get (ci := 8) (k := 14) (am_dp pw_X10_chanceOf_128 dd_X10_chanceOf_128b.1) rfl (by decide) wd541 inX8 rfl).to, ?_⟩
  refine List.forall_mem_cons.mpr ⟨(s_istore (am_dp pw_X10_chanceOf_128 dd_X10_chanceOf_128b.2.1) (by decide)).to, ?_⟩
  refine List.forall_mem_cons.mpr ⟨(s_iload (am_dp pw_X10_chanceOf_128 dd_X10_chanceOf_128b.2.2.1)).to, ?_⟩
  refine List.forall_mem_cons.mpr ⟨(s_bipush (am_dp pw_X10_chanceOf_128 dd_X10_chanceOf_128b.2.2.2.1) (by decide)).to, ?_⟩
  refine List.forall_mem_cons.mpr ⟨(s_icmp_ge (am_dp pw_X10_chanceOf_128 dd_X10_chanceOf_128b.2.2.2.2.1) (by decide)).to, ?_⟩
  refine List.forall_mem_cons.mpr ⟨(s_lload (am_dp pw_X10_chanceOf_128 dd_X10_chanceOf_128b.2.2.2.2.2.1)).to, ?_⟩
  refine List.forall_mem_cons.mpr ⟨(s_aloadn (am_dp pw_X10_chanceOf_128 dd_X10_chanceOf_128b.2.2.2.2.2.2.1) rfl).to, ?_⟩
  refine List.forall_mem_cons.mpr ⟨(s_get (ci := 10) (k := 11) (am_dp pw_X10_chanceOf_128 dd_X10_chanceOf_128b.2.2.2.2.2.2.2) rfl (by decide) wd590 inX10 rfl).to, ?_⟩
  refine List.forall_mem_cons.mpr ⟨(s_iload (am_dp pw_X10_chanceOf_160 dd_X10_chanceOf_160a.1)).to, ?_⟩
  refine List.forall_mem_cons.mpr ⟨(s_lald (am_dp pw_X10_chanceOf_160 dd_X10_chanceOf_160a.2.1)).to, ?_⟩
  refine List.forall_mem_cons.mpr ⟨(s_ladd (am_dp pw_X10_chanceOf_160 dd_X10_chanceOf_160a.2.2.1)).to, ?_⟩
  refine List.forall_mem_cons.mpr ⟨(s_lstore (am_dp pw_X10_chanceOf_160 dd_X10_chanceOf_160a.2.2.2.1) (by decide)).to, ?_⟩
  refine List.forall_mem_cons.mpr ⟨(s_iinc (am_dp pw_X10_chanceOf_160 dd_X10_chanceOf_160a.2.2.2.2.1) (by decide) (by decide)).to, ?_⟩
  refine List.forall_mem_cons.mpr ⟨(s_goto (am_dp pw_X10_chanceOf_160 dd_X10_chanceOf_160a.2.2.2.2.2.1) (by decide)).to, ?_⟩
  refine List.forall_mem_cons.mpr ⟨(s_lload (am_dp pw_X10_chanceOf_160 dd_X10_chanceOf_160a.2.2.2.2.2.2.1)).to, ?_⟩
  refine List.forall_mem_cons.mpr ⟨s_lret (am_dp pw_X10_chanceOf_160 dd_X10_chanceOf_160a.2.2.2.2.2.2.2) rfl, ?_⟩
  exact fun _ h => absurd h List.not_mem_nil
theorem sn_tX10_chanceOf : ∀ q ∈ tX10_chanceOf, am_Snd am_P0 RX10 cX10_chanceOf 8 (Option.some FieldType.long) "chanceOf" q.1 q.2 := by
  unfold tX10_chanceOf
  exact List.forall_mem_append.mpr ⟨sn_tX10_chanceOf_0, sn_tX10_chanceOf_1⟩
theorem sn_tX10_findLook_0 : ∀ q ∈ tX10_findLook_0, am_Snd am_P0 RX10 cX10_findLook 6 (Option.none : Option FieldType) "findLook" q.1 q.2 := by
  unfold tX10_findLook_0
  refine List.forall_mem_cons.mpr ⟨(s_aloadn (am_dp pw_X10_findLook_0 dd_X10_findLook_0a.1) rfl).to, ?_⟩
  refine List.forall_mem_cons.mpr ⟨(s_iconst (am_dp pw_X10_findLook_0 dd_X10_findLook_0a.2.1) (by decide)).to, ?_⟩
  refine List.forall_mem_cons.mpr ⟨(s_put (ci := 10) (k := 16) (am_dp pw_X10_findLook_0 dd_X10_findLook_0a.2.2.1) rfl (by decide) wd595 inX10 tyX10_ok nmX10 rfl rfl).to, ?_⟩
  refine List.forall_mem_cons.mpr ⟨(s_iconst (am_dp pw_X10_findLook_0 dd_X10_findLook_0a.2.2.2.1) (by decide)).to, ?_⟩
  refine List.forall_mem_cons.mpr ⟨(s_istoren (am_dp pw_X10_findLook_0 dd_X10_findLook_0a.2.2.2.2.1) rfl (by decide)).to, ?_⟩
  refine List.forall_mem_cons.mpr ⟨(s_iconst (am_dp pw_X10_findLook_0 dd_X10_findLook_0a.2.2.2.2.2.1) (by decide)).to, ?_⟩
  refine List.forall_mem_cons.mpr ⟨(s_istoren (am_dp pw_X10_findLook_0 dd_X10_findLook_0a.2.2.2.2.2.2.1) rfl (by decide)).to, ?_⟩
  refine List.forall_mem_cons.mpr ⟨(s_iloadn (am_dp pw_X10_findLook_0 dd_X10_findLook_0a.2.2.2.2.2.2.2) rfl).to, ?_⟩
  refine List.forall_mem_cons.mpr ⟨(s_aloadn (am_dp pw_X10_findLook_0 dd_X10_findLook_0b.1) rfl).to, ?_⟩
  refine List.forall_mem_cons.mpr ⟨(s_get (ci := 10) (k := 2) (am_dp pw_X10_findLook_0 dd_X10_findLook_0b.2.1) rfl (by decide) wd581 inX10 rfl).to, ?_⟩
  refine List.forall_mem_cons.mpr ⟨(s_get (ci := 5) (k := 3) (am_dp pw_X10_findLook_0 dd_X10_findLook_0b.2.2.1) rfl (by decide) wd315 inX5 rfl).to, ?_⟩
  refine List.forall_mem_cons.mpr ⟨(s_icmp_ge (am_dp pw_X10_findLook_0 dd_X10_findLook_0b.2.2.2.1) (by decide)).to, ?_⟩
  refine List.forall_mem_cons.mpr ⟨(s_aloadn (am_dp pw_X10_findLook_0 dd_X10_findLook_0b.2.2.2.2.1) rfl).to, ?_⟩
  refine List.forall_mem_cons.mpr ⟨(s_get (ci := 10) (k := 7) (am_dp pw_X10_findLook_0 dd_X10_findLook_0b.2.2.2.2.2.1) rfl (by decide) wd586 inX10 rfl).to, ?_⟩
  refine List.forall_mem_cons.mpr ⟨(s_iloadn (am_dp pw_X10_findLook_0 dd_X10_findLook_0b.2.2.2.2.2.2.1) rfl).to, ?_⟩
  refine List.forall_mem_cons.mpr ⟨(s_aald (am_dp pw_X10_findLook_0 dd_X10_findLook_0b.2.2.2.2.2.2.2)).to, ?_⟩
  refine List.forall_mem_cons.mpr ⟨zw_cv83 (am_dp pw_X10_findLook_0 dd_X10_findLook_0c.1) wd933, ?_⟩
  refine List.forall_mem_cons.mpr ⟨(s_iinc (am_dp pw_X10_findLook_0 dd_X10_findLook_0c.2) (by decide) (by decide)).to, ?_⟩
  refine List.forall_mem_cons.mpr ⟨(s_goto (am_dp pw_X10_findLook_32 dd_X10_findLook_32a.1) (by decide)).to, ?_⟩
  refine List.forall_mem_cons.mpr ⟨(s_iconst (am_dp pw_X10_findLook_32 dd_X10_findLook_32a.2.1) (by decide)).to, ?_⟩
  refine List.forall_mem_cons.mpr ⟨(s_istoren (am_dp pw_X10_findLook_32 dd_X10_findLook_32a.2.2.1) rfl (by decide)).to, ?_⟩
  refine List.forall_mem_cons.mpr ⟨(s_iloadn (am_dp pw_X10_findLook_32 dd_X10_findLook_32a.2.2.2.1) rfl).to, ?_⟩
  refine List.forall_mem_cons.mpr ⟨(s_bipush (am_dp pw_X10_findLook_32 dd_X10_findLook_32a.2.2.2.2.1) (by decide)).to, ?_⟩
  refine List.forall_mem_cons.mpr ⟨(s_icmp_ge (am_dp pw_X10_findLook_32 dd_X10_findLook_32a.2.2.2.2.2.1) (by decide)).to, ?_⟩
  refine List.forall_mem_cons.mpr ⟨(s_aloadn (am_dp pw_X10_findLook_32 dd_X10_findLook_32a.2.2.2.2.2.2.1) rfl).to, ?_⟩
  refine List.forall_mem_cons.mpr ⟨(s_iloadn (am_dp pw_X10_findLook_32 dd_X10_findLook_32a.2.2.2.2.2.2.2) rfl).to, ?_⟩
  refine List.forall_mem_cons.mpr ⟨zw_cv161 (am_dp pw_X10_findLook_32 dd_X10_findLook_32b.1) wd1240, ?_⟩
  refine List.forall_mem_cons.mpr ⟨(s_istoren (am_dp pw_X10_findLook_32 dd_X10_findLook_32b.2.1) rfl (by decide)).to, ?_⟩
  refine List.forall_mem_cons.mpr ⟨(s_iloadn (am_dp pw_X10_findLook_32 dd_X10_findLook_32b.2.2.1) rfl).to, ?_⟩
  refine List.forall_mem_cons.mpr ⟨(s_if_eq (am_dp pw_X10_findLook_32 dd_X10_findLook_32b.2.2.2.1) (by decide)).to, ?_⟩
  refine List.forall_mem_cons.mpr ⟨(s_iloadn (am_dp pw_X10_findLook_32 dd_X10_findLook_32b.2.2.2.2.1) rfl).to, ?_⟩
  refine List.forall_mem_cons.mpr ⟨(s_aloadn (am_dp pw_X10_findLook_32 dd_X10_findLook_32b.2.2.2.2.2.1) rfl).to, ?_⟩
  refine List.forall_mem_cons.mpr ⟨(s_get (ci := 10) (k := 16) (am_dp pw_X10_findLook_32 dd_X10_findLook_32b.2.2.2.2.2.2.1) rfl (by decide) wd595 inX10 rfl).to, ?_⟩
  refine List.forall_mem_cons.mpr ⟨(s_icmp_ge (am_dp pw_X10_findLook_32 dd_X10_findLook_32b.2.2.2.2.2.2.2) (by decide)).to, ?_⟩
  refine List.forall_mem_cons.mpr ⟨(s_goto (am_dp pw_X10_findLook_32 dd_X10_findLook_32c) (by decide)).to, ?_⟩
  refine List.forall_mem_cons.mpr ⟨(s_iconst (am_dp pw_X10_findLook_64 dd_X10_findLook_64a.1) (by decide)).to, ?_⟩
  refine List.forall_mem_cons.mpr ⟨(s_istore (am_dp pw_X10_findLook_64 dd_X10_findLook_64a.2.1) (by decide)).to, ?_⟩
  refine List.forall_mem_cons.mpr ⟨(s_iload (am_dp pw_X10_findLook_64 dd_X10_findLook_64a.2.2.1)).to, ?_⟩
  refine List.forall_mem_cons.mpr ⟨(s_sipush (am_dp pw_X10_findLook_64 dd_X10_findLook_64a.2.2.2.1) (by decide)).to, ?_⟩
  refine List.forall_mem_cons.mpr ⟨(s_icmp_ge (am_dp pw_X10_findLook_64 dd_X10_findLook_64a.2.2.2.2.1) (by decide)).to, ?_⟩
  refine List.forall_mem_cons.mpr ⟨(s_aloadn (am_dp pw_X10_findLook_64 dd_X10_findLook_64a.2.2.2.2.2.1) rfl).to, ?_⟩
  refine List.forall_mem_cons.mpr ⟨(s_get (ci := 10) (k := 12) (am_dp pw_X10_findLook_64 dd_X10_findLook_64a.2.2.2.2.2.2.1) rfl (by decide) wd591 inX10 rfl).to, ?_⟩
  refine List.forall_mem_cons.mpr ⟨(s_iloadn (am_dp pw_X10_findLook_64 dd_X10_findLook_64a.2.2.2.2.2.2.2) rfl).to, ?_⟩
  refine List.forall_mem_cons.mpr ⟨(s_iconst (am_dp pw_X10_findLook_64 dd_X10_findLook_64b.1) (by decide)).to, ?_⟩
  refine List.forall_mem_cons.mpr ⟨(s_imul (am_dp pw_X10_findLook_64 dd_X10_findLook_64b.2.1)).to, ?_⟩
  refine List.forall_mem_cons.mpr ⟨(s_iload (am_dp pw_X10_findLook_64 dd_X10_findLook_64b.2.2.1)).to, ?_⟩
  refine List.forall_mem_cons.mpr ⟨(s_bipush (am_dp pw_X10_findLook_64 dd_X10_findLook_64b.2.2.2.1) (by decide)).to, ?_⟩
  refine List.forall_mem_cons.mpr ⟨(s_ishr (am_dp pw_X10_findLook_64 dd_X10_findLook_64b.2.2.2.2.1)).to, ?_⟩
  refine List.forall_mem_cons.mpr ⟨(s_iadd (am_dp pw_X10_findLook_64 dd_X10_findLook_64b.2.2.2.2.2.1)).to, ?_⟩
  refine List.forall_mem_cons.mpr ⟨(s_lald (am_dp pw_X10_findLook_64 dd_X10_findLook_64b.2.2.2.2.2.2.1)).to, ?_⟩
  refine List.forall_mem_cons.mpr ⟨(s_iload (am_dp pw_X10_findLook_64 dd_X10_findLook_64b.2.2.2.2.2.2.2)).to, ?_⟩
  refine List.forall_mem_cons.mpr ⟨(s_bipush (am_dp pw_X10_findLook_64 dd_X10_findLook_64c.1) (by decide)).to, ?_⟩
  refine List.forall_mem_cons.mpr ⟨(s_iand (am_dp pw_X10_findLook_64 dd_X10_findLook_64c.2.1)).to, ?_⟩
  refine List.forall_mem_cons.mpr ⟨(s_lushr (am_dp pw_X10_findLook_64 dd_X10_findLook_64c.2.2.1)).to, ?_⟩
  refine List.forall_mem_cons.mpr ⟨(s_lconst (am_dp pw_X10_findLook_64 dd_X10_findLook_64c.2.2.2) (by decide)).to, ?_⟩
  refine List.forall_mem_cons.mpr ⟨(s_land (am_dp pw_X10_findLook_96 dd_X10_findLook_96a.1)).to, ?_⟩
  refine List.forall_mem_cons.mpr ⟨(s_lconst (am_dp pw_X10_findLook_96 dd_X10_findLook_96a.2.1) (by decide)).to, ?_⟩
  refine List.forall_mem_cons.mpr ⟨(s_lcmp (am_dp pw_X10_findLook_96 dd_X10_findLook_96a.2.2.1)).to, ?_⟩
  refine List.forall_mem_cons.mpr ⟨(s_if_ne (am_dp pw_X10_findLook_96 dd_X10_findLook_96a.2.2.2.1) (by decide)).to, ?_⟩
  refine List.forall_mem_cons.mpr ⟨(s_goto (am_dp pw_X10_findLook_96 dd_X10_findLook_96a.2.2.2.2.1) (by decide)).to, ?_⟩
  exact fun _ h => absurd h List.not_mem_nil
theorem sn_tX10_findLook_1 : ∀ q ∈ tX10_findLook_1, am_Snd am_P0 RX10 cX10_findLook 6 (Option.none : Option FieldType) "findLook" q.1 q.2 := by
  unfold tX10_findLook_1
  refine List.forall_mem_cons.mpr ⟨(s_aloadn (am_dp pw_X10_findLook_96 dd_X10_findLook_96a.2.2.2.2.2.1) rfl).to, ?_⟩
  refine List.forall_mem_cons.mpr ⟨(s_get (ci := 10) (k := 2) (am_dp pw_X10_findLook_96 dd_X10_findLook_96a.2.2.2.2.2.2.1) rfl (by decide) wd581 inX10 rfl).to, ?_⟩
  refine List.forall_mem_cons.mpr ⟨(s_iload (am_dp pw_X10_findLook_96 dd_X10_findLook_96a.2.2.2.2.2.2.2)).to, ?_⟩
  refine List.forall_mem_cons.mpr ⟨zw_cv54 (am_dp pw_X10_findLook_96 dd_X10_findLook_96b.1) wd1031, ?_⟩
  refine List.forall_mem_cons.mpr ⟨(s_istore (am_dp pw_X10_findLook_96 dd_X10_findLook_96b.2.1) (by decide)).to, ?_⟩
  refine List.forall_mem_cons.mpr ⟨(s_iloadn (am_dp pw_X10_findLook_96 dd_X10_findLook_96b.2.2.1) rfl).to, ?_⟩
  refine List.forall_mem_cons.mpr ⟨(s_aloadn (am_dp pw_X10_findLook_96 dd_X10_findLook_96b.2.2.2.1) rfl).to, ?_⟩
  refine List.forall_mem_cons.mpr ⟨(s_get (ci := 10) (k := 16) (am_dp pw_X10_findLook_96 dd_X10_findLook_96b.2.2.2.2.1) rfl (by decide) wd595 inX10 rfl).to, ?_⟩
  refine List.forall_mem_cons.mpr ⟨(s_icmp_gt (am_dp pw_X10_findLook_96 dd_X10_findLook_96b.2.2.2.2.2.1) (by decide)).to, ?_⟩
  refine List.forall_mem_cons.mpr ⟨(s_iload (am_dp pw_X10_findLook_96 dd_X10_findLook_96b.2.2.2.2.2.2.1)).to, ?_⟩
  refine List.forall_mem_cons.mpr ⟨(s_iloadn (am_dp pw_X10_findLook_96 dd_X10_findLook_96b.2.2.2.2.2.2.2) rfl).to, ?_⟩
  refine List.forall_mem_cons.mpr ⟨(s_icmp_ge (am_dp pw_X10_findLook_96 dd_X10_findLook_96c) (by decide)).to, ?_⟩
  refine List.forall_mem_cons.mpr ⟨(s_aloadn (am_dp pw_X10_findLook_128 dd_X10_findLook_128a.1) rfl).to, ?_⟩
  refine List.forall_mem_cons.mpr ⟨(s_iloadn (am_dp pw_X10_findLook_128 dd_X10_findLook_128a.2.1) rfl).to, ?_⟩
  refine List.forall_mem_cons.mpr ⟨(s_put (ci := 10) (k := 16) (am_dp pw_X10_findLook_128 dd_X10_findLook_128a.2.2.1) rfl (by decide) wd595 inX10 tyX10_ok nmX10 rfl rfl).to, ?_⟩
  refine List.forall_mem_cons.mpr ⟨(s_aloadn (am_dp pw_X10_findLook_128 dd_X10_findLook_128a.2.2.2.1) rfl).to, ?_⟩
  refine List.forall_mem_cons.mpr ⟨(s_iloadn (am_dp pw_X10_findLook_128 dd_X10_findLook_128a.2.2.2.2.1) rfl).to, ?_⟩
  refine List.forall_mem_cons.mpr ⟨(s_put (ci := 10) (k := 14) (am_dp pw_X10_findLook_128 dd_X10_findLook_128a.2.2.2.2.2.1) rfl (by decide) wd593 inX10 tyX10_ok nmX10 rfl rfl).to, ?_⟩
  refine List.forall_mem_cons.mpr ⟨(s_aloadn (am_dp pw_X10_findLook_128 dd_X10_findLook_128a.2.2.2.2.2.2.1) rfl).to, ?_⟩
  refine List.forall_mem_cons.mpr ⟨(s_iload (am_dp pw_X10_findLook_128 dd_X10_findLook_128a.2.2.2.2.2.2.2)).to, ?_⟩
  refine List.forall_mem_cons.mpr ⟨(s_put (ci := 10) (k := 15) (am_dp pw_X10_findLook_128 dd_X10_findLook_128b.1) rfl (by decide) wd594 inX10 tyX10_ok nmX10 rfl rfl).to, ?_⟩
  refine List.forall_mem_cons.mpr ⟨(s_iload (am_dp pw_X10_findLook_128 dd_X10_findLook_128b.2.1)).to, ?_⟩
  refine List.forall_mem_cons.mpr ⟨(s_istoren (am_dp pw_X10_findLook_128 dd_X10_findLook_128b.2.2.1) rfl (by decide)).to, ?_⟩
  refine List.forall_mem_cons.mpr ⟨(s_iinc (am_dp pw_X10_findLook_128 dd_X10_findLook_128b.2.2.2.1) (by decide) (by decide)).to, ?_⟩
  refine List.forall_mem_cons.mpr ⟨(s_goto (am_dp pw_X10_findLook_128 dd_X10_findLook_128b.2.2.2.2.1) (by decide)).to, ?_⟩
  refine List.forall_mem_cons.mpr ⟨(s_iinc (am_dp pw_X10_findLook_128 dd_X10_findLook_128b.2.2.2.2.2.1) (by decide) (by decide)).to, ?_⟩
  refine List.forall_mem_cons.mpr ⟨(s_goto (am_dp pw_X10_findLook_128 dd_X10_findLook_128b.2.2.2.2.2.2) (by decide)).to, ?_⟩
  refine List.forall_mem_cons.mpr ⟨s_vret (am_dp pw_X10_findLook_160 dd_X10_findLook_160a) rfl, ?_⟩
  exact fun _ h => absurd h List.not_mem_nil
theorem sn_tX10_findLook : ∀ q ∈ tX10_findLook, am_Snd am_P0 RX10 cX10_findLook 6 (Option.none : Option FieldType) "findLook" q.1 q.2 := by
  unfold tX10_findLook
  exact List.forall_mem_append.mpr ⟨sn_tX10_findLook_0, sn_tX10_findLook_1⟩
theorem sn_tX10_pileUp_0 : ∀ q ∈ tX10_pileUp_0, am_Snd am_P0 RX10 cX10_pileUp 7 (Option.some FieldType.int) "pileUp" q.1 q.2 := by
  unfold tX10_pileUp_0
  refine List.forall_mem_cons.mpr ⟨(s_aloadn (am_dp pw_X10_pileUp_0 dd_X10_pileUp_0a.1) rfl).to, ?_⟩
  refine List.forall_mem_cons.mpr ⟨(s_get (ci := 10) (k := 12) (am_dp pw_X10_pileUp_0 dd_X10_pileUp_0a.2.1) rfl (by decide) wd591 inX10 rfl).to, ?_⟩
  refine List.forall_mem_cons.mpr ⟨(s_lconst (am_dp pw_X10_pileUp_0 dd_X10_pileUp_0a.2.2.1) (by decide)).to, ?_⟩
  refine List.forall_mem_cons.mpr ⟨zw_cs322 (am_dp pw_X10_pileUp_0 dd_X10_pileUp_0a.2.2.2.1) wd1218, ?_⟩
  refine List.forall_mem_cons.mpr ⟨(s_aloadn (am_dp pw_X10_pileUp_0 dd_X10_pileUp_0a.2.2.2.2.1) rfl).to, ?_⟩
  refine List.forall_mem_cons.mpr ⟨(s_get (ci := 10) (k := 12) (am_dp pw_X10_pileUp_0 dd_X10_pileUp_0a.2.2.2.2.2.1) rfl (by decide) wd591 inX10 rfl).to, ?_⟩
  refine List.forall_mem_cons.mpr ⟨(s_iconst (am_dp pw_X10_pileUp_0 dd_X10_pileUp_0a.2.2.2.2.2.2.1) (by decide)).to, ?_⟩
  refine List.forall_mem_cons.mpr ⟨(s_iconst (am_dp pw_X10_pileUp_0 dd_X10_pileUp_0a.2.2.2.2.2.2.2) (by decide)).to, ?_⟩
  refine List.forall_mem_cons.mpr ⟨(s_ldc2 (am_dp pw_X10_pileUp_0 dd_X10_pileUp_0b.1) wd1222).to, ?_⟩
  refine List.forall_mem_cons.mpr ⟨zw_cs323 (am_dp pw_X10_pileUp_0 dd_X10_pileUp_0b.2.1) wd1244, ?_⟩
  refine List.forall_mem_cons.mpr ⟨(s_iconst (am_dp pw_X10_pileUp_0 dd_X10_pileUp_0b.2.2.1) (by decide)).to, ?_⟩
  refine List.forall_mem_cons.mpr ⟨(s_istoren (am_dp pw_X10_pileUp_0 dd_X10_pileUp_0b.2.2.2.1) rfl (by decide)).to, ?_⟩
  refine List.forall_mem_cons.mpr ⟨(s_iconst (am_dp pw_X10_pileUp_0 dd_X10_pileUp_0b.2.2.2.2.1) (by decide)).to, ?_⟩
  refine List.forall_mem_cons.mpr ⟨(s_istoren (am_dp pw_X10_pileUp_0 dd_X10_pileUp_0b.2.2.2.2.2.1) rfl (by decide)).to, ?_⟩
  refine List.forall_mem_cons.mpr ⟨(s_iloadn (am_dp pw_X10_pileUp_0 dd_X10_pileUp_0b.2.2.2.2.2.2.1) rfl).to, ?_⟩
  refine List.forall_mem_cons.mpr ⟨(s_aloadn (am_dp pw_X10_pileUp_0 dd_X10_pileUp_0b.2.2.2.2.2.2.2) rfl).to, ?_⟩
  refine List.forall_mem_cons.mpr ⟨(s_get (ci := 10) (k := 2) (am_dp pw_X10_pileUp_0 dd_X10_pileUp_0c.1) rfl (by decide) wd581 inX10 rfl).to, ?_⟩
  refine List.forall_mem_cons.mpr ⟨(s_get (ci := 5) (k := 3) (am_dp pw_X10_pileUp_0 dd_X10_pileUp_0c.2) rfl (by decide) wd315 inX5 rfl).to, ?_⟩
  refine List.forall_mem_cons.mpr ⟨(s_icmp_ge (am_dp pw_X10_pileUp_32 dd_X10_pileUp_32a.1) (by decide)).to, ?_⟩
  refine List.forall_mem_cons.mpr ⟨(s_aloadn (am_dp pw_X10_pileUp_32 dd_X10_pileUp_32a.2.1) rfl).to, ?_⟩
  refine List.forall_mem_cons.mpr ⟨(s_get (ci := 10) (k := 2) (am_dp pw_X10_pileUp_32 dd_X10_pileUp_32a.2.2.1) rfl (by decide) wd581 inX10 rfl).to, ?_⟩
  refine List.forall_mem_cons.mpr ⟨(s_get (ci := 5) (k := 4) (am_dp pw_X10_pileUp_32 dd_X10_pileUp_32a.2.2.2.1) rfl (by decide) wd318 inX5 rfl).to, ?_⟩
  refine List.forall_mem_cons.mpr ⟨(s_iloadn (am_dp pw_X10_pileUp_32 dd_X10_pileUp_32a.2.2.2.2.1) rfl).to, ?_⟩
  refine List.forall_mem_cons.mpr ⟨(s_aald (am_dp pw_X10_pileUp_32 dd_X10_pileUp_32a.2.2.2.2.2.1)).to, ?_⟩
  refine List.forall_mem_cons.mpr ⟨(s_get (ci := 6) (k := 5) (am_dp pw_X10_pileUp_32 dd_X10_pileUp_32a.2.2.2.2.2.2.1) rfl (by decide) wd255 inX6 rfl).to, ?_⟩
  refine List.forall_mem_cons.mpr ⟨(s_if_eq (am_dp pw_X10_pileUp_32 dd_X10_pileUp_32a.2.2.2.2.2.2.2) (by decide)).to, ?_⟩
  refine List.forall_mem_cons.mpr ⟨(s_aloadn (am_dp pw_X10_pileUp_32 dd_X10_pileUp_32b.1) rfl).to, ?_⟩
  refine List.forall_mem_cons.mpr ⟨(s_get (ci := 10) (k := 7) (am_dp pw_X10_pileUp_32 dd_X10_pileUp_32b.2.1) rfl (by decide) wd586 inX10 rfl).to, ?_⟩
  refine List.forall_mem_cons.mpr ⟨(s_iloadn (am_dp pw_X10_pileUp_32 dd_X10_pileUp_32b.2.2.1) rfl).to, ?_⟩
  refine List.forall_mem_cons.mpr ⟨(s_aald (am_dp pw_X10_pileUp_32 dd_X10_pileUp_32b.2.2.2.1)).to, ?_⟩
  refine List.forall_mem_cons.mpr ⟨(s_iloadn (am_dp pw_X10_pileUp_32 dd_X10_pileUp_32b.2.2.2.2.1) rfl).to, ?_⟩
  refine List.forall_mem_cons.mpr ⟨zw_cv89 (am_dp pw_X10_pileUp_32 dd_X10_pileUp_32b.2.2.2.2.2.1) wd1064, ?_⟩
  refine List.forall_mem_cons.mpr ⟨(s_iconst (am_dp pw_X10_pileUp_32 dd_X10_pileUp_32b.2.2.2.2.2.2.1) (by decide)).to, ?_⟩
  refine List.forall_mem_cons.mpr ⟨(s_icmp_ge (am_dp pw_X10_pileUp_32 dd_X10_pileUp_32b.2.2.2.2.2.2.2) (by decide)).to, ?_⟩
  refine List.forall_mem_cons.mpr ⟨(s_goto (am_dp pw_X10_pileUp_64 dd_X10_pileUp_64a.1) (by decide)).to, ?_⟩
  refine List.forall_mem_cons.mpr ⟨(s_iloadn (am_dp pw_X10_pileUp_64 dd_X10_pileUp_64a.2.1) rfl).to, ?_⟩
  refine List.forall_mem_cons.mpr ⟨(s_iconst (am_dp pw_X10_pileUp_64 dd_X10_pileUp_64a.2.2.1) (by decide)).to, ?_⟩
  refine List.forall_mem_cons.mpr ⟨(s_iadd (am_dp pw_X10_pileUp_64 dd_X10_pileUp_64a.2.2.2.1)).to, ?_⟩
  refine List.forall_mem_cons.mpr ⟨(s_bipush (am_dp pw_X10_pileUp_64 dd_X10_pileUp_64a.2.2.2.2.1) (by decide)).to, ?_⟩
  refine List.forall_mem_cons.mpr ⟨zw_cs309 (am_dp pw_X10_pileUp_64 dd_X10_pileUp_64a.2.2.2.2.2.1) wd1220, ?_⟩
  refine List.forall_mem_cons.mpr ⟨(s_istore (am_dp pw_X10_pileUp_64 dd_X10_pileUp_64a.2.2.2.2.2.2.1) (by decide)).to, ?_⟩
  refine List.forall_mem_cons.mpr ⟨(s_iload (am_dp pw_X10_pileUp_64 dd_X10_pileUp_64a.2.2.2.2.2.2.2)).to, ?_⟩
  refine List.forall_mem_cons.mpr ⟨(s_if_le (am_dp pw_X10_pileUp_64 dd_X10_pileUp_64b.1) (by decide)).to, ?_⟩
  refine List.forall_mem_cons.mpr ⟨(s_iconst (am_dp pw_X10_pileUp_64 dd_X10_pileUp_64b.2.1) (by decide)).to, ?_⟩
  refine List.forall_mem_cons.mpr ⟨(s_istore (am_dp pw_X10_pileUp_64 dd_X10_pileUp_64b.2.2.1) (by decide)).to, ?_⟩
  refine List.forall_mem_cons.mpr ⟨(s_iload (am_dp pw_X10_pileUp_64 dd_X10_pileUp_64b.2.2.2.1)).to, ?_⟩
  refine List.forall_mem_cons.mpr ⟨(s_iconst (am_dp pw_X10_pileUp_64 dd_X10_pileUp_64b.2.2.2.2.1) (by decide)).to, ?_⟩
  refine List.forall_mem_cons.mpr ⟨(s_icmp_ge (am_dp pw_X10_pileUp_64 dd_X10_pileUp_64b.2.2.2.2.2.1) (by decide)).to, ?_⟩
  refine List.forall_mem_cons.mpr ⟨(s_iload (am_dp pw_X10_pileUp_64 dd_X10_pileUp_64b.2.2.2.2.2.2.1)).to, ?_⟩
  refine List.forall_mem_cons.mpr ⟨(s_iconst (am_dp pw_X10_pileUp_64 dd_X10_pileUp_64b.2.2.2.2.2.2.2) (by decide)).to, ?_⟩
  refine List.forall_mem_cons.mpr ⟨(s_imul (am_dp pw_X10_pileUp_64 dd_X10_pileUp_64c.1)).to, ?_⟩
  refine List.forall_mem_cons.mpr ⟨(s_iload (am_dp pw_X10_pileUp_64 dd_X10_pileUp_64c.2)).to, ?_⟩
  refine List.forall_mem_cons.mpr ⟨(s_iadd (am_dp pw_X10_pileUp_96 dd_X10_pileUp_96a.1)).to, ?_⟩
  refine List.forall_mem_cons.mpr ⟨(s_istore (am_dp pw_X10_pileUp_96 dd_X10_pileUp_96a.2.1) (by decide)).to, ?_⟩
  refine List.forall_mem_cons.mpr ⟨(s_aloadn (am_dp pw_X10_pileUp_96 dd_X10_pileUp_96a.2.2.1) rfl).to, ?_⟩
  refine List.forall_mem_cons.mpr ⟨(s_get (ci := 10) (k := 12) (am_dp pw_X10_pileUp_96 dd_X10_pileUp_96a.2.2.2.1) rfl (by decide) wd591 inX10 rfl).to, ?_⟩
  refine List.forall_mem_cons.mpr ⟨(s_iload (am_dp pw_X10_pileUp_96 dd_X10_pileUp_96a.2.2.2.2.1)).to, ?_⟩
  refine List.forall_mem_cons.mpr ⟨(s_dup2 (am_dp pw_X10_pileUp_96 dd_X10_pileUp_96a.2.2.2.2.2.1)).to, ?_⟩
  refine List.forall_mem_cons.mpr ⟨(s_lald (am_dp pw_X10_pileUp_96 dd_X10_pileUp_96a.2.2.2.2.2.2.1)).to, ?_⟩
  refine List.forall_mem_cons.mpr ⟨(s_aloadn (am_dp pw_X10_pileUp_96 dd_X10_pileUp_96a.2.2.2.2.2.2.2) rfl).to, ?_⟩
  exact fun _ h => absurd h List.not_mem_nil
theorem sn_tX10_pileUp_1 : ∀ q ∈ tX10_pileUp_1, am_Snd am_P0 RX10 cX10_pileUp 7 (Option.some FieldType.int) "pileUp" q.1 q.2 := by
  unfold tX10_pileUp_1
  refine List.forall_mem_cons.mpr ⟨(s_get (ci := 10) (k := 12) (am_dp pw_X10_pileUp_96 dd_X10_pileUp_96b.1) rfl (by decide) wd591 inX10 rfl).to, ?_⟩
  refine List.forall_mem_cons.mpr ⟨(s_iload (am_dp pw_X10_pileUp_96 dd_X10_pileUp_96b.2.1)).to, ?_⟩
  refine List.forall_mem_cons.mpr ⟨(s_iconst (am_dp pw_X10_pileUp_96 dd_X10_pileUp_96b.2.2.1) (by decide)).to, ?_⟩
  refine List.forall_mem_cons.mpr ⟨(s_isub (am_dp pw_X10_pileUp_96 dd_X10_pileUp_96b.2.2.2.1)).to, ?_⟩
  refine List.forall_mem_cons.mpr ⟨(s_lald (am_dp pw_X10_pileUp_96 dd_X10_pileUp_96b.2.2.2.2.1)).to, ?_⟩
  refine List.forall_mem_cons.mpr ⟨(s_aloadn (am_dp pw_X10_pileUp_96 dd_X10_pileUp_96b.2.2.2.2.2.1) rfl).to, ?_⟩
  refine List.forall_mem_cons.mpr ⟨(s_get (ci := 10) (k := 7) (am_dp pw_X10_pileUp_96 dd_X10_pileUp_96b.2.2.2.2.2.2.1) rfl (by decide) wd586 inX10 rfl).to, ?_⟩
  refine List.forall_mem_cons.mpr ⟨(s_iloadn (am_dp pw_X10_pileUp_96 dd_X10_pileUp_96b.2.2.2.2.2.2.2) rfl).to, ?_⟩
  refine List.forall_mem_cons.mpr ⟨(s_aald (am_dp pw_X10_pileUp_96 dd_X10_pileUp_96c.1)).to, ?_⟩
  refine List.forall_mem_cons.mpr ⟨(s_get (ci := 8) (k := 12) (am_dp pw_X10_pileUp_96 dd_X10_pileUp_96c.2.1) rfl (by decide) wd537 inX8 rfl).to, ?_⟩
  refine List.forall_mem_cons.mpr ⟨(s_iloadn (am_dp pw_X10_pileUp_96 dd_X10_pileUp_96c.2.2.1) rfl).to, ?_⟩
  refine List.forall_mem_cons.mpr ⟨(s_iconst (am_dp pw_X10_pileUp_96 dd_X10_pileUp_96c.2.2.2) (by decide)).to, ?_⟩
  refine List.forall_mem_cons.mpr ⟨(s_imul (am_dp pw_X10_pileUp_128 dd_X10_pileUp_128a.1)).to, ?_⟩
  refine List.forall_mem_cons.mpr ⟨(s_iload (am_dp pw_X10_pileUp_128 dd_X10_pileUp_128a.2.1)).to, ?_⟩
  refine List.forall_mem_cons.mpr ⟨(s_iadd (am_dp pw_X10_pileUp_128 dd_X10_pileUp_128a.2.2.1)).to, ?_⟩
  refine List.forall_mem_cons.mpr ⟨(s_lald (am_dp pw_X10_pileUp_128 dd_X10_pileUp_128a.2.2.2.1)).to, ?_⟩
  refine List.forall_mem_cons.mpr ⟨(s_land (am_dp pw_X10_pileUp_128 dd_X10_pileUp_128a.2.2.2.2.1)).to, ?_⟩
  refine List.forall_mem_cons.mpr ⟨(s_lor (am_dp pw_X10_pileUp_128 dd_X10_pileUp_128a.2.2.2.2.2.1)).to, ?_⟩
  refine List.forall_mem_cons.mpr ⟨(s_last (am_dp pw_X10_pileUp_128 dd_X10_pileUp_128a.2.2.2.2.2.2.1)).to, ?_⟩
  refine List.forall_mem_cons.mpr ⟨(s_aloadn (am_dp pw_X10_pileUp_128 dd_X10_pileUp_128a.2.2.2.2.2.2.2) rfl).to, ?_⟩
  refine List.forall_mem_cons.mpr ⟨(s_get (ci := 10) (k := 12) (am_dp pw_X10_pileUp_128 dd_X10_pileUp_128b.1) rfl (by decide) wd591 inX10 rfl).to, ?_⟩
  refine List.forall_mem_cons.mpr ⟨(s_iload (am_dp pw_X10_pileUp_128 dd_X10_pileUp_128b.2.1)).to, ?_⟩
  refine List.forall_mem_cons.mpr ⟨(s_lald (am_dp pw_X10_pileUp_128 dd_X10_pileUp_128b.2.2.1)).to, ?_⟩
  refine List.forall_mem_cons.mpr ⟨(s_lconst (am_dp pw_X10_pileUp_128 dd_X10_pileUp_128b.2.2.2.1) (by decide)).to, ?_⟩
  refine List.forall_mem_cons.mpr ⟨(s_lcmp (am_dp pw_X10_pileUp_128 dd_X10_pileUp_128b.2.2.2.2.1)).to, ?_⟩
  refine List.forall_mem_cons.mpr ⟨(s_if_eq (am_dp pw_X10_pileUp_128 dd_X10_pileUp_128b.2.2.2.2.2.1) (by decide)).to, ?_⟩
  refine List.forall_mem_cons.mpr ⟨(s_iloadn (am_dp pw_X10_pileUp_128 dd_X10_pileUp_128b.2.2.2.2.2.2.1) rfl).to, ?_⟩
  refine List.forall_mem_cons.mpr ⟨(s_iload (am_dp pw_X10_pileUp_128 dd_X10_pileUp_128b.2.2.2.2.2.2.2)).to, ?_⟩
  refine List.forall_mem_cons.mpr ⟨zw_cs307 (am_dp pw_X10_pileUp_128 dd_X10_pileUp_128c.1) wd1250, ?_⟩
  refine List.forall_mem_cons.mpr ⟨(s_istoren (am_dp pw_X10_pileUp_128 dd_X10_pileUp_128c.2.1) rfl (by decide)).to, ?_⟩
  refine List.forall_mem_cons.mpr ⟨(s_iinc (am_dp pw_X10_pileUp_128 dd_X10_pileUp_128c.2.2.1) (by decide) (by decide)).to, ?_⟩
  refine List.forall_mem_cons.mpr ⟨(s_goto (am_dp pw_X10_pileUp_128 dd_X10_pileUp_128c.2.2.2) (by decide)).to, ?_⟩
  refine List.forall_mem_cons.mpr ⟨(s_iinc (am_dp pw_X10_pileUp_160 dd_X10_pileUp_160a.1) (by decide) (by decide)).to, ?_⟩
  refine List.forall_mem_cons.mpr ⟨(s_goto (am_dp pw_X10_pileUp_160 dd_X10_pileUp_160a.2.1) (by decide)).to, ?_⟩
  refine List.forall_mem_cons.mpr ⟨(s_iinc (am_dp pw_X10_pileUp_160 dd_X10_pileUp_160a.2.2.1) (by decide) (by decide)).to, ?_⟩
  refine List.forall_mem_cons.mpr ⟨(s_goto (am_dp pw_X10_pileUp_160 dd_X10_pileUp_160a.2.2.2.1) (by decide)).to, ?_⟩
  refine List.forall_mem_cons.mpr ⟨(s_iloadn (am_dp pw_X10_pileUp_160 dd_X10_pileUp_160a.2.2.2.2.1) rfl).to, ?_⟩
  refine List.forall_mem_cons.mpr ⟨s_iret (am_dp pw_X10_pileUp_160 dd_X10_pileUp_160a.2.2.2.2.2) rfl, ?_⟩
  exact fun _ h => absurd h List.not_mem_nil
theorem sn_tX10_pileUp : ∀ q ∈ tX10_pileUp, am_Snd am_P0 RX10 cX10_pileUp 7 (Option.some FieldType.int) "pileUp" q.1 q.2 := by
  unfold tX10_pileUp
  exact List.forall_mem_append.mpr ⟨sn_tX10_pileUp_0, sn_tX10_pileUp_1⟩
theorem sn_tX10_write : ∀ q ∈ tX10_write, am_Snd am_P0 RX10 cX10_write 2 (Option.none : Option FieldType) "write" q.1 q.2 := by
  unfold tX10_write
  refine List.forall_mem_cons.mpr ⟨(s_aloadn (am_dp pw_X10_write_0 dd_X10_write_0a.1) rfl).to, ?_⟩
  refine List.forall_mem_cons.mpr ⟨(s_get (ci := 10) (k := 10) (am_dp pw_X10_write_0 dd_X10_write_0a.2.1) rfl (by decide) wd589 inX10 rfl).to, ?_⟩
  refine List.forall_mem_cons.mpr ⟨(s_sipush (am_dp pw_X10_write_0 dd_X10_write_0a.2.2.1) (by decide)).to, ?_⟩
  refine List.forall_mem_cons.mpr ⟨(s_icmp_ge (am_dp pw_X10_write_0 dd_X10_write_0a.2.2.2.1) (by decide)).to, ?_⟩
  refine List.forall_mem_cons.mpr ⟨(s_aloadn (am_dp pw_X10_write_0 dd_X10_write_0a.2.2.2.2.1) rfl).to, ?_⟩
  refine List.forall_mem_cons.mpr ⟨(s_get (ci := 10) (k := 9) (am_dp pw_X10_write_0 dd_X10_write_0a.2.2.2.2.2.1) rfl (by decide) wd588 inX10 rfl).to, ?_⟩
  refine List.forall_mem_cons.mpr ⟨(s_aloadn (am_dp pw_X10_write_0 dd_X10_write_0a.2.2.2.2.2.2.1) rfl).to, ?_⟩
  refine List.forall_mem_cons.mpr ⟨(s_get (ci := 10) (k := 10) (am_dp pw_X10_write_0 dd_X10_write_0a.2.2.2.2.2.2.2) rfl (by decide) wd589 inX10 rfl).to, ?_⟩
  refine List.forall_mem_cons.mpr ⟨(s_iloadn (am_dp pw_X10_write_0 dd_X10_write_0b.1) rfl).to, ?_⟩
  refine List.forall_mem_cons.mpr ⟨(s_iast (am_dp pw_X10_write_0 dd_X10_write_0b.2.1)).to, ?_⟩
  refine List.forall_mem_cons.mpr ⟨(s_aloadn (am_dp pw_X10_write_0 dd_X10_write_0b.2.2.1) rfl).to, ?_⟩
  refine List.forall_mem_cons.mpr ⟨(s_dup (am_dp pw_X10_write_0 dd_X10_write_0b.2.2.2.1)).to, ?_⟩
  refine List.forall_mem_cons.mpr ⟨(s_get (ci := 10) (k := 10) (am_dp pw_X10_write_0 dd_X10_write_0b.2.2.2.2.1) rfl (by decide) wd589 inX10 rfl).to, ?_⟩
  refine List.forall_mem_cons.mpr ⟨(s_iconst (am_dp pw_X10_write_0 dd_X10_write_0b.2.2.2.2.2.1) (by decide)).to, ?_⟩
  refine List.forall_mem_cons.mpr ⟨(s_iadd (am_dp pw_X10_write_0 dd_X10_write_0b.2.2.2.2.2.2.1)).to, ?_⟩
  refine List.forall_mem_cons.mpr ⟨(s_put (ci := 10) (k := 10) (am_dp pw_X10_write_0 dd_X10_write_0b.2.2.2.2.2.2.2) rfl (by decide) wd589 inX10 tyX10_ok nmX10 rfl rfl).to, ?_⟩
  refine List.forall_mem_cons.mpr ⟨s_vret (am_dp pw_X10_write_0 dd_X10_write_0c) rfl, ?_⟩
  exact fun _ h => absurd h List.not_mem_nil
theorem sn_tX10_checkOf : ∀ q ∈ tX10_checkOf, am_Snd am_P0 RX10 cX10_checkOf 4 (Option.some FieldType.int) "checkOf" q.1 q.2 := by
  unfold tX10_checkOf
  refine List.forall_mem_cons.mpr ⟨(s_bipush (am_dp pw_X10_checkOf_0 dd_X10_checkOf_0a.1) (by decide)).to, ?_⟩
  refine List.forall_mem_cons.mpr ⟨(s_istoren (am_dp pw_X10_checkOf_0 dd_X10_checkOf_0a.2.1) rfl (by decide)).to, ?_⟩
  refine List.forall_mem_cons.mpr ⟨(s_iconst (am_dp pw_X10_checkOf_0 dd_X10_checkOf_0a.2.2.1) (by decide)).to, ?_⟩
  refine List.forall_mem_cons.mpr ⟨(s_istoren (am_dp pw_X10_checkOf_0 dd_X10_checkOf_0a.2.2.2.1) rfl (by decide)).to, ?_⟩
  refine List.forall_mem_cons.mpr ⟨(s_iloadn (am_dp pw_X10_checkOf_0 dd_X10_checkOf_0a.2.2.2.2.1) rfl).to, ?_⟩
  refine List.forall_mem_cons.mpr ⟨(s_iloadn (am_dp pw_X10_checkOf_0 dd_X10_checkOf_0a.2.2.2.2.2.1) rfl).to, ?_⟩
  refine List.forall_mem_cons.mpr ⟨(s_icmp_ge (am_dp pw_X10_checkOf_0 dd_X10_checkOf_0a.2.2.2.2.2.2.1) (by decide)).to, ?_⟩
  refine List.forall_mem_cons.mpr ⟨(s_iconst (am_dp pw_X10_checkOf_0 dd_X10_checkOf_0a.2.2.2.2.2.2.2) (by decide)).to, ?_⟩
  refine List.forall_mem_cons.mpr ⟨(s_iloadn (am_dp pw_X10_checkOf_0 dd_X10_checkOf_0b.1) rfl).to, ?_⟩
  refine List.forall_mem_cons.mpr ⟨(s_imul (am_dp pw_X10_checkOf_0 dd_X10_checkOf_0b.2.1)).to, ?_⟩
  refine List.forall_mem_cons.mpr ⟨(s_aloadn (am_dp pw_X10_checkOf_0 dd_X10_checkOf_0b.2.2.1) rfl).to, ?_⟩
  refine List.forall_mem_cons.mpr ⟨(s_iloadn (am_dp pw_X10_checkOf_0 dd_X10_checkOf_0b.2.2.2.1) rfl).to, ?_⟩
  refine List.forall_mem_cons.mpr ⟨(s_iald (am_dp pw_X10_checkOf_0 dd_X10_checkOf_0b.2.2.2.2.1)).to, ?_⟩
  refine List.forall_mem_cons.mpr ⟨(s_iadd (am_dp pw_X10_checkOf_0 dd_X10_checkOf_0b.2.2.2.2.2.1)).to, ?_⟩
  refine List.forall_mem_cons.mpr ⟨(s_sipush (am_dp pw_X10_checkOf_0 dd_X10_checkOf_0b.2.2.2.2.2.2.1) (by decide)).to, ?_⟩
  refine List.forall_mem_cons.mpr ⟨(s_irem (am_dp pw_X10_checkOf_0 dd_X10_checkOf_0b.2.2.2.2.2.2.2)).to, ?_⟩
  refine List.forall_mem_cons.mpr ⟨(s_istoren (am_dp pw_X10_checkOf_0 dd_X10_checkOf_0c.1) rfl (by decide)).to, ?_⟩
  refine List.forall_mem_cons.mpr ⟨(s_iinc (am_dp pw_X10_checkOf_0 dd_X10_checkOf_0c.2.1) (by decide) (by decide)).to, ?_⟩
  refine List.forall_mem_cons.mpr ⟨(s_goto (am_dp pw_X10_checkOf_0 dd_X10_checkOf_0c.2.2.1) (by decide)).to, ?_⟩
  refine List.forall_mem_cons.mpr ⟨(s_iloadn (am_dp pw_X10_checkOf_0 dd_X10_checkOf_0c.2.2.2.1) rfl).to, ?_⟩
  refine List.forall_mem_cons.mpr ⟨s_iret (am_dp pw_X10_checkOf_0 dd_X10_checkOf_0c.2.2.2.2) rfl, ?_⟩
  exact fun _ h => absurd h List.not_mem_nil
theorem sn_tX10_isImage_0 : ∀ q ∈ tX10_isImage_0, am_Snd am_P0 RX10 cX10_isImage 6 (Option.some FieldType.boolean) "isImage" q.1 q.2 := by
  unfold tX10_isImage_0
  refine List.forall_mem_cons.mpr ⟨(s_iloadn (am_dp pw_X10_isImage_0 dd_X10_isImage_0a.1) rfl).to, ?_⟩
  refine List.forall_mem_cons.mpr ⟨(s_iconst (am_dp pw_X10_isImage_0 dd_X10_isImage_0a.2.1) (by decide)).to, ?_⟩
  refine List.forall_mem_cons.mpr ⟨(s_icmp_lt (am_dp pw_X10_isImage_0 dd_X10_isImage_0a.2.2.1) (by decide)).to, ?_⟩
  refine List.forall_mem_cons.mpr ⟨(s_aloadn (am_dp pw_X10_isImage_0 dd_X10_isImage_0a.2.2.2.1) rfl).to, ?_⟩
  refine List.forall_mem_cons.mpr ⟨(s_get (ci := 10) (k := 0) (am_dp pw_X10_isImage_0 dd_X10_isImage_0a.2.2.2.2.1) rfl (by decide) wd579 inX10 rfl).to, ?_⟩
  refine List.forall_mem_cons.mpr ⟨(s_iconst (am_dp pw_X10_isImage_0 dd_X10_isImage_0a.2.2.2.2.2.1) (by decide)).to, ?_⟩
  refine List.forall_mem_cons.mpr ⟨(s_iald (am_dp pw_X10_isImage_0 dd_X10_isImage_0a.2.2.2.2.2.2.1)).to, ?_⟩
  refine List.forall_mem_cons.mpr ⟨(s_bipush (am_dp pw_X10_isImage_0 dd_X10_isImage_0a.2.2.2.2.2.2.2) (by decide)).to, ?_⟩
  refine List.forall_mem_cons.mpr ⟨(s_icmp_le (am_dp pw_X10_isImage_0 dd_X10_isImage_0b.1) (by decide)).to, ?_⟩
  refine List.forall_mem_cons.mpr ⟨(s_iconst (am_dp pw_X10_isImage_0 dd_X10_isImage_0b.2.1) (by decide)).to, ?_⟩
  refine List.forall_mem_cons.mpr ⟨s_zret (am_dp pw_X10_isImage_0 dd_X10_isImage_0b.2.2.1) rfl, ?_⟩
  refine List.forall_mem_cons.mpr ⟨(s_iconst (am_dp pw_X10_isImage_0 dd_X10_isImage_0b.2.2.2.1) (by decide)).to, ?_⟩
  refine List.forall_mem_cons.mpr ⟨(s_iconst (am_dp pw_X10_isImage_0 dd_X10_isImage_0b.2.2.2.2.1) (by decide)).to, ?_⟩
  refine List.forall_mem_cons.mpr ⟨(s_aloadn (am_dp pw_X10_isImage_0 dd_X10_isImage_0b.2.2.2.2.2.1) rfl).to, ?_⟩
  refine List.forall_mem_cons.mpr ⟨(s_get (ci := 10) (k := 0) (am_dp pw_X10_isImage_0 dd_X10_isImage_0b.2.2.2.2.2.2.1) rfl (by decide) wd579 inX10 rfl).to, ?_⟩
  refine List.forall_mem_cons.mpr ⟨(s_iconst (am_dp pw_X10_isImage_0 dd_X10_isImage_0b.2.2.2.2.2.2.2) (by decide)).to, ?_⟩
  refine List.forall_mem_cons.mpr ⟨(s_iald (am_dp pw_X10_isImage_0 dd_X10_isImage_0c.1)).to, ?_⟩
  refine List.forall_mem_cons.mpr ⟨(s_imul (am_dp pw_X10_isImage_0 dd_X10_isImage_0c.2.1)).to, ?_⟩
  refine List.forall_mem_cons.mpr ⟨(s_iadd (am_dp pw_X10_isImage_0 dd_X10_isImage_0c.2.2.1)).to, ?_⟩
  refine List.forall_mem_cons.mpr ⟨(s_istoren (am_dp pw_X10_isImage_0 dd_X10_isImage_0c.2.2.2.1) rfl (by decide)).to, ?_⟩
  refine List.forall_mem_cons.mpr ⟨(s_iloadn (am_dp pw_X10_isImage_0 dd_X10_isImage_0c.2.2.2.2.1) rfl).to, ?_⟩
  refine List.forall_mem_cons.mpr ⟨(s_iloadn (am_dp pw_X10_isImage_0 dd_X10_isImage_0c.2.2.2.2.2.1) rfl).to, ?_⟩
  refine List.forall_mem_cons.mpr ⟨(s_icmp_ge (am_dp pw_X10_isImage_0 dd_X10_isImage_0c.2.2.2.2.2.2) (by decide)).to, ?_⟩
  refine List.forall_mem_cons.mpr ⟨(s_aloadn (am_dp pw_X10_isImage_32 dd_X10_isImage_32a.1) rfl).to, ?_⟩
  refine List.forall_mem_cons.mpr ⟨(s_get (ci := 10) (k := 0) (am_dp pw_X10_isImage_32 dd_X10_isImage_32a.2.1) rfl (by decide) wd579 inX10 rfl).to, ?_⟩
  refine List.forall_mem_cons.mpr ⟨(s_iloadn (am_dp pw_X10_isImage_32 dd_X10_isImage_32a.2.2.1) rfl).to, ?_⟩
  refine List.forall_mem_cons.mpr ⟨(s_iald (am_dp pw_X10_isImage_32 dd_X10_isImage_32a.2.2.2.1)).to, ?_⟩
  refine List.forall_mem_cons.mpr ⟨(s_bipush (am_dp pw_X10_isImage_32 dd_X10_isImage_32a.2.2.2.2.1) (by decide)).to, ?_⟩
  refine List.forall_mem_cons.mpr ⟨(s_icmp_gt (am_dp pw_X10_isImage_32 dd_X10_isImage_32a.2.2.2.2.2.1) (by decide)).to, ?_⟩
  refine List.forall_mem_cons.mpr ⟨(s_iloadn (am_dp pw_X10_isImage_32 dd_X10_isImage_32a.2.2.2.2.2.2.1) rfl).to, ?_⟩
  refine List.forall_mem_cons.mpr ⟨(s_iloadn (am_dp pw_X10_isImage_32 dd_X10_isImage_32a.2.2.2.2.2.2.2) rfl).to, ?_⟩
  refine List.forall_mem_cons.mpr ⟨(s_iconst (am_dp pw_X10_isImage_32 dd_X10_isImage_32b.1) (by decide)).to, ?_⟩
  refine List.forall_mem_cons.mpr ⟨(s_iadd (am_dp pw_X10_isImage_32 dd_X10_isImage_32b.2.1)).to, ?_⟩
  refine List.forall_mem_cons.mpr ⟨(s_iconst (am_dp pw_X10_isImage_32 dd_X10_isImage_32b.2.2.1) (by decide)).to, ?_⟩
  refine List.forall_mem_cons.mpr ⟨(s_aloadn (am_dp pw_X10_isImage_32 dd_X10_isImage_32b.2.2.2.1) rfl).to, ?_⟩
  refine List.forall_mem_cons.mpr ⟨(s_get (ci := 10) (k := 0) (am_dp pw_X10_isImage_32 dd_X10_isImage_32b.2.2.2.2.1) rfl (by decide) wd579 inX10 rfl).to, ?_⟩
  refine List.forall_mem_cons.mpr ⟨(s_iloadn (am_dp pw_X10_isImage_32 dd_X10_isImage_32b.2.2.2.2.2.1) rfl).to, ?_⟩
  refine List.forall_mem_cons.mpr ⟨(s_iald (am_dp pw_X10_isImage_32 dd_X10_isImage_32b.2.2.2.2.2.2.1)).to, ?_⟩
  refine List.forall_mem_cons.mpr ⟨(s_imul (am_dp pw_X10_isImage_32 dd_X10_isImage_32b.2.2.2.2.2.2.2)).to, ?_⟩
  refine List.forall_mem_cons.mpr ⟨(s_iadd (am_dp pw_X10_isImage_32 dd_X10_isImage_32c.1)).to, ?_⟩
  refine List.forall_mem_cons.mpr ⟨(s_iconst (am_dp pw_X10_isImage_32 dd_X10_isImage_32c.2.1) (by decide)).to, ?_⟩
  refine List.forall_mem_cons.mpr ⟨(s_iadd (am_dp pw_X10_isImage_32 dd_X10_isImage_32c.2.2.1)).to, ?_⟩
  refine List.forall_mem_cons.mpr ⟨(s_icmp_ne (am_dp pw_X10_isImage_32 dd_X10_isImage_32c.2.2.2.1) (by decide)).to, ?_⟩
  refine List.forall_mem_cons.mpr ⟨(s_aloadn (am_dp pw_X10_isImage_32 dd_X10_isImage_32c.2.2.2.2) rfl).to, ?_⟩
  refine List.forall_mem_cons.mpr ⟨(s_get (ci := 10) (k := 0) (am_dp pw_X10_isImage_64 dd_X10_isImage_64a.1) rfl (by decide) wd579 inX10 rfl).to, ?_⟩
  refine List.forall_mem_cons.mpr ⟨(s_iloadn (am_dp pw_X10_isImage_64 dd_X10_isImage_64a.2.1) rfl).to, ?_⟩
  refine List.forall_mem_cons.mpr ⟨(s_iconst (am_dp pw_X10_isImage_64 dd_X10_isImage_64a.2.2.1) (by decide)).to, ?_⟩
  refine List.forall_mem_cons.mpr ⟨(s_isub (am_dp pw_X10_isImage_64 dd_X10_isImage_64a.2.2.2.1)).to, ?_⟩
  refine List.forall_mem_cons.mpr ⟨(s_iald (am_dp pw_X10_isImage_64 dd_X10_isImage_64a.2.2.2.2.1)).to, ?_⟩
  refine List.forall_mem_cons.mpr ⟨(s_aloadn (am_dp pw_X10_isImage_64 dd_X10_isImage_64a.2.2.2.2.2.1) rfl).to, ?_⟩
  refine List.forall_mem_cons.mpr ⟨(s_get (ci := 10) (k := 0) (am_dp pw_X10_isImage_64 dd_X10_isImage_64a.2.2.2.2.2.2.1) rfl (by decide) wd579 inX10 rfl).to, ?_⟩
  refine List.forall_mem_cons.mpr ⟨(s_iloadn (am_dp pw_X10_isImage_64 dd_X10_isImage_64a.2.2.2.2.2.2.2) rfl).to, ?_⟩
  refine List.forall_mem_cons.mpr ⟨(s_iconst (am_dp pw_X10_isImage_64 dd_X10_isImage_64b.1) (by decide)).to, ?_⟩
  refine List.forall_mem_cons.mpr ⟨(s_isub (am_dp pw_X10_isImage_64 dd_X10_isImage_64b.2.1)).to, ?_⟩
  refine List.forall_mem_cons.mpr ⟨zw_cs163 (am_dp pw_X10_isImage_64 dd_X10_isImage_64b.2.2.1) wd1300, ?_⟩
  refine List.forall_mem_cons.mpr ⟨(s_icmp_eq (am_dp pw_X10_isImage_64 dd_X10_isImage_64b.2.2.2.1) (by decide)).to, ?_⟩
  refine List.forall_mem_cons.mpr ⟨(s_iconst (am_dp pw_X10_isImage_64 dd_X10_isImage_64b.2.2.2.2.1) (by decide)).to, ?_⟩
  refine List.forall_mem_cons.mpr ⟨s_zret (am_dp pw_X10_isImage_64 dd_X10_isImage_64b.2.2.2.2.2.1) rfl, ?_⟩
  refine List.forall_mem_cons.mpr ⟨(s_iconst (am_dp pw_X10_isImage_64 dd_X10_isImage_64b.2.2.2.2.2.2.1) (by decide)).to, ?_⟩
  refine List.forall_mem_cons.mpr ⟨(s_istoren (am_dp pw_X10_isImage_64 dd_X10_isImage_64b.2.2.2.2.2.2.2) rfl (by decide)).to, ?_⟩
  exact fun _ h => absurd h List.not_mem_nil
theorem sn_tX10_isImage_1 : ∀ q ∈ tX10_isImage_1, am_Snd am_P0 RX10 cX10_isImage 6 (Option.some FieldType.boolean) "isImage" q.1 q.2 := by
  unfold tX10_isImage_1
  refine List.forall_mem_cons.mpr ⟨(s_iconst (am_dp pw_X10_isImage_64 dd_X10_isImage_64c.1) (by decide)).to, ?_⟩
  refine List.forall_mem_cons.mpr ⟨(s_istore (am_dp pw_X10_isImage_64 dd_X10_isImage_64c.2.1) (by decide)).to, ?_⟩
  refine List.forall_mem_cons.mpr ⟨(s_iload (am_dp pw_X10_isImage_64 dd_X10_isImage_64c.2.2.1)).to, ?_⟩
  refine List.forall_mem_cons.mpr ⟨(s_iloadn (am_dp pw_X10_isImage_64 dd_X10_isImage_64c.2.2.2.1) rfl).to, ?_⟩
  refine List.forall_mem_cons.mpr ⟨(s_icmp_ge (am_dp pw_X10_isImage_64 dd_X10_isImage_64c.2.2.2.2) (by decide)).to, ?_⟩
  refine List.forall_mem_cons.mpr ⟨(s_aloadn (am_dp pw_X10_isImage_96 dd_X10_isImage_96a.1) rfl).to, ?_⟩
  refine List.forall_mem_cons.mpr ⟨(s_get (ci := 10) (k := 0) (am_dp pw_X10_isImage_96 dd_X10_isImage_96a.2.1) rfl (by decide) wd579 inX10 rfl).to, ?_⟩
  refine List.forall_mem_cons.mpr ⟨(s_iload (am_dp pw_X10_isImage_96 dd_X10_isImage_96a.2.2.1)).to, ?_⟩
  refine List.forall_mem_cons.mpr ⟨(s_iald (am_dp pw_X10_isImage_96 dd_X10_isImage_96a.2.2.2.1)).to, ?_⟩
  refine List.forall_mem_cons.mpr ⟨(s_bipush (am_dp pw_X10_isImage_96 dd_X10_isImage_96a.2.2.2.2.1) (by decide)).to, ?_⟩
  refine List.forall_mem_cons.mpr ⟨(s_imul (am_dp pw_X10_isImage_96 dd_X10_isImage_96a.2.2.2.2.2.1)).to, ?_⟩
  refine List.forall_mem_cons.mpr ⟨(s_aloadn (am_dp pw_X10_isImage_96 dd_X10_isImage_96a.2.2.2.2.2.2.1) rfl).to, ?_⟩
  refine List.forall_mem_cons.mpr ⟨(s_get (ci := 10) (k := 0) (am_dp pw_X10_isImage_96 dd_X10_isImage_96a.2.2.2.2.2.2.2) rfl (by decide) wd579 inX10 rfl).to, ?_⟩
  refine List.forall_mem_cons.mpr ⟨(s_iload (am_dp pw_X10_isImage_96 dd_X10_isImage_96b.1)).to, ?_⟩
  refine List.forall_mem_cons.mpr ⟨(s_iconst (am_dp pw_X10_isImage_96 dd_X10_isImage_96b.2.1) (by decide)).to, ?_⟩
  refine List.forall_mem_cons.mpr ⟨(s_iadd (am_dp pw_X10_isImage_96 dd_X10_isImage_96b.2.2.1)).to, ?_⟩
  refine List.forall_mem_cons.mpr ⟨(s_iald (am_dp pw_X10_isImage_96 dd_X10_isImage_96b.2.2.2.1)).to, ?_⟩
  refine List.forall_mem_cons.mpr ⟨(s_iadd (am_dp pw_X10_isImage_96 dd_X10_isImage_96b.2.2.2.2.1)).to, ?_⟩
  refine List.forall_mem_cons.mpr ⟨(s_istore (am_dp pw_X10_isImage_96 dd_X10_isImage_96b.2.2.2.2.2.1) (by decide)).to, ?_⟩
  refine List.forall_mem_cons.mpr ⟨(s_aloadn (am_dp pw_X10_isImage_96 dd_X10_isImage_96b.2.2.2.2.2.2.1) rfl).to, ?_⟩
  refine List.forall_mem_cons.mpr ⟨(s_aloadn (am_dp pw_X10_isImage_96 dd_X10_isImage_96b.2.2.2.2.2.2.2) rfl).to, ?_⟩
  refine List.forall_mem_cons.mpr ⟨(s_get (ci := 10) (k := 0) (am_dp pw_X10_isImage_96 dd_X10_isImage_96c.1) rfl (by decide) wd579 inX10 rfl).to, ?_⟩
  refine List.forall_mem_cons.mpr ⟨(s_iload (am_dp pw_X10_isImage_96 dd_X10_isImage_96c.2.1)).to, ?_⟩
  refine List.forall_mem_cons.mpr ⟨(s_iald (am_dp pw_X10_isImage_96 dd_X10_isImage_96c.2.2.1)).to, ?_⟩
  refine List.forall_mem_cons.mpr ⟨zw_cv150 (am_dp pw_X10_isImage_96 dd_X10_isImage_96c.2.2.2) wd921, ?_⟩
  refine List.forall_mem_cons.mpr ⟨(s_if_eq (am_dp pw_X10_isImage_128 dd_X10_isImage_128a.1) (by decide)).to, ?_⟩
  refine List.forall_mem_cons.mpr ⟨(s_aloadn (am_dp pw_X10_isImage_128 dd_X10_isImage_128a.2.1) rfl).to, ?_⟩
  refine List.forall_mem_cons.mpr ⟨(s_get (ci := 10) (k := 0) (am_dp pw_X10_isImage_128 dd_X10_isImage_128a.2.2.1) rfl (by decide) wd579 inX10 rfl).to, ?_⟩
  refine List.forall_mem_cons.mpr ⟨(s_iload (am_dp pw_X10_isImage_128 dd_X10_isImage_128a.2.2.2.1)).to, ?_⟩
  refine List.forall_mem_cons.mpr ⟨(s_iconst (am_dp pw_X10_isImage_128 dd_X10_isImage_128a.2.2.2.2.1) (by decide)).to, ?_⟩
  refine List.forall_mem_cons.mpr ⟨(s_iadd (am_dp pw_X10_isImage_128 dd_X10_isImage_128a.2.2.2.2.2.1)).to, ?_⟩
  refine List.forall_mem_cons.mpr ⟨(s_iald (am_dp pw_X10_isImage_128 dd_X10_isImage_128a.2.2.2.2.2.2.1)).to, ?_⟩
  refine List.forall_mem_cons.mpr ⟨zw_cs149 (am_dp pw_X10_isImage_128 dd_X10_isImage_128a.2.2.2.2.2.2.2) wd1028, ?_⟩
  refine List.forall_mem_cons.mpr ⟨(s_if_eq (am_dp pw_X10_isImage_128 dd_X10_isImage_128b.1) (by decide)).to, ?_⟩
  refine List.forall_mem_cons.mpr ⟨(s_aloadn (am_dp pw_X10_isImage_128 dd_X10_isImage_128b.2.1) rfl).to, ?_⟩
  refine List.forall_mem_cons.mpr ⟨(s_get (ci := 10) (k := 2) (am_dp pw_X10_isImage_128 dd_X10_isImage_128b.2.2.1) rfl (by decide) wd581 inX10 rfl).to, ?_⟩
  refine List.forall_mem_cons.mpr ⟨(s_aloadn (am_dp pw_X10_isImage_128 dd_X10_isImage_128b.2.2.2.1) rfl).to, ?_⟩
  refine List.forall_mem_cons.mpr ⟨(s_get (ci := 10) (k := 0) (am_dp pw_X10_isImage_128 dd_X10_isImage_128b.2.2.2.2.1) rfl (by decide) wd579 inX10 rfl).to, ?_⟩
  refine List.forall_mem_cons.mpr ⟨(s_iload (am_dp pw_X10_isImage_128 dd_X10_isImage_128b.2.2.2.2.2.1)).to, ?_⟩
  refine List.forall_mem_cons.mpr ⟨(s_iconst (am_dp pw_X10_isImage_128 dd_X10_isImage_128b.2.2.2.2.2.2.1) (by decide)).to, ?_⟩
  refine List.forall_mem_cons.mpr ⟨(s_iadd (am_dp pw_X10_isImage_128 dd_X10_isImage_128b.2.2.2.2.2.2.2)).to, ?_⟩
  refine List.forall_mem_cons.mpr ⟨(s_iald (am_dp pw_X10_isImage_160 dd_X10_isImage_160a.1)).to, ?_⟩
  refine List.forall_mem_cons.mpr ⟨zw_cv57 (am_dp pw_X10_isImage_160 dd_X10_isImage_160a.2.1) wd1315, ?_⟩
  refine List.forall_mem_cons.mpr ⟨(s_iconst (am_dp pw_X10_isImage_160 dd_X10_isImage_160a.2.2.1) (by decide)).to, ?_⟩
  refine List.forall_mem_cons.mpr ⟨(s_icmp_eq (am_dp pw_X10_isImage_160 dd_X10_isImage_160a.2.2.2.1) (by decide)).to, ?_⟩
  refine List.forall_mem_cons.mpr ⟨(s_aloadn (am_dp pw_X10_isImage_160 dd_X10_isImage_160a.2.2.2.2.1) rfl).to, ?_⟩
  refine List.forall_mem_cons.mpr ⟨(s_get (ci := 10) (k := 0) (am_dp pw_X10_isImage_160 dd_X10_isImage_160a.2.2.2.2.2.1) rfl (by decide) wd579 inX10 rfl).to, ?_⟩
  refine List.forall_mem_cons.mpr ⟨(s_iload (am_dp pw_X10_isImage_160 dd_X10_isImage_160a.2.2.2.2.2.2.1)).to, ?_⟩
  refine List.forall_mem_cons.mpr ⟨(s_iconst (am_dp pw_X10_isImage_160 dd_X10_isImage_160a.2.2.2.2.2.2.2) (by decide)).to, ?_⟩
  refine List.forall_mem_cons.mpr ⟨(s_iadd (am_dp pw_X10_isImage_160 dd_X10_isImage_160b.1)).to, ?_⟩
  refine List.forall_mem_cons.mpr ⟨(s_iald (am_dp pw_X10_isImage_160 dd_X10_isImage_160b.2.1)).to, ?_⟩
  refine List.forall_mem_cons.mpr ⟨(s_iconst (am_dp pw_X10_isImage_160 dd_X10_isImage_160b.2.2.1) (by decide)).to, ?_⟩
  refine List.forall_mem_cons.mpr ⟨(s_icmp_gt (am_dp pw_X10_isImage_160 dd_X10_isImage_160b.2.2.2.1) (by decide)).to, ?_⟩
  refine List.forall_mem_cons.mpr ⟨(s_iload (am_dp pw_X10_isImage_160 dd_X10_isImage_160b.2.2.2.2.1)).to, ?_⟩
  refine List.forall_mem_cons.mpr ⟨(s_iloadn (am_dp pw_X10_isImage_160 dd_X10_isImage_160b.2.2.2.2.2.1) rfl).to, ?_⟩
  refine List.forall_mem_cons.mpr ⟨(s_icmp_gt (am_dp pw_X10_isImage_160 dd_X10_isImage_160b.2.2.2.2.2.2.1) (by decide)).to, ?_⟩
  refine List.forall_mem_cons.mpr ⟨(s_iconst (am_dp pw_X10_isImage_160 dd_X10_isImage_160b.2.2.2.2.2.2.2) (by decide)).to, ?_⟩
  refine List.forall_mem_cons.mpr ⟨s_zret (am_dp pw_X10_isImage_160 dd_X10_isImage_160c.1) rfl, ?_⟩
  refine List.forall_mem_cons.mpr ⟨(s_iload (am_dp pw_X10_isImage_160 dd_X10_isImage_160c.2.1)).to, ?_⟩
  refine List.forall_mem_cons.mpr ⟨(s_istoren (am_dp pw_X10_isImage_160 dd_X10_isImage_160c.2.2) rfl (by decide)).to, ?_⟩
  exact fun _ h => absurd h List.not_mem_nil
theorem sn_tX10_isImage_2 : ∀ q ∈ tX10_isImage_2, am_Snd am_P0 RX10 cX10_isImage 6 (Option.some FieldType.boolean) "isImage" q.1 q.2 := by
  unfold tX10_isImage_2
  refine List.forall_mem_cons.mpr ⟨(s_iinc (am_dp pw_X10_isImage_192 dd_X10_isImage_192a.1) (by decide) (by decide)).to, ?_⟩
  refine List.forall_mem_cons.mpr ⟨(s_goto (am_dp pw_X10_isImage_192 dd_X10_isImage_192a.2.1) (by decide)).to, ?_⟩
  refine List.forall_mem_cons.mpr ⟨(s_iloadn (am_dp pw_X10_isImage_192 dd_X10_isImage_192a.2.2.1) rfl).to, ?_⟩
  refine List.forall_mem_cons.mpr ⟨(s_iconst (am_dp pw_X10_isImage_192 dd_X10_isImage_192a.2.2.2.1) (by decide)).to, ?_⟩
  refine List.forall_mem_cons.mpr ⟨(s_iadd (am_dp pw_X10_isImage_192 dd_X10_isImage_192a.2.2.2.2.1)).to, ?_⟩
  refine List.forall_mem_cons.mpr ⟨(s_istore (am_dp pw_X10_isImage_192 dd_X10_isImage_192a.2.2.2.2.2.1) (by decide)).to, ?_⟩
  refine List.forall_mem_cons.mpr ⟨(s_iload (am_dp pw_X10_isImage_192 dd_X10_isImage_192a.2.2.2.2.2.2.1)).to, ?_⟩
  refine List.forall_mem_cons.mpr ⟨(s_iloadn (am_dp pw_X10_isImage_192 dd_X10_isImage_192a.2.2.2.2.2.2.2) rfl).to, ?_⟩
  refine List.forall_mem_cons.mpr ⟨(s_iconst (am_dp pw_X10_isImage_192 dd_X10_isImage_192b.1) (by decide)).to, ?_⟩
  refine List.forall_mem_cons.mpr ⟨(s_isub (am_dp pw_X10_isImage_192 dd_X10_isImage_192b.2.1)).to, ?_⟩
  refine List.forall_mem_cons.mpr ⟨(s_icmp_ge (am_dp pw_X10_isImage_192 dd_X10_isImage_192b.2.2.1) (by decide)).to, ?_⟩
  refine List.forall_mem_cons.mpr ⟨(s_aloadn (am_dp pw_X10_isImage_192 dd_X10_isImage_192b.2.2.2.1) rfl).to, ?_⟩
  refine List.forall_mem_cons.mpr ⟨(s_get (ci := 10) (k := 0) (am_dp pw_X10_isImage_192 dd_X10_isImage_192b.2.2.2.2.1) rfl (by decide) wd579 inX10 rfl).to, ?_⟩
  refine List.forall_mem_cons.mpr ⟨(s_iload (am_dp pw_X10_isImage_192 dd_X10_isImage_192b.2.2.2.2.2.1)).to, ?_⟩
  refine List.forall_mem_cons.mpr ⟨(s_iald (am_dp pw_X10_isImage_192 dd_X10_isImage_192b.2.2.2.2.2.2.1)).to, ?_⟩
  refine List.forall_mem_cons.mpr ⟨(s_iconst (am_dp pw_X10_isImage_192 dd_X10_isImage_192b.2.2.2.2.2.2.2) (by decide)).to, ?_⟩
  refine List.forall_mem_cons.mpr ⟨(s_icmp_ge (am_dp pw_X10_isImage_192 dd_X10_isImage_192c.1) (by decide)).to, ?_⟩
  refine List.forall_mem_cons.mpr ⟨(s_aloadn (am_dp pw_X10_isImage_192 dd_X10_isImage_192c.2.1) rfl).to, ?_⟩
  refine List.forall_mem_cons.mpr ⟨(s_get (ci := 10) (k := 2) (am_dp pw_X10_isImage_192 dd_X10_isImage_192c.2.2) rfl (by decide) wd581 inX10 rfl).to, ?_⟩
  refine List.forall_mem_cons.mpr ⟨(s_aloadn (am_dp pw_X10_isImage_224 dd_X10_isImage_224a.1) rfl).to, ?_⟩
  refine List.forall_mem_cons.mpr ⟨(s_get (ci := 10) (k := 0) (am_dp pw_X10_isImage_224 dd_X10_isImage_224a.2.1) rfl (by decide) wd579 inX10 rfl).to, ?_⟩
  refine List.forall_mem_cons.mpr ⟨(s_iload (am_dp pw_X10_isImage_224 dd_X10_isImage_224a.2.2.1)).to, ?_⟩
  refine List.forall_mem_cons.mpr ⟨(s_iconst (am_dp pw_X10_isImage_224 dd_X10_isImage_224a.2.2.2.1) (by decide)).to, ?_⟩
  refine List.forall_mem_cons.mpr ⟨(s_iadd (am_dp pw_X10_isImage_224 dd_X10_isImage_224a.2.2.2.2.1)).to, ?_⟩
  refine List.forall_mem_cons.mpr ⟨(s_iald (am_dp pw_X10_isImage_224 dd_X10_isImage_224a.2.2.2.2.2.1)).to, ?_⟩
  refine List.forall_mem_cons.mpr ⟨zw_cv57 (am_dp pw_X10_isImage_224 dd_X10_isImage_224a.2.2.2.2.2.2.1) wd1315, ?_⟩
  refine List.forall_mem_cons.mpr ⟨(s_iconst (am_dp pw_X10_isImage_224 dd_X10_isImage_224a.2.2.2.2.2.2.2) (by decide)).to, ?_⟩
  refine List.forall_mem_cons.mpr ⟨(s_icmp_eq (am_dp pw_X10_isImage_224 dd_X10_isImage_224b.1) (by decide)).to, ?_⟩
  refine List.forall_mem_cons.mpr ⟨(s_aloadn (am_dp pw_X10_isImage_224 dd_X10_isImage_224b.2.1) rfl).to, ?_⟩
  refine List.forall_mem_cons.mpr ⟨(s_get (ci := 10) (k := 0) (am_dp pw_X10_isImage_224 dd_X10_isImage_224b.2.2.1) rfl (by decide) wd579 inX10 rfl).to, ?_⟩
  refine List.forall_mem_cons.mpr ⟨(s_iload (am_dp pw_X10_isImage_224 dd_X10_isImage_224b.2.2.2.1)).to, ?_⟩
  refine List.forall_mem_cons.mpr ⟨(s_iconst (am_dp pw_X10_isImage_224 dd_X10_isImage_224b.2.2.2.2.1) (by decide)).to, ?_⟩
  refine List.forall_mem_cons.mpr ⟨(s_iadd (am_dp pw_X10_isImage_224 dd_X10_isImage_224b.2.2.2.2.2.1)).to, ?_⟩
  refine List.forall_mem_cons.mpr ⟨(s_iald (am_dp pw_X10_isImage_224 dd_X10_isImage_224b.2.2.2.2.2.2.1)).to, ?_⟩
  refine List.forall_mem_cons.mpr ⟨zw_cs149 (am_dp pw_X10_isImage_224 dd_X10_isImage_224b.2.2.2.2.2.2.2) wd1028, ?_⟩
  refine List.forall_mem_cons.mpr ⟨(s_if_ne (am_dp pw_X10_isImage_224 dd_X10_isImage_224c) (by decide)).to, ?_⟩
  refine List.forall_mem_cons.mpr ⟨(s_iconst (am_dp pw_X10_isImage_256 dd_X10_isImage_256a.1) (by decide)).to, ?_⟩
  refine List.forall_mem_cons.mpr ⟨s_zret (am_dp pw_X10_isImage_256 dd_X10_isImage_256a.2.1) rfl, ?_⟩
  refine List.forall_mem_cons.mpr ⟨(s_iinc (am_dp pw_X10_isImage_256 dd_X10_isImage_256a.2.2.1) (by decide) (by decide)).to, ?_⟩
  refine List.forall_mem_cons.mpr ⟨(s_goto (am_dp pw_X10_isImage_256 dd_X10_isImage_256a.2.2.2.1) (by decide)).to, ?_⟩
  refine List.forall_mem_cons.mpr ⟨(s_iconst (am_dp pw_X10_isImage_256 dd_X10_isImage_256a.2.2.2.2.1) (by decide)).to, ?_⟩
  refine List.forall_mem_cons.mpr ⟨s_zret (am_dp pw_X10_isImage_256 dd_X10_isImage_256a.2.2.2.2.2) rfl, ?_⟩
  exact fun _ h => absurd h List.not_mem_nil
theorem sn_tX10_isImage : ∀ q ∈ tX10_isImage, am_Snd am_P0 RX10 cX10_isImage 6 (Option.some FieldType.boolean) "isImage" q.1 q.2 := by
  unfold tX10_isImage
  exact List.forall_mem_append.mpr ⟨List.forall_mem_append.mpr ⟨sn_tX10_isImage_0, sn_tX10_isImage_1⟩, sn_tX10_isImage_2⟩
theorem sn_tX10_takeImage_0 : ∀ q ∈ tX10_takeImage_0, am_Snd am_P0 RX10 cX10_takeImage 4 (Option.none : Option FieldType) "takeImage" q.1 q.2 := by
  unfold tX10_takeImage_0
  refine List.forall_mem_cons.mpr ⟨(s_iconst (am_dp pw_X10_takeImage_0 dd_X10_takeImage_0a.1) (by decide)).to, ?_⟩
  refine List.forall_mem_cons.mpr ⟨(s_istoren (am_dp pw_X10_takeImage_0 dd_X10_takeImage_0a.2.1) rfl (by decide)).to, ?_⟩
  refine List.forall_mem_cons.mpr ⟨(s_iloadn (am_dp pw_X10_takeImage_0 dd_X10_takeImage_0a.2.2.1) rfl).to, ?_⟩
  refine List.forall_mem_cons.mpr ⟨(s_aloadn (am_dp pw_X10_takeImage_0 dd_X10_takeImage_0a.2.2.2.1) rfl).to, ?_⟩
  refine List.forall_mem_cons.mpr ⟨(s_get (ci := 10) (k := 2) (am_dp pw_X10_takeImage_0 dd_X10_takeImage_0a.2.2.2.2.1) rfl (by decide) wd581 inX10 rfl).to, ?_⟩
  refine List.forall_mem_cons.mpr ⟨(s_get (ci := 5) (k := 3) (am_dp pw_X10_takeImage_0 dd_X10_takeImage_0a.2.2.2.2.2.1) rfl (by decide) wd315 inX5 rfl).to, ?_⟩
  refine List.forall_mem_cons.mpr ⟨(s_icmp_ge (am_dp pw_X10_takeImage_0 dd_X10_takeImage_0a.2.2.2.2.2.2.1) (by decide)).to, ?_⟩
  refine List.forall_mem_cons.mpr ⟨(s_aloadn (am_dp pw_X10_takeImage_0 dd_X10_takeImage_0a.2.2.2.2.2.2.2) rfl).to, ?_⟩
  refine List.forall_mem_cons.mpr ⟨(s_get (ci := 10) (k := 2) (am_dp pw_X10_takeImage_0 dd_X10_takeImage_0b.1) rfl (by decide) wd581 inX10 rfl).to, ?_⟩
  refine List.forall_mem_cons.mpr ⟨(s_get (ci := 5) (k := 4) (am_dp pw_X10_takeImage_0 dd_X10_takeImage_0b.2.1) rfl (by decide) wd318 inX5 rfl).to, ?_⟩
  refine List.forall_mem_cons.mpr ⟨(s_iloadn (am_dp pw_X10_takeImage_0 dd_X10_takeImage_0b.2.2.1) rfl).to, ?_⟩
  refine List.forall_mem_cons.mpr ⟨(s_aald (am_dp pw_X10_takeImage_0 dd_X10_takeImage_0b.2.2.2.1)).to, ?_⟩
  refine List.forall_mem_cons.mpr ⟨(s_iconst (am_dp pw_X10_takeImage_0 dd_X10_takeImage_0b.2.2.2.2.1) (by decide)).to, ?_⟩
  refine List.forall_mem_cons.mpr ⟨(s_put (ci := 6) (k := 5) (am_dp pw_X10_takeImage_0 dd_X10_takeImage_0b.2.2.2.2.2.1) rfl (by decide) wd255 inX6 tyX6_ok nmX6 rfl rfl).to, ?_⟩
  refine List.forall_mem_cons.mpr ⟨(s_iinc (am_dp pw_X10_takeImage_0 dd_X10_takeImage_0b.2.2.2.2.2.2.1) (by decide) (by decide)).to, ?_⟩
  refine List.forall_mem_cons.mpr ⟨(s_goto (am_dp pw_X10_takeImage_0 dd_X10_takeImage_0b.2.2.2.2.2.2.2) (by decide)).to, ?_⟩
  refine List.forall_mem_cons.mpr ⟨(s_iconst (am_dp pw_X10_takeImage_32 dd_X10_takeImage_32a.1) (by decide)).to, ?_⟩
  refine List.forall_mem_cons.mpr ⟨(s_iconst (am_dp pw_X10_takeImage_32 dd_X10_takeImage_32a.2.1) (by decide)).to, ?_⟩
  refine List.forall_mem_cons.mpr ⟨(s_aloadn (am_dp pw_X10_takeImage_32 dd_X10_takeImage_32a.2.2.1) rfl).to, ?_⟩
  refine List.forall_mem_cons.mpr ⟨(s_get (ci := 10) (k := 0) (am_dp pw_X10_takeImage_32 dd_X10_takeImage_32a.2.2.2.1) rfl (by decide) wd579 inX10 rfl).to, ?_⟩
  refine List.forall_mem_cons.mpr ⟨(s_iconst (am_dp pw_X10_takeImage_32 dd_X10_takeImage_32a.2.2.2.2.1) (by decide)).to, ?_⟩
  refine List.forall_mem_cons.mpr ⟨(s_iald (am_dp pw_X10_takeImage_32 dd_X10_takeImage_32a.2.2.2.2.2.1)).to, ?_⟩
  refine List.forall_mem_cons.mpr ⟨(s_imul (am_dp pw_X10_takeImage_32 dd_X10_takeImage_32a.2.2.2.2.2.2.1)).to, ?_⟩
  refine List.forall_mem_cons.mpr ⟨(s_iadd (am_dp pw_X10_takeImage_32 dd_X10_takeImage_32a.2.2.2.2.2.2.2)).to, ?_⟩
  refine List.forall_mem_cons.mpr ⟨(s_istoren (am_dp pw_X10_takeImage_32 dd_X10_takeImage_32b.1) rfl (by decide)).to, ?_⟩
  refine List.forall_mem_cons.mpr ⟨(s_iconst (am_dp pw_X10_takeImage_32 dd_X10_takeImage_32b.2.1) (by decide)).to, ?_⟩
  refine List.forall_mem_cons.mpr ⟨(s_istoren (am_dp pw_X10_takeImage_32 dd_X10_takeImage_32b.2.2.1) rfl (by decide)).to, ?_⟩
  refine List.forall_mem_cons.mpr ⟨(s_iloadn (am_dp pw_X10_takeImage_32 dd_X10_takeImage_32b.2.2.2.1) rfl).to, ?_⟩
  refine List.forall_mem_cons.mpr ⟨(s_iloadn (am_dp pw_X10_takeImage_32 dd_X10_takeImage_32b.2.2.2.2.1) rfl).to, ?_⟩
  refine List.forall_mem_cons.mpr ⟨(s_icmp_ge (am_dp pw_X10_takeImage_32 dd_X10_takeImage_32b.2.2.2.2.2.1) (by decide)).to, ?_⟩
  refine List.forall_mem_cons.mpr ⟨(s_aloadn (am_dp pw_X10_takeImage_32 dd_X10_takeImage_32b.2.2.2.2.2.2.1) rfl).to, ?_⟩
  refine List.forall_mem_cons.mpr ⟨(s_get (ci := 10) (k := 2) (am_dp pw_X10_takeImage_32 dd_X10_takeImage_32b.2.2.2.2.2.2.2) rfl (by decide) wd581 inX10 rfl).to, ?_⟩
  refine List.forall_mem_cons.mpr ⟨(s_get (ci := 5) (k := 4) (am_dp pw_X10_takeImage_32 dd_X10_takeImage_32c.1) rfl (by decide) wd318 inX5 rfl).to, ?_⟩
  refine List.forall_mem_cons.mpr ⟨(s_aloadn (am_dp pw_X10_takeImage_32 dd_X10_takeImage_32c.2.1) rfl).to, ?_⟩
  refine List.forall_mem_cons.mpr ⟨(s_get (ci := 10) (k := 0) (am_dp pw_X10_takeImage_32 dd_X10_takeImage_32c.2.2.1) rfl (by decide) wd579 inX10 rfl).to, ?_⟩
  refine List.forall_mem_cons.mpr ⟨(s_iloadn (am_dp pw_X10_takeImage_32 dd_X10_takeImage_32c.2.2.2.1) rfl).to, ?_⟩
  refine List.forall_mem_cons.mpr ⟨(s_iald (am_dp pw_X10_takeImage_32 dd_X10_takeImage_32c.2.2.2.2.1)).to, ?_⟩
  refine List.forall_mem_cons.mpr ⟨(s_aald (am_dp pw_X10_takeImage_32 dd_X10_takeImage_32c.2.2.2.2.2)).to, ?_⟩
  refine List.forall_mem_cons.mpr ⟨(s_aloadn (am_dp pw_X10_takeImage_64 dd_X10_takeImage_64a.1) rfl).to, ?_⟩
  refine List.forall_mem_cons.mpr ⟨(s_get (ci := 10) (k := 0) (am_dp pw_X10_takeImage_64 dd_X10_takeImage_64a.2.1) rfl (by decide) wd579 inX10 rfl).to, ?_⟩
  refine List.forall_mem_cons.mpr ⟨(s_iloadn (am_dp pw_X10_takeImage_64 dd_X10_takeImage_64a.2.2.1) rfl).to, ?_⟩
  refine List.forall_mem_cons.mpr ⟨(s_iconst (am_dp pw_X10_takeImage_64 dd_X10_takeImage_64a.2.2.2.1) (by decide)).to, ?_⟩
  refine List.forall_mem_cons.mpr ⟨(s_iadd (am_dp pw_X10_takeImage_64 dd_X10_takeImage_64a.2.2.2.2.1)).to, ?_⟩
  refine List.forall_mem_cons.mpr ⟨(s_iald (am_dp pw_X10_takeImage_64 dd_X10_takeImage_64a.2.2.2.2.2.1)).to, ?_⟩
  refine List.forall_mem_cons.mpr ⟨(s_aloadn (am_dp pw_X10_takeImage_64 dd_X10_takeImage_64a.2.2.2.2.2.2.1) rfl).to, ?_⟩
  refine List.forall_mem_cons.mpr ⟨(s_get (ci := 10) (k := 2) (am_dp pw_X10_takeImage_64 dd_X10_takeImage_64a.2.2.2.2.2.2.2) rfl (by decide) wd581 inX10 rfl).to, ?_⟩
  refine List.forall_mem_cons.mpr ⟨(s_aloadn (am_dp pw_X10_takeImage_64 dd_X10_takeImage_64b.1) rfl).to, ?_⟩
  refine List.forall_mem_cons.mpr ⟨(s_get (ci := 10) (k := 0) (am_dp pw_X10_takeImage_64 dd_X10_takeImage_64b.2.1) rfl (by decide) wd579 inX10 rfl).to, ?_⟩
  refine List.forall_mem_cons.mpr ⟨(s_iloadn (am_dp pw_X10_takeImage_64 dd_X10_takeImage_64b.2.2.1) rfl).to, ?_⟩
  refine List.forall_mem_cons.mpr ⟨(s_iconst (am_dp pw_X10_takeImage_64 dd_X10_takeImage_64b.2.2.2.1) (by decide)).to, ?_⟩
  refine List.forall_mem_cons.mpr ⟨(s_iadd (am_dp pw_X10_takeImage_64 dd_X10_takeImage_64b.2.2.2.2.1)).to, ?_⟩
  refine List.forall_mem_cons.mpr ⟨(s_iald (am_dp pw_X10_takeImage_64 dd_X10_takeImage_64b.2.2.2.2.2.1)).to, ?_⟩
  refine List.forall_mem_cons.mpr ⟨zw_cv57 (am_dp pw_X10_takeImage_64 dd_X10_takeImage_64b.2.2.2.2.2.2.1) wd1315, ?_⟩
  refine List.forall_mem_cons.mpr ⟨(s_aloadn (am_dp pw_X10_takeImage_64 dd_X10_takeImage_64b.2.2.2.2.2.2.2) rfl).to, ?_⟩
  refine List.forall_mem_cons.mpr ⟨(s_get (ci := 10) (k := 0) (am_dp pw_X10_takeImage_64 dd_X10_takeImage_64c.1) rfl (by decide) wd579 inX10 rfl).to, ?_⟩
  refine List.forall_mem_cons.mpr ⟨(s_iloadn (am_dp pw_X10_takeImage_64 dd_X10_takeImage_64c.2.1) rfl).to, ?_⟩
  refine List.forall_mem_cons.mpr ⟨(s_iconst (am_dp pw_X10_takeImage_64 dd_X10_takeImage_64c.2.2.1) (by decide)).to, ?_⟩
  refine List.forall_mem_cons.mpr ⟨(s_iadd (am_dp pw_X10_takeImage_64 dd_X10_takeImage_64c.2.2.2.1)).to, ?_⟩
  refine List.forall_mem_cons.mpr ⟨(s_iald (am_dp pw_X10_takeImage_64 dd_X10_takeImage_64c.2.2.2.2.1)).to, ?_⟩
  refine List.forall_mem_cons.mpr ⟨(s_iconst (am_dp pw_X10_takeImage_64 dd_X10_takeImage_64c.2.2.2.2.2) (by decide)).to, ?_⟩
  exact fun _ h => absurd h List.not_mem_nil
theorem sn_tX10_takeImage_1 : ∀ q ∈ tX10_takeImage_1, am_Snd am_P0 RX10 cX10_takeImage 4 (Option.none : Option FieldType) "takeImage" q.1 q.2 := by
  unfold tX10_takeImage_1
  refine List.forall_mem_cons.mpr ⟨(s_icmp_ne (am_dp pw_X10_takeImage_96 dd_X10_takeImage_96a.1) (by decide)).to, ?_⟩
  refine List.forall_mem_cons.mpr ⟨(s_iconst (am_dp pw_X10_takeImage_96 dd_X10_takeImage_96a.2.1) (by decide)).to, ?_⟩
  refine List.forall_mem_cons.mpr ⟨(s_goto (am_dp pw_X10_takeImage_96 dd_X10_takeImage_96a.2.2.1) (by decide)).to, ?_⟩
  refine List.forall_mem_cons.mpr ⟨(s_iconst (am_dp pw_X10_takeImage_96 dd_X10_takeImage_96a.2.2.2.1) (by decide)).to, ?_⟩
  refine List.forall_mem_cons.mpr ⟨zw_cv66 (am_dp pw_X10_takeImage_96 dd_X10_takeImage_96a.2.2.2.2.1) wd1273, ?_⟩
  refine List.forall_mem_cons.mpr ⟨(s_pop (am_dp pw_X10_takeImage_96 dd_X10_takeImage_96a.2.2.2.2.2.1)).to, ?_⟩
  refine List.forall_mem_cons.mpr ⟨(s_iinc (am_dp pw_X10_takeImage_96 dd_X10_takeImage_96a.2.2.2.2.2.2.1) (by decide) (by decide)).to, ?_⟩
  refine List.forall_mem_cons.mpr ⟨(s_goto (am_dp pw_X10_takeImage_96 dd_X10_takeImage_96a.2.2.2.2.2.2.2) (by decide)).to, ?_⟩
  refine List.forall_mem_cons.mpr ⟨(s_aloadn (am_dp pw_X10_takeImage_96 dd_X10_takeImage_96b.1) rfl).to, ?_⟩
  refine List.forall_mem_cons.mpr ⟨(s_get (ci := 10) (k := 2) (am_dp pw_X10_takeImage_96 dd_X10_takeImage_96b.2.1) rfl (by decide) wd581 inX10 rfl).to, ?_⟩
  refine List.forall_mem_cons.mpr ⟨(s_get (ci := 5) (k := 5) (am_dp pw_X10_takeImage_96 dd_X10_takeImage_96b.2.2.1) rfl (by decide) wd321 inX5 rfl).to, ?_⟩
  refine List.forall_mem_cons.mpr ⟨(s_iconst (am_dp pw_X10_takeImage_96 dd_X10_takeImage_96b.2.2.2.1) (by decide)).to, ?_⟩
  refine List.forall_mem_cons.mpr ⟨(s_put (ci := 7) (k := 0) (am_dp pw_X10_takeImage_96 dd_X10_takeImage_96b.2.2.2.2.1) rfl (by decide) wd178 inX7 tyX7_ok nmX7 rfl rfl).to, ?_⟩
  refine List.forall_mem_cons.mpr ⟨(s_iloadn (am_dp pw_X10_takeImage_96 dd_X10_takeImage_96b.2.2.2.2.2.1) rfl).to, ?_⟩
  refine List.forall_mem_cons.mpr ⟨(s_iconst (am_dp pw_X10_takeImage_96 dd_X10_takeImage_96b.2.2.2.2.2.2.1) (by decide)).to, ?_⟩
  refine List.forall_mem_cons.mpr ⟨(s_iadd (am_dp pw_X10_takeImage_96 dd_X10_takeImage_96b.2.2.2.2.2.2.2)).to, ?_⟩
  refine List.forall_mem_cons.mpr ⟨(s_iconst (am_dp pw_X10_takeImage_128 dd_X10_takeImage_128a.1) (by decide)).to, ?_⟩
  refine List.forall_mem_cons.mpr ⟨(s_aloadn (am_dp pw_X10_takeImage_128 dd_X10_takeImage_128a.2.1) rfl).to, ?_⟩
  refine List.forall_mem_cons.mpr ⟨(s_get (ci := 10) (k := 0) (am_dp pw_X10_takeImage_128 dd_X10_takeImage_128a.2.2.1) rfl (by decide) wd579 inX10 rfl).to, ?_⟩
  refine List.forall_mem_cons.mpr ⟨(s_iloadn (am_dp pw_X10_takeImage_128 dd_X10_takeImage_128a.2.2.2.1) rfl).to, ?_⟩
  refine List.forall_mem_cons.mpr ⟨(s_iald (am_dp pw_X10_takeImage_128 dd_X10_takeImage_128a.2.2.2.2.1)).to, ?_⟩
  refine List.forall_mem_cons.mpr ⟨(s_imul (am_dp pw_X10_takeImage_128 dd_X10_takeImage_128a.2.2.2.2.2.1)).to, ?_⟩
  refine List.forall_mem_cons.mpr ⟨(s_iadd (am_dp pw_X10_takeImage_128 dd_X10_takeImage_128a.2.2.2.2.2.2.1)).to, ?_⟩
  refine List.forall_mem_cons.mpr ⟨(s_istoren (am_dp pw_X10_takeImage_128 dd_X10_takeImage_128a.2.2.2.2.2.2.2) rfl (by decide)).to, ?_⟩
  refine List.forall_mem_cons.mpr ⟨(s_iloadn (am_dp pw_X10_takeImage_128 dd_X10_takeImage_128b.1) rfl).to, ?_⟩
  refine List.forall_mem_cons.mpr ⟨(s_iconst (am_dp pw_X10_takeImage_128 dd_X10_takeImage_128b.2.1) (by decide)).to, ?_⟩
  refine List.forall_mem_cons.mpr ⟨(s_iadd (am_dp pw_X10_takeImage_128 dd_X10_takeImage_128b.2.2.1)).to, ?_⟩
  refine List.forall_mem_cons.mpr ⟨(s_istoren (am_dp pw_X10_takeImage_128 dd_X10_takeImage_128b.2.2.2.1) rfl (by decide)).to, ?_⟩
  refine List.forall_mem_cons.mpr ⟨(s_iloadn (am_dp pw_X10_takeImage_128 dd_X10_takeImage_128b.2.2.2.2.1) rfl).to, ?_⟩
  refine List.forall_mem_cons.mpr ⟨(s_iloadn (am_dp pw_X10_takeImage_128 dd_X10_takeImage_128b.2.2.2.2.2.1) rfl).to, ?_⟩
  refine List.forall_mem_cons.mpr ⟨(s_icmp_ge (am_dp pw_X10_takeImage_128 dd_X10_takeImage_128b.2.2.2.2.2.2.1) (by decide)).to, ?_⟩
  refine List.forall_mem_cons.mpr ⟨(s_aloadn (am_dp pw_X10_takeImage_128 dd_X10_takeImage_128b.2.2.2.2.2.2.2) rfl).to, ?_⟩
  refine List.forall_mem_cons.mpr ⟨(s_get (ci := 10) (k := 2) (am_dp pw_X10_takeImage_128 dd_X10_takeImage_128c.1) rfl (by decide) wd581 inX10 rfl).to, ?_⟩
  refine List.forall_mem_cons.mpr ⟨(s_get (ci := 5) (k := 5) (am_dp pw_X10_takeImage_128 dd_X10_takeImage_128c.2.1) rfl (by decide) wd321 inX5 rfl).to, ?_⟩
  refine List.forall_mem_cons.mpr ⟨(s_aloadn (am_dp pw_X10_takeImage_128 dd_X10_takeImage_128c.2.2.1) rfl).to, ?_⟩
  refine List.forall_mem_cons.mpr ⟨(s_get (ci := 10) (k := 0) (am_dp pw_X10_takeImage_128 dd_X10_takeImage_128c.2.2.2.1) rfl (by decide) wd579 inX10 rfl).to, ?_⟩
  refine List.forall_mem_cons.mpr ⟨(s_iloadn (am_dp pw_X10_takeImage_128 dd_X10_takeImage_128c.2.2.2.2.1) rfl).to, ?_⟩
  refine List.forall_mem_cons.mpr ⟨(s_iald (am_dp pw_X10_takeImage_128 dd_X10_takeImage_128c.2.2.2.2.2)).to, ?_⟩
  refine List.forall_mem_cons.mpr ⟨(s_aloadn (am_dp pw_X10_takeImage_160 dd_X10_takeImage_160a.1) rfl).to, ?_⟩
  refine List.forall_mem_cons.mpr ⟨(s_get (ci := 10) (k := 2) (am_dp pw_X10_takeImage_160 dd_X10_takeImage_160a.2.1) rfl (by decide) wd581 inX10 rfl).to, ?_⟩
  refine List.forall_mem_cons.mpr ⟨(s_aloadn (am_dp pw_X10_takeImage_160 dd_X10_takeImage_160a.2.2.1) rfl).to, ?_⟩
  refine List.forall_mem_cons.mpr ⟨(s_get (ci := 10) (k := 0) (am_dp pw_X10_takeImage_160 dd_X10_takeImage_160a.2.2.2.1) rfl (by decide) wd579 inX10 rfl).to, ?_⟩
  refine List.forall_mem_cons.mpr ⟨(s_iloadn (am_dp pw_X10_takeImage_160 dd_X10_takeImage_160a.2.2.2.2.1) rfl).to, ?_⟩
  refine List.forall_mem_cons.mpr ⟨(s_iconst (am_dp pw_X10_takeImage_160 dd_X10_takeImage_160a.2.2.2.2.2.1) (by decide)).to, ?_⟩
  refine List.forall_mem_cons.mpr ⟨(s_iadd (am_dp pw_X10_takeImage_160 dd_X10_takeImage_160a.2.2.2.2.2.2.1)).to, ?_⟩
  refine List.forall_mem_cons.mpr ⟨(s_iald (am_dp pw_X10_takeImage_160 dd_X10_takeImage_160a.2.2.2.2.2.2.2)).to, ?_⟩
  refine List.forall_mem_cons.mpr ⟨zw_cv57 (am_dp pw_X10_takeImage_160 dd_X10_takeImage_160b.1) wd1315, ?_⟩
  refine List.forall_mem_cons.mpr ⟨(s_aloadn (am_dp pw_X10_takeImage_160 dd_X10_takeImage_160b.2.1) rfl).to, ?_⟩
  refine List.forall_mem_cons.mpr ⟨(s_get (ci := 10) (k := 0) (am_dp pw_X10_takeImage_160 dd_X10_takeImage_160b.2.2.1) rfl (by decide) wd579 inX10 rfl).to, ?_⟩
  refine List.forall_mem_cons.mpr ⟨(s_iloadn (am_dp pw_X10_takeImage_160 dd_X10_takeImage_160b.2.2.2.1) rfl).to, ?_⟩
  refine List.forall_mem_cons.mpr ⟨(s_iconst (am_dp pw_X10_takeImage_160 dd_X10_takeImage_160b.2.2.2.2.1) (by decide)).to, ?_⟩
  refine List.forall_mem_cons.mpr ⟨(s_iadd (am_dp pw_X10_takeImage_160 dd_X10_takeImage_160b.2.2.2.2.2.1)).to, ?_⟩
  refine List.forall_mem_cons.mpr ⟨(s_iald (am_dp pw_X10_takeImage_160 dd_X10_takeImage_160b.2.2.2.2.2.2.1)).to, ?_⟩
  refine List.forall_mem_cons.mpr ⟨zw_cv71 (am_dp pw_X10_takeImage_160 dd_X10_takeImage_160b.2.2.2.2.2.2.2) wd1291, ?_⟩
  refine List.forall_mem_cons.mpr ⟨(s_iinc (am_dp pw_X10_takeImage_160 dd_X10_takeImage_160c.1) (by decide) (by decide)).to, ?_⟩
  refine List.forall_mem_cons.mpr ⟨(s_goto (am_dp pw_X10_takeImage_160 dd_X10_takeImage_160c.2) (by decide)).to, ?_⟩
  refine List.forall_mem_cons.mpr ⟨s_vret (am_dp pw_X10_takeImage_192 dd_X10_takeImage_192a) rfl, ?_⟩
  exact fun _ h => absurd h List.not_mem_nil
theorem sn_tX10_takeImage : ∀ q ∈ tX10_takeImage, am_Snd am_P0 RX10 cX10_takeImage 4 (Option.none : Option FieldType) "takeImage" q.1 q.2 := by
  unfold tX10_takeImage
  exact List.forall_mem_append.mpr ⟨sn_tX10_takeImage_0, sn_tX10_takeImage_1⟩
theorem sn_tX11_init_0 : ∀ q ∈ tX11_init_0, am_Snd am_P0 RX11 cX11_init 2 (Option.none : Option FieldType) "<init>" q.1 q.2 := by
  unfold tX11_init_0
  refine List.forall_mem_cons.mpr ⟨(s_aloadn (am_dp pw_X11_init_0 dd_X11_init_0a.1) rfl).to, ?_⟩
  refine List.forall_mem_cons.mpr ⟨(s_obj (am_dp pw_X11_init_0 dd_X11_init_0a.2.1) wd1332 wd160 wd161).to, ?_⟩
  refine List.forall_mem_cons.mpr ⟨(s_aloadn (am_dp pw_X11_init_0 dd_X11_init_0a.2.2.1) rfl).to, ?_⟩
  refine List.forall_mem_cons.mpr ⟨(s_sipush (am_dp pw_X11_init_0 dd_X11_init_0a.2.2.2.1) (by decide)).to, ?_⟩
  refine List.forall_mem_cons.mpr ⟨(s_newa (kd := 0) (ty := .int) (am_dp pw_X11_init_0 dd_X11_init_0a.2.2.2.2.1) rfl rfl wd195 (by decide) (by decide) (fun _ _ h => h)).to, ?_⟩
  refine List.forall_mem_cons.mpr ⟨(s_putF (ci := 11) (k := 0) (am_dp pw_X11_init_0 dd_X11_init_0a.2.2.2.2.2.1) rfl (by decide) wd1333 inX11 tyX11_ok nmX11 rfl rfl rfl rfl).to, ?_⟩
  refine List.forall_mem_cons.mpr ⟨(s_aloadn (am_dp pw_X11_init_0 dd_X11_init_0a.2.2.2.2.2.2.1) rfl).to, ?_⟩
  refine List.forall_mem_cons.mpr ⟨(s_iconst (am_dp pw_X11_init_0 dd_X11_init_0a.2.2.2.2.2.2.2) (by decide)).to, ?_⟩
  refine List.forall_mem_cons.mpr ⟨(s_put (ci := 11) (k := 1) (am_dp pw_X11_init_0 dd_X11_init_0b.1) rfl (by decide) wd1334 inX11 tyX11_ok nmX11 rfl rfl).to, ?_⟩
  refine List.forall_mem_cons.mpr ⟨(s_aloadn (am_dp pw_X11_init_0 dd_X11_init_0b.2.1) rfl).to, ?_⟩
  refine List.forall_mem_cons.mpr ⟨(s_iconst (am_dp pw_X11_init_0 dd_X11_init_0b.2.2.1) (by decide)).to, ?_⟩
  refine List.forall_mem_cons.mpr ⟨(s_put (ci := 11) (k := 2) (am_dp pw_X11_init_0 dd_X11_init_0b.2.2.2.1) rfl (by decide) wd1335 inX11 tyX11_ok nmX11 rfl rfl).to, ?_⟩
  refine List.forall_mem_cons.mpr ⟨(s_aloadn (am_dp pw_X11_init_0 dd_X11_init_0b.2.2.2.2.1) rfl).to, ?_⟩
  refine List.forall_mem_cons.mpr ⟨(s_iconst (am_dp pw_X11_init_0 dd_X11_init_0b.2.2.2.2.2.1) (by decide)).to, ?_⟩
  refine List.forall_mem_cons.mpr ⟨(s_put (ci := 11) (k := 3) (am_dp pw_X11_init_0 dd_X11_init_0b.2.2.2.2.2.2.1) rfl (by decide) wd1336 inX11 tyX11_ok nmX11 rfl rfl).to, ?_⟩
  refine List.forall_mem_cons.mpr ⟨(s_aloadn (am_dp pw_X11_init_0 dd_X11_init_0b.2.2.2.2.2.2.2) rfl).to, ?_⟩
  refine List.forall_mem_cons.mpr ⟨(s_iconst (am_dp pw_X11_init_0 dd_X11_init_0c.1) (by decide)).to, ?_⟩
  refine List.forall_mem_cons.mpr ⟨(s_put (ci := 11) (k := 4) (am_dp pw_X11_init_0 dd_X11_init_0c.2) rfl (by decide) wd1337 inX11 tyX11_ok nmX11 rfl rfl).to, ?_⟩
  refine List.forall_mem_cons.mpr ⟨(s_aloadn (am_dp pw_X11_init_32 dd_X11_init_32a.1) rfl).to, ?_⟩
  refine List.forall_mem_cons.mpr ⟨(s_iconst (am_dp pw_X11_init_32 dd_X11_init_32a.2.1) (by decide)).to, ?_⟩
  refine List.forall_mem_cons.mpr ⟨(s_put (ci := 11) (k := 5) (am_dp pw_X11_init_32 dd_X11_init_32a.2.2.1) rfl (by decide) wd1338 inX11 tyX11_ok nmX11 rfl rfl).to, ?_⟩
  refine List.forall_mem_cons.mpr ⟨(s_aloadn (am_dp pw_X11_init_32 dd_X11_init_32a.2.2.2.1) rfl).to, ?_⟩
  refine List.forall_mem_cons.mpr ⟨(s_iconst (am_dp pw_X11_init_32 dd_X11_init_32a.2.2.2.2.1) (by decide)).to, ?_⟩
  refine List.forall_mem_cons.mpr ⟨(s_put (ci := 11) (k := 6) (am_dp pw_X11_init_32 dd_X11_init_32a.2.2.2.2.2.1) rfl (by decide) wd1339 inX11 tyX11_ok nmX11 rfl rfl).to, ?_⟩
  refine List.forall_mem_cons.mpr ⟨(s_aloadn (am_dp pw_X11_init_32 dd_X11_init_32a.2.2.2.2.2.2.1) rfl).to, ?_⟩
  refine List.forall_mem_cons.mpr ⟨(s_lconst (am_dp pw_X11_init_32 dd_X11_init_32a.2.2.2.2.2.2.2) (by decide)).to, ?_⟩
  refine List.forall_mem_cons.mpr ⟨(s_put (ci := 11) (k := 7) (am_dp pw_X11_init_32 dd_X11_init_32b.1) rfl (by decide) wd1340 inX11 tyX11_ok nmX11 rfl rfl).to, ?_⟩
  refine List.forall_mem_cons.mpr ⟨(s_aloadn (am_dp pw_X11_init_32 dd_X11_init_32b.2.1) rfl).to, ?_⟩
  refine List.forall_mem_cons.mpr ⟨(s_iconst (am_dp pw_X11_init_32 dd_X11_init_32b.2.2.1) (by decide)).to, ?_⟩
  refine List.forall_mem_cons.mpr ⟨(s_put (ci := 11) (k := 8) (am_dp pw_X11_init_32 dd_X11_init_32b.2.2.2.1) rfl (by decide) wd1341 inX11 tyX11_ok nmX11 rfl rfl).to, ?_⟩
  refine List.forall_mem_cons.mpr ⟨(s_aloadn (am_dp pw_X11_init_32 dd_X11_init_32b.2.2.2.2.1) rfl).to, ?_⟩
  refine List.forall_mem_cons.mpr ⟨(s_iconst (am_dp pw_X11_init_32 dd_X11_init_32b.2.2.2.2.2.1) (by decide)).to, ?_⟩
  refine List.forall_mem_cons.mpr ⟨(s_put (ci := 11) (k := 9) (am_dp pw_X11_init_32 dd_X11_init_32b.2.2.2.2.2.2.1) rfl (by decide) wd1342 inX11 tyX11_ok nmX11 rfl rfl).to, ?_⟩
  refine List.forall_mem_cons.mpr ⟨(s_aloadn (am_dp pw_X11_init_32 dd_X11_init_32b.2.2.2.2.2.2.2) rfl).to, ?_⟩
  refine List.forall_mem_cons.mpr ⟨(s_iconst (am_dp pw_X11_init_32 dd_X11_init_32c.1) (by decide)).to, ?_⟩
  refine List.forall_mem_cons.mpr ⟨(s_put (ci := 11) (k := 10) (am_dp pw_X11_init_32 dd_X11_init_32c.2.1) rfl (by decide) wd1343 inX11 tyX11_ok nmX11 rfl rfl).to, ?_⟩
  refine List.forall_mem_cons.mpr ⟨(s_aloadn (am_dp pw_X11_init_32 dd_X11_init_32c.2.2) rfl).to, ?_⟩
  refine List.forall_mem_cons.mpr ⟨(s_iconst (am_dp pw_X11_init_64 dd_X11_init_64a.1) (by decide)).to, ?_⟩
  refine List.forall_mem_cons.mpr ⟨(s_put (ci := 11) (k := 11) (am_dp pw_X11_init_64 dd_X11_init_64a.2.1) rfl (by decide) wd1344 inX11 tyX11_ok nmX11 rfl rfl).to, ?_⟩
  refine List.forall_mem_cons.mpr ⟨(s_aloadn (am_dp pw_X11_init_64 dd_X11_init_64a.2.2.1) rfl).to, ?_⟩
  refine List.forall_mem_cons.mpr ⟨(s_iconst (am_dp pw_X11_init_64 dd_X11_init_64a.2.2.2.1) (by decide)).to, ?_⟩
  refine List.forall_mem_cons.mpr ⟨(s_put (ci := 11) (k := 12) (am_dp pw_X11_init_64 dd_X11_init_64a.2.2.2.2.1) rfl (by decide) wd1345 inX11 tyX11_ok nmX11 rfl rfl).to, ?_⟩
  refine List.forall_mem_cons.mpr ⟨(s_aloadn (am_dp pw_X11_init_64 dd_X11_init_64a.2.2.2.2.2.1) rfl).to, ?_⟩
  refine List.forall_mem_cons.mpr ⟨(s_iconst (am_dp pw_X11_init_64 dd_X11_init_64a.2.2.2.2.2.2.1) (by decide)).to, ?_⟩
  refine List.forall_mem_cons.mpr ⟨(s_newa (kd := 0) (ty := .int) (am_dp pw_X11_init_64 dd_X11_init_64a.2.2.2.2.2.2.2) rfl rfl wd195 (by decide) (by decide) (fun _ _ h => h)).to, ?_⟩
  refine List.forall_mem_cons.mpr ⟨(s_putF (ci := 11) (k := 13) (am_dp pw_X11_init_64 dd_X11_init_64b.1) rfl (by decide) wd1346 inX11 tyX11_ok nmX11 rfl rfl rfl rfl).to, ?_⟩
  refine List.forall_mem_cons.mpr ⟨(s_aloadn (am_dp pw_X11_init_64 dd_X11_init_64b.2.1) rfl).to, ?_⟩
  refine List.forall_mem_cons.mpr ⟨(s_iconst (am_dp pw_X11_init_64 dd_X11_init_64b.2.2.1) (by decide)).to, ?_⟩
  refine List.forall_mem_cons.mpr ⟨(s_newa (kd := 0) (ty := .int) (am_dp pw_X11_init_64 dd_X11_init_64b.2.2.2.1) rfl rfl wd195 (by decide) (by decide) (fun _ _ h => h)).to, ?_⟩
  refine List.forall_mem_cons.mpr ⟨(s_putF (ci := 11) (k := 14) (am_dp pw_X11_init_64 dd_X11_init_64b.2.2.2.2.1) rfl (by decide) wd1347 inX11 tyX11_ok nmX11 rfl rfl rfl rfl).to, ?_⟩
  refine List.forall_mem_cons.mpr ⟨(s_aloadn (am_dp pw_X11_init_64 dd_X11_init_64b.2.2.2.2.2.1) rfl).to, ?_⟩
  refine List.forall_mem_cons.mpr ⟨(s_bipush (am_dp pw_X11_init_64 dd_X11_init_64b.2.2.2.2.2.2.1) (by decide)).to, ?_⟩
  refine List.forall_mem_cons.mpr ⟨(s_newa (kd := 0) (ty := .int) (am_dp pw_X11_init_64 dd_X11_init_64b.2.2.2.2.2.2.2) rfl rfl wd195 (by decide) (by decide) (fun _ _ h => h)).to, ?_⟩
  refine List.forall_mem_cons.mpr ⟨(s_putF (ci := 11) (k := 15) (am_dp pw_X11_init_64 dd_X11_init_64c.1) rfl (by decide) wd1348 inX11 tyX11_ok nmX11 rfl rfl rfl rfl).to, ?_⟩
  refine List.forall_mem_cons.mpr ⟨(s_aloadn (am_dp pw_X11_init_64 dd_X11_init_64c.2) rfl).to, ?_⟩
  refine List.forall_mem_cons.mpr ⟨(s_bipush (am_dp pw_X11_init_96 dd_X11_init_96a.1) (by decide)).to, ?_⟩
  refine List.forall_mem_cons.mpr ⟨(s_newa (kd := 0) (ty := .int) (am_dp pw_X11_init_96 dd_X11_init_96a.2.1) rfl rfl wd195 (by decide) (by decide) (fun _ _ h => h)).to, ?_⟩
  refine List.forall_mem_cons.mpr ⟨(s_putF (ci := 11) (k := 16) (am_dp pw_X11_init_96 dd_X11_init_96a.2.2.1) rfl (by decide) wd1349 inX11 tyX11_ok nmX11 rfl rfl rfl rfl).to, ?_⟩
  refine List.forall_mem_cons.mpr ⟨(s_aloadn (am_dp pw_X11_init_96 dd_X11_init_96a.2.2.2.1) rfl).to, ?_⟩
  refine List.forall_mem_cons.mpr ⟨(s_bipush (am_dp pw_X11_init_96 dd_X11_init_96a.2.2.2.2.1) (by decide)).to, ?_⟩
  exact fun _ h => absurd h List.not_mem_nil
theorem sn_tX11_init_1 : ∀ q ∈ tX11_init_1, am_Snd am_P0 RX11 cX11_init 2 (Option.none : Option FieldType) "<init>" q.1 q.2 := by
  unfold tX11_init_1
  refine List.forall_mem_cons.mpr ⟨(s_newa (kd := 0) (ty := .int) (am_dp pw_X11_init_96 dd_X11_init_96a.2.2.2.2.2.1) rfl rfl wd195 (by decide) (by decide) (fun _ _ h => h)).to, ?_⟩
  refine List.forall_mem_cons.mpr ⟨(s_putF (ci := 11) (k := 17) (am_dp pw_X11_init_96 dd_X11_init_96a.2.2.2.2.2.2.1) rfl (by decide) wd1350 inX11 tyX11_ok nmX11 rfl rfl rfl rfl).to, ?_⟩
  refine List.forall_mem_cons.mpr ⟨(s_aloadn (am_dp pw_X11_init_96 dd_X11_init_96a.2.2.2.2.2.2.2) rfl).to, ?_⟩
  refine List.forall_mem_cons.mpr ⟨(s_bipush (am_dp pw_X11_init_96 dd_X11_init_96b.1) (by decide)).to, ?_⟩
  refine List.forall_mem_cons.mpr ⟨(s_newa (kd := 0) (ty := .int) (am_dp pw_X11_init_96 dd_X11_init_96b.2.1) rfl rfl wd195 (by decide) (by decide) (fun _ _ h => h)).to, ?_⟩
  refine List.forall_mem_cons.mpr ⟨(s_putF (ci := 11) (k := 18) (am_dp pw_X11_init_96 dd_X11_init_96b.2.2.1) rfl (by decide) wd1351 inX11 tyX11_ok nmX11 rfl rfl rfl rfl).to, ?_⟩
  refine List.forall_mem_cons.mpr ⟨(s_aloadn (am_dp pw_X11_init_96 dd_X11_init_96b.2.2.2.1) rfl).to, ?_⟩
  refine List.forall_mem_cons.mpr ⟨(s_iconst (am_dp pw_X11_init_96 dd_X11_init_96b.2.2.2.2.1) (by decide)).to, ?_⟩
  refine List.forall_mem_cons.mpr ⟨(s_newa (kd := 0) (ty := .int) (am_dp pw_X11_init_96 dd_X11_init_96b.2.2.2.2.2.1) rfl rfl wd195 (by decide) (by decide) (fun _ _ h => h)).to, ?_⟩
  refine List.forall_mem_cons.mpr ⟨(s_putF (ci := 11) (k := 19) (am_dp pw_X11_init_96 dd_X11_init_96b.2.2.2.2.2.2.1) rfl (by decide) wd1352 inX11 tyX11_ok nmX11 rfl rfl rfl rfl).to, ?_⟩
  refine List.forall_mem_cons.mpr ⟨(s_aloadn (am_dp pw_X11_init_96 dd_X11_init_96b.2.2.2.2.2.2.2) rfl).to, ?_⟩
  refine List.forall_mem_cons.mpr ⟨(s_bipush (am_dp pw_X11_init_96 dd_X11_init_96c) (by decide)).to, ?_⟩
  refine List.forall_mem_cons.mpr ⟨(s_newa (kd := 1) (ty := .long) (am_dp pw_X11_init_128 dd_X11_init_128a.1) rfl rfl wd303 (by decide) (by decide) (fun _ _ h => h)).to, ?_⟩
  refine List.forall_mem_cons.mpr ⟨(s_putF (ci := 11) (k := 20) (am_dp pw_X11_init_128 dd_X11_init_128a.2.1) rfl (by decide) wd1353 inX11 tyX11_ok nmX11 rfl rfl rfl rfl).to, ?_⟩
  refine List.forall_mem_cons.mpr ⟨(s_aloadn (am_dp pw_X11_init_128 dd_X11_init_128a.2.2.1) rfl).to, ?_⟩
  refine List.forall_mem_cons.mpr ⟨(s_bipush (am_dp pw_X11_init_128 dd_X11_init_128a.2.2.2.1) (by decide)).to, ?_⟩
  refine List.forall_mem_cons.mpr ⟨(s_newa (kd := 0) (ty := .int) (am_dp pw_X11_init_128 dd_X11_init_128a.2.2.2.2.1) rfl rfl wd195 (by decide) (by decide) (fun _ _ h => h)).to, ?_⟩
  refine List.forall_mem_cons.mpr ⟨(s_putF (ci := 11) (k := 21) (am_dp pw_X11_init_128 dd_X11_init_128a.2.2.2.2.2.1) rfl (by decide) wd1354 inX11 tyX11_ok nmX11 rfl rfl rfl rfl).to, ?_⟩
  refine List.forall_mem_cons.mpr ⟨(s_aloadn (am_dp pw_X11_init_128 dd_X11_init_128a.2.2.2.2.2.2.1) rfl).to, ?_⟩
  refine List.forall_mem_cons.mpr ⟨(s_bipush (am_dp pw_X11_init_128 dd_X11_init_128a.2.2.2.2.2.2.2) (by decide)).to, ?_⟩
  refine List.forall_mem_cons.mpr ⟨(s_newa (kd := 0) (ty := .int) (am_dp pw_X11_init_128 dd_X11_init_128b.1) rfl rfl wd195 (by decide) (by decide) (fun _ _ h => h)).to, ?_⟩
  refine List.forall_mem_cons.mpr ⟨(s_putF (ci := 11) (k := 22) (am_dp pw_X11_init_128 dd_X11_init_128b.2.1) rfl (by decide) wd1355 inX11 tyX11_ok nmX11 rfl rfl rfl rfl).to, ?_⟩
  refine List.forall_mem_cons.mpr ⟨(s_aloadn (am_dp pw_X11_init_128 dd_X11_init_128b.2.2.1) rfl).to, ?_⟩
  refine List.forall_mem_cons.mpr ⟨(s_bipush (am_dp pw_X11_init_128 dd_X11_init_128b.2.2.2.1) (by decide)).to, ?_⟩
  refine List.forall_mem_cons.mpr ⟨(s_newa (kd := 0) (ty := .int) (am_dp pw_X11_init_128 dd_X11_init_128b.2.2.2.2.1) rfl rfl wd195 (by decide) (by decide) (fun _ _ h => h)).to, ?_⟩
  refine List.forall_mem_cons.mpr ⟨(s_putF (ci := 11) (k := 23) (am_dp pw_X11_init_128 dd_X11_init_128b.2.2.2.2.2.1) rfl (by decide) wd1356 inX11 tyX11_ok nmX11 rfl rfl rfl rfl).to, ?_⟩
  refine List.forall_mem_cons.mpr ⟨(s_aloadn (am_dp pw_X11_init_128 dd_X11_init_128b.2.2.2.2.2.2.1) rfl).to, ?_⟩
  refine List.forall_mem_cons.mpr ⟨(s_bipush (am_dp pw_X11_init_128 dd_X11_init_128b.2.2.2.2.2.2.2) (by decide)).to, ?_⟩
  refine List.forall_mem_cons.mpr ⟨(s_newa (kd := 0) (ty := .int) (am_dp pw_X11_init_160 dd_X11_init_160a.1) rfl rfl wd195 (by decide) (by decide) (fun _ _ h => h)).to, ?_⟩
  refine List.forall_mem_cons.mpr ⟨(s_putF (ci := 11) (k := 24) (am_dp pw_X11_init_160 dd_X11_init_160a.2.1) rfl (by decide) wd1357 inX11 tyX11_ok nmX11 rfl rfl rfl rfl).to, ?_⟩
  refine List.forall_mem_cons.mpr ⟨(s_aloadn (am_dp pw_X11_init_160 dd_X11_init_160a.2.2.1) rfl).to, ?_⟩
  refine List.forall_mem_cons.mpr ⟨(s_iconst (am_dp pw_X11_init_160 dd_X11_init_160a.2.2.2.1) (by decide)).to, ?_⟩
  refine List.forall_mem_cons.mpr ⟨(s_newa (kd := 0) (ty := .int) (am_dp pw_X11_init_160 dd_X11_init_160a.2.2.2.2.1) rfl rfl wd195 (by decide) (by decide) (fun _ _ h => h)).to, ?_⟩
  refine List.forall_mem_cons.mpr ⟨(s_putF (ci := 11) (k := 25) (am_dp pw_X11_init_160 dd_X11_init_160a.2.2.2.2.2.1) rfl (by decide) wd1358 inX11 tyX11_ok nmX11 rfl rfl rfl rfl).to, ?_⟩
  refine List.forall_mem_cons.mpr ⟨(s_aloadn (am_dp pw_X11_init_160 dd_X11_init_160a.2.2.2.2.2.2.1) rfl).to, ?_⟩
  refine List.forall_mem_cons.mpr ⟨(s_sipush (am_dp pw_X11_init_160 dd_X11_init_160a.2.2.2.2.2.2.2) (by decide)).to, ?_⟩
  refine List.forall_mem_cons.mpr ⟨(s_newa (kd := 0) (ty := .int) (am_dp pw_X11_init_160 dd_X11_init_160b.1) rfl rfl wd195 (by decide) (by decide) (fun _ _ h => h)).to, ?_⟩
  refine List.forall_mem_cons.mpr ⟨(s_putF (ci := 11) (k := 26) (am_dp pw_X11_init_160 dd_X11_init_160b.2.1) rfl (by decide) wd1359 inX11 tyX11_ok nmX11 rfl rfl rfl rfl).to, ?_⟩
  refine List.forall_mem_cons.mpr ⟨(s_aloadn (am_dp pw_X11_init_160 dd_X11_init_160b.2.2.1) rfl).to, ?_⟩
  refine List.forall_mem_cons.mpr ⟨(s_sipush (am_dp pw_X11_init_160 dd_X11_init_160b.2.2.2.1) (by decide)).to, ?_⟩
  refine List.forall_mem_cons.mpr ⟨(s_newa (kd := 2) (ty := .boolean) (am_dp pw_X11_init_160 dd_X11_init_160b.2.2.2.2.1) rfl rfl wd304 (by decide) (by decide) (fun _ _ h => h)).to, ?_⟩
  refine List.forall_mem_cons.mpr ⟨(s_putF (ci := 11) (k := 27) (am_dp pw_X11_init_160 dd_X11_init_160b.2.2.2.2.2.1) rfl (by decide) wd1360 inX11 tyX11_ok nmX11 rfl rfl rfl rfl).to, ?_⟩
  refine List.forall_mem_cons.mpr ⟨(s_aloadn (am_dp pw_X11_init_160 dd_X11_init_160b.2.2.2.2.2.2) rfl).to, ?_⟩
  refine List.forall_mem_cons.mpr ⟨(s_iconst (am_dp pw_X11_init_192 dd_X11_init_192a.1) (by decide)).to, ?_⟩
  refine List.forall_mem_cons.mpr ⟨(s_newa (kd := 0) (ty := .int) (am_dp pw_X11_init_192 dd_X11_init_192a.2.1) rfl rfl wd195 (by decide) (by decide) (fun _ _ h => h)).to, ?_⟩
  refine List.forall_mem_cons.mpr ⟨(s_putF (ci := 11) (k := 28) (am_dp pw_X11_init_192 dd_X11_init_192a.2.2.1) rfl (by decide) wd1361 inX11 tyX11_ok nmX11 rfl rfl rfl rfl).to, ?_⟩
  refine List.forall_mem_cons.mpr ⟨(s_aloadn (am_dp pw_X11_init_192 dd_X11_init_192a.2.2.2.1) rfl).to, ?_⟩
  refine List.forall_mem_cons.mpr ⟨(s_bipush (am_dp pw_X11_init_192 dd_X11_init_192a.2.2.2.2.1) (by decide)).to, ?_⟩
  refine List.forall_mem_cons.mpr ⟨(s_newa (kd := 0) (ty := .int) (am_dp pw_X11_init_192 dd_X11_init_192a.2.2.2.2.2.1) rfl rfl wd195 (by decide) (by decide) (fun _ _ h => h)).to, ?_⟩
  refine List.forall_mem_cons.mpr ⟨(s_putF (ci := 11) (k := 29) (am_dp pw_X11_init_192 dd_X11_init_192a.2.2.2.2.2.2.1) rfl (by decide) wd1362 inX11 tyX11_ok nmX11 rfl rfl rfl rfl).to, ?_⟩
  refine List.forall_mem_cons.mpr ⟨(s_aloadn (am_dp pw_X11_init_192 dd_X11_init_192a.2.2.2.2.2.2.2) rfl).to, ?_⟩
  refine List.forall_mem_cons.mpr ⟨(s_bipush (am_dp pw_X11_init_192 dd_X11_init_192b.1) (by decide)).to, ?_⟩
  refine List.forall_mem_cons.mpr ⟨(s_newa (kd := 0) (ty := .int) (am_dp pw_X11_init_192 dd_X11_init_192b.2.1) rfl rfl wd195 (by decide) (by decide) (fun _ _ h => h)).to, ?_⟩
  refine List.forall_mem_cons.mpr ⟨(s_putF (ci := 11) (k := 30) (am_dp pw_X11_init_192 dd_X11_init_192b.2.2.1) rfl (by decide) wd1363 inX11 tyX11_ok nmX11 rfl rfl rfl rfl).to, ?_⟩
  refine List.forall_mem_cons.mpr ⟨(s_aloadn (am_dp pw_X11_init_192 dd_X11_init_192b.2.2.2.1) rfl).to, ?_⟩
  refine List.forall_mem_cons.mpr ⟨(s_bipush (am_dp pw_X11_init_192 dd_X11_init_192b.2.2.2.2.1) (by decide)).to, ?_⟩
  refine List.forall_mem_cons.mpr ⟨(s_newa (kd := 0) (ty := .int) (am_dp pw_X11_init_192 dd_X11_init_192b.2.2.2.2.2.1) rfl rfl wd195 (by decide) (by decide) (fun _ _ h => h)).to, ?_⟩
  refine List.forall_mem_cons.mpr ⟨(s_putF (ci := 11) (k := 31) (am_dp pw_X11_init_192 dd_X11_init_192b.2.2.2.2.2.2.1) rfl (by decide) wd1364 inX11 tyX11_ok nmX11 rfl rfl rfl rfl).to, ?_⟩
  refine List.forall_mem_cons.mpr ⟨(s_aloadn (am_dp pw_X11_init_192 dd_X11_init_192b.2.2.2.2.2.2.2) rfl).to, ?_⟩
  refine List.forall_mem_cons.mpr ⟨(s_bipush (am_dp pw_X11_init_192 dd_X11_init_192c) (by decide)).to, ?_⟩
  exact fun _ h => absurd h List.not_mem_nil
theorem sn_tX11_init_2 : ∀ q ∈ tX11_init_2, am_Snd am_P0 RX11 cX11_init 2 (Option.none : Option FieldType) "<init>" q.1 q.2 := by
  unfold tX11_init_2
  refine List.forall_mem_cons.mpr ⟨(s_newa (kd := 0) (ty := .int) (am_dp pw_X11_init_224 dd_X11_init_224a.1) rfl rfl wd195 (by decide) (by decide) (fun _ _ h => h)).to, ?_⟩
  refine List.forall_mem_cons.mpr ⟨(s_putF (ci := 11) (k := 32) (am_dp pw_X11_init_224 dd_X11_init_224a.2.1) rfl (by decide) wd1365 inX11 tyX11_ok nmX11 rfl rfl rfl rfl).to, ?_⟩
  refine List.forall_mem_cons.mpr ⟨(s_aloadn (am_dp pw_X11_init_224 dd_X11_init_224a.2.2.1) rfl).to, ?_⟩
  refine List.forall_mem_cons.mpr ⟨(s_iconst (am_dp pw_X11_init_224 dd_X11_init_224a.2.2.2.1) (by decide)).to, ?_⟩
  refine List.forall_mem_cons.mpr ⟨(s_newa (kd := 0) (ty := .int) (am_dp pw_X11_init_224 dd_X11_init_224a.2.2.2.2.1) rfl rfl wd195 (by decide) (by decide) (fun _ _ h => h)).to, ?_⟩
  refine List.forall_mem_cons.mpr ⟨(s_putF (ci := 11) (k := 33) (am_dp pw_X11_init_224 dd_X11_init_224a.2.2.2.2.2.1) rfl (by decide) wd1366 inX11 tyX11_ok nmX11 rfl rfl rfl rfl).to, ?_⟩
  refine List.forall_mem_cons.mpr ⟨(s_aloadn (am_dp pw_X11_init_224 dd_X11_init_224a.2.2.2.2.2.2.1) rfl).to, ?_⟩
  refine List.forall_mem_cons.mpr ⟨(s_bipush (am_dp pw_X11_init_224 dd_X11_init_224a.2.2.2.2.2.2.2) (by decide)).to, ?_⟩
  refine List.forall_mem_cons.mpr ⟨(s_newa (kd := 0) (ty := .int) (am_dp pw_X11_init_224 dd_X11_init_224b.1) rfl rfl wd195 (by decide) (by decide) (fun _ _ h => h)).to, ?_⟩
  refine List.forall_mem_cons.mpr ⟨(s_putF (ci := 11) (k := 34) (am_dp pw_X11_init_224 dd_X11_init_224b.2.1) rfl (by decide) wd1367 inX11 tyX11_ok nmX11 rfl rfl rfl rfl).to, ?_⟩
  refine List.forall_mem_cons.mpr ⟨(s_aloadn (am_dp pw_X11_init_224 dd_X11_init_224b.2.2.1) rfl).to, ?_⟩
  refine List.forall_mem_cons.mpr ⟨(s_bipush (am_dp pw_X11_init_224 dd_X11_init_224b.2.2.2.1) (by decide)).to, ?_⟩
  refine List.forall_mem_cons.mpr ⟨(s_newa (kd := 0) (ty := .int) (am_dp pw_X11_init_224 dd_X11_init_224b.2.2.2.2.1) rfl rfl wd195 (by decide) (by decide) (fun _ _ h => h)).to, ?_⟩
  refine List.forall_mem_cons.mpr ⟨(s_putF (ci := 11) (k := 35) (am_dp pw_X11_init_224 dd_X11_init_224b.2.2.2.2.2.1) rfl (by decide) wd1368 inX11 tyX11_ok nmX11 rfl rfl rfl rfl).to, ?_⟩
  refine List.forall_mem_cons.mpr ⟨(s_aloadn (am_dp pw_X11_init_224 dd_X11_init_224b.2.2.2.2.2.2.1) rfl).to, ?_⟩
  refine List.forall_mem_cons.mpr ⟨(s_bipush (am_dp pw_X11_init_224 dd_X11_init_224b.2.2.2.2.2.2.2) (by decide)).to, ?_⟩
  refine List.forall_mem_cons.mpr ⟨(s_newa (kd := 0) (ty := .int) (am_dp pw_X11_init_256 dd_X11_init_256a.1) rfl rfl wd195 (by decide) (by decide) (fun _ _ h => h)).to, ?_⟩
  refine List.forall_mem_cons.mpr ⟨(s_putF (ci := 11) (k := 36) (am_dp pw_X11_init_256 dd_X11_init_256a.2.1) rfl (by decide) wd1369 inX11 tyX11_ok nmX11 rfl rfl rfl rfl).to, ?_⟩
  refine List.forall_mem_cons.mpr ⟨(s_aloadn (am_dp pw_X11_init_256 dd_X11_init_256a.2.2.1) rfl).to, ?_⟩
  refine List.forall_mem_cons.mpr ⟨(s_iconst (am_dp pw_X11_init_256 dd_X11_init_256a.2.2.2.1) (by decide)).to, ?_⟩
  refine List.forall_mem_cons.mpr ⟨(s_newa (kd := 0) (ty := .int) (am_dp pw_X11_init_256 dd_X11_init_256a.2.2.2.2.1) rfl rfl wd195 (by decide) (by decide) (fun _ _ h => h)).to, ?_⟩
  refine List.forall_mem_cons.mpr ⟨(s_putF (ci := 11) (k := 37) (am_dp pw_X11_init_256 dd_X11_init_256a.2.2.2.2.2.1) rfl (by decide) wd1370 inX11 tyX11_ok nmX11 rfl rfl rfl rfl).to, ?_⟩
  refine List.forall_mem_cons.mpr ⟨(s_aloadn (am_dp pw_X11_init_256 dd_X11_init_256a.2.2.2.2.2.2.1) rfl).to, ?_⟩
  refine List.forall_mem_cons.mpr ⟨(s_sipush (am_dp pw_X11_init_256 dd_X11_init_256a.2.2.2.2.2.2.2) (by decide)).to, ?_⟩
  refine List.forall_mem_cons.mpr ⟨(s_newa (kd := 0) (ty := .int) (am_dp pw_X11_init_256 dd_X11_init_256b.1) rfl rfl wd195 (by decide) (by decide) (fun _ _ h => h)).to, ?_⟩
  refine List.forall_mem_cons.mpr ⟨(s_putF (ci := 11) (k := 38) (am_dp pw_X11_init_256 dd_X11_init_256b.2.1) rfl (by decide) wd1371 inX11 tyX11_ok nmX11 rfl rfl rfl rfl).to, ?_⟩
  refine List.forall_mem_cons.mpr ⟨(s_aloadn (am_dp pw_X11_init_256 dd_X11_init_256b.2.2.1) rfl).to, ?_⟩
  refine List.forall_mem_cons.mpr ⟨(s_sipush (am_dp pw_X11_init_256 dd_X11_init_256b.2.2.2.1) (by decide)).to, ?_⟩
  refine List.forall_mem_cons.mpr ⟨(s_newa (kd := 0) (ty := .int) (am_dp pw_X11_init_256 dd_X11_init_256b.2.2.2.2.1) rfl rfl wd195 (by decide) (by decide) (fun _ _ h => h)).to, ?_⟩
  refine List.forall_mem_cons.mpr ⟨(s_putF (ci := 11) (k := 39) (am_dp pw_X11_init_256 dd_X11_init_256b.2.2.2.2.2.1) rfl (by decide) wd1372 inX11 tyX11_ok nmX11 rfl rfl rfl rfl).to, ?_⟩
  refine List.forall_mem_cons.mpr ⟨(s_aloadn (am_dp pw_X11_init_256 dd_X11_init_256b.2.2.2.2.2.2.1) rfl).to, ?_⟩
  refine List.forall_mem_cons.mpr ⟨(s_iconst (am_dp pw_X11_init_256 dd_X11_init_256b.2.2.2.2.2.2.2) (by decide)).to, ?_⟩
  refine List.forall_mem_cons.mpr ⟨(s_put (ci := 11) (k := 40) (am_dp pw_X11_init_288 dd_X11_init_288a.1) rfl (by decide) wd1373 inX11 tyX11_ok nmX11 rfl rfl).to, ?_⟩
  refine List.forall_mem_cons.mpr ⟨(s_aloadn (am_dp pw_X11_init_288 dd_X11_init_288a.2.1) rfl).to, ?_⟩
  refine List.forall_mem_cons.mpr ⟨(s_iconst (am_dp pw_X11_init_288 dd_X11_init_288a.2.2.1) (by decide)).to, ?_⟩
  refine List.forall_mem_cons.mpr ⟨(s_put (ci := 11) (k := 41) (am_dp pw_X11_init_288 dd_X11_init_288a.2.2.2.1) rfl (by decide) wd1374 inX11 tyX11_ok nmX11 rfl rfl).to, ?_⟩
  refine List.forall_mem_cons.mpr ⟨(s_aloadn (am_dp pw_X11_init_288 dd_X11_init_288a.2.2.2.2.1) rfl).to, ?_⟩
  refine List.forall_mem_cons.mpr ⟨(s_bipush (am_dp pw_X11_init_288 dd_X11_init_288a.2.2.2.2.2.1) (by decide)).to, ?_⟩
  refine List.forall_mem_cons.mpr ⟨(s_newa (kd := 0) (ty := .int) (am_dp pw_X11_init_288 dd_X11_init_288a.2.2.2.2.2.2.1) rfl rfl wd195 (by decide) (by decide) (fun _ _ h => h)).to, ?_⟩
  refine List.forall_mem_cons.mpr ⟨(s_putF (ci := 11) (k := 42) (am_dp pw_X11_init_288 dd_X11_init_288a.2.2.2.2.2.2.2) rfl (by decide) wd1375 inX11 tyX11_ok nmX11 rfl rfl rfl rfl).to, ?_⟩
  refine List.forall_mem_cons.mpr ⟨(s_aloadn (am_dp pw_X11_init_288 dd_X11_init_288b.1) rfl).to, ?_⟩
  refine List.forall_mem_cons.mpr ⟨(s_bipush (am_dp pw_X11_init_288 dd_X11_init_288b.2.1) (by decide)).to, ?_⟩
  refine List.forall_mem_cons.mpr ⟨(s_newa (kd := 0) (ty := .int) (am_dp pw_X11_init_288 dd_X11_init_288b.2.2.1) rfl rfl wd195 (by decide) (by decide) (fun _ _ h => h)).to, ?_⟩
  refine List.forall_mem_cons.mpr ⟨(s_putF (ci := 11) (k := 43) (am_dp pw_X11_init_288 dd_X11_init_288b.2.2.2.1) rfl (by decide) wd1376 inX11 tyX11_ok nmX11 rfl rfl rfl rfl).to, ?_⟩
  refine List.forall_mem_cons.mpr ⟨(s_aloadn (am_dp pw_X11_init_288 dd_X11_init_288b.2.2.2.2.1) rfl).to, ?_⟩
  refine List.forall_mem_cons.mpr ⟨(s_bipush (am_dp pw_X11_init_288 dd_X11_init_288b.2.2.2.2.2.1) (by decide)).to, ?_⟩
  refine List.forall_mem_cons.mpr ⟨(s_newa (kd := 2) (ty := .boolean) (am_dp pw_X11_init_288 dd_X11_init_288b.2.2.2.2.2.2.1) rfl rfl wd304 (by decide) (by decide) (fun _ _ h => h)).to, ?_⟩
  refine List.forall_mem_cons.mpr ⟨(s_putF (ci := 11) (k := 44) (am_dp pw_X11_init_288 dd_X11_init_288b.2.2.2.2.2.2.2) rfl (by decide) wd1377 inX11 tyX11_ok nmX11 rfl rfl rfl rfl).to, ?_⟩
  refine List.forall_mem_cons.mpr ⟨(s_aloadn (am_dp pw_X11_init_320 dd_X11_init_320a.1) rfl).to, ?_⟩
  refine List.forall_mem_cons.mpr ⟨(s_bipush (am_dp pw_X11_init_320 dd_X11_init_320a.2.1) (by decide)).to, ?_⟩
  refine List.forall_mem_cons.mpr ⟨(s_newa (kd := 0) (ty := .int) (am_dp pw_X11_init_320 dd_X11_init_320a.2.2.1) rfl rfl wd195 (by decide) (by decide) (fun _ _ h => h)).to, ?_⟩
  refine List.forall_mem_cons.mpr ⟨(s_putF (ci := 11) (k := 45) (am_dp pw_X11_init_320 dd_X11_init_320a.2.2.2.1) rfl (by decide) wd1378 inX11 tyX11_ok nmX11 rfl rfl rfl rfl).to, ?_⟩
  refine List.forall_mem_cons.mpr ⟨(s_aloadn (am_dp pw_X11_init_320 dd_X11_init_320a.2.2.2.2.1) rfl).to, ?_⟩
  refine List.forall_mem_cons.mpr ⟨(s_bipush (am_dp pw_X11_init_320 dd_X11_init_320a.2.2.2.2.2.1) (by decide)).to, ?_⟩
  refine List.forall_mem_cons.mpr ⟨(s_newa (kd := 0) (ty := .int) (am_dp pw_X11_init_320 dd_X11_init_320a.2.2.2.2.2.2.1) rfl rfl wd195 (by decide) (by decide) (fun _ _ h => h)).to, ?_⟩
  refine List.forall_mem_cons.mpr ⟨(s_putF (ci := 11) (k := 46) (am_dp pw_X11_init_320 dd_X11_init_320a.2.2.2.2.2.2.2) rfl (by decide) wd1379 inX11 tyX11_ok nmX11 rfl rfl rfl rfl).to, ?_⟩
  refine List.forall_mem_cons.mpr ⟨(s_aloadn (am_dp pw_X11_init_320 dd_X11_init_320b.1) rfl).to, ?_⟩
  refine List.forall_mem_cons.mpr ⟨(s_iconst (am_dp pw_X11_init_320 dd_X11_init_320b.2.1) (by decide)).to, ?_⟩
  refine List.forall_mem_cons.mpr ⟨(s_put (ci := 11) (k := 47) (am_dp pw_X11_init_320 dd_X11_init_320b.2.2.1) rfl (by decide) wd1380 inX11 tyX11_ok nmX11 rfl rfl).to, ?_⟩
  refine List.forall_mem_cons.mpr ⟨(s_aloadn (am_dp pw_X11_init_320 dd_X11_init_320b.2.2.2.1) rfl).to, ?_⟩
  exact fun _ h => absurd h List.not_mem_nil
theorem sn_tX11_init_3 : ∀ q ∈ tX11_init_3, am_Snd am_P0 RX11 cX11_init 2 (Option.none : Option FieldType) "<init>" q.1 q.2 := by
  unfold tX11_init_3
  refine List.forall_mem_cons.mpr ⟨(s_iconst (am_dp pw_X11_init_320 dd_X11_init_320b.2.2.2.2.1) (by decide)).to, ?_⟩
  refine List.forall_mem_cons.mpr ⟨(s_put (ci := 11) (k := 48) (am_dp pw_X11_init_320 dd_X11_init_320b.2.2.2.2.2.1) rfl (by decide) wd1381 inX11 tyX11_ok nmX11 rfl rfl).to, ?_⟩
  refine List.forall_mem_cons.mpr ⟨(s_aloadn (am_dp pw_X11_init_320 dd_X11_init_320b.2.2.2.2.2.2.1) rfl).to, ?_⟩
  refine List.forall_mem_cons.mpr ⟨(s_sipush (am_dp pw_X11_init_320 dd_X11_init_320b.2.2.2.2.2.2.2) (by decide)).to, ?_⟩
  refine List.forall_mem_cons.mpr ⟨(s_newa (kd := 0) (ty := .int) (am_dp pw_X11_init_320 dd_X11_init_320c) rfl rfl wd195 (by decide) (by decide) (fun _ _ h => h)).to, ?_⟩
  refine List.forall_mem_cons.mpr ⟨(s_putF (ci := 11) (k := 49) (am_dp pw_X11_init_352 dd_X11_init_352a.1) rfl (by decide) wd1382 inX11 tyX11_ok nmX11 rfl rfl rfl rfl).to, ?_⟩
  refine List.forall_mem_cons.mpr ⟨(s_aloadn (am_dp pw_X11_init_352 dd_X11_init_352a.2.1) rfl).to, ?_⟩
  refine List.forall_mem_cons.mpr ⟨(s_iconst (am_dp pw_X11_init_352 dd_X11_init_352a.2.2.1) (by decide)).to, ?_⟩
  refine List.forall_mem_cons.mpr ⟨(s_put (ci := 11) (k := 50) (am_dp pw_X11_init_352 dd_X11_init_352a.2.2.2.1) rfl (by decide) wd1383 inX11 tyX11_ok nmX11 rfl rfl).to, ?_⟩
  refine List.forall_mem_cons.mpr ⟨(s_aloadn (am_dp pw_X11_init_352 dd_X11_init_352a.2.2.2.2.1) rfl).to, ?_⟩
  refine List.forall_mem_cons.mpr ⟨(s_iconst (am_dp pw_X11_init_352 dd_X11_init_352a.2.2.2.2.2.1) (by decide)).to, ?_⟩
  refine List.forall_mem_cons.mpr ⟨(s_put (ci := 11) (k := 51) (am_dp pw_X11_init_352 dd_X11_init_352a.2.2.2.2.2.2.1) rfl (by decide) wd1384 inX11 tyX11_ok nmX11 rfl rfl).to, ?_⟩
  refine List.forall_mem_cons.mpr ⟨(s_aloadn (am_dp pw_X11_init_352 dd_X11_init_352a.2.2.2.2.2.2.2) rfl).to, ?_⟩
  refine List.forall_mem_cons.mpr ⟨(s_iconst (am_dp pw_X11_init_352 dd_X11_init_352b.1) (by decide)).to, ?_⟩
  refine List.forall_mem_cons.mpr ⟨(s_newa (kd := 0) (ty := .int) (am_dp pw_X11_init_352 dd_X11_init_352b.2.1) rfl rfl wd195 (by decide) (by decide) (fun _ _ h => h)).to, ?_⟩
  refine List.forall_mem_cons.mpr ⟨(s_putF (ci := 11) (k := 52) (am_dp pw_X11_init_352 dd_X11_init_352b.2.2.1) rfl (by decide) wd1385 inX11 tyX11_ok nmX11 rfl rfl rfl rfl).to, ?_⟩
  refine List.forall_mem_cons.mpr ⟨(s_aloadn (am_dp pw_X11_init_352 dd_X11_init_352b.2.2.2.1) rfl).to, ?_⟩
  refine List.forall_mem_cons.mpr ⟨(s_sipush (am_dp pw_X11_init_352 dd_X11_init_352b.2.2.2.2.1) (by decide)).to, ?_⟩
  refine List.forall_mem_cons.mpr ⟨(s_newa (kd := 1) (ty := .long) (am_dp pw_X11_init_352 dd_X11_init_352b.2.2.2.2.2.1) rfl rfl wd303 (by decide) (by decide) (fun _ _ h => h)).to, ?_⟩
  refine List.forall_mem_cons.mpr ⟨(s_putF (ci := 11) (k := 53) (am_dp pw_X11_init_352 dd_X11_init_352b.2.2.2.2.2.2.1) rfl (by decide) wd1386 inX11 tyX11_ok nmX11 rfl rfl rfl rfl).to, ?_⟩
  refine List.forall_mem_cons.mpr ⟨(s_aloadn (am_dp pw_X11_init_352 dd_X11_init_352b.2.2.2.2.2.2.2) rfl).to, ?_⟩
  refine List.forall_mem_cons.mpr ⟨(s_bipush (am_dp pw_X11_init_352 dd_X11_init_352c) (by decide)).to, ?_⟩
  refine List.forall_mem_cons.mpr ⟨(s_newa (kd := 0) (ty := .int) (am_dp pw_X11_init_384 dd_X11_init_384a.1) rfl rfl wd195 (by decide) (by decide) (fun _ _ h => h)).to, ?_⟩
  refine List.forall_mem_cons.mpr ⟨(s_putF (ci := 11) (k := 54) (am_dp pw_X11_init_384 dd_X11_init_384a.2.1) rfl (by decide) wd1387 inX11 tyX11_ok nmX11 rfl rfl rfl rfl).to, ?_⟩
  refine List.forall_mem_cons.mpr ⟨(s_aloadn (am_dp pw_X11_init_384 dd_X11_init_384a.2.2.1) rfl).to, ?_⟩
  refine List.forall_mem_cons.mpr ⟨(s_sipush (am_dp pw_X11_init_384 dd_X11_init_384a.2.2.2.1) (by decide)).to, ?_⟩
  refine List.forall_mem_cons.mpr ⟨(s_newa (kd := 0) (ty := .int) (am_dp pw_X11_init_384 dd_X11_init_384a.2.2.2.2.1) rfl rfl wd195 (by decide) (by decide) (fun _ _ h => h)).to, ?_⟩
  refine List.forall_mem_cons.mpr ⟨(s_putF (ci := 11) (k := 55) (am_dp pw_X11_init_384 dd_X11_init_384a.2.2.2.2.2.1) rfl (by decide) wd1388 inX11 tyX11_ok nmX11 rfl rfl rfl rfl).to, ?_⟩
  refine List.forall_mem_cons.mpr ⟨(s_aloadn (am_dp pw_X11_init_384 dd_X11_init_384a.2.2.2.2.2.2.1) rfl).to, ?_⟩
  refine List.forall_mem_cons.mpr ⟨(s_sipush (am_dp pw_X11_init_384 dd_X11_init_384a.2.2.2.2.2.2.2) (by decide)).to, ?_⟩
  refine List.forall_mem_cons.mpr ⟨(s_newa (kd := 0) (ty := .int) (am_dp pw_X11_init_384 dd_X11_init_384b.1) rfl rfl wd195 (by decide) (by decide) (fun _ _ h => h)).to, ?_⟩
  refine List.forall_mem_cons.mpr ⟨(s_putF (ci := 11) (k := 56) (am_dp pw_X11_init_384 dd_X11_init_384b.2.1) rfl (by decide) wd1389 inX11 tyX11_ok nmX11 rfl rfl rfl rfl).to, ?_⟩
  refine List.forall_mem_cons.mpr ⟨(s_aloadn (am_dp pw_X11_init_384 dd_X11_init_384b.2.2.1) rfl).to, ?_⟩
  refine List.forall_mem_cons.mpr ⟨(s_sipush (am_dp pw_X11_init_384 dd_X11_init_384b.2.2.2.1) (by decide)).to, ?_⟩
  refine List.forall_mem_cons.mpr ⟨(s_newa (kd := 0) (ty := .int) (am_dp pw_X11_init_384 dd_X11_init_384b.2.2.2.2.1) rfl rfl wd195 (by decide) (by decide) (fun _ _ h => h)).to, ?_⟩
  refine List.forall_mem_cons.mpr ⟨(s_putF (ci := 11) (k := 57) (am_dp pw_X11_init_384 dd_X11_init_384b.2.2.2.2.2) rfl (by decide) wd1390 inX11 tyX11_ok nmX11 rfl rfl rfl rfl).to, ?_⟩
  refine List.forall_mem_cons.mpr ⟨(s_aloadn (am_dp pw_X11_init_416 dd_X11_init_416a.1) rfl).to, ?_⟩
  refine List.forall_mem_cons.mpr ⟨(s_sipush (am_dp pw_X11_init_416 dd_X11_init_416a.2.1) (by decide)).to, ?_⟩
  refine List.forall_mem_cons.mpr ⟨(s_newa (kd := 0) (ty := .int) (am_dp pw_X11_init_416 dd_X11_init_416a.2.2.1) rfl rfl wd195 (by decide) (by decide) (fun _ _ h => h)).to, ?_⟩
  refine List.forall_mem_cons.mpr ⟨(s_putF (ci := 11) (k := 58) (am_dp pw_X11_init_416 dd_X11_init_416a.2.2.2.1) rfl (by decide) wd1391 inX11 tyX11_ok nmX11 rfl rfl rfl rfl).to, ?_⟩
  refine List.forall_mem_cons.mpr ⟨(s_aloadn (am_dp pw_X11_init_416 dd_X11_init_416a.2.2.2.2.1) rfl).to, ?_⟩
  refine List.forall_mem_cons.mpr ⟨(s_iconst (am_dp pw_X11_init_416 dd_X11_init_416a.2.2.2.2.2.1) (by decide)).to, ?_⟩
  refine List.forall_mem_cons.mpr ⟨(s_put (ci := 11) (k := 59) (am_dp pw_X11_init_416 dd_X11_init_416a.2.2.2.2.2.2.1) rfl (by decide) wd1392 inX11 tyX11_ok nmX11 rfl rfl).to, ?_⟩
  refine List.forall_mem_cons.mpr ⟨(s_aloadn (am_dp pw_X11_init_416 dd_X11_init_416a.2.2.2.2.2.2.2) rfl).to, ?_⟩
  refine List.forall_mem_cons.mpr ⟨(s_iconst (am_dp pw_X11_init_416 dd_X11_init_416b.1) (by decide)).to, ?_⟩
  refine List.forall_mem_cons.mpr ⟨(s_put (ci := 11) (k := 60) (am_dp pw_X11_init_416 dd_X11_init_416b.2.1) rfl (by decide) wd1393 inX11 tyX11_ok nmX11 rfl rfl).to, ?_⟩
  refine List.forall_mem_cons.mpr ⟨(s_aloadn (am_dp pw_X11_init_416 dd_X11_init_416b.2.2.1) rfl).to, ?_⟩
  refine List.forall_mem_cons.mpr ⟨(s_bipush (am_dp pw_X11_init_416 dd_X11_init_416b.2.2.2.1) (by decide)).to, ?_⟩
  refine List.forall_mem_cons.mpr ⟨(s_newa (kd := 0) (ty := .int) (am_dp pw_X11_init_416 dd_X11_init_416b.2.2.2.2.1) rfl rfl wd195 (by decide) (by decide) (fun _ _ h => h)).to, ?_⟩
  refine List.forall_mem_cons.mpr ⟨(s_putF (ci := 11) (k := 61) (am_dp pw_X11_init_416 dd_X11_init_416b.2.2.2.2.2.1) rfl (by decide) wd1394 inX11 tyX11_ok nmX11 rfl rfl rfl rfl).to, ?_⟩
  refine List.forall_mem_cons.mpr ⟨(s_aloadn (am_dp pw_X11_init_416 dd_X11_init_416b.2.2.2.2.2.2.1) rfl).to, ?_⟩
  refine List.forall_mem_cons.mpr ⟨(s_bipush (am_dp pw_X11_init_416 dd_X11_init_416b.2.2.2.2.2.2.2) (by decide)).to, ?_⟩
  refine List.forall_mem_cons.mpr ⟨(s_newa (kd := 0) (ty := .int) (am_dp pw_X11_init_416 dd_X11_init_416c) rfl rfl wd195 (by decide) (by decide) (fun _ _ h => h)).to, ?_⟩
  refine List.forall_mem_cons.mpr ⟨(s_putF (ci := 11) (k := 62) (am_dp pw_X11_init_448 dd_X11_init_448a.1) rfl (by decide) wd1395 inX11 tyX11_ok nmX11 rfl rfl rfl rfl).to, ?_⟩
  refine List.forall_mem_cons.mpr ⟨(s_aloadn (am_dp pw_X11_init_448 dd_X11_init_448a.2.1) rfl).to, ?_⟩
  refine List.forall_mem_cons.mpr ⟨(s_bipush (am_dp pw_X11_init_448 dd_X11_init_448a.2.2.1) (by decide)).to, ?_⟩
  refine List.forall_mem_cons.mpr ⟨(s_newa (kd := 0) (ty := .int) (am_dp pw_X11_init_448 dd_X11_init_448a.2.2.2.1) rfl rfl wd195 (by decide) (by decide) (fun _ _ h => h)).to, ?_⟩
  refine List.forall_mem_cons.mpr ⟨(s_putF (ci := 11) (k := 63) (am_dp pw_X11_init_448 dd_X11_init_448a.2.2.2.2.1) rfl (by decide) wd1396 inX11 tyX11_ok nmX11 rfl rfl rfl rfl).to, ?_⟩
  refine List.forall_mem_cons.mpr ⟨(s_aloadn (am_dp pw_X11_init_448 dd_X11_init_448a.2.2.2.2.2.1) rfl).to, ?_⟩
  refine List.forall_mem_cons.mpr ⟨(s_iconst (am_dp pw_X11_init_448 dd_X11_init_448a.2.2.2.2.2.2.1) (by decide)).to, ?_⟩
  exact fun _ h => absurd h List.not_mem_nil
theorem sn_tX11_init_4 : ∀ q ∈ tX11_init_4, am_Snd am_P0 RX11 cX11_init 2 (Option.none : Option FieldType) "<init>" q.1 q.2 := by
  unfold tX11_init_4
  refine List.forall_mem_cons.mpr ⟨(s_put (ci := 11) (k := 64) (am_dp pw_X11_init_448 dd_X11_init_448a.2.2.2.2.2.2.2) rfl (by decide) wd1397 inX11 tyX11_ok nmX11 rfl rfl).to, ?_⟩
  refine List.forall_mem_cons.mpr ⟨(s_aloadn (am_dp pw_X11_init_448 dd_X11_init_448b.1) rfl).to, ?_⟩
  refine List.forall_mem_cons.mpr ⟨(s_iconst (am_dp pw_X11_init_448 dd_X11_init_448b.2.1) (by decide)).to, ?_⟩
  refine List.forall_mem_cons.mpr ⟨(s_put (ci := 11) (k := 65) (am_dp pw_X11_init_448 dd_X11_init_448b.2.2.1) rfl (by decide) wd1398 inX11 tyX11_ok nmX11 rfl rfl).to, ?_⟩
  refine List.forall_mem_cons.mpr ⟨(s_aloadn (am_dp pw_X11_init_448 dd_X11_init_448b.2.2.2.1) rfl).to, ?_⟩
  refine List.forall_mem_cons.mpr ⟨(s_iconst (am_dp pw_X11_init_448 dd_X11_init_448b.2.2.2.2.1) (by decide)).to, ?_⟩
  refine List.forall_mem_cons.mpr ⟨(s_put (ci := 11) (k := 66) (am_dp pw_X11_init_448 dd_X11_init_448b.2.2.2.2.2.1) rfl (by decide) wd1399 inX11 tyX11_ok nmX11 rfl rfl).to, ?_⟩
  refine List.forall_mem_cons.mpr ⟨(s_aloadn (am_dp pw_X11_init_448 dd_X11_init_448b.2.2.2.2.2.2.1) rfl).to, ?_⟩
  refine List.forall_mem_cons.mpr ⟨(s_bipush (am_dp pw_X11_init_448 dd_X11_init_448b.2.2.2.2.2.2.2) (by decide)).to, ?_⟩
  refine List.forall_mem_cons.mpr ⟨(s_newa (kd := 0) (ty := .int) (am_dp pw_X11_init_448 dd_X11_init_448c.1) rfl rfl wd195 (by decide) (by decide) (fun _ _ h => h)).to, ?_⟩
  refine List.forall_mem_cons.mpr ⟨(s_putF (ci := 11) (k := 67) (am_dp pw_X11_init_448 dd_X11_init_448c.2) rfl (by decide) wd1400 inX11 tyX11_ok nmX11 rfl rfl rfl rfl).to, ?_⟩
  refine List.forall_mem_cons.mpr ⟨(s_aloadn (am_dp pw_X11_init_480 dd_X11_init_480a.1) rfl).to, ?_⟩
  refine List.forall_mem_cons.mpr ⟨(s_bipush (am_dp pw_X11_init_480 dd_X11_init_480a.2.1) (by decide)).to, ?_⟩
  refine List.forall_mem_cons.mpr ⟨(s_newa (kd := 2) (ty := .boolean) (am_dp pw_X11_init_480 dd_X11_init_480a.2.2.1) rfl rfl wd304 (by decide) (by decide) (fun _ _ h => h)).to, ?_⟩
  refine List.forall_mem_cons.mpr ⟨(s_putF (ci := 11) (k := 68) (am_dp pw_X11_init_480 dd_X11_init_480a.2.2.2.1) rfl (by decide) wd1401 inX11 tyX11_ok nmX11 rfl rfl rfl rfl).to, ?_⟩
  refine List.forall_mem_cons.mpr ⟨(s_aloadn (am_dp pw_X11_init_480 dd_X11_init_480a.2.2.2.2.1) rfl).to, ?_⟩
  refine List.forall_mem_cons.mpr ⟨(s_bipush (am_dp pw_X11_init_480 dd_X11_init_480a.2.2.2.2.2.1) (by decide)).to, ?_⟩
  refine List.forall_mem_cons.mpr ⟨(s_newa (kd := 2) (ty := .boolean) (am_dp pw_X11_init_480 dd_X11_init_480a.2.2.2.2.2.2.1) rfl rfl wd304 (by decide) (by decide) (fun _ _ h => h)).to, ?_⟩
  refine List.forall_mem_cons.mpr ⟨(s_putF (ci := 11) (k := 69) (am_dp pw_X11_init_480 dd_X11_init_480a.2.2.2.2.2.2.2) rfl (by decide) wd1402 inX11 tyX11_ok nmX11 rfl rfl rfl rfl).to, ?_⟩
  refine List.forall_mem_cons.mpr ⟨(s_aloadn (am_dp pw_X11_init_480 dd_X11_init_480b.1) rfl).to, ?_⟩
  refine List.forall_mem_cons.mpr ⟨(s_sipush (am_dp pw_X11_init_480 dd_X11_init_480b.2.1) (by decide)).to, ?_⟩
  refine List.forall_mem_cons.mpr ⟨(s_newa (kd := 2) (ty := .boolean) (am_dp pw_X11_init_480 dd_X11_init_480b.2.2.1) rfl rfl wd304 (by decide) (by decide) (fun _ _ h => h)).to, ?_⟩
  refine List.forall_mem_cons.mpr ⟨(s_putF (ci := 11) (k := 70) (am_dp pw_X11_init_480 dd_X11_init_480b.2.2.2.1) rfl (by decide) wd1403 inX11 tyX11_ok nmX11 rfl rfl rfl rfl).to, ?_⟩
  refine List.forall_mem_cons.mpr ⟨(s_aloadn (am_dp pw_X11_init_480 dd_X11_init_480b.2.2.2.2.1) rfl).to, ?_⟩
  refine List.forall_mem_cons.mpr ⟨(s_bipush (am_dp pw_X11_init_480 dd_X11_init_480b.2.2.2.2.2.1) (by decide)).to, ?_⟩
  refine List.forall_mem_cons.mpr ⟨(s_newa (kd := 0) (ty := .int) (am_dp pw_X11_init_480 dd_X11_init_480b.2.2.2.2.2.2) rfl rfl wd195 (by decide) (by decide) (fun _ _ h => h)).to, ?_⟩
  refine List.forall_mem_cons.mpr ⟨(s_putF (ci := 11) (k := 71) (am_dp pw_X11_init_512 dd_X11_init_512a.1) rfl (by decide) wd1404 inX11 tyX11_ok nmX11 rfl rfl rfl rfl).to, ?_⟩
  refine List.forall_mem_cons.mpr ⟨(s_aloadn (am_dp pw_X11_init_512 dd_X11_init_512a.2.1) rfl).to, ?_⟩
  refine List.forall_mem_cons.mpr ⟨(s_sipush (am_dp pw_X11_init_512 dd_X11_init_512a.2.2.1) (by decide)).to, ?_⟩
  refine List.forall_mem_cons.mpr ⟨(s_newa (kd := 0) (ty := .int) (am_dp pw_X11_init_512 dd_X11_init_512a.2.2.2.1) rfl rfl wd195 (by decide) (by decide) (fun _ _ h => h)).to, ?_⟩
  refine List.forall_mem_cons.mpr ⟨(s_putF (ci := 11) (k := 72) (am_dp pw_X11_init_512 dd_X11_init_512a.2.2.2.2.1) rfl (by decide) wd1405 inX11 tyX11_ok nmX11 rfl rfl rfl rfl).to, ?_⟩
  refine List.forall_mem_cons.mpr ⟨(s_aloadn (am_dp pw_X11_init_512 dd_X11_init_512a.2.2.2.2.2.1) rfl).to, ?_⟩
  refine List.forall_mem_cons.mpr ⟨(s_iconst (am_dp pw_X11_init_512 dd_X11_init_512a.2.2.2.2.2.2.1) (by decide)).to, ?_⟩
  refine List.forall_mem_cons.mpr ⟨(s_put (ci := 11) (k := 73) (am_dp pw_X11_init_512 dd_X11_init_512a.2.2.2.2.2.2.2) rfl (by decide) wd1406 inX11 tyX11_ok nmX11 rfl rfl).to, ?_⟩
  refine List.forall_mem_cons.mpr ⟨(s_aloadn (am_dp pw_X11_init_512 dd_X11_init_512b.1) rfl).to, ?_⟩
  refine List.forall_mem_cons.mpr ⟨(s_bipush (am_dp pw_X11_init_512 dd_X11_init_512b.2.1) (by decide)).to, ?_⟩
  refine List.forall_mem_cons.mpr ⟨(s_newa (kd := 0) (ty := .int) (am_dp pw_X11_init_512 dd_X11_init_512b.2.2.1) rfl rfl wd195 (by decide) (by decide) (fun _ _ h => h)).to, ?_⟩
  refine List.forall_mem_cons.mpr ⟨(s_putF (ci := 11) (k := 74) (am_dp pw_X11_init_512 dd_X11_init_512b.2.2.2.1) rfl (by decide) wd1407 inX11 tyX11_ok nmX11 rfl rfl rfl rfl).to, ?_⟩
  refine List.forall_mem_cons.mpr ⟨(s_aloadn (am_dp pw_X11_init_512 dd_X11_init_512b.2.2.2.2.1) rfl).to, ?_⟩
  refine List.forall_mem_cons.mpr ⟨(s_bipush (am_dp pw_X11_init_512 dd_X11_init_512b.2.2.2.2.2.1) (by decide)).to, ?_⟩
  refine List.forall_mem_cons.mpr ⟨(s_newa (kd := 0) (ty := .int) (am_dp pw_X11_init_512 dd_X11_init_512b.2.2.2.2.2.2.1) rfl rfl wd195 (by decide) (by decide) (fun _ _ h => h)).to, ?_⟩
  refine List.forall_mem_cons.mpr ⟨(s_putF (ci := 11) (k := 75) (am_dp pw_X11_init_512 dd_X11_init_512b.2.2.2.2.2.2.2) rfl (by decide) wd1408 inX11 tyX11_ok nmX11 rfl rfl rfl rfl).to, ?_⟩
  refine List.forall_mem_cons.mpr ⟨(s_aloadn (am_dp pw_X11_init_544 dd_X11_init_544a.1) rfl).to, ?_⟩
  refine List.forall_mem_cons.mpr ⟨(s_sipush (am_dp pw_X11_init_544 dd_X11_init_544a.2.1) (by decide)).to, ?_⟩
  refine List.forall_mem_cons.mpr ⟨(s_newa (kd := 2) (ty := .boolean) (am_dp pw_X11_init_544 dd_X11_init_544a.2.2.1) rfl rfl wd304 (by decide) (by decide) (fun _ _ h => h)).to, ?_⟩
  refine List.forall_mem_cons.mpr ⟨(s_putF (ci := 11) (k := 76) (am_dp pw_X11_init_544 dd_X11_init_544a.2.2.2.1) rfl (by decide) wd1409 inX11 tyX11_ok nmX11 rfl rfl rfl rfl).to, ?_⟩
  refine List.forall_mem_cons.mpr ⟨(s_aloadn (am_dp pw_X11_init_544 dd_X11_init_544a.2.2.2.2.1) rfl).to, ?_⟩
  refine List.forall_mem_cons.mpr ⟨(s_bipush (am_dp pw_X11_init_544 dd_X11_init_544a.2.2.2.2.2.1) (by decide)).to, ?_⟩
  refine List.forall_mem_cons.mpr ⟨(s_newa (kd := 2) (ty := .boolean) (am_dp pw_X11_init_544 dd_X11_init_544a.2.2.2.2.2.2.1) rfl rfl wd304 (by decide) (by decide) (fun _ _ h => h)).to, ?_⟩
  refine List.forall_mem_cons.mpr ⟨(s_putF (ci := 11) (k := 77) (am_dp pw_X11_init_544 dd_X11_init_544a.2.2.2.2.2.2.2) rfl (by decide) wd1410 inX11 tyX11_ok nmX11 rfl rfl rfl rfl).to, ?_⟩
  refine List.forall_mem_cons.mpr ⟨(s_aloadn (am_dp pw_X11_init_544 dd_X11_init_544b.1) rfl).to, ?_⟩
  refine List.forall_mem_cons.mpr ⟨(s_bipush (am_dp pw_X11_init_544 dd_X11_init_544b.2.1) (by decide)).to, ?_⟩
  refine List.forall_mem_cons.mpr ⟨(s_newa (kd := 0) (ty := .int) (am_dp pw_X11_init_544 dd_X11_init_544b.2.2.1) rfl rfl wd195 (by decide) (by decide) (fun _ _ h => h)).to, ?_⟩
  refine List.forall_mem_cons.mpr ⟨(s_putF (ci := 11) (k := 78) (am_dp pw_X11_init_544 dd_X11_init_544b.2.2.2.1) rfl (by decide) wd1411 inX11 tyX11_ok nmX11 rfl rfl rfl rfl).to, ?_⟩
  refine List.forall_mem_cons.mpr ⟨(s_aloadn (am_dp pw_X11_init_544 dd_X11_init_544b.2.2.2.2.1) rfl).to, ?_⟩
  refine List.forall_mem_cons.mpr ⟨(s_bipush (am_dp pw_X11_init_544 dd_X11_init_544b.2.2.2.2.2.1) (by decide)).to, ?_⟩
  refine List.forall_mem_cons.mpr ⟨(s_newa (kd := 1) (ty := .long) (am_dp pw_X11_init_544 dd_X11_init_544b.2.2.2.2.2.2.1) rfl rfl wd303 (by decide) (by decide) (fun _ _ h => h)).to, ?_⟩
  refine List.forall_mem_cons.mpr ⟨(s_putF (ci := 11) (k := 79) (am_dp pw_X11_init_544 dd_X11_init_544b.2.2.2.2.2.2.2) rfl (by decide) wd1412 inX11 tyX11_ok nmX11 rfl rfl rfl rfl).to, ?_⟩
  refine List.forall_mem_cons.mpr ⟨(s_aloadn (am_dp pw_X11_init_576 dd_X11_init_576a.1) rfl).to, ?_⟩
  refine List.forall_mem_cons.mpr ⟨(s_sipush (am_dp pw_X11_init_576 dd_X11_init_576a.2.1) (by decide)).to, ?_⟩
  exact fun _ h => absurd h List.not_mem_nil
theorem sn_tX11_init_5 : ∀ q ∈ tX11_init_5, am_Snd am_P0 RX11 cX11_init 2 (Option.none : Option FieldType) "<init>" q.1 q.2 := by
  unfold tX11_init_5
  refine List.forall_mem_cons.mpr ⟨(s_newa (kd := 0) (ty := .int) (am_dp pw_X11_init_576 dd_X11_init_576a.2.2.1) rfl rfl wd195 (by decide) (by decide) (fun _ _ h => h)).to, ?_⟩
  refine List.forall_mem_cons.mpr ⟨(s_putF (ci := 11) (k := 80) (am_dp pw_X11_init_576 dd_X11_init_576a.2.2.2.1) rfl (by decide) wd1413 inX11 tyX11_ok nmX11 rfl rfl rfl rfl).to, ?_⟩
  refine List.forall_mem_cons.mpr ⟨(s_aloadn (am_dp pw_X11_init_576 dd_X11_init_576a.2.2.2.2.1) rfl).to, ?_⟩
  refine List.forall_mem_cons.mpr ⟨(s_sipush (am_dp pw_X11_init_576 dd_X11_init_576a.2.2.2.2.2.1) (by decide)).to, ?_⟩
  refine List.forall_mem_cons.mpr ⟨(s_newa (kd := 0) (ty := .int) (am_dp pw_X11_init_576 dd_X11_init_576a.2.2.2.2.2.2.1) rfl rfl wd195 (by decide) (by decide) (fun _ _ h => h)).to, ?_⟩
  refine List.forall_mem_cons.mpr ⟨(s_putF (ci := 11) (k := 81) (am_dp pw_X11_init_576 dd_X11_init_576a.2.2.2.2.2.2.2) rfl (by decide) wd1414 inX11 tyX11_ok nmX11 rfl rfl rfl rfl).to, ?_⟩
  refine List.forall_mem_cons.mpr ⟨(s_aloadn (am_dp pw_X11_init_576 dd_X11_init_576b.1) rfl).to, ?_⟩
  refine List.forall_mem_cons.mpr ⟨(s_iconst (am_dp pw_X11_init_576 dd_X11_init_576b.2.1) (by decide)).to, ?_⟩
  refine List.forall_mem_cons.mpr ⟨(s_put (ci := 11) (k := 82) (am_dp pw_X11_init_576 dd_X11_init_576b.2.2.1) rfl (by decide) wd1415 inX11 tyX11_ok nmX11 rfl rfl).to, ?_⟩
  refine List.forall_mem_cons.mpr ⟨(s_aloadn (am_dp pw_X11_init_576 dd_X11_init_576b.2.2.2.1) rfl).to, ?_⟩
  refine List.forall_mem_cons.mpr ⟨(s_get (ci := 11) (k := 37) (am_dp pw_X11_init_576 dd_X11_init_576b.2.2.2.2.1) rfl (by decide) wd1370 inX11 rfl).to, ?_⟩
  refine List.forall_mem_cons.mpr ⟨(s_iconst (am_dp pw_X11_init_576 dd_X11_init_576b.2.2.2.2.2.1) (by decide)).to, ?_⟩
  refine List.forall_mem_cons.mpr ⟨(s_bipush (am_dp pw_X11_init_576 dd_X11_init_576b.2.2.2.2.2.2) (by decide)).to, ?_⟩
  refine List.forall_mem_cons.mpr ⟨(s_iast (am_dp pw_X11_init_608 dd_X11_init_608a.1)).to, ?_⟩
  refine List.forall_mem_cons.mpr ⟨(s_iconst (am_dp pw_X11_init_608 dd_X11_init_608a.2.1) (by decide)).to, ?_⟩
  refine List.forall_mem_cons.mpr ⟨(s_istoren (am_dp pw_X11_init_608 dd_X11_init_608a.2.2.1) rfl (by decide)).to, ?_⟩
  refine List.forall_mem_cons.mpr ⟨(s_iloadn (am_dp pw_X11_init_608 dd_X11_init_608a.2.2.2.1) rfl).to, ?_⟩
  refine List.forall_mem_cons.mpr ⟨(s_sipush (am_dp pw_X11_init_608 dd_X11_init_608a.2.2.2.2.1) (by decide)).to, ?_⟩
  refine List.forall_mem_cons.mpr ⟨(s_icmp_ge (am_dp pw_X11_init_608 dd_X11_init_608a.2.2.2.2.2.1) (by decide)).to, ?_⟩
  refine List.forall_mem_cons.mpr ⟨(s_aloadn (am_dp pw_X11_init_608 dd_X11_init_608a.2.2.2.2.2.2.1) rfl).to, ?_⟩
  refine List.forall_mem_cons.mpr ⟨(s_get (ci := 11) (k := 26) (am_dp pw_X11_init_608 dd_X11_init_608a.2.2.2.2.2.2.2) rfl (by decide) wd1359 inX11 rfl).to, ?_⟩
  refine List.forall_mem_cons.mpr ⟨(s_iloadn (am_dp pw_X11_init_608 dd_X11_init_608b.1) rfl).to, ?_⟩
  refine List.forall_mem_cons.mpr ⟨(s_iconst (am_dp pw_X11_init_608 dd_X11_init_608b.2.1) (by decide)).to, ?_⟩
  refine List.forall_mem_cons.mpr ⟨(s_iast (am_dp pw_X11_init_608 dd_X11_init_608b.2.2.1)).to, ?_⟩
  refine List.forall_mem_cons.mpr ⟨(s_iinc (am_dp pw_X11_init_608 dd_X11_init_608b.2.2.2.1) (by decide) (by decide)).to, ?_⟩
  refine List.forall_mem_cons.mpr ⟨(s_goto (am_dp pw_X11_init_608 dd_X11_init_608b.2.2.2.2.1) (by decide)).to, ?_⟩
  refine List.forall_mem_cons.mpr ⟨s_vret (am_dp pw_X11_init_608 dd_X11_init_608b.2.2.2.2.2) rfl, ?_⟩
  exact fun _ h => absurd h List.not_mem_nil
theorem sn_tX11_init : ∀ q ∈ tX11_init, am_Snd am_P0 RX11 cX11_init 2 (Option.none : Option FieldType) "<init>" q.1 q.2 := by
  unfold tX11_init
  exact List.forall_mem_append.mpr ⟨List.forall_mem_append.mpr ⟨List.forall_mem_append.mpr ⟨List.forall_mem_append.mpr ⟨List.forall_mem_append.mpr ⟨sn_tX11_init_0, sn_tX11_init_1⟩, sn_tX11_init_2⟩, sn_tX11_init_3⟩, sn_tX11_init_4⟩, sn_tX11_init_5⟩
theorem sn_tX11_is : ∀ q ∈ tX11_is, am_Snd am_P0 RX11 cX11_is 3 (Option.some FieldType.boolean) "is" q.1 q.2 := by
  unfold tX11_is
  refine List.forall_mem_cons.mpr ⟨(s_iloadn (am_dp pw_X11_is_0 dd_X11_is_0a.1) rfl).to, ?_⟩
  refine List.forall_mem_cons.mpr ⟨(s_iloadn (am_dp pw_X11_is_0 dd_X11_is_0a.2.1) rfl).to, ?_⟩
  refine List.forall_mem_cons.mpr ⟨(s_icmp_lt (am_dp pw_X11_is_0 dd_X11_is_0a.2.2.1) (by decide)).to, ?_⟩
  refine List.forall_mem_cons.mpr ⟨(s_iloadn (am_dp pw_X11_is_0 dd_X11_is_0a.2.2.2.1) rfl).to, ?_⟩
  refine List.forall_mem_cons.mpr ⟨(s_iloadn (am_dp pw_X11_is_0 dd_X11_is_0a.2.2.2.2.1) rfl).to, ?_⟩
  refine List.forall_mem_cons.mpr ⟨(s_icmp_gt (am_dp pw_X11_is_0 dd_X11_is_0a.2.2.2.2.2.1) (by decide)).to, ?_⟩
  refine List.forall_mem_cons.mpr ⟨(s_iconst (am_dp pw_X11_is_0 dd_X11_is_0a.2.2.2.2.2.2.1) (by decide)).to, ?_⟩
  refine List.forall_mem_cons.mpr ⟨(s_goto (am_dp pw_X11_is_0 dd_X11_is_0a.2.2.2.2.2.2.2) (by decide)).to, ?_⟩
  refine List.forall_mem_cons.mpr ⟨(s_iconst (am_dp pw_X11_is_0 dd_X11_is_0b.1) (by decide)).to, ?_⟩
  refine List.forall_mem_cons.mpr ⟨s_zret (am_dp pw_X11_is_0 dd_X11_is_0b.2) rfl, ?_⟩
  exact fun _ h => absurd h List.not_mem_nil
theorem sn_tX11_put : ∀ q ∈ tX11_put, am_Snd am_P0 RX11 cX11_put 3 (Option.none : Option FieldType) "put" q.1 q.2 := by
  unfold tX11_put
  refine List.forall_mem_cons.mpr ⟨(s_bipush (am_dp pw_X11_put_0 dd_X11_put_0a.1) (by decide)).to, ?_⟩
  refine List.forall_mem_cons.mpr ⟨(s_istoren (am_dp pw_X11_put_0 dd_X11_put_0a.2.1) rfl (by decide)).to, ?_⟩
  refine List.forall_mem_cons.mpr ⟨(s_iloadn (am_dp pw_X11_put_0 dd_X11_put_0a.2.2.1) rfl).to, ?_⟩
  refine List.forall_mem_cons.mpr ⟨(s_if_lt (am_dp pw_X11_put_0 dd_X11_put_0a.2.2.2.1) (by decide)).to, ?_⟩
  refine List.forall_mem_cons.mpr ⟨(s_aloadn (am_dp pw_X11_put_0 dd_X11_put_0a.2.2.2.2.1) rfl).to, ?_⟩
  refine List.forall_mem_cons.mpr ⟨(s_get (ci := 11) (k := 0) (am_dp pw_X11_put_0 dd_X11_put_0a.2.2.2.2.2.1) rfl (by decide) wd1333 inX11 rfl).to, ?_⟩
  refine List.forall_mem_cons.mpr ⟨(s_aloadn (am_dp pw_X11_put_0 dd_X11_put_0a.2.2.2.2.2.2.1) rfl).to, ?_⟩
  refine List.forall_mem_cons.mpr ⟨(s_get (ci := 11) (k := 1) (am_dp pw_X11_put_0 dd_X11_put_0a.2.2.2.2.2.2.2) rfl (by decide) wd1334 inX11 rfl).to, ?_⟩
  refine List.forall_mem_cons.mpr ⟨(s_iloadn (am_dp pw_X11_put_0 dd_X11_put_0b.1) rfl).to, ?_⟩
  refine List.forall_mem_cons.mpr ⟨(s_iloadn (am_dp pw_X11_put_0 dd_X11_put_0b.2.1) rfl).to, ?_⟩
  refine List.forall_mem_cons.mpr ⟨(s_ishr (am_dp pw_X11_put_0 dd_X11_put_0b.2.2.1)).to, ?_⟩
  refine List.forall_mem_cons.mpr ⟨(s_sipush (am_dp pw_X11_put_0 dd_X11_put_0b.2.2.2.1) (by decide)).to, ?_⟩
  refine List.forall_mem_cons.mpr ⟨(s_iand (am_dp pw_X11_put_0 dd_X11_put_0b.2.2.2.2.1)).to, ?_⟩
  refine List.forall_mem_cons.mpr ⟨(s_iast (am_dp pw_X11_put_0 dd_X11_put_0b.2.2.2.2.2.1)).to, ?_⟩
  refine List.forall_mem_cons.mpr ⟨(s_aloadn (am_dp pw_X11_put_0 dd_X11_put_0b.2.2.2.2.2.2.1) rfl).to, ?_⟩
  refine List.forall_mem_cons.mpr ⟨(s_dup (am_dp pw_X11_put_0 dd_X11_put_0b.2.2.2.2.2.2.2)).to, ?_⟩
  refine List.forall_mem_cons.mpr ⟨(s_get (ci := 11) (k := 1) (am_dp pw_X11_put_0 dd_X11_put_0c.1) rfl (by decide) wd1334 inX11 rfl).to, ?_⟩
  refine List.forall_mem_cons.mpr ⟨(s_iconst (am_dp pw_X11_put_0 dd_X11_put_0c.2.1) (by decide)).to, ?_⟩
  refine List.forall_mem_cons.mpr ⟨(s_iadd (am_dp pw_X11_put_0 dd_X11_put_0c.2.2.1)).to, ?_⟩
  refine List.forall_mem_cons.mpr ⟨(s_put (ci := 11) (k := 1) (am_dp pw_X11_put_0 dd_X11_put_0c.2.2.2) rfl (by decide) wd1334 inX11 tyX11_ok nmX11 rfl rfl).to, ?_⟩
  refine List.forall_mem_cons.mpr ⟨(s_iinc (am_dp pw_X11_put_32 dd_X11_put_32a.1) (by decide) (by decide)).to, ?_⟩
  refine List.forall_mem_cons.mpr ⟨(s_goto (am_dp pw_X11_put_32 dd_X11_put_32a.2.1) (by decide)).to, ?_⟩
  refine List.forall_mem_cons.mpr ⟨s_vret (am_dp pw_X11_put_32 dd_X11_put_32a.2.2) rfl, ?_⟩
  exact fun _ h => absurd h List.not_mem_nil
theorem sn_tX11_feed : ∀ q ∈ tX11_feed, am_Snd am_P0 RX11 cX11_feed 6 (Option.some FieldType.int) "feed" q.1 q.2 := by
  unfold tX11_feed
  refine List.forall_mem_cons.mpr ⟨(s_aloadn (am_dp pw_X11_feed_0 dd_X11_feed_0a.1) rfl).to, ?_⟩
  refine List.forall_mem_cons.mpr ⟨(s_get (ci := 11) (k := 1) (am_dp pw_X11_feed_0 dd_X11_feed_0a.2.1) rfl (by decide) wd1334 inX11 rfl).to, ?_⟩
  refine List.forall_mem_cons.mpr ⟨(s_bipush (am_dp pw_X11_feed_0 dd_X11_feed_0a.2.2.1) (by decide)).to, ?_⟩
  refine List.forall_mem_cons.mpr ⟨(s_iadd (am_dp pw_X11_feed_0 dd_X11_feed_0a.2.2.2.1)).to, ?_⟩
  refine List.forall_mem_cons.mpr ⟨(s_sipush (am_dp pw_X11_feed_0 dd_X11_feed_0a.2.2.2.2.1) (by decide)).to, ?_⟩
  refine List.forall_mem_cons.mpr ⟨(s_icmp_le (am_dp pw_X11_feed_0 dd_X11_feed_0a.2.2.2.2.2.1) (by decide)).to, ?_⟩
  refine List.forall_mem_cons.mpr ⟨(s_aloadn (am_dp pw_X11_feed_0 dd_X11_feed_0a.2.2.2.2.2.2.1) rfl).to, ?_⟩
  refine List.forall_mem_cons.mpr ⟨(s_iconst (am_dp pw_X11_feed_0 dd_X11_feed_0a.2.2.2.2.2.2.2) (by decide)).to, ?_⟩
  refine List.forall_mem_cons.mpr ⟨zw_cv208 (am_dp pw_X11_feed_0 dd_X11_feed_0b.1) wd1587, ?_⟩
  refine List.forall_mem_cons.mpr ⟨s_iret (am_dp pw_X11_feed_0 dd_X11_feed_0b.2.1) rfl, ?_⟩
  refine List.forall_mem_cons.mpr ⟨(s_aloadn (am_dp pw_X11_feed_0 dd_X11_feed_0b.2.2.1) rfl).to, ?_⟩
  refine List.forall_mem_cons.mpr ⟨(s_iloadn (am_dp pw_X11_feed_0 dd_X11_feed_0b.2.2.2.1) rfl).to, ?_⟩
  refine List.forall_mem_cons.mpr ⟨zw_cv168 (am_dp pw_X11_feed_0 dd_X11_feed_0b.2.2.2.2.1) wd1591, ?_⟩
  refine List.forall_mem_cons.mpr ⟨(s_aloadn (am_dp pw_X11_feed_0 dd_X11_feed_0b.2.2.2.2.2.1) rfl).to, ?_⟩
  refine List.forall_mem_cons.mpr ⟨(s_iloadn (am_dp pw_X11_feed_0 dd_X11_feed_0b.2.2.2.2.2.2.1) rfl).to, ?_⟩
  refine List.forall_mem_cons.mpr ⟨zw_cv168 (am_dp pw_X11_feed_0 dd_X11_feed_0b.2.2.2.2.2.2.2) wd1591, ?_⟩
  refine List.forall_mem_cons.mpr ⟨(s_aloadn (am_dp pw_X11_feed_0 dd_X11_feed_0c.1) rfl).to, ?_⟩
  refine List.forall_mem_cons.mpr ⟨(s_iloadn (am_dp pw_X11_feed_0 dd_X11_feed_0c.2.1) rfl).to, ?_⟩
  refine List.forall_mem_cons.mpr ⟨zw_cv168 (am_dp pw_X11_feed_0 dd_X11_feed_0c.2.2) wd1591, ?_⟩
  refine List.forall_mem_cons.mpr ⟨(s_aloadn (am_dp pw_X11_feed_32 dd_X11_feed_32a.1) rfl).to, ?_⟩
  refine List.forall_mem_cons.mpr ⟨(s_iload (am_dp pw_X11_feed_32 dd_X11_feed_32a.2.1)).to, ?_⟩
  refine List.forall_mem_cons.mpr ⟨zw_cv168 (am_dp pw_X11_feed_32 dd_X11_feed_32a.2.2.1) wd1591, ?_⟩
  refine List.forall_mem_cons.mpr ⟨(s_aloadn (am_dp pw_X11_feed_32 dd_X11_feed_32a.2.2.2.1) rfl).to, ?_⟩
  refine List.forall_mem_cons.mpr ⟨(s_iload (am_dp pw_X11_feed_32 dd_X11_feed_32a.2.2.2.2.1)).to, ?_⟩
  refine List.forall_mem_cons.mpr ⟨zw_cv168 (am_dp pw_X11_feed_32 dd_X11_feed_32a.2.2.2.2.2.1) wd1591, ?_⟩
  refine List.forall_mem_cons.mpr ⟨(s_aloadn (am_dp pw_X11_feed_32 dd_X11_feed_32a.2.2.2.2.2.2.1) rfl).to, ?_⟩
  refine List.forall_mem_cons.mpr ⟨(s_get (ci := 11) (k := 1) (am_dp pw_X11_feed_32 dd_X11_feed_32a.2.2.2.2.2.2.2) rfl (by decide) wd1334 inX11 rfl).to, ?_⟩
  refine List.forall_mem_cons.mpr ⟨s_iret (am_dp pw_X11_feed_32 dd_X11_feed_32b) rfl, ?_⟩
  exact fun _ h => absurd h List.not_mem_nil
theorem sn_tX11_end : ∀ q ∈ tX11_end, am_Snd am_P0 RX11 cX11_end 2 (Option.some FieldType.boolean) "end" q.1 q.2 := by
  unfold tX11_end
  refine List.forall_mem_cons.mpr ⟨(s_iloadn (am_dp pw_X11_end_0 dd_X11_end_0a.1) rfl).to, ?_⟩
  refine List.forall_mem_cons.mpr ⟨(s_if_lt (am_dp pw_X11_end_0 dd_X11_end_0a.2.1) (by decide)).to, ?_⟩
  refine List.forall_mem_cons.mpr ⟨(s_iloadn (am_dp pw_X11_end_0 dd_X11_end_0a.2.2.1) rfl).to, ?_⟩
  refine List.forall_mem_cons.mpr ⟨(s_aloadn (am_dp pw_X11_end_0 dd_X11_end_0a.2.2.2.1) rfl).to, ?_⟩
  refine List.forall_mem_cons.mpr ⟨(s_get (ci := 11) (k := 1) (am_dp pw_X11_end_0 dd_X11_end_0a.2.2.2.2.1) rfl (by decide) wd1334 inX11 rfl).to, ?_⟩
  refine List.forall_mem_cons.mpr ⟨(s_icmp_le (am_dp pw_X11_end_0 dd_X11_end_0a.2.2.2.2.2.1) (by decide)).to, ?_⟩
  refine List.forall_mem_cons.mpr ⟨(s_aloadn (am_dp pw_X11_end_0 dd_X11_end_0a.2.2.2.2.2.2.1) rfl).to, ?_⟩
  refine List.forall_mem_cons.mpr ⟨(s_iconst (am_dp pw_X11_end_0 dd_X11_end_0a.2.2.2.2.2.2.2) (by decide)).to, ?_⟩
  refine List.forall_mem_cons.mpr ⟨zw_cv208 (am_dp pw_X11_end_0 dd_X11_end_0b.1) wd1587, ?_⟩
  refine List.forall_mem_cons.mpr ⟨(s_if_lt (am_dp pw_X11_end_0 dd_X11_end_0b.2.1) (by decide)).to, ?_⟩
  refine List.forall_mem_cons.mpr ⟨(s_iconst (am_dp pw_X11_end_0 dd_X11_end_0b.2.2.1) (by decide)).to, ?_⟩
  refine List.forall_mem_cons.mpr ⟨(s_goto (am_dp pw_X11_end_0 dd_X11_end_0b.2.2.2.1) (by decide)).to, ?_⟩
  refine List.forall_mem_cons.mpr ⟨(s_iconst (am_dp pw_X11_end_0 dd_X11_end_0b.2.2.2.2.1) (by decide)).to, ?_⟩
  refine List.forall_mem_cons.mpr ⟨s_zret (am_dp pw_X11_end_0 dd_X11_end_0b.2.2.2.2.2.1) rfl, ?_⟩
  refine List.forall_mem_cons.mpr ⟨(s_aloadn (am_dp pw_X11_end_0 dd_X11_end_0b.2.2.2.2.2.2.1) rfl).to, ?_⟩
  refine List.forall_mem_cons.mpr ⟨(s_iloadn (am_dp pw_X11_end_0 dd_X11_end_0b.2.2.2.2.2.2.2) rfl).to, ?_⟩
  refine List.forall_mem_cons.mpr ⟨(s_put (ci := 11) (k := 1) (am_dp pw_X11_end_0 dd_X11_end_0c.1) rfl (by decide) wd1334 inX11 tyX11_ok nmX11 rfl rfl).to, ?_⟩
  refine List.forall_mem_cons.mpr ⟨(s_iconst (am_dp pw_X11_end_0 dd_X11_end_0c.2) (by decide)).to, ?_⟩
  refine List.forall_mem_cons.mpr ⟨s_zret (am_dp pw_X11_end_32 dd_X11_end_32a) rfl, ?_⟩
  exact fun _ h => absurd h List.not_mem_nil
theorem sn_tX11_blame : ∀ q ∈ tX11_blame, am_Snd am_P0 RX11 cX11_blame 3 (Option.none : Option FieldType) "blame" q.1 q.2 := by
  unfold tX11_blame
  refine List.forall_mem_cons.mpr ⟨(s_aloadn (am_dp pw_X11_blame_0 dd_X11_blame_0a.1) rfl).to, ?_⟩
  refine List.forall_mem_cons.mpr ⟨(s_get (ci := 11) (k := 8) (am_dp pw_X11_blame_0 dd_X11_blame_0a.2.1) rfl (by decide) wd1341 inX11 rfl).to, ?_⟩
  refine List.forall_mem_cons.mpr ⟨(s_if_le (am_dp pw_X11_blame_0 dd_X11_blame_0a.2.2.1) (by decide)).to, ?_⟩
  refine List.forall_mem_cons.mpr ⟨s_vret (am_dp pw_X11_blame_0 dd_X11_blame_0a.2.2.2.1) rfl, ?_⟩
  refine List.forall_mem_cons.mpr ⟨(s_aloadn (am_dp pw_X11_blame_0 dd_X11_blame_0a.2.2.2.2.1) rfl).to, ?_⟩
  refine List.forall_mem_cons.mpr ⟨(s_iloadn (am_dp pw_X11_blame_0 dd_X11_blame_0a.2.2.2.2.2.1) rfl).to, ?_⟩
  refine List.forall_mem_cons.mpr ⟨(s_put (ci := 11) (k := 8) (am_dp pw_X11_blame_0 dd_X11_blame_0a.2.2.2.2.2.2.1) rfl (by decide) wd1341 inX11 tyX11_ok nmX11 rfl rfl).to, ?_⟩
  refine List.forall_mem_cons.mpr ⟨(s_aloadn (am_dp pw_X11_blame_0 dd_X11_blame_0a.2.2.2.2.2.2.2) rfl).to, ?_⟩
  refine List.forall_mem_cons.mpr ⟨(s_iloadn (am_dp pw_X11_blame_0 dd_X11_blame_0b.1) rfl).to, ?_⟩
  refine List.forall_mem_cons.mpr ⟨(s_put (ci := 11) (k := 9) (am_dp pw_X11_blame_0 dd_X11_blame_0b.2.1) rfl (by decide) wd1342 inX11 tyX11_ok nmX11 rfl rfl).to, ?_⟩
  refine List.forall_mem_cons.mpr ⟨s_vret (am_dp pw_X11_blame_0 dd_X11_blame_0b.2.2) rfl, ?_⟩
  exact fun _ h => absurd h List.not_mem_nil
theorem sn_tX11_isLetter : ∀ q ∈ tX11_isLetter, am_Snd am_P0 RX11 cX11_isLetter 1 (Option.some FieldType.boolean) "isLetter" q.1 q.2 := by
  unfold tX11_isLetter
  refine List.forall_mem_cons.mpr ⟨(s_iloadn (am_dp pw_X11_isLetter_0 dd_X11_isLetter_0a.1) rfl).to, ?_⟩
  refine List.forall_mem_cons.mpr ⟨(s_bipush (am_dp pw_X11_isLetter_0 dd_X11_isLetter_0a.2.1) (by decide)).to, ?_⟩
  refine List.forall_mem_cons.mpr ⟨(s_icmp_lt (am_dp pw_X11_isLetter_0 dd_X11_isLetter_0a.2.2.1) (by decide)).to, ?_⟩
  refine List.forall_mem_cons.mpr ⟨(s_iloadn (am_dp pw_X11_isLetter_0 dd_X11_isLetter_0a.2.2.2.1) rfl).to, ?_⟩
  refine List.forall_mem_cons.mpr ⟨(s_bipush (am_dp pw_X11_isLetter_0 dd_X11_isLetter_0a.2.2.2.2.1) (by decide)).to, ?_⟩
  refine List.forall_mem_cons.mpr ⟨(s_icmp_gt (am_dp pw_X11_isLetter_0 dd_X11_isLetter_0a.2.2.2.2.2.1) (by decide)).to, ?_⟩
  refine List.forall_mem_cons.mpr ⟨(s_iconst (am_dp pw_X11_isLetter_0 dd_X11_isLetter_0a.2.2.2.2.2.2.1) (by decide)).to, ?_⟩
  refine List.forall_mem_cons.mpr ⟨(s_goto (am_dp pw_X11_isLetter_0 dd_X11_isLetter_0a.2.2.2.2.2.2.2) (by decide)).to, ?_⟩
  refine List.forall_mem_cons.mpr ⟨(s_iconst (am_dp pw_X11_isLetter_0 dd_X11_isLetter_0b.1) (by decide)).to, ?_⟩
  refine List.forall_mem_cons.mpr ⟨s_zret (am_dp pw_X11_isLetter_0 dd_X11_isLetter_0b.2) rfl, ?_⟩
  exact fun _ h => absurd h List.not_mem_nil
theorem sn_tX11_isDigit : ∀ q ∈ tX11_isDigit, am_Snd am_P0 RX11 cX11_isDigit 1 (Option.some FieldType.boolean) "isDigit" q.1 q.2 := by
  unfold tX11_isDigit
  refine List.forall_mem_cons.mpr ⟨(s_iloadn (am_dp pw_X11_isDigit_0 dd_X11_isDigit_0a.1) rfl).to, ?_⟩
  refine List.forall_mem_cons.mpr ⟨(s_bipush (am_dp pw_X11_isDigit_0 dd_X11_isDigit_0a.2.1) (by decide)).to, ?_⟩
  refine List.forall_mem_cons.mpr ⟨(s_icmp_lt (am_dp pw_X11_isDigit_0 dd_X11_isDigit_0a.2.2.1) (by decide)).to, ?_⟩
  refine List.forall_mem_cons.mpr ⟨(s_iloadn (am_dp pw_X11_isDigit_0 dd_X11_isDigit_0a.2.2.2.1) rfl).to, ?_⟩
  refine List.forall_mem_cons.mpr ⟨(s_bipush (am_dp pw_X11_isDigit_0 dd_X11_isDigit_0a.2.2.2.2.1) (by decide)).to, ?_⟩
  refine List.forall_mem_cons.mpr ⟨(s_icmp_gt (am_dp pw_X11_isDigit_0 dd_X11_isDigit_0a.2.2.2.2.2.1) (by decide)).to, ?_⟩
  refine List.forall_mem_cons.mpr ⟨(s_iconst (am_dp pw_X11_isDigit_0 dd_X11_isDigit_0a.2.2.2.2.2.2.1) (by decide)).to, ?_⟩
  refine List.forall_mem_cons.mpr ⟨(s_goto (am_dp pw_X11_isDigit_0 dd_X11_isDigit_0a.2.2.2.2.2.2.2) (by decide)).to, ?_⟩
  refine List.forall_mem_cons.mpr ⟨(s_iconst (am_dp pw_X11_isDigit_0 dd_X11_isDigit_0b.1) (by decide)).to, ?_⟩
  refine List.forall_mem_cons.mpr ⟨s_zret (am_dp pw_X11_isDigit_0 dd_X11_isDigit_0b.2) rfl, ?_⟩
  exact fun _ h => absurd h List.not_mem_nil
theorem sn_tX11_ahead_0 : ∀ q ∈ tX11_ahead_0, am_Snd am_P0 RX11 cX11_ahead 6 (Option.none : Option FieldType) "ahead" q.1 q.2 := by
  unfold tX11_ahead_0
  refine List.forall_mem_cons.mpr ⟨(s_aloadn (am_dp pw_X11_ahead_0 dd_X11_ahead_0a.1) rfl).to, ?_⟩
  refine List.forall_mem_cons.mpr ⟨(s_get (ci := 11) (k := 5) (am_dp pw_X11_ahead_0 dd_X11_ahead_0a.2.1) rfl (by decide) wd1338 inX11 rfl).to, ?_⟩
  refine List.forall_mem_cons.mpr ⟨(s_istoren (am_dp pw_X11_ahead_0 dd_X11_ahead_0a.2.2.1) rfl (by decide)).to, ?_⟩
  refine List.forall_mem_cons.mpr ⟨(s_iloadn (am_dp pw_X11_ahead_0 dd_X11_ahead_0a.2.2.2.1) rfl).to, ?_⟩
  refine List.forall_mem_cons.mpr ⟨(s_aloadn (am_dp pw_X11_ahead_0 dd_X11_ahead_0a.2.2.2.2.1) rfl).to, ?_⟩
  refine List.forall_mem_cons.mpr ⟨(s_get (ci := 11) (k := 2) (am_dp pw_X11_ahead_0 dd_X11_ahead_0a.2.2.2.2.2.1) rfl (by decide) wd1335 inX11 rfl).to, ?_⟩
  refine List.forall_mem_cons.mpr ⟨(s_icmp_ge (am_dp pw_X11_ahead_0 dd_X11_ahead_0a.2.2.2.2.2.2.1) (by decide)).to, ?_⟩
  refine List.forall_mem_cons.mpr ⟨(s_aloadn (am_dp pw_X11_ahead_0 dd_X11_ahead_0a.2.2.2.2.2.2.2) rfl).to, ?_⟩
  refine List.forall_mem_cons.mpr ⟨(s_get (ci := 11) (k := 0) (am_dp pw_X11_ahead_0 dd_X11_ahead_0b.1) rfl (by decide) wd1333 inX11 rfl).to, ?_⟩
  refine List.forall_mem_cons.mpr ⟨(s_iloadn (am_dp pw_X11_ahead_0 dd_X11_ahead_0b.2.1) rfl).to, ?_⟩
  refine List.forall_mem_cons.mpr ⟨(s_iald (am_dp pw_X11_ahead_0 dd_X11_ahead_0b.2.2.1)).to, ?_⟩
  refine List.forall_mem_cons.mpr ⟨(s_bipush (am_dp pw_X11_ahead_0 dd_X11_ahead_0b.2.2.2.1) (by decide)).to, ?_⟩
  refine List.forall_mem_cons.mpr ⟨(s_icmp_eq (am_dp pw_X11_ahead_0 dd_X11_ahead_0b.2.2.2.2.1) (by decide)).to, ?_⟩
  refine List.forall_mem_cons.mpr ⟨(s_aloadn (am_dp pw_X11_ahead_0 dd_X11_ahead_0b.2.2.2.2.2.1) rfl).to, ?_⟩
  refine List.forall_mem_cons.mpr ⟨(s_get (ci := 11) (k := 0) (am_dp pw_X11_ahead_0 dd_X11_ahead_0b.2.2.2.2.2.2.1) rfl (by decide) wd1333 inX11 rfl).to, ?_⟩
  refine List.forall_mem_cons.mpr ⟨(s_iloadn (am_dp pw_X11_ahead_0 dd_X11_ahead_0b.2.2.2.2.2.2.2) rfl).to, ?_⟩
  refine List.forall_mem_cons.mpr ⟨(s_iald (am_dp pw_X11_ahead_0 dd_X11_ahead_0c.1)).to, ?_⟩
  refine List.forall_mem_cons.mpr ⟨(s_bipush (am_dp pw_X11_ahead_0 dd_X11_ahead_0c.2) (by decide)).to, ?_⟩
  refine List.forall_mem_cons.mpr ⟨(s_icmp_ne (am_dp pw_X11_ahead_32 dd_X11_ahead_32a.1) (by decide)).to, ?_⟩
  refine List.forall_mem_cons.mpr ⟨(s_iinc (am_dp pw_X11_ahead_32 dd_X11_ahead_32a.2.1) (by decide) (by decide)).to, ?_⟩
  refine List.forall_mem_cons.mpr ⟨(s_goto (am_dp pw_X11_ahead_32 dd_X11_ahead_32a.2.2.1) (by decide)).to, ?_⟩
  refine List.forall_mem_cons.mpr ⟨(s_aloadn (am_dp pw_X11_ahead_32 dd_X11_ahead_32a.2.2.2.1) rfl).to, ?_⟩
  refine List.forall_mem_cons.mpr ⟨(s_iloadn (am_dp pw_X11_ahead_32 dd_X11_ahead_32a.2.2.2.2.1) rfl).to, ?_⟩
  refine List.forall_mem_cons.mpr ⟨(s_put (ci := 11) (k := 4) (am_dp pw_X11_ahead_32 dd_X11_ahead_32a.2.2.2.2.2.1) rfl (by decide) wd1337 inX11 tyX11_ok nmX11 rfl rfl).to, ?_⟩
  refine List.forall_mem_cons.mpr ⟨(s_aloadn (am_dp pw_X11_ahead_32 dd_X11_ahead_32a.2.2.2.2.2.2.1) rfl).to, ?_⟩
  refine List.forall_mem_cons.mpr ⟨(s_iloadn (am_dp pw_X11_ahead_32 dd_X11_ahead_32a.2.2.2.2.2.2.2) rfl).to, ?_⟩
  refine List.forall_mem_cons.mpr ⟨(s_put (ci := 11) (k := 5) (am_dp pw_X11_ahead_32 dd_X11_ahead_32b.1) rfl (by decide) wd1338 inX11 tyX11_ok nmX11 rfl rfl).to, ?_⟩
  refine List.forall_mem_cons.mpr ⟨(s_aloadn (am_dp pw_X11_ahead_32 dd_X11_ahead_32b.2.1) rfl).to, ?_⟩
  refine List.forall_mem_cons.mpr ⟨(s_iconst (am_dp pw_X11_ahead_32 dd_X11_ahead_32b.2.2.1) (by decide)).to, ?_⟩
  refine List.forall_mem_cons.mpr ⟨(s_put (ci := 11) (k := 3) (am_dp pw_X11_ahead_32 dd_X11_ahead_32b.2.2.2.1) rfl (by decide) wd1336 inX11 tyX11_ok nmX11 rfl rfl).to, ?_⟩
  refine List.forall_mem_cons.mpr ⟨(s_iloadn (am_dp pw_X11_ahead_32 dd_X11_ahead_32b.2.2.2.2.1) rfl).to, ?_⟩
  refine List.forall_mem_cons.mpr ⟨(s_aloadn (am_dp pw_X11_ahead_32 dd_X11_ahead_32b.2.2.2.2.2.1) rfl).to, ?_⟩
  refine List.forall_mem_cons.mpr ⟨(s_get (ci := 11) (k := 2) (am_dp pw_X11_ahead_32 dd_X11_ahead_32b.2.2.2.2.2.2.1) rfl (by decide) wd1335 inX11 rfl).to, ?_⟩
  refine List.forall_mem_cons.mpr ⟨(s_icmp_lt (am_dp pw_X11_ahead_32 dd_X11_ahead_32b.2.2.2.2.2.2.2) (by decide)).to, ?_⟩
  refine List.forall_mem_cons.mpr ⟨s_vret (am_dp pw_X11_ahead_64 dd_X11_ahead_64a.1) rfl, ?_⟩
  refine List.forall_mem_cons.mpr ⟨(s_aloadn (am_dp pw_X11_ahead_64 dd_X11_ahead_64a.2.1) rfl).to, ?_⟩
  refine List.forall_mem_cons.mpr ⟨(s_get (ci := 11) (k := 0) (am_dp pw_X11_ahead_64 dd_X11_ahead_64a.2.2.1) rfl (by decide) wd1333 inX11 rfl).to, ?_⟩
  refine List.forall_mem_cons.mpr ⟨(s_iloadn (am_dp pw_X11_ahead_64 dd_X11_ahead_64a.2.2.2.1) rfl).to, ?_⟩
  refine List.forall_mem_cons.mpr ⟨(s_iald (am_dp pw_X11_ahead_64 dd_X11_ahead_64a.2.2.2.2.1)).to, ?_⟩
  refine List.forall_mem_cons.mpr ⟨zw_cs172 (am_dp pw_X11_ahead_64 dd_X11_ahead_64a.2.2.2.2.2.1) wd1607, ?_⟩
  refine List.forall_mem_cons.mpr ⟨(s_istoren (am_dp pw_X11_ahead_64 dd_X11_ahead_64a.2.2.2.2.2.2.1) rfl (by decide)).to, ?_⟩
  refine List.forall_mem_cons.mpr ⟨(s_aloadn (am_dp pw_X11_ahead_64 dd_X11_ahead_64a.2.2.2.2.2.2.2) rfl).to, ?_⟩
  refine List.forall_mem_cons.mpr ⟨(s_get (ci := 11) (k := 0) (am_dp pw_X11_ahead_64 dd_X11_ahead_64b.1) rfl (by decide) wd1333 inX11 rfl).to, ?_⟩
  refine List.forall_mem_cons.mpr ⟨(s_iloadn (am_dp pw_X11_ahead_64 dd_X11_ahead_64b.2.1) rfl).to, ?_⟩
  refine List.forall_mem_cons.mpr ⟨(s_iald (am_dp pw_X11_ahead_64 dd_X11_ahead_64b.2.2.1)).to, ?_⟩
  refine List.forall_mem_cons.mpr ⟨zw_cs173 (am_dp pw_X11_ahead_64 dd_X11_ahead_64b.2.2.2.1) wd1610, ?_⟩
  refine List.forall_mem_cons.mpr ⟨(s_istoren (am_dp pw_X11_ahead_64 dd_X11_ahead_64b.2.2.2.2.1) rfl (by decide)).to, ?_⟩
  refine List.forall_mem_cons.mpr ⟨(s_iloadn (am_dp pw_X11_ahead_64 dd_X11_ahead_64b.2.2.2.2.2.1) rfl).to, ?_⟩
  refine List.forall_mem_cons.mpr ⟨(s_if_ne (am_dp pw_X11_ahead_64 dd_X11_ahead_64b.2.2.2.2.2.2.1) (by decide)).to, ?_⟩
  refine List.forall_mem_cons.mpr ⟨(s_iloadn (am_dp pw_X11_ahead_64 dd_X11_ahead_64b.2.2.2.2.2.2.2) rfl).to, ?_⟩
  refine List.forall_mem_cons.mpr ⟨(s_if_eq (am_dp pw_X11_ahead_64 dd_X11_ahead_64c.1) (by decide)).to, ?_⟩
  refine List.forall_mem_cons.mpr ⟨(s_iloadn (am_dp pw_X11_ahead_64 dd_X11_ahead_64c.2.1) rfl).to, ?_⟩
  refine List.forall_mem_cons.mpr ⟨(s_if_le (am_dp pw_X11_ahead_64 dd_X11_ahead_64c.2.2) (by decide)).to, ?_⟩
  refine List.forall_mem_cons.mpr ⟨(s_aloadn (am_dp pw_X11_ahead_96 dd_X11_ahead_96a.1) rfl).to, ?_⟩
  refine List.forall_mem_cons.mpr ⟨(s_get (ci := 11) (k := 0) (am_dp pw_X11_ahead_96 dd_X11_ahead_96a.2.1) rfl (by decide) wd1333 inX11 rfl).to, ?_⟩
  refine List.forall_mem_cons.mpr ⟨(s_iloadn (am_dp pw_X11_ahead_96 dd_X11_ahead_96a.2.2.1) rfl).to, ?_⟩
  refine List.forall_mem_cons.mpr ⟨(s_iconst (am_dp pw_X11_ahead_96 dd_X11_ahead_96a.2.2.2.1) (by decide)).to, ?_⟩
  refine List.forall_mem_cons.mpr ⟨(s_isub (am_dp pw_X11_ahead_96 dd_X11_ahead_96a.2.2.2.2.1)).to, ?_⟩
  refine List.forall_mem_cons.mpr ⟨(s_iald (am_dp pw_X11_ahead_96 dd_X11_ahead_96a.2.2.2.2.2.1)).to, ?_⟩
  refine List.forall_mem_cons.mpr ⟨zw_cs172 (am_dp pw_X11_ahead_96 dd_X11_ahead_96a.2.2.2.2.2.2.1) wd1607, ?_⟩
  exact fun _ h => absurd h List.not_mem_nil
theorem sn_tX11_ahead_1 : ∀ q ∈ tX11_ahead_1, am_Snd am_P0 RX11 cX11_ahead 6 (Option.none : Option FieldType) "ahead" q.1 q.2 := by
  unfold tX11_ahead_1
  refine List.forall_mem_cons.mpr ⟨(s_if_ne (am_dp pw_X11_ahead_96 dd_X11_ahead_96a.2.2.2.2.2.2.2) (by decide)).to, ?_⟩
  refine List.forall_mem_cons.mpr ⟨(s_aloadn (am_dp pw_X11_ahead_96 dd_X11_ahead_96b.1) rfl).to, ?_⟩
  refine List.forall_mem_cons.mpr ⟨(s_get (ci := 11) (k := 0) (am_dp pw_X11_ahead_96 dd_X11_ahead_96b.2.1) rfl (by decide) wd1333 inX11 rfl).to, ?_⟩
  refine List.forall_mem_cons.mpr ⟨(s_iloadn (am_dp pw_X11_ahead_96 dd_X11_ahead_96b.2.2.1) rfl).to, ?_⟩
  refine List.forall_mem_cons.mpr ⟨(s_iconst (am_dp pw_X11_ahead_96 dd_X11_ahead_96b.2.2.2.1) (by decide)).to, ?_⟩
  refine List.forall_mem_cons.mpr ⟨(s_isub (am_dp pw_X11_ahead_96 dd_X11_ahead_96b.2.2.2.2.1)).to, ?_⟩
  refine List.forall_mem_cons.mpr ⟨(s_iald (am_dp pw_X11_ahead_96 dd_X11_ahead_96b.2.2.2.2.2.1)).to, ?_⟩
  refine List.forall_mem_cons.mpr ⟨zw_cs173 (am_dp pw_X11_ahead_96 dd_X11_ahead_96b.2.2.2.2.2.2.1) wd1610, ?_⟩
  refine List.forall_mem_cons.mpr ⟨(s_if_eq (am_dp pw_X11_ahead_96 dd_X11_ahead_96b.2.2.2.2.2.2.2) (by decide)).to, ?_⟩
  refine List.forall_mem_cons.mpr ⟨(s_aloadn (am_dp pw_X11_ahead_96 dd_X11_ahead_96c.1) rfl).to, ?_⟩
  refine List.forall_mem_cons.mpr ⟨(s_iconst (am_dp pw_X11_ahead_96 dd_X11_ahead_96c.2.1) (by decide)).to, ?_⟩
  refine List.forall_mem_cons.mpr ⟨(s_iloadn (am_dp pw_X11_ahead_96 dd_X11_ahead_96c.2.2) rfl).to, ?_⟩
  refine List.forall_mem_cons.mpr ⟨zw_cv171 (am_dp pw_X11_ahead_128 dd_X11_ahead_128a.1) wd1613, ?_⟩
  refine List.forall_mem_cons.mpr ⟨(s_aloadn (am_dp pw_X11_ahead_128 dd_X11_ahead_128a.2.1) rfl).to, ?_⟩
  refine List.forall_mem_cons.mpr ⟨(s_iconst (am_dp pw_X11_ahead_128 dd_X11_ahead_128a.2.2.1) (by decide)).to, ?_⟩
  refine List.forall_mem_cons.mpr ⟨(s_put (ci := 11) (k := 6) (am_dp pw_X11_ahead_128 dd_X11_ahead_128a.2.2.2.1) rfl (by decide) wd1339 inX11 tyX11_ok nmX11 rfl rfl).to, ?_⟩
  refine List.forall_mem_cons.mpr ⟨(s_aloadn (am_dp pw_X11_ahead_128 dd_X11_ahead_128a.2.2.2.2.1) rfl).to, ?_⟩
  refine List.forall_mem_cons.mpr ⟨(s_lconst (am_dp pw_X11_ahead_128 dd_X11_ahead_128a.2.2.2.2.2.1) (by decide)).to, ?_⟩
  refine List.forall_mem_cons.mpr ⟨(s_put (ci := 11) (k := 7) (am_dp pw_X11_ahead_128 dd_X11_ahead_128a.2.2.2.2.2.2.1) rfl (by decide) wd1340 inX11 tyX11_ok nmX11 rfl rfl).to, ?_⟩
  refine List.forall_mem_cons.mpr ⟨(s_aloadn (am_dp pw_X11_ahead_128 dd_X11_ahead_128a.2.2.2.2.2.2.2) rfl).to, ?_⟩
  refine List.forall_mem_cons.mpr ⟨(s_iconst (am_dp pw_X11_ahead_128 dd_X11_ahead_128b.1) (by decide)).to, ?_⟩
  refine List.forall_mem_cons.mpr ⟨(s_put (ci := 11) (k := 3) (am_dp pw_X11_ahead_128 dd_X11_ahead_128b.2.1) rfl (by decide) wd1336 inX11 tyX11_ok nmX11 rfl rfl).to, ?_⟩
  refine List.forall_mem_cons.mpr ⟨(s_aloadn (am_dp pw_X11_ahead_128 dd_X11_ahead_128b.2.2.1) rfl).to, ?_⟩
  refine List.forall_mem_cons.mpr ⟨(s_iloadn (am_dp pw_X11_ahead_128 dd_X11_ahead_128b.2.2.2.1) rfl).to, ?_⟩
  refine List.forall_mem_cons.mpr ⟨(s_iconst (am_dp pw_X11_ahead_128 dd_X11_ahead_128b.2.2.2.2.1) (by decide)).to, ?_⟩
  refine List.forall_mem_cons.mpr ⟨(s_iadd (am_dp pw_X11_ahead_128 dd_X11_ahead_128b.2.2.2.2.2.1)).to, ?_⟩
  refine List.forall_mem_cons.mpr ⟨(s_put (ci := 11) (k := 5) (am_dp pw_X11_ahead_128 dd_X11_ahead_128b.2.2.2.2.2.2.1) rfl (by decide) wd1338 inX11 tyX11_ok nmX11 rfl rfl).to, ?_⟩
  refine List.forall_mem_cons.mpr ⟨(s_iloadn (am_dp pw_X11_ahead_128 dd_X11_ahead_128b.2.2.2.2.2.2.2) rfl).to, ?_⟩
  refine List.forall_mem_cons.mpr ⟨(s_if_ne (am_dp pw_X11_ahead_128 dd_X11_ahead_128c.1) (by decide)).to, ?_⟩
  refine List.forall_mem_cons.mpr ⟨(s_iloadn (am_dp pw_X11_ahead_128 dd_X11_ahead_128c.2.1) rfl).to, ?_⟩
  refine List.forall_mem_cons.mpr ⟨(s_if_ne (am_dp pw_X11_ahead_128 dd_X11_ahead_128c.2.2) (by decide)).to, ?_⟩
  refine List.forall_mem_cons.mpr ⟨(s_aloadn (am_dp pw_X11_ahead_160 dd_X11_ahead_160a.1) rfl).to, ?_⟩
  refine List.forall_mem_cons.mpr ⟨(s_aloadn (am_dp pw_X11_ahead_160 dd_X11_ahead_160a.2.1) rfl).to, ?_⟩
  refine List.forall_mem_cons.mpr ⟨(s_get (ci := 11) (k := 0) (am_dp pw_X11_ahead_160 dd_X11_ahead_160a.2.2.1) rfl (by decide) wd1333 inX11 rfl).to, ?_⟩
  refine List.forall_mem_cons.mpr ⟨(s_iloadn (am_dp pw_X11_ahead_160 dd_X11_ahead_160a.2.2.2.1) rfl).to, ?_⟩
  refine List.forall_mem_cons.mpr ⟨(s_iald (am_dp pw_X11_ahead_160 dd_X11_ahead_160a.2.2.2.2.1)).to, ?_⟩
  refine List.forall_mem_cons.mpr ⟨(s_put (ci := 11) (k := 6) (am_dp pw_X11_ahead_160 dd_X11_ahead_160a.2.2.2.2.2.1) rfl (by decide) wd1339 inX11 tyX11_ok nmX11 rfl rfl).to, ?_⟩
  refine List.forall_mem_cons.mpr ⟨s_vret (am_dp pw_X11_ahead_160 dd_X11_ahead_160a.2.2.2.2.2.2.1) rfl, ?_⟩
  refine List.forall_mem_cons.mpr ⟨(s_aloadn (am_dp pw_X11_ahead_160 dd_X11_ahead_160a.2.2.2.2.2.2.2) rfl).to, ?_⟩
  refine List.forall_mem_cons.mpr ⟨(s_iloadn (am_dp pw_X11_ahead_160 dd_X11_ahead_160b.1) rfl).to, ?_⟩
  refine List.forall_mem_cons.mpr ⟨(s_if_eq (am_dp pw_X11_ahead_160 dd_X11_ahead_160b.2.1) (by decide)).to, ?_⟩
  refine List.forall_mem_cons.mpr ⟨(s_iconst (am_dp pw_X11_ahead_160 dd_X11_ahead_160b.2.2.1) (by decide)).to, ?_⟩
  refine List.forall_mem_cons.mpr ⟨(s_goto (am_dp pw_X11_ahead_160 dd_X11_ahead_160b.2.2.2.1) (by decide)).to, ?_⟩
  refine List.forall_mem_cons.mpr ⟨(s_iconst (am_dp pw_X11_ahead_160 dd_X11_ahead_160b.2.2.2.2.1) (by decide)).to, ?_⟩
  refine List.forall_mem_cons.mpr ⟨(s_put (ci := 11) (k := 3) (am_dp pw_X11_ahead_160 dd_X11_ahead_160b.2.2.2.2.2.1) rfl (by decide) wd1336 inX11 tyX11_ok nmX11 rfl rfl).to, ?_⟩
  refine List.forall_mem_cons.mpr ⟨(s_iloadn (am_dp pw_X11_ahead_160 dd_X11_ahead_160b.2.2.2.2.2.2.1) rfl).to, ?_⟩
  refine List.forall_mem_cons.mpr ⟨(s_if_eq (am_dp pw_X11_ahead_160 dd_X11_ahead_160b.2.2.2.2.2.2.2) (by decide)).to, ?_⟩
  refine List.forall_mem_cons.mpr ⟨(s_bipush (am_dp pw_X11_ahead_160 dd_X11_ahead_160c.1) (by decide)).to, ?_⟩
  refine List.forall_mem_cons.mpr ⟨(s_goto (am_dp pw_X11_ahead_160 dd_X11_ahead_160c.2) (by decide)).to, ?_⟩
  refine List.forall_mem_cons.mpr ⟨(s_iconst (am_dp pw_X11_ahead_192 dd_X11_ahead_192a.1) (by decide)).to, ?_⟩
  refine List.forall_mem_cons.mpr ⟨(s_istore (am_dp pw_X11_ahead_192 dd_X11_ahead_192a.2.1) (by decide)).to, ?_⟩
  refine List.forall_mem_cons.mpr ⟨(s_iconst (am_dp pw_X11_ahead_192 dd_X11_ahead_192a.2.2.1) (by decide)).to, ?_⟩
  refine List.forall_mem_cons.mpr ⟨(s_istore (am_dp pw_X11_ahead_192 dd_X11_ahead_192a.2.2.2.1) (by decide)).to, ?_⟩
  refine List.forall_mem_cons.mpr ⟨(s_iloadn (am_dp pw_X11_ahead_192 dd_X11_ahead_192a.2.2.2.2.1) rfl).to, ?_⟩
  refine List.forall_mem_cons.mpr ⟨(s_aloadn (am_dp pw_X11_ahead_192 dd_X11_ahead_192a.2.2.2.2.2.1) rfl).to, ?_⟩
  refine List.forall_mem_cons.mpr ⟨(s_get (ci := 11) (k := 2) (am_dp pw_X11_ahead_192 dd_X11_ahead_192a.2.2.2.2.2.2.1) rfl (by decide) wd1335 inX11 rfl).to, ?_⟩
  refine List.forall_mem_cons.mpr ⟨(s_icmp_ge (am_dp pw_X11_ahead_192 dd_X11_ahead_192a.2.2.2.2.2.2.2) (by decide)).to, ?_⟩
  refine List.forall_mem_cons.mpr ⟨(s_iloadn (am_dp pw_X11_ahead_192 dd_X11_ahead_192b.1) rfl).to, ?_⟩
  refine List.forall_mem_cons.mpr ⟨(s_if_eq (am_dp pw_X11_ahead_192 dd_X11_ahead_192b.2.1) (by decide)).to, ?_⟩
  refine List.forall_mem_cons.mpr ⟨(s_aloadn (am_dp pw_X11_ahead_192 dd_X11_ahead_192b.2.2.1) rfl).to, ?_⟩
  exact fun _ h => absurd h List.not_mem_nil
theorem sn_tX11_ahead_2 : ∀ q ∈ tX11_ahead_2, am_Snd am_P0 RX11 cX11_ahead 6 (Option.none : Option FieldType) "ahead" q.1 q.2 := by
  unfold tX11_ahead_2
  refine List.forall_mem_cons.mpr ⟨(s_get (ci := 11) (k := 0) (am_dp pw_X11_ahead_192 dd_X11_ahead_192b.2.2.2.1) rfl (by decide) wd1333 inX11 rfl).to, ?_⟩
  refine List.forall_mem_cons.mpr ⟨(s_iloadn (am_dp pw_X11_ahead_192 dd_X11_ahead_192b.2.2.2.2.1) rfl).to, ?_⟩
  refine List.forall_mem_cons.mpr ⟨(s_iald (am_dp pw_X11_ahead_192 dd_X11_ahead_192b.2.2.2.2.2.1)).to, ?_⟩
  refine List.forall_mem_cons.mpr ⟨zw_cs172 (am_dp pw_X11_ahead_192 dd_X11_ahead_192b.2.2.2.2.2.2.1) wd1607, ?_⟩
  refine List.forall_mem_cons.mpr ⟨(s_if_eq (am_dp pw_X11_ahead_192 dd_X11_ahead_192b.2.2.2.2.2.2.2) (by decide)).to, ?_⟩
  refine List.forall_mem_cons.mpr ⟨(s_goto (am_dp pw_X11_ahead_224 dd_X11_ahead_224a.1) (by decide)).to, ?_⟩
  refine List.forall_mem_cons.mpr ⟨(s_aloadn (am_dp pw_X11_ahead_224 dd_X11_ahead_224a.2.1) rfl).to, ?_⟩
  refine List.forall_mem_cons.mpr ⟨(s_get (ci := 11) (k := 0) (am_dp pw_X11_ahead_224 dd_X11_ahead_224a.2.2.1) rfl (by decide) wd1333 inX11 rfl).to, ?_⟩
  refine List.forall_mem_cons.mpr ⟨(s_iloadn (am_dp pw_X11_ahead_224 dd_X11_ahead_224a.2.2.2.1) rfl).to, ?_⟩
  refine List.forall_mem_cons.mpr ⟨(s_iald (am_dp pw_X11_ahead_224 dd_X11_ahead_224a.2.2.2.2.1)).to, ?_⟩
  refine List.forall_mem_cons.mpr ⟨zw_cs173 (am_dp pw_X11_ahead_224 dd_X11_ahead_224a.2.2.2.2.2.1) wd1610, ?_⟩
  refine List.forall_mem_cons.mpr ⟨(s_if_eq (am_dp pw_X11_ahead_224 dd_X11_ahead_224a.2.2.2.2.2.2.1) (by decide)).to, ?_⟩
  refine List.forall_mem_cons.mpr ⟨(s_iload (am_dp pw_X11_ahead_224 dd_X11_ahead_224a.2.2.2.2.2.2.2)).to, ?_⟩
  refine List.forall_mem_cons.mpr ⟨(s_iload (am_dp pw_X11_ahead_224 dd_X11_ahead_224b.1)).to, ?_⟩
  refine List.forall_mem_cons.mpr ⟨(s_icmp_ne (am_dp pw_X11_ahead_224 dd_X11_ahead_224b.2.1) (by decide)).to, ?_⟩
  refine List.forall_mem_cons.mpr ⟨(s_aloadn (am_dp pw_X11_ahead_224 dd_X11_ahead_224b.2.2.1) rfl).to, ?_⟩
  refine List.forall_mem_cons.mpr ⟨(s_iconst (am_dp pw_X11_ahead_224 dd_X11_ahead_224b.2.2.2.1) (by decide)).to, ?_⟩
  refine List.forall_mem_cons.mpr ⟨(s_iloadn (am_dp pw_X11_ahead_224 dd_X11_ahead_224b.2.2.2.2.1) rfl).to, ?_⟩
  refine List.forall_mem_cons.mpr ⟨zw_cv171 (am_dp pw_X11_ahead_224 dd_X11_ahead_224b.2.2.2.2.2.1) wd1613, ?_⟩
  refine List.forall_mem_cons.mpr ⟨(s_iload (am_dp pw_X11_ahead_224 dd_X11_ahead_224b.2.2.2.2.2.2.1)).to, ?_⟩
  refine List.forall_mem_cons.mpr ⟨(s_iload (am_dp pw_X11_ahead_224 dd_X11_ahead_224b.2.2.2.2.2.2.2)).to, ?_⟩
  refine List.forall_mem_cons.mpr ⟨(s_icmp_ge (am_dp pw_X11_ahead_256 dd_X11_ahead_256a.1) (by decide)).to, ?_⟩
  refine List.forall_mem_cons.mpr ⟨(s_iloadn (am_dp pw_X11_ahead_256 dd_X11_ahead_256a.2.1) rfl).to, ?_⟩
  refine List.forall_mem_cons.mpr ⟨(s_if_eq (am_dp pw_X11_ahead_256 dd_X11_ahead_256a.2.2.1) (by decide)).to, ?_⟩
  refine List.forall_mem_cons.mpr ⟨(s_aloadn (am_dp pw_X11_ahead_256 dd_X11_ahead_256a.2.2.2.1) rfl).to, ?_⟩
  refine List.forall_mem_cons.mpr ⟨(s_aloadn (am_dp pw_X11_ahead_256 dd_X11_ahead_256a.2.2.2.2.1) rfl).to, ?_⟩
  refine List.forall_mem_cons.mpr ⟨(s_get (ci := 11) (k := 7) (am_dp pw_X11_ahead_256 dd_X11_ahead_256a.2.2.2.2.2.1) rfl (by decide) wd1340 inX11 rfl).to, ?_⟩
  refine List.forall_mem_cons.mpr ⟨(s_bipush (am_dp pw_X11_ahead_256 dd_X11_ahead_256a.2.2.2.2.2.2.1) (by decide)).to, ?_⟩
  refine List.forall_mem_cons.mpr ⟨(s_lshl (am_dp pw_X11_ahead_256 dd_X11_ahead_256a.2.2.2.2.2.2.2)).to, ?_⟩
  refine List.forall_mem_cons.mpr ⟨(s_aloadn (am_dp pw_X11_ahead_256 dd_X11_ahead_256b.1) rfl).to, ?_⟩
  refine List.forall_mem_cons.mpr ⟨(s_get (ci := 11) (k := 0) (am_dp pw_X11_ahead_256 dd_X11_ahead_256b.2.1) rfl (by decide) wd1333 inX11 rfl).to, ?_⟩
  refine List.forall_mem_cons.mpr ⟨(s_iloadn (am_dp pw_X11_ahead_256 dd_X11_ahead_256b.2.2.1) rfl).to, ?_⟩
  refine List.forall_mem_cons.mpr ⟨(s_iald (am_dp pw_X11_ahead_256 dd_X11_ahead_256b.2.2.2.1)).to, ?_⟩
  refine List.forall_mem_cons.mpr ⟨(s_i2l (am_dp pw_X11_ahead_256 dd_X11_ahead_256b.2.2.2.2.1)).to, ?_⟩
  refine List.forall_mem_cons.mpr ⟨(s_lor (am_dp pw_X11_ahead_256 dd_X11_ahead_256b.2.2.2.2.2.1)).to, ?_⟩
  refine List.forall_mem_cons.mpr ⟨(s_put (ci := 11) (k := 7) (am_dp pw_X11_ahead_256 dd_X11_ahead_256b.2.2.2.2.2.2.1) rfl (by decide) wd1340 inX11 tyX11_ok nmX11 rfl rfl).to, ?_⟩
  refine List.forall_mem_cons.mpr ⟨(s_iload (am_dp pw_X11_ahead_256 dd_X11_ahead_256b.2.2.2.2.2.2.2)).to, ?_⟩
  refine List.forall_mem_cons.mpr ⟨(s_iload (am_dp pw_X11_ahead_256 dd_X11_ahead_256c.1)).to, ?_⟩
  refine List.forall_mem_cons.mpr ⟨(s_icmp_ge (am_dp pw_X11_ahead_256 dd_X11_ahead_256c.2) (by decide)).to, ?_⟩
  refine List.forall_mem_cons.mpr ⟨(s_iloadn (am_dp pw_X11_ahead_288 dd_X11_ahead_288a.1) rfl).to, ?_⟩
  refine List.forall_mem_cons.mpr ⟨(s_if_eq (am_dp pw_X11_ahead_288 dd_X11_ahead_288a.2.1) (by decide)).to, ?_⟩
  refine List.forall_mem_cons.mpr ⟨(s_aloadn (am_dp pw_X11_ahead_288 dd_X11_ahead_288a.2.2.1) rfl).to, ?_⟩
  refine List.forall_mem_cons.mpr ⟨(s_bipush (am_dp pw_X11_ahead_288 dd_X11_ahead_288a.2.2.2.1) (by decide)).to, ?_⟩
  refine List.forall_mem_cons.mpr ⟨(s_aloadn (am_dp pw_X11_ahead_288 dd_X11_ahead_288a.2.2.2.2.1) rfl).to, ?_⟩
  refine List.forall_mem_cons.mpr ⟨(s_get (ci := 11) (k := 6) (am_dp pw_X11_ahead_288 dd_X11_ahead_288a.2.2.2.2.2.1) rfl (by decide) wd1339 inX11 rfl).to, ?_⟩
  refine List.forall_mem_cons.mpr ⟨(s_imul (am_dp pw_X11_ahead_288 dd_X11_ahead_288a.2.2.2.2.2.2.1)).to, ?_⟩
  refine List.forall_mem_cons.mpr ⟨(s_aloadn (am_dp pw_X11_ahead_288 dd_X11_ahead_288a.2.2.2.2.2.2.2) rfl).to, ?_⟩
  refine List.forall_mem_cons.mpr ⟨(s_get (ci := 11) (k := 0) (am_dp pw_X11_ahead_288 dd_X11_ahead_288b.1) rfl (by decide) wd1333 inX11 rfl).to, ?_⟩
  refine List.forall_mem_cons.mpr ⟨(s_iloadn (am_dp pw_X11_ahead_288 dd_X11_ahead_288b.2.1) rfl).to, ?_⟩
  refine List.forall_mem_cons.mpr ⟨(s_iald (am_dp pw_X11_ahead_288 dd_X11_ahead_288b.2.2.1)).to, ?_⟩
  refine List.forall_mem_cons.mpr ⟨(s_iadd (am_dp pw_X11_ahead_288 dd_X11_ahead_288b.2.2.2.1)).to, ?_⟩
  refine List.forall_mem_cons.mpr ⟨(s_bipush (am_dp pw_X11_ahead_288 dd_X11_ahead_288b.2.2.2.2.1) (by decide)).to, ?_⟩
  refine List.forall_mem_cons.mpr ⟨(s_isub (am_dp pw_X11_ahead_288 dd_X11_ahead_288b.2.2.2.2.2.1)).to, ?_⟩
  refine List.forall_mem_cons.mpr ⟨(s_put (ci := 11) (k := 6) (am_dp pw_X11_ahead_288 dd_X11_ahead_288b.2.2.2.2.2.2.1) rfl (by decide) wd1339 inX11 tyX11_ok nmX11 rfl rfl).to, ?_⟩
  refine List.forall_mem_cons.mpr ⟨(s_iinc (am_dp pw_X11_ahead_288 dd_X11_ahead_288b.2.2.2.2.2.2.2) (by decide) (by decide)).to, ?_⟩
  refine List.forall_mem_cons.mpr ⟨(s_iinc (am_dp pw_X11_ahead_288 dd_X11_ahead_288c) (by decide) (by decide)).to, ?_⟩
  refine List.forall_mem_cons.mpr ⟨(s_goto (am_dp pw_X11_ahead_320 dd_X11_ahead_320a.1) (by decide)).to, ?_⟩
  refine List.forall_mem_cons.mpr ⟨(s_aloadn (am_dp pw_X11_ahead_320 dd_X11_ahead_320a.2.1) rfl).to, ?_⟩
  refine List.forall_mem_cons.mpr ⟨(s_iloadn (am_dp pw_X11_ahead_320 dd_X11_ahead_320a.2.2.1) rfl).to, ?_⟩
  refine List.forall_mem_cons.mpr ⟨(s_put (ci := 11) (k := 5) (am_dp pw_X11_ahead_320 dd_X11_ahead_320a.2.2.2.1) rfl (by decide) wd1338 inX11 tyX11_ok nmX11 rfl rfl).to, ?_⟩
  exact fun _ h => absurd h List.not_mem_nil
theorem sn_tX11_ahead_3 : ∀ q ∈ tX11_ahead_3, am_Snd am_P0 RX11 cX11_ahead 6 (Option.none : Option FieldType) "ahead" q.1 q.2 := by
  unfold tX11_ahead_3
  refine List.forall_mem_cons.mpr ⟨s_vret (am_dp pw_X11_ahead_320 dd_X11_ahead_320a.2.2.2.2) rfl, ?_⟩
  exact fun _ h => absurd h List.not_mem_nil
theorem sn_tX11_ahead : ∀ q ∈ tX11_ahead, am_Snd am_P0 RX11 cX11_ahead 6 (Option.none : Option FieldType) "ahead" q.1 q.2 := by
  unfold tX11_ahead
  exact List.forall_mem_append.mpr ⟨List.forall_mem_append.mpr ⟨List.forall_mem_append.mpr ⟨sn_tX11_ahead_0, sn_tX11_ahead_1⟩, sn_tX11_ahead_2⟩, sn_tX11_ahead_3⟩
end
