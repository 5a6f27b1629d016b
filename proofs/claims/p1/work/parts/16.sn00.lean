/-! the machine follows each instruction (by program: gen_prog.py) -/
theorem sn_tJ13_bitCount_95d88 : ∀ q ∈ tJ13_bitCount_95d88, am_Snd am_P0 RJ13 cJ13_bitCount_95d88 2 (Option.some FieldType.int) "bitCount" q.1 q.2 := by
  unfold tJ13_bitCount_95d88
  refine List.forall_mem_cons.mpr ⟨(s_lloadn (by decide +kernel : decode cJ13_bitCount_95d88 0 = .ok (.lload_n 0, 1)) rfl).to, ?_⟩
  refine List.forall_mem_cons.mpr ⟨(s_lloadn (by decide +kernel : decode cJ13_bitCount_95d88 1 = .ok (.lload_n 0, 1)) rfl).to, ?_⟩
  refine List.forall_mem_cons.mpr ⟨(s_iconst (by decide +kernel : decode cJ13_bitCount_95d88 2 = .ok (.iconst 1, 1)) (by decide)).to, ?_⟩
  refine List.forall_mem_cons.mpr ⟨(s_lushr (by decide +kernel : decode cJ13_bitCount_95d88 3 = .ok (.lushr, 1))).to, ?_⟩
  refine List.forall_mem_cons.mpr ⟨(s_ldc2 (by decide +kernel : decode cJ13_bitCount_95d88 4 = .ok (.ldc2_w 314, 3)) wd1075).to, ?_⟩
  refine List.forall_mem_cons.mpr ⟨(s_land (by decide +kernel : decode cJ13_bitCount_95d88 7 = .ok (.land, 1))).to, ?_⟩
  refine List.forall_mem_cons.mpr ⟨(s_lsub (by decide +kernel : decode cJ13_bitCount_95d88 8 = .ok (.lsub, 1))).to, ?_⟩
  refine List.forall_mem_cons.mpr ⟨(s_lstoren (by decide +kernel : decode cJ13_bitCount_95d88 9 = .ok (.lstore_n 0, 1)) rfl (by decide)).to, ?_⟩
  refine List.forall_mem_cons.mpr ⟨(s_lloadn (by decide +kernel : decode cJ13_bitCount_95d88 10 = .ok (.lload_n 0, 1)) rfl).to, ?_⟩
  refine List.forall_mem_cons.mpr ⟨(s_ldc2 (by decide +kernel : decode cJ13_bitCount_95d88 11 = .ok (.ldc2_w 316, 3)) wd1076).to, ?_⟩
  refine List.forall_mem_cons.mpr ⟨(s_land (by decide +kernel : decode cJ13_bitCount_95d88 14 = .ok (.land, 1))).to, ?_⟩
  refine List.forall_mem_cons.mpr ⟨(s_lloadn (by decide +kernel : decode cJ13_bitCount_95d88 15 = .ok (.lload_n 0, 1)) rfl).to, ?_⟩
  refine List.forall_mem_cons.mpr ⟨(s_iconst (by decide +kernel : decode cJ13_bitCount_95d88 16 = .ok (.iconst 2, 1)) (by decide)).to, ?_⟩
  refine List.forall_mem_cons.mpr ⟨(s_lushr (by decide +kernel : decode cJ13_bitCount_95d88 17 = .ok (.lushr, 1))).to, ?_⟩
  refine List.forall_mem_cons.mpr ⟨(s_ldc2 (by decide +kernel : decode cJ13_bitCount_95d88 18 = .ok (.ldc2_w 316, 3)) wd1076).to, ?_⟩
  refine List.forall_mem_cons.mpr ⟨(s_land (by decide +kernel : decode cJ13_bitCount_95d88 21 = .ok (.land, 1))).to, ?_⟩
  refine List.forall_mem_cons.mpr ⟨(s_ladd (by decide +kernel : decode cJ13_bitCount_95d88 22 = .ok (.ladd, 1))).to, ?_⟩
  refine List.forall_mem_cons.mpr ⟨(s_lstoren (by decide +kernel : decode cJ13_bitCount_95d88 23 = .ok (.lstore_n 0, 1)) rfl (by decide)).to, ?_⟩
  refine List.forall_mem_cons.mpr ⟨(s_lloadn (by decide +kernel : decode cJ13_bitCount_95d88 24 = .ok (.lload_n 0, 1)) rfl).to, ?_⟩
  refine List.forall_mem_cons.mpr ⟨(s_lloadn (by decide +kernel : decode cJ13_bitCount_95d88 25 = .ok (.lload_n 0, 1)) rfl).to, ?_⟩
  refine List.forall_mem_cons.mpr ⟨(s_iconst (by decide +kernel : decode cJ13_bitCount_95d88 26 = .ok (.iconst 4, 1)) (by decide)).to, ?_⟩
  refine List.forall_mem_cons.mpr ⟨(s_lushr (by decide +kernel : decode cJ13_bitCount_95d88 27 = .ok (.lushr, 1))).to, ?_⟩
  refine List.forall_mem_cons.mpr ⟨(s_ladd (by decide +kernel : decode cJ13_bitCount_95d88 28 = .ok (.ladd, 1))).to, ?_⟩
  refine List.forall_mem_cons.mpr ⟨(s_ldc2 (by decide +kernel : decode cJ13_bitCount_95d88 29 = .ok (.ldc2_w 318, 3)) wd1077).to, ?_⟩
  refine List.forall_mem_cons.mpr ⟨(s_land (by decide +kernel : decode cJ13_bitCount_95d88 32 = .ok (.land, 1))).to, ?_⟩
  refine List.forall_mem_cons.mpr ⟨(s_lstoren (by decide +kernel : decode cJ13_bitCount_95d88 33 = .ok (.lstore_n 0, 1)) rfl (by decide)).to, ?_⟩
  refine List.forall_mem_cons.mpr ⟨(s_lloadn (by decide +kernel : decode cJ13_bitCount_95d88 34 = .ok (.lload_n 0, 1)) rfl).to, ?_⟩
  refine List.forall_mem_cons.mpr ⟨(s_lloadn (by decide +kernel : decode cJ13_bitCount_95d88 35 = .ok (.lload_n 0, 1)) rfl).to, ?_⟩
  refine List.forall_mem_cons.mpr ⟨(s_bipush (by decide +kernel : decode cJ13_bitCount_95d88 36 = .ok (.bipush 8, 2)) (by decide)).to, ?_⟩
  refine List.forall_mem_cons.mpr ⟨(s_lushr (by decide +kernel : decode cJ13_bitCount_95d88 38 = .ok (.lushr, 1))).to, ?_⟩
  refine List.forall_mem_cons.mpr ⟨(s_ladd (by decide +kernel : decode cJ13_bitCount_95d88 39 = .ok (.ladd, 1))).to, ?_⟩
  refine List.forall_mem_cons.mpr ⟨(s_lstoren (by decide +kernel : decode cJ13_bitCount_95d88 40 = .ok (.lstore_n 0, 1)) rfl (by decide)).to, ?_⟩
  refine List.forall_mem_cons.mpr ⟨(s_lloadn (by decide +kernel : decode cJ13_bitCount_95d88 41 = .ok (.lload_n 0, 1)) rfl).to, ?_⟩
  refine List.forall_mem_cons.mpr ⟨(s_lloadn (by decide +kernel : decode cJ13_bitCount_95d88 42 = .ok (.lload_n 0, 1)) rfl).to, ?_⟩
  refine List.forall_mem_cons.mpr ⟨(s_bipush (by decide +kernel : decode cJ13_bitCount_95d88 43 = .ok (.bipush 16, 2)) (by decide)).to, ?_⟩
  refine List.forall_mem_cons.mpr ⟨(s_lushr (by decide +kernel : decode cJ13_bitCount_95d88 45 = .ok (.lushr, 1))).to, ?_⟩
  refine List.forall_mem_cons.mpr ⟨(s_ladd (by decide +kernel : decode cJ13_bitCount_95d88 46 = .ok (.ladd, 1))).to, ?_⟩
  refine List.forall_mem_cons.mpr ⟨(s_lstoren (by decide +kernel : decode cJ13_bitCount_95d88 47 = .ok (.lstore_n 0, 1)) rfl (by decide)).to, ?_⟩
  refine List.forall_mem_cons.mpr ⟨(s_lloadn (by decide +kernel : decode cJ13_bitCount_95d88 48 = .ok (.lload_n 0, 1)) rfl).to, ?_⟩
  refine List.forall_mem_cons.mpr ⟨(s_lloadn (by decide +kernel : decode cJ13_bitCount_95d88 49 = .ok (.lload_n 0, 1)) rfl).to, ?_⟩
  refine List.forall_mem_cons.mpr ⟨(s_bipush (by decide +kernel : decode cJ13_bitCount_95d88 50 = .ok (.bipush 32, 2)) (by decide)).to, ?_⟩
  refine List.forall_mem_cons.mpr ⟨(s_lushr (by decide +kernel : decode cJ13_bitCount_95d88 52 = .ok (.lushr, 1))).to, ?_⟩
  refine List.forall_mem_cons.mpr ⟨(s_ladd (by decide +kernel : decode cJ13_bitCount_95d88 53 = .ok (.ladd, 1))).to, ?_⟩
  refine List.forall_mem_cons.mpr ⟨(s_lstoren (by decide +kernel : decode cJ13_bitCount_95d88 54 = .ok (.lstore_n 0, 1)) rfl (by decide)).to, ?_⟩
  refine List.forall_mem_cons.mpr ⟨(s_lloadn (by decide +kernel : decode cJ13_bitCount_95d88 55 = .ok (.lload_n 0, 1)) rfl).to, ?_⟩
  refine List.forall_mem_cons.mpr ⟨(s_l2i (by decide +kernel : decode cJ13_bitCount_95d88 56 = .ok (.l2i, 1))).to, ?_⟩
  refine List.forall_mem_cons.mpr ⟨(s_bipush (by decide +kernel : decode cJ13_bitCount_95d88 57 = .ok (.bipush 127, 2)) (by decide)).to, ?_⟩
  refine List.forall_mem_cons.mpr ⟨(s_iand (by decide +kernel : decode cJ13_bitCount_95d88 59 = .ok (.iand, 1))).to, ?_⟩
  refine List.forall_mem_cons.mpr ⟨s_iret (by decide +kernel : decode cJ13_bitCount_95d88 60 = .ok (.ireturn, 1)) rfl, ?_⟩
  exact fun _ h => absurd h List.not_mem_nil
theorem sn_tJ9_floorDiv_f86c9 : ∀ q ∈ tJ9_floorDiv_f86c9, am_Snd am_P0 RJ9 cJ9_floorDiv_f86c9 6 (Option.some FieldType.long) "floorDiv" q.1 q.2 := by
  unfold tJ9_floorDiv_f86c9
  refine List.forall_mem_cons.mpr ⟨(s_lloadn (by decide +kernel : decode cJ9_floorDiv_f86c9 0 = .ok (.lload_n 0, 1)) rfl).to, ?_⟩
  refine List.forall_mem_cons.mpr ⟨(s_lloadn (by decide +kernel : decode cJ9_floorDiv_f86c9 1 = .ok (.lload_n 2, 1)) rfl).to, ?_⟩
  refine List.forall_mem_cons.mpr ⟨(s_ldiv (by decide +kernel : decode cJ9_floorDiv_f86c9 2 = .ok (.ldiv, 1))).to, ?_⟩
  refine List.forall_mem_cons.mpr ⟨(s_lstore (by decide +kernel : decode cJ9_floorDiv_f86c9 3 = .ok (.lstore 4, 2)) (by decide)).to, ?_⟩
  refine List.forall_mem_cons.mpr ⟨(s_lloadn (by decide +kernel : decode cJ9_floorDiv_f86c9 5 = .ok (.lload_n 0, 1)) rfl).to, ?_⟩
  refine List.forall_mem_cons.mpr ⟨(s_lloadn (by decide +kernel : decode cJ9_floorDiv_f86c9 6 = .ok (.lload_n 2, 1)) rfl).to, ?_⟩
  refine List.forall_mem_cons.mpr ⟨(s_lxor (by decide +kernel : decode cJ9_floorDiv_f86c9 7 = .ok (.lxor, 1))).to, ?_⟩
  refine List.forall_mem_cons.mpr ⟨(s_lconst (by decide +kernel : decode cJ9_floorDiv_f86c9 8 = .ok (.lconst 0, 1)) (by decide)).to, ?_⟩
  refine List.forall_mem_cons.mpr ⟨(s_lcmp (by decide +kernel : decode cJ9_floorDiv_f86c9 9 = .ok (.lcmp, 1))).to, ?_⟩
  refine List.forall_mem_cons.mpr ⟨(s_if_ge (by decide +kernel : decode cJ9_floorDiv_f86c9 10 = .ok (.ifCond .ge 17, 3)) (by decide)).to, ?_⟩
  refine List.forall_mem_cons.mpr ⟨(s_lload (by decide +kernel : decode cJ9_floorDiv_f86c9 13 = .ok (.lload 4, 2))).to, ?_⟩
  refine List.forall_mem_cons.mpr ⟨(s_lloadn (by decide +kernel : decode cJ9_floorDiv_f86c9 15 = .ok (.lload_n 2, 1)) rfl).to, ?_⟩
  refine List.forall_mem_cons.mpr ⟨(s_lmul (by decide +kernel : decode cJ9_floorDiv_f86c9 16 = .ok (.lmul, 1))).to, ?_⟩
  refine List.forall_mem_cons.mpr ⟨(s_lloadn (by decide +kernel : decode cJ9_floorDiv_f86c9 17 = .ok (.lload_n 0, 1)) rfl).to, ?_⟩
  refine List.forall_mem_cons.mpr ⟨(s_lcmp (by decide +kernel : decode cJ9_floorDiv_f86c9 18 = .ok (.lcmp, 1))).to, ?_⟩
  refine List.forall_mem_cons.mpr ⟨(s_if_eq (by decide +kernel : decode cJ9_floorDiv_f86c9 19 = .ok (.ifCond .eq 8, 3)) (by decide)).to, ?_⟩
  refine List.forall_mem_cons.mpr ⟨(s_lload (by decide +kernel : decode cJ9_floorDiv_f86c9 22 = .ok (.lload 4, 2))).to, ?_⟩
  refine List.forall_mem_cons.mpr ⟨(s_lconst (by decide +kernel : decode cJ9_floorDiv_f86c9 24 = .ok (.lconst 1, 1)) (by decide)).to, ?_⟩
  refine List.forall_mem_cons.mpr ⟨(s_lsub (by decide +kernel : decode cJ9_floorDiv_f86c9 25 = .ok (.lsub, 1))).to, ?_⟩
  refine List.forall_mem_cons.mpr ⟨s_lret (by decide +kernel : decode cJ9_floorDiv_f86c9 26 = .ok (.lreturn, 1)) rfl, ?_⟩
  refine List.forall_mem_cons.mpr ⟨(s_lload (by decide +kernel : decode cJ9_floorDiv_f86c9 27 = .ok (.lload 4, 2))).to, ?_⟩
  refine List.forall_mem_cons.mpr ⟨s_lret (by decide +kernel : decode cJ9_floorDiv_f86c9 29 = .ok (.lreturn, 1)) rfl, ?_⟩
  exact fun _ h => absurd h List.not_mem_nil
theorem sn_tJ9_floorMod_f86c9 : ∀ q ∈ tJ9_floorMod_f86c9, am_Snd am_P0 RJ9 cJ9_floorMod_f86c9 6 (Option.some FieldType.long) "floorMod" q.1 q.2 := by
  unfold tJ9_floorMod_f86c9
  refine List.forall_mem_cons.mpr ⟨(s_lloadn (by decide +kernel : decode cJ9_floorMod_f86c9 0 = .ok (.lload_n 0, 1)) rfl).to, ?_⟩
  refine List.forall_mem_cons.mpr ⟨(s_lloadn (by decide +kernel : decode cJ9_floorMod_f86c9 1 = .ok (.lload_n 2, 1)) rfl).to, ?_⟩
  refine List.forall_mem_cons.mpr ⟨(s_lrem (by decide +kernel : decode cJ9_floorMod_f86c9 2 = .ok (.lrem, 1))).to, ?_⟩
  refine List.forall_mem_cons.mpr ⟨(s_lstore (by decide +kernel : decode cJ9_floorMod_f86c9 3 = .ok (.lstore 4, 2)) (by decide)).to, ?_⟩
  refine List.forall_mem_cons.mpr ⟨(s_lloadn (by decide +kernel : decode cJ9_floorMod_f86c9 5 = .ok (.lload_n 0, 1)) rfl).to, ?_⟩
  refine List.forall_mem_cons.mpr ⟨(s_lloadn (by decide +kernel : decode cJ9_floorMod_f86c9 6 = .ok (.lload_n 2, 1)) rfl).to, ?_⟩
  refine List.forall_mem_cons.mpr ⟨(s_lxor (by decide +kernel : decode cJ9_floorMod_f86c9 7 = .ok (.lxor, 1))).to, ?_⟩
  refine List.forall_mem_cons.mpr ⟨(s_lconst (by decide +kernel : decode cJ9_floorMod_f86c9 8 = .ok (.lconst 0, 1)) (by decide)).to, ?_⟩
  refine List.forall_mem_cons.mpr ⟨(s_lcmp (by decide +kernel : decode cJ9_floorMod_f86c9 9 = .ok (.lcmp, 1))).to, ?_⟩
  refine List.forall_mem_cons.mpr ⟨(s_if_ge (by decide +kernel : decode cJ9_floorMod_f86c9 10 = .ok (.ifCond .ge 15, 3)) (by decide)).to, ?_⟩
  refine List.forall_mem_cons.mpr ⟨(s_lload (by decide +kernel : decode cJ9_floorMod_f86c9 13 = .ok (.lload 4, 2))).to, ?_⟩
  refine List.forall_mem_cons.mpr ⟨(s_lconst (by decide +kernel : decode cJ9_floorMod_f86c9 15 = .ok (.lconst 0, 1)) (by decide)).to, ?_⟩
  refine List.forall_mem_cons.mpr ⟨(s_lcmp (by decide +kernel : decode cJ9_floorMod_f86c9 16 = .ok (.lcmp, 1))).to, ?_⟩
  refine List.forall_mem_cons.mpr ⟨(s_if_eq (by decide +kernel : decode cJ9_floorMod_f86c9 17 = .ok (.ifCond .eq 8, 3)) (by decide)).to, ?_⟩
  refine List.forall_mem_cons.mpr ⟨(s_lload (by decide +kernel : decode cJ9_floorMod_f86c9 20 = .ok (.lload 4, 2))).to, ?_⟩
  refine List.forall_mem_cons.mpr ⟨(s_lloadn (by decide +kernel : decode cJ9_floorMod_f86c9 22 = .ok (.lload_n 2, 1)) rfl).to, ?_⟩
  refine List.forall_mem_cons.mpr ⟨(s_ladd (by decide +kernel : decode cJ9_floorMod_f86c9 23 = .ok (.ladd, 1))).to, ?_⟩
  refine List.forall_mem_cons.mpr ⟨s_lret (by decide +kernel : decode cJ9_floorMod_f86c9 24 = .ok (.lreturn, 1)) rfl, ?_⟩
  refine List.forall_mem_cons.mpr ⟨(s_lload (by decide +kernel : decode cJ9_floorMod_f86c9 25 = .ok (.lload 4, 2))).to, ?_⟩
  refine List.forall_mem_cons.mpr ⟨s_lret (by decide +kernel : decode cJ9_floorMod_f86c9 27 = .ok (.lreturn, 1)) rfl, ?_⟩
  exact fun _ h => absurd h List.not_mem_nil
theorem sn_tJ9_abs_0f7a4 : ∀ q ∈ tJ9_abs_0f7a4, am_Snd am_P0 RJ9 cJ9_abs_0f7a4 1 (Option.some FieldType.int) "abs" q.1 q.2 := by
  unfold tJ9_abs_0f7a4
  refine List.forall_mem_cons.mpr ⟨(s_iloadn (by decide +kernel : decode cJ9_abs_0f7a4 0 = .ok (.iload_n 0, 1)) rfl).to, ?_⟩
  refine List.forall_mem_cons.mpr ⟨(s_if_ge (by decide +kernel : decode cJ9_abs_0f7a4 1 = .ok (.ifCond .ge 8, 3)) (by decide)).to, ?_⟩
  refine List.forall_mem_cons.mpr ⟨(s_iloadn (by decide +kernel : decode cJ9_abs_0f7a4 4 = .ok (.iload_n 0, 1)) rfl).to, ?_⟩
  refine List.forall_mem_cons.mpr ⟨(s_ineg (by decide +kernel : decode cJ9_abs_0f7a4 5 = .ok (.ineg, 1))).to, ?_⟩
  refine List.forall_mem_cons.mpr ⟨(s_goto (by decide +kernel : decode cJ9_abs_0f7a4 6 = .ok (.goto 4, 3)) (by decide)).to, ?_⟩
  refine List.forall_mem_cons.mpr ⟨(s_iloadn (by decide +kernel : decode cJ9_abs_0f7a4 9 = .ok (.iload_n 0, 1)) rfl).to, ?_⟩
  refine List.forall_mem_cons.mpr ⟨s_iret (by decide +kernel : decode cJ9_abs_0f7a4 10 = .ok (.ireturn, 1)) rfl, ?_⟩
  exact fun _ h => absurd h List.not_mem_nil
theorem sn_tJ9_max_7cf53 : ∀ q ∈ tJ9_max_7cf53, am_Snd am_P0 RJ9 cJ9_max_7cf53 2 (Option.some FieldType.int) "max" q.1 q.2 := by
  unfold tJ9_max_7cf53
  refine List.forall_mem_cons.mpr ⟨(s_iloadn (by decide +kernel : decode cJ9_max_7cf53 0 = .ok (.iload_n 0, 1)) rfl).to, ?_⟩
  refine List.forall_mem_cons.mpr ⟨(s_iloadn (by decide +kernel : decode cJ9_max_7cf53 1 = .ok (.iload_n 1, 1)) rfl).to, ?_⟩
  refine List.forall_mem_cons.mpr ⟨(s_icmp_lt (by decide +kernel : decode cJ9_max_7cf53 2 = .ok (.if_icmp .lt 7, 3)) (by decide)).to, ?_⟩
  refine List.forall_mem_cons.mpr ⟨(s_iloadn (by decide +kernel : decode cJ9_max_7cf53 5 = .ok (.iload_n 0, 1)) rfl).to, ?_⟩
  refine List.forall_mem_cons.mpr ⟨(s_goto (by decide +kernel : decode cJ9_max_7cf53 6 = .ok (.goto 4, 3)) (by decide)).to, ?_⟩
  refine List.forall_mem_cons.mpr ⟨(s_iloadn (by decide +kernel : decode cJ9_max_7cf53 9 = .ok (.iload_n 1, 1)) rfl).to, ?_⟩
  refine List.forall_mem_cons.mpr ⟨s_iret (by decide +kernel : decode cJ9_max_7cf53 10 = .ok (.ireturn, 1)) rfl, ?_⟩
  exact fun _ h => absurd h List.not_mem_nil
theorem sn_tJ9_max_f86c9 : ∀ q ∈ tJ9_max_f86c9, am_Snd am_P0 RJ9 cJ9_max_f86c9 4 (Option.some FieldType.long) "max" q.1 q.2 := by
  unfold tJ9_max_f86c9
  refine List.forall_mem_cons.mpr ⟨(s_lloadn (by decide +kernel : decode cJ9_max_f86c9 0 = .ok (.lload_n 0, 1)) rfl).to, ?_⟩
  refine List.forall_mem_cons.mpr ⟨(s_lloadn (by decide +kernel : decode cJ9_max_f86c9 1 = .ok (.lload_n 2, 1)) rfl).to, ?_⟩
  refine List.forall_mem_cons.mpr ⟨(s_lcmp (by decide +kernel : decode cJ9_max_f86c9 2 = .ok (.lcmp, 1))).to, ?_⟩
  refine List.forall_mem_cons.mpr ⟨(s_if_lt (by decide +kernel : decode cJ9_max_f86c9 3 = .ok (.ifCond .lt 7, 3)) (by decide)).to, ?_⟩
  refine List.forall_mem_cons.mpr ⟨(s_lloadn (by decide +kernel : decode cJ9_max_f86c9 6 = .ok (.lload_n 0, 1)) rfl).to, ?_⟩
  refine List.forall_mem_cons.mpr ⟨(s_goto (by decide +kernel : decode cJ9_max_f86c9 7 = .ok (.goto 4, 3)) (by decide)).to, ?_⟩
  refine List.forall_mem_cons.mpr ⟨(s_lloadn (by decide +kernel : decode cJ9_max_f86c9 10 = .ok (.lload_n 2, 1)) rfl).to, ?_⟩
  refine List.forall_mem_cons.mpr ⟨s_lret (by decide +kernel : decode cJ9_max_f86c9 11 = .ok (.lreturn, 1)) rfl, ?_⟩
  exact fun _ h => absurd h List.not_mem_nil
theorem sn_tJ9_min_7cf53 : ∀ q ∈ tJ9_min_7cf53, am_Snd am_P0 RJ9 cJ9_min_7cf53 2 (Option.some FieldType.int) "min" q.1 q.2 := by
  unfold tJ9_min_7cf53
  refine List.forall_mem_cons.mpr ⟨(s_iloadn (by decide +kernel : decode cJ9_min_7cf53 0 = .ok (.iload_n 0, 1)) rfl).to, ?_⟩
  refine List.forall_mem_cons.mpr ⟨(s_iloadn (by decide +kernel : decode cJ9_min_7cf53 1 = .ok (.iload_n 1, 1)) rfl).to, ?_⟩
  refine List.forall_mem_cons.mpr ⟨(s_icmp_gt (by decide +kernel : decode cJ9_min_7cf53 2 = .ok (.if_icmp .gt 7, 3)) (by decide)).to, ?_⟩
  refine List.forall_mem_cons.mpr ⟨(s_iloadn (by decide +kernel : decode cJ9_min_7cf53 5 = .ok (.iload_n 0, 1)) rfl).to, ?_⟩
  refine List.forall_mem_cons.mpr ⟨(s_goto (by decide +kernel : decode cJ9_min_7cf53 6 = .ok (.goto 4, 3)) (by decide)).to, ?_⟩
  refine List.forall_mem_cons.mpr ⟨(s_iloadn (by decide +kernel : decode cJ9_min_7cf53 9 = .ok (.iload_n 1, 1)) rfl).to, ?_⟩
  refine List.forall_mem_cons.mpr ⟨s_iret (by decide +kernel : decode cJ9_min_7cf53 10 = .ok (.ireturn, 1)) rfl, ?_⟩
  exact fun _ h => absurd h List.not_mem_nil
theorem sn_tJ9_min_f86c9 : ∀ q ∈ tJ9_min_f86c9, am_Snd am_P0 RJ9 cJ9_min_f86c9 4 (Option.some FieldType.long) "min" q.1 q.2 := by
  unfold tJ9_min_f86c9
  refine List.forall_mem_cons.mpr ⟨(s_lloadn (by decide +kernel : decode cJ9_min_f86c9 0 = .ok (.lload_n 0, 1)) rfl).to, ?_⟩
  refine List.forall_mem_cons.mpr ⟨(s_lloadn (by decide +kernel : decode cJ9_min_f86c9 1 = .ok (.lload_n 2, 1)) rfl).to, ?_⟩
  refine List.forall_mem_cons.mpr ⟨(s_lcmp (by decide +kernel : decode cJ9_min_f86c9 2 = .ok (.lcmp, 1))).to, ?_⟩
  refine List.forall_mem_cons.mpr ⟨(s_if_gt (by decide +kernel : decode cJ9_min_f86c9 3 = .ok (.ifCond .gt 7, 3)) (by decide)).to, ?_⟩
  refine List.forall_mem_cons.mpr ⟨(s_lloadn (by decide +kernel : decode cJ9_min_f86c9 6 = .ok (.lload_n 0, 1)) rfl).to, ?_⟩
  refine List.forall_mem_cons.mpr ⟨(s_goto (by decide +kernel : decode cJ9_min_f86c9 7 = .ok (.goto 4, 3)) (by decide)).to, ?_⟩
  refine List.forall_mem_cons.mpr ⟨(s_lloadn (by decide +kernel : decode cJ9_min_f86c9 10 = .ok (.lload_n 2, 1)) rfl).to, ?_⟩
  refine List.forall_mem_cons.mpr ⟨s_lret (by decide +kernel : decode cJ9_min_f86c9 11 = .ok (.lreturn, 1)) rfl, ?_⟩
  exact fun _ h => absurd h List.not_mem_nil
theorem sn_tJ0_length_8abf5 : ∀ q ∈ tJ0_length_8abf5, am_Snd am_P0 RJ0 cJ0_length_8abf5 1 (Option.some FieldType.int) "length" q.1 q.2 := by
  unfold tJ0_length_8abf5
  refine List.forall_mem_cons.mpr ⟨(s_aloadn (by decide +kernel : decode cJ0_length_8abf5 0 = .ok (.aload_n 0, 1)) rfl).to, ?_⟩
  refine List.forall_mem_cons.mpr ⟨(s_gvS (by decide +kernel : decode cJ0_length_8abf5 1 = .ok (.getfield 9, 3)) wd2150).to, ?_⟩
  refine List.forall_mem_cons.mpr ⟨(s_lS (by decide +kernel : decode cJ0_length_8abf5 4 = .ok (.arraylength, 1))).to, ?_⟩
  refine List.forall_mem_cons.mpr ⟨(s_aloadn (by decide +kernel : decode cJ0_length_8abf5 5 = .ok (.aload_n 0, 1)) rfl).to, ?_⟩
  refine List.forall_mem_cons.mpr ⟨z_cvS (by decide +kernel : decode cJ0_length_8abf5 6 = .ok (.invokevirtual 335, 3)) mt313 wd384 (by decide), ?_⟩
  refine List.forall_mem_cons.mpr ⟨(s_ishr (by decide +kernel : decode cJ0_length_8abf5 9 = .ok (.ishr, 1))).to, ?_⟩
  refine List.forall_mem_cons.mpr ⟨s_iret (by decide +kernel : decode cJ0_length_8abf5 10 = .ok (.ireturn, 1)) rfl, ?_⟩
  exact fun _ h => absurd h List.not_mem_nil
theorem sn_tJ0_charAt_5068e : ∀ q ∈ tJ0_charAt_5068e, am_Snd am_P0 RJ0 cJ0_charAt_5068e 2 (Option.some FieldType.char) "charAt" q.1 q.2 := by
  unfold tJ0_charAt_5068e
  refine List.forall_mem_cons.mpr ⟨(s_aloadn (by decide +kernel : decode cJ0_charAt_5068e 0 = .ok (.aload_n 0, 1)) rfl).to, ?_⟩
  refine List.forall_mem_cons.mpr ⟨z_cvS (by decide +kernel : decode cJ0_charAt_5068e 1 = .ok (.invokevirtual 492, 3)) mt314 wd394 (by decide), ?_⟩
  refine List.forall_mem_cons.mpr ⟨(s_if_eq (by decide +kernel : decode cJ0_charAt_5068e 4 = .ok (.ifCond .eq 12, 3)) (by decide)).to, ?_⟩
  refine List.forall_mem_cons.mpr ⟨(s_aloadn (by decide +kernel : decode cJ0_charAt_5068e 7 = .ok (.aload_n 0, 1)) rfl).to, ?_⟩
  refine List.forall_mem_cons.mpr ⟨(s_gvS (by decide +kernel : decode cJ0_charAt_5068e 8 = .ok (.getfield 9, 3)) wd2150).to, ?_⟩
  refine List.forall_mem_cons.mpr ⟨(s_iloadn (by decide +kernel : decode cJ0_charAt_5068e 11 = .ok (.iload_n 1, 1)) rfl).to, ?_⟩
  refine List.forall_mem_cons.mpr ⟨z_cs (by decide +kernel : decode cJ0_charAt_5068e 12 = .ok (.invokestatic 495, 3)) mt316 wd398, ?_⟩
  refine List.forall_mem_cons.mpr ⟨s_cret (by decide +kernel : decode cJ0_charAt_5068e 15 = .ok (.ireturn, 1)) rfl, ?_⟩
  refine List.forall_mem_cons.mpr ⟨(s_aloadn (by decide +kernel : decode cJ0_charAt_5068e 16 = .ok (.aload_n 0, 1)) rfl).to, ?_⟩
  refine List.forall_mem_cons.mpr ⟨(s_gvS (by decide +kernel : decode cJ0_charAt_5068e 17 = .ok (.getfield 9, 3)) wd2150).to, ?_⟩
  refine List.forall_mem_cons.mpr ⟨(s_iloadn (by decide +kernel : decode cJ0_charAt_5068e 20 = .ok (.iload_n 1, 1)) rfl).to, ?_⟩
  refine List.forall_mem_cons.mpr ⟨s_cret (by decide +kernel : decode cJ0_charAt_5068e 24 = .ok (.ireturn, 1)) rfl, ?_⟩
  exact fun _ h => absurd h List.not_mem_nil
theorem sn_tJ0_coder_7d493 : ∀ q ∈ tJ0_coder_7d493, am_Snd am_P0 RJ0 cJ0_coder_7d493 1 (Option.some FieldType.byte) "coder" q.1 q.2 := by
  unfold tJ0_coder_7d493
  refine List.forall_mem_cons.mpr ⟨(s_gsC (by decide +kernel : decode cJ0_coder_7d493 0 = .ok (.getstatic 38, 3)) wd388).to, ?_⟩
  refine List.forall_mem_cons.mpr ⟨(s_if_eq (by decide +kernel : decode cJ0_coder_7d493 3 = .ok (.ifCond .eq 10, 3)) (by decide)).to, ?_⟩
  refine List.forall_mem_cons.mpr ⟨(s_aloadn (by decide +kernel : decode cJ0_coder_7d493 6 = .ok (.aload_n 0, 1)) rfl).to, ?_⟩
  refine List.forall_mem_cons.mpr ⟨(s_gcS (by decide +kernel : decode cJ0_coder_7d493 7 = .ok (.getfield 15, 3)) wd2151).to, ?_⟩
  refine List.forall_mem_cons.mpr ⟨(s_goto (by decide +kernel : decode cJ0_coder_7d493 10 = .ok (.goto 4, 3)) (by decide)).to, ?_⟩
  refine List.forall_mem_cons.mpr ⟨(s_iconst (by decide +kernel : decode cJ0_coder_7d493 13 = .ok (.iconst 1, 1)) (by decide)).to, ?_⟩
  refine List.forall_mem_cons.mpr ⟨s_bret (by decide +kernel : decode cJ0_coder_7d493 14 = .ok (.ireturn, 1)) rfl, ?_⟩
  exact fun _ h => absurd h List.not_mem_nil
theorem sn_tJ0_isLatin1_aae02 : ∀ q ∈ tJ0_isLatin1_aae02, am_Snd am_P0 RJ0 cJ0_isLatin1_aae02 1 (Option.some FieldType.boolean) "isLatin1" q.1 q.2 := by
  unfold tJ0_isLatin1_aae02
  refine List.forall_mem_cons.mpr ⟨(s_gsC (by decide +kernel : decode cJ0_isLatin1_aae02 0 = .ok (.getstatic 38, 3)) wd388).to, ?_⟩
  refine List.forall_mem_cons.mpr ⟨(s_if_eq (by decide +kernel : decode cJ0_isLatin1_aae02 3 = .ok (.ifCond .eq 14, 3)) (by decide)).to, ?_⟩
  refine List.forall_mem_cons.mpr ⟨(s_aloadn (by decide +kernel : decode cJ0_isLatin1_aae02 6 = .ok (.aload_n 0, 1)) rfl).to, ?_⟩
  refine List.forall_mem_cons.mpr ⟨(s_gcS (by decide +kernel : decode cJ0_isLatin1_aae02 7 = .ok (.getfield 15, 3)) wd2151).to, ?_⟩
  refine List.forall_mem_cons.mpr ⟨(s_if_ne (by decide +kernel : decode cJ0_isLatin1_aae02 10 = .ok (.ifCond .ne 7, 3)) (by decide)).to, ?_⟩
  refine List.forall_mem_cons.mpr ⟨(s_iconst (by decide +kernel : decode cJ0_isLatin1_aae02 13 = .ok (.iconst 1, 1)) (by decide)).to, ?_⟩
  refine List.forall_mem_cons.mpr ⟨(s_goto (by decide +kernel : decode cJ0_isLatin1_aae02 14 = .ok (.goto 4, 3)) (by decide)).to, ?_⟩
  refine List.forall_mem_cons.mpr ⟨(s_iconst (by decide +kernel : decode cJ0_isLatin1_aae02 17 = .ok (.iconst 0, 1)) (by decide)).to, ?_⟩
  refine List.forall_mem_cons.mpr ⟨s_zret (by decide +kernel : decode cJ0_isLatin1_aae02 18 = .ok (.ireturn, 1)) rfl, ?_⟩
  exact fun _ h => absurd h List.not_mem_nil
theorem sn_tJ0_checkIndex_df160 : ∀ q ∈ tJ0_checkIndex_df160, am_Snd am_P0 RJ0 cJ0_checkIndex_df160 2 (Option.none : Option FieldType) "checkIndex" q.1 q.2 := by
  unfold tJ0_checkIndex_df160
  refine List.forall_mem_cons.mpr ⟨(s_iloadn (by decide +kernel : decode cJ0_checkIndex_df160 0 = .ok (.iload_n 0, 1)) rfl).to, ?_⟩
  refine List.forall_mem_cons.mpr ⟨(s_iloadn (by decide +kernel : decode cJ0_checkIndex_df160 1 = .ok (.iload_n 1, 1)) rfl).to, ?_⟩
  refine List.forall_mem_cons.mpr ⟨(s_gsF (by decide +kernel : decode cJ0_checkIndex_df160 2 = .ok (.getstatic 1053, 3)) wd404).to, ?_⟩
  refine List.forall_mem_cons.mpr ⟨z_cs (by decide +kernel : decode cJ0_checkIndex_df160 5 = .ok (.invokestatic 1059, 3)) mt325 wd406, ?_⟩
  refine List.forall_mem_cons.mpr ⟨(s_pop (by decide +kernel : decode cJ0_checkIndex_df160 8 = .ok (.pop, 1))).to, ?_⟩
  refine List.forall_mem_cons.mpr ⟨s_vret (by decide +kernel : decode cJ0_checkIndex_df160 9 = .ok (.return_, 1)) rfl, ?_⟩
  exact fun _ h => absurd h List.not_mem_nil
theorem sn_tJ1_charAt_3b067 : ∀ q ∈ tJ1_charAt_3b067, am_Snd am_P0 RJ1 cJ1_charAt_3b067 2 (Option.some FieldType.char) "charAt" q.1 q.2 := by
  unfold tJ1_charAt_3b067
  refine List.forall_mem_cons.mpr ⟨(s_iloadn (by decide +kernel : decode cJ1_charAt_3b067 0 = .ok (.iload_n 1, 1)) rfl).to, ?_⟩
  refine List.forall_mem_cons.mpr ⟨(s_aloadn (by decide +kernel : decode cJ1_charAt_3b067 1 = .ok (.aload_n 0, 1)) rfl).to, ?_⟩
  refine List.forall_mem_cons.mpr ⟨(s_lS (by decide +kernel : decode cJ1_charAt_3b067 2 = .ok (.arraylength, 1))).to, ?_⟩
  refine List.forall_mem_cons.mpr ⟨z_cs (by decide +kernel : decode cJ1_charAt_3b067 3 = .ok (.invokestatic 9, 3)) mt315 wd401, ?_⟩
  refine List.forall_mem_cons.mpr ⟨(s_aloadn (by decide +kernel : decode cJ1_charAt_3b067 6 = .ok (.aload_n 0, 1)) rfl).to, ?_⟩
  refine List.forall_mem_cons.mpr ⟨(s_iloadn (by decide +kernel : decode cJ1_charAt_3b067 7 = .ok (.iload_n 1, 1)) rfl).to, ?_⟩
  refine List.forall_mem_cons.mpr ⟨(s_bS (by decide +kernel : decode cJ1_charAt_3b067 8 = .ok (.baload, 1))).to, ?_⟩
  refine List.forall_mem_cons.mpr ⟨(s_sipush (by decide +kernel : decode cJ1_charAt_3b067 9 = .ok (.sipush 255, 3)) (by decide)).to, ?_⟩
  refine List.forall_mem_cons.mpr ⟨(s_iand (by decide +kernel : decode cJ1_charAt_3b067 12 = .ok (.iand, 1))).to, ?_⟩
  refine List.forall_mem_cons.mpr ⟨(s_i2c (by decide +kernel : decode cJ1_charAt_3b067 13 = .ok (.i2c, 1))).to, ?_⟩
  refine List.forall_mem_cons.mpr ⟨s_cret (by decide +kernel : decode cJ1_charAt_3b067 14 = .ok (.ireturn, 1)) rfl, ?_⟩
  exact fun _ h => absurd h List.not_mem_nil
theorem sn_tJ2_getChar_3b067 : ∀ q ∈ tJ2_getChar_3b067, am_Snd am_P0 RJ2 cJ2_getChar_3b067 2 (Option.some FieldType.char) "getChar" q.1 q.2 := by
  unfold tJ2_getChar_3b067
  refine List.forall_mem_cons.mpr ⟨(s_if_ne (by decide +kernel : decode cJ2_getChar_3b067 3 = .ok (.ifCond .ne 25, 3)) (by decide)).to, ?_⟩
  refine List.forall_mem_cons.mpr ⟨(s_iloadn (by decide +kernel : decode cJ2_getChar_3b067 6 = .ok (.iload_n 1, 1)) rfl).to, ?_⟩
  refine List.forall_mem_cons.mpr ⟨(s_if_lt (by decide +kernel : decode cJ2_getChar_3b067 7 = .ok (.ifCond .lt 11, 3)) (by decide)).to, ?_⟩
  refine List.forall_mem_cons.mpr ⟨(s_iloadn (by decide +kernel : decode cJ2_getChar_3b067 10 = .ok (.iload_n 1, 1)) rfl).to, ?_⟩
  refine List.forall_mem_cons.mpr ⟨(s_aloadn (by decide +kernel : decode cJ2_getChar_3b067 11 = .ok (.aload_n 0, 1)) rfl).to, ?_⟩
  refine List.forall_mem_cons.mpr ⟨(s_icmp_lt (by decide +kernel : decode cJ2_getChar_3b067 15 = .ok (.if_icmp .lt 13, 3)) (by decide)).to, ?_⟩
  refine List.forall_mem_cons.mpr ⟨(s_dup (by decide +kernel : decode cJ2_getChar_3b067 21 = .ok (.dup, 1))).to, ?_⟩
  refine List.forall_mem_cons.mpr ⟨(s_iloadn (by decide +kernel : decode cJ2_getChar_3b067 28 = .ok (.iload_n 1, 1)) rfl).to, ?_⟩
  refine List.forall_mem_cons.mpr ⟨(s_iconst (by decide +kernel : decode cJ2_getChar_3b067 29 = .ok (.iconst 1, 1)) (by decide)).to, ?_⟩
  refine List.forall_mem_cons.mpr ⟨(s_ishl (by decide +kernel : decode cJ2_getChar_3b067 30 = .ok (.ishl, 1))).to, ?_⟩
  refine List.forall_mem_cons.mpr ⟨(s_istoren (by decide +kernel : decode cJ2_getChar_3b067 31 = .ok (.istore_n 1, 1)) rfl (by decide)).to, ?_⟩
  refine List.forall_mem_cons.mpr ⟨(s_aloadn (by decide +kernel : decode cJ2_getChar_3b067 32 = .ok (.aload_n 0, 1)) rfl).to, ?_⟩
  refine List.forall_mem_cons.mpr ⟨(s_iloadn (by decide +kernel : decode cJ2_getChar_3b067 33 = .ok (.iload_n 1, 1)) rfl).to, ?_⟩
  refine List.forall_mem_cons.mpr ⟨(s_iinc (by decide +kernel : decode cJ2_getChar_3b067 34 = .ok (.iinc 1 1, 3)) (by decide) (by decide)).to, ?_⟩
  refine List.forall_mem_cons.mpr ⟨(s_sipush (by decide +kernel : decode cJ2_getChar_3b067 38 = .ok (.sipush 255, 3)) (by decide)).to, ?_⟩
  refine List.forall_mem_cons.mpr ⟨(s_iand (by decide +kernel : decode cJ2_getChar_3b067 41 = .ok (.iand, 1))).to, ?_⟩
  refine List.forall_mem_cons.mpr ⟨(s_ishl (by decide +kernel : decode cJ2_getChar_3b067 45 = .ok (.ishl, 1))).to, ?_⟩
  refine List.forall_mem_cons.mpr ⟨(s_aloadn (by decide +kernel : decode cJ2_getChar_3b067 46 = .ok (.aload_n 0, 1)) rfl).to, ?_⟩
  refine List.forall_mem_cons.mpr ⟨(s_iloadn (by decide +kernel : decode cJ2_getChar_3b067 47 = .ok (.iload_n 1, 1)) rfl).to, ?_⟩
  refine List.forall_mem_cons.mpr ⟨(s_sipush (by decide +kernel : decode cJ2_getChar_3b067 49 = .ok (.sipush 255, 3)) (by decide)).to, ?_⟩
  refine List.forall_mem_cons.mpr ⟨(s_iand (by decide +kernel : decode cJ2_getChar_3b067 52 = .ok (.iand, 1))).to, ?_⟩
  refine List.forall_mem_cons.mpr ⟨(s_ishl (by decide +kernel : decode cJ2_getChar_3b067 56 = .ok (.ishl, 1))).to, ?_⟩
  refine List.forall_mem_cons.mpr ⟨(s_ior (by decide +kernel : decode cJ2_getChar_3b067 57 = .ok (.ior, 1))).to, ?_⟩
  exact fun _ h => absurd h List.not_mem_nil
theorem sn_tJ2_length_9d52b : ∀ q ∈ tJ2_length_9d52b, am_Snd am_P0 RJ2 cJ2_length_9d52b 1 (Option.some FieldType.int) "length" q.1 q.2 := by
  unfold tJ2_length_9d52b
  refine List.forall_mem_cons.mpr ⟨(s_aloadn (by decide +kernel : decode cJ2_length_9d52b 0 = .ok (.aload_n 0, 1)) rfl).to, ?_⟩
  refine List.forall_mem_cons.mpr ⟨(s_iconst (by decide +kernel : decode cJ2_length_9d52b 2 = .ok (.iconst 1, 1)) (by decide)).to, ?_⟩
  refine List.forall_mem_cons.mpr ⟨(s_ishr (by decide +kernel : decode cJ2_length_9d52b 3 = .ok (.ishr, 1))).to, ?_⟩
  refine List.forall_mem_cons.mpr ⟨s_iret (by decide +kernel : decode cJ2_length_9d52b 4 = .ok (.ireturn, 1)) rfl, ?_⟩
  exact fun _ h => absurd h List.not_mem_nil
theorem sn_tJ2_charAt_3b067 : ∀ q ∈ tJ2_charAt_3b067, am_Snd am_P0 RJ2 cJ2_charAt_3b067 2 (Option.some FieldType.char) "charAt" q.1 q.2 := by
  unfold tJ2_charAt_3b067
  refine List.forall_mem_cons.mpr ⟨(s_iloadn (by decide +kernel : decode cJ2_charAt_3b067 0 = .ok (.iload_n 1, 1)) rfl).to, ?_⟩
  refine List.forall_mem_cons.mpr ⟨(s_aloadn (by decide +kernel : decode cJ2_charAt_3b067 1 = .ok (.aload_n 0, 1)) rfl).to, ?_⟩
  refine List.forall_mem_cons.mpr ⟨(s_aloadn (by decide +kernel : decode cJ2_charAt_3b067 5 = .ok (.aload_n 0, 1)) rfl).to, ?_⟩
  refine List.forall_mem_cons.mpr ⟨(s_iloadn (by decide +kernel : decode cJ2_charAt_3b067 6 = .ok (.iload_n 1, 1)) rfl).to, ?_⟩
  exact fun _ h => absurd h List.not_mem_nil
theorem sn_tJ2_checkIndex_2214a : ∀ q ∈ tJ2_checkIndex_2214a, am_Snd am_P0 RJ2 cJ2_checkIndex_2214a 2 (Option.none : Option FieldType) "checkIndex" q.1 q.2 := by
  unfold tJ2_checkIndex_2214a
  refine List.forall_mem_cons.mpr ⟨(s_iloadn (by decide +kernel : decode cJ2_checkIndex_2214a 0 = .ok (.iload_n 0, 1)) rfl).to, ?_⟩
  refine List.forall_mem_cons.mpr ⟨(s_aloadn (by decide +kernel : decode cJ2_checkIndex_2214a 1 = .ok (.aload_n 1, 1)) rfl).to, ?_⟩
  refine List.forall_mem_cons.mpr ⟨z_cs (by decide +kernel : decode cJ2_checkIndex_2214a 5 = .ok (.invokestatic 414, 3)) mt315 wd418, ?_⟩
  refine List.forall_mem_cons.mpr ⟨s_vret (by decide +kernel : decode cJ2_checkIndex_2214a 8 = .ok (.return_, 1)) rfl, ?_⟩
  exact fun _ h => absurd h List.not_mem_nil
theorem sn_tJ7_rangeCheck_23922 : ∀ q ∈ tJ7_rangeCheck_23922, am_Snd am_P0 RJ7 cJ7_rangeCheck_23922 3 (Option.none : Option FieldType) "rangeCheck" q.1 q.2 := by
  unfold tJ7_rangeCheck_23922
  refine List.forall_mem_cons.mpr ⟨(s_iloadn (by decide +kernel : decode cJ7_rangeCheck_23922 0 = .ok (.iload_n 1, 1)) rfl).to, ?_⟩
  refine List.forall_mem_cons.mpr ⟨(s_iloadn (by decide +kernel : decode cJ7_rangeCheck_23922 1 = .ok (.iload_n 2, 1)) rfl).to, ?_⟩
  refine List.forall_mem_cons.mpr ⟨(s_icmp_le (by decide +kernel : decode cJ7_rangeCheck_23922 2 = .ok (.if_icmp .le 44, 3)) (by decide)).to, ?_⟩
  refine List.forall_mem_cons.mpr ⟨(s_dup (by decide +kernel : decode cJ7_rangeCheck_23922 8 = .ok (.dup, 1))).to, ?_⟩
  refine List.forall_mem_cons.mpr ⟨(s_dup (by decide +kernel : decode cJ7_rangeCheck_23922 12 = .ok (.dup, 1))).to, ?_⟩
  refine List.forall_mem_cons.mpr ⟨(s_iloadn (by decide +kernel : decode cJ7_rangeCheck_23922 21 = .ok (.iload_n 1, 1)) rfl).to, ?_⟩
  refine List.forall_mem_cons.mpr ⟨(s_iloadn (by decide +kernel : decode cJ7_rangeCheck_23922 30 = .ok (.iload_n 2, 1)) rfl).to, ?_⟩
  refine List.forall_mem_cons.mpr ⟨(s_iloadn (by decide +kernel : decode cJ7_rangeCheck_23922 46 = .ok (.iload_n 1, 1)) rfl).to, ?_⟩
  refine List.forall_mem_cons.mpr ⟨(s_if_ge (by decide +kernel : decode cJ7_rangeCheck_23922 47 = .ok (.ifCond .ge 12, 3)) (by decide)).to, ?_⟩
  refine List.forall_mem_cons.mpr ⟨(s_dup (by decide +kernel : decode cJ7_rangeCheck_23922 53 = .ok (.dup, 1))).to, ?_⟩
  refine List.forall_mem_cons.mpr ⟨(s_iloadn (by decide +kernel : decode cJ7_rangeCheck_23922 54 = .ok (.iload_n 1, 1)) rfl).to, ?_⟩
  refine List.forall_mem_cons.mpr ⟨(s_iloadn (by decide +kernel : decode cJ7_rangeCheck_23922 59 = .ok (.iload_n 2, 1)) rfl).to, ?_⟩
  refine List.forall_mem_cons.mpr ⟨(s_iloadn (by decide +kernel : decode cJ7_rangeCheck_23922 60 = .ok (.iload_n 0, 1)) rfl).to, ?_⟩
  refine List.forall_mem_cons.mpr ⟨(s_icmp_le (by decide +kernel : decode cJ7_rangeCheck_23922 61 = .ok (.if_icmp .le 12, 3)) (by decide)).to, ?_⟩
  refine List.forall_mem_cons.mpr ⟨(s_dup (by decide +kernel : decode cJ7_rangeCheck_23922 67 = .ok (.dup, 1))).to, ?_⟩
  refine List.forall_mem_cons.mpr ⟨(s_iloadn (by decide +kernel : decode cJ7_rangeCheck_23922 68 = .ok (.iload_n 2, 1)) rfl).to, ?_⟩
  refine List.forall_mem_cons.mpr ⟨s_vret (by decide +kernel : decode cJ7_rangeCheck_23922 73 = .ok (.return_, 1)) rfl, ?_⟩
  exact fun _ h => absurd h List.not_mem_nil
theorem sn_tJ7_fill_d0a16 : ∀ q ∈ tJ7_fill_d0a16, am_Snd am_P0 RJ7 cJ7_fill_d0a16 5 (Option.none : Option FieldType) "fill" q.1 q.2 := by
  unfold tJ7_fill_d0a16
  refine List.forall_mem_cons.mpr ⟨(s_iconst (by decide +kernel : decode cJ7_fill_d0a16 0 = .ok (.iconst 0, 1)) (by decide)).to, ?_⟩
  refine List.forall_mem_cons.mpr ⟨(s_istoren (by decide +kernel : decode cJ7_fill_d0a16 1 = .ok (.istore_n 3, 1)) rfl (by decide)).to, ?_⟩
  refine List.forall_mem_cons.mpr ⟨(s_aloadn (by decide +kernel : decode cJ7_fill_d0a16 2 = .ok (.aload_n 0, 1)) rfl).to, ?_⟩
  refine List.forall_mem_cons.mpr ⟨(s_len (by decide +kernel : decode cJ7_fill_d0a16 3 = .ok (.arraylength, 1))).to, ?_⟩
  refine List.forall_mem_cons.mpr ⟨(s_istore (by decide +kernel : decode cJ7_fill_d0a16 4 = .ok (.istore 4, 2)) (by decide)).to, ?_⟩
  refine List.forall_mem_cons.mpr ⟨(s_iloadn (by decide +kernel : decode cJ7_fill_d0a16 6 = .ok (.iload_n 3, 1)) rfl).to, ?_⟩
  refine List.forall_mem_cons.mpr ⟨(s_iload (by decide +kernel : decode cJ7_fill_d0a16 7 = .ok (.iload 4, 2))).to, ?_⟩
  refine List.forall_mem_cons.mpr ⟨(s_icmp_ge (by decide +kernel : decode cJ7_fill_d0a16 9 = .ok (.if_icmp .ge 13, 3)) (by decide)).to, ?_⟩
  refine List.forall_mem_cons.mpr ⟨(s_aloadn (by decide +kernel : decode cJ7_fill_d0a16 12 = .ok (.aload_n 0, 1)) rfl).to, ?_⟩
  refine List.forall_mem_cons.mpr ⟨(s_iloadn (by decide +kernel : decode cJ7_fill_d0a16 13 = .ok (.iload_n 3, 1)) rfl).to, ?_⟩
  refine List.forall_mem_cons.mpr ⟨(s_lloadn (by decide +kernel : decode cJ7_fill_d0a16 14 = .ok (.lload_n 1, 1)) rfl).to, ?_⟩
  refine List.forall_mem_cons.mpr ⟨(s_last (by decide +kernel : decode cJ7_fill_d0a16 15 = .ok (.lastore, 1))).to, ?_⟩
  refine List.forall_mem_cons.mpr ⟨(s_iinc (by decide +kernel : decode cJ7_fill_d0a16 16 = .ok (.iinc 3 1, 3)) (by decide) (by decide)).to, ?_⟩
  refine List.forall_mem_cons.mpr ⟨(s_goto (by decide +kernel : decode cJ7_fill_d0a16 19 = .ok (.goto (-13), 3)) (by decide)).to, ?_⟩
  refine List.forall_mem_cons.mpr ⟨s_vret (by decide +kernel : decode cJ7_fill_d0a16 22 = .ok (.return_, 1)) rfl, ?_⟩
  exact fun _ h => absurd h List.not_mem_nil
theorem sn_tJ7_fill_bad5a : ∀ q ∈ tJ7_fill_bad5a, am_Snd am_P0 RJ7 cJ7_fill_bad5a 6 (Option.none : Option FieldType) "fill" q.1 q.2 := by
  unfold tJ7_fill_bad5a
  refine List.forall_mem_cons.mpr ⟨(s_aloadn (by decide +kernel : decode cJ7_fill_bad5a 0 = .ok (.aload_n 0, 1)) rfl).to, ?_⟩
  refine List.forall_mem_cons.mpr ⟨(s_len (by decide +kernel : decode cJ7_fill_bad5a 1 = .ok (.arraylength, 1))).to, ?_⟩
  refine List.forall_mem_cons.mpr ⟨(s_iloadn (by decide +kernel : decode cJ7_fill_bad5a 2 = .ok (.iload_n 1, 1)) rfl).to, ?_⟩
  refine List.forall_mem_cons.mpr ⟨(s_iloadn (by decide +kernel : decode cJ7_fill_bad5a 3 = .ok (.iload_n 2, 1)) rfl).to, ?_⟩
  refine List.forall_mem_cons.mpr ⟨z_cs (by decide +kernel : decode cJ7_fill_bad5a 4 = .ok (.invokestatic 13, 3)) mt321 wd1247, ?_⟩
  refine List.forall_mem_cons.mpr ⟨(s_iloadn (by decide +kernel : decode cJ7_fill_bad5a 7 = .ok (.iload_n 1, 1)) rfl).to, ?_⟩
  refine List.forall_mem_cons.mpr ⟨(s_istore (by decide +kernel : decode cJ7_fill_bad5a 8 = .ok (.istore 5, 2)) (by decide)).to, ?_⟩
  refine List.forall_mem_cons.mpr ⟨(s_iload (by decide +kernel : decode cJ7_fill_bad5a 10 = .ok (.iload 5, 2))).to, ?_⟩
  refine List.forall_mem_cons.mpr ⟨(s_iloadn (by decide +kernel : decode cJ7_fill_bad5a 12 = .ok (.iload_n 2, 1)) rfl).to, ?_⟩
  refine List.forall_mem_cons.mpr ⟨(s_icmp_ge (by decide +kernel : decode cJ7_fill_bad5a 13 = .ok (.if_icmp .ge 14, 3)) (by decide)).to, ?_⟩
  refine List.forall_mem_cons.mpr ⟨(s_aloadn (by decide +kernel : decode cJ7_fill_bad5a 16 = .ok (.aload_n 0, 1)) rfl).to, ?_⟩
  refine List.forall_mem_cons.mpr ⟨(s_iload (by decide +kernel : decode cJ7_fill_bad5a 17 = .ok (.iload 5, 2))).to, ?_⟩
  refine List.forall_mem_cons.mpr ⟨(s_lloadn (by decide +kernel : decode cJ7_fill_bad5a 19 = .ok (.lload_n 3, 1)) rfl).to, ?_⟩
  refine List.forall_mem_cons.mpr ⟨(s_last (by decide +kernel : decode cJ7_fill_bad5a 20 = .ok (.lastore, 1))).to, ?_⟩
  refine List.forall_mem_cons.mpr ⟨(s_iinc (by decide +kernel : decode cJ7_fill_bad5a 21 = .ok (.iinc 5 1, 3)) (by decide) (by decide)).to, ?_⟩
  refine List.forall_mem_cons.mpr ⟨(s_goto (by decide +kernel : decode cJ7_fill_bad5a 24 = .ok (.goto (-14), 3)) (by decide)).to, ?_⟩
  refine List.forall_mem_cons.mpr ⟨s_vret (by decide +kernel : decode cJ7_fill_bad5a 27 = .ok (.return_, 1)) rfl, ?_⟩
  exact fun _ h => absurd h List.not_mem_nil
theorem sn_tJ7_fill_53178 : ∀ q ∈ tJ7_fill_53178, am_Snd am_P0 RJ7 cJ7_fill_53178 4 (Option.none : Option FieldType) "fill" q.1 q.2 := by
  unfold tJ7_fill_53178
  refine List.forall_mem_cons.mpr ⟨(s_iconst (by decide +kernel : decode cJ7_fill_53178 0 = .ok (.iconst 0, 1)) (by decide)).to, ?_⟩
  refine List.forall_mem_cons.mpr ⟨(s_istoren (by decide +kernel : decode cJ7_fill_53178 1 = .ok (.istore_n 2, 1)) rfl (by decide)).to, ?_⟩
  refine List.forall_mem_cons.mpr ⟨(s_aloadn (by decide +kernel : decode cJ7_fill_53178 2 = .ok (.aload_n 0, 1)) rfl).to, ?_⟩
  refine List.forall_mem_cons.mpr ⟨(s_len (by decide +kernel : decode cJ7_fill_53178 3 = .ok (.arraylength, 1))).to, ?_⟩
  refine List.forall_mem_cons.mpr ⟨(s_istoren (by decide +kernel : decode cJ7_fill_53178 4 = .ok (.istore_n 3, 1)) rfl (by decide)).to, ?_⟩
  refine List.forall_mem_cons.mpr ⟨(s_iloadn (by decide +kernel : decode cJ7_fill_53178 5 = .ok (.iload_n 2, 1)) rfl).to, ?_⟩
  refine List.forall_mem_cons.mpr ⟨(s_iloadn (by decide +kernel : decode cJ7_fill_53178 6 = .ok (.iload_n 3, 1)) rfl).to, ?_⟩
  refine List.forall_mem_cons.mpr ⟨(s_icmp_ge (by decide +kernel : decode cJ7_fill_53178 7 = .ok (.if_icmp .ge 13, 3)) (by decide)).to, ?_⟩
  refine List.forall_mem_cons.mpr ⟨(s_aloadn (by decide +kernel : decode cJ7_fill_53178 10 = .ok (.aload_n 0, 1)) rfl).to, ?_⟩
  refine List.forall_mem_cons.mpr ⟨(s_iloadn (by decide +kernel : decode cJ7_fill_53178 11 = .ok (.iload_n 2, 1)) rfl).to, ?_⟩
  refine List.forall_mem_cons.mpr ⟨(s_iloadn (by decide +kernel : decode cJ7_fill_53178 12 = .ok (.iload_n 1, 1)) rfl).to, ?_⟩
  refine List.forall_mem_cons.mpr ⟨(s_iast (by decide +kernel : decode cJ7_fill_53178 13 = .ok (.iastore, 1))).to, ?_⟩
  refine List.forall_mem_cons.mpr ⟨(s_iinc (by decide +kernel : decode cJ7_fill_53178 14 = .ok (.iinc 2 1, 3)) (by decide) (by decide)).to, ?_⟩
  refine List.forall_mem_cons.mpr ⟨(s_goto (by decide +kernel : decode cJ7_fill_53178 17 = .ok (.goto (-12), 3)) (by decide)).to, ?_⟩
  refine List.forall_mem_cons.mpr ⟨s_vret (by decide +kernel : decode cJ7_fill_53178 20 = .ok (.return_, 1)) rfl, ?_⟩
  exact fun _ h => absurd h List.not_mem_nil
theorem sn_tJ3_checkIndex_8e157 : ∀ q ∈ tJ3_checkIndex_8e157, am_Snd am_P0 RJ3 cJ3_checkIndex_8e157 3 (Option.some FieldType.int) "checkIndex" q.1 q.2 := by
  unfold tJ3_checkIndex_8e157
  refine List.forall_mem_cons.mpr ⟨(s_iloadn (by decide +kernel : decode cJ3_checkIndex_8e157 0 = .ok (.iload_n 0, 1)) rfl).to, ?_⟩
  refine List.forall_mem_cons.mpr ⟨(s_if_lt (by decide +kernel : decode cJ3_checkIndex_8e157 1 = .ok (.ifCond .lt 8, 3)) (by decide)).to, ?_⟩
  refine List.forall_mem_cons.mpr ⟨(s_iloadn (by decide +kernel : decode cJ3_checkIndex_8e157 4 = .ok (.iload_n 0, 1)) rfl).to, ?_⟩
  refine List.forall_mem_cons.mpr ⟨(s_iloadn (by decide +kernel : decode cJ3_checkIndex_8e157 5 = .ok (.iload_n 1, 1)) rfl).to, ?_⟩
  refine List.forall_mem_cons.mpr ⟨(s_icmp_lt (by decide +kernel : decode cJ3_checkIndex_8e157 6 = .ok (.if_icmp .lt 10, 3)) (by decide)).to, ?_⟩
  refine List.forall_mem_cons.mpr ⟨(s_aloadn (by decide +kernel : decode cJ3_checkIndex_8e157 9 = .ok (.aload_n 2, 1)) rfl).to, ?_⟩
  refine List.forall_mem_cons.mpr ⟨(s_iloadn (by decide +kernel : decode cJ3_checkIndex_8e157 10 = .ok (.iload_n 0, 1)) rfl).to, ?_⟩
  refine List.forall_mem_cons.mpr ⟨(s_iloadn (by decide +kernel : decode cJ3_checkIndex_8e157 11 = .ok (.iload_n 1, 1)) rfl).to, ?_⟩
  refine List.forall_mem_cons.mpr ⟨(s_iloadn (by decide +kernel : decode cJ3_checkIndex_8e157 16 = .ok (.iload_n 0, 1)) rfl).to, ?_⟩
  refine List.forall_mem_cons.mpr ⟨s_iret (by decide +kernel : decode cJ3_checkIndex_8e157 17 = .ok (.ireturn, 1)) rfl, ?_⟩
  exact fun _ h => absurd h List.not_mem_nil
theorem sn_tX0_init : ∀ q ∈ tX0_init, am_Snd am_P0 RX0 cX0_init 1 (Option.none : Option FieldType) "<init>" q.1 q.2 := by
  unfold tX0_init
  refine List.forall_mem_cons.mpr ⟨(s_aloadn (by decide +kernel : decode cX0_init 0 = .ok (.aload_n 0, 1)) rfl).to, ?_⟩
  refine List.forall_mem_cons.mpr ⟨(s_obj (by decide +kernel : decode cX0_init 1 = .ok (.invokespecial 3, 3)) wd201 wd160 wd161).to, ?_⟩
  refine List.forall_mem_cons.mpr ⟨(s_aloadn (by decide +kernel : decode cX0_init 4 = .ok (.aload_n 0, 1)) rfl).to, ?_⟩
  refine List.forall_mem_cons.mpr ⟨(s_sipush (by decide +kernel : decode cX0_init 5 = .ok (.sipush 1800, 3)) (by decide)).to, ?_⟩
  refine List.forall_mem_cons.mpr ⟨(s_newa (kd := 0) (ty := .int) (by decide +kernel : decode cX0_init 8 = .ok (.newarray .int, 2)) rfl rfl wd195 (by decide) (by decide) (fun _ _ h => h)).to, ?_⟩
  refine List.forall_mem_cons.mpr ⟨(s_putF (ci := 0) (k := 0) (by decide +kernel : decode cX0_init 10 = .ok (.putfield 9, 3)) rfl (by decide) wd202 inX0 tyX0_ok nmX0 rfl rfl rfl rfl).to, ?_⟩
  refine List.forall_mem_cons.mpr ⟨(s_aloadn (by decide +kernel : decode cX0_init 13 = .ok (.aload_n 0, 1)) rfl).to, ?_⟩
  refine List.forall_mem_cons.mpr ⟨(s_bipush (by decide +kernel : decode cX0_init 14 = .ok (.bipush 64, 2)) (by decide)).to, ?_⟩
  refine List.forall_mem_cons.mpr ⟨(s_newa (kd := 0) (ty := .int) (by decide +kernel : decode cX0_init 16 = .ok (.newarray .int, 2)) rfl rfl wd195 (by decide) (by decide) (fun _ _ h => h)).to, ?_⟩
  refine List.forall_mem_cons.mpr ⟨(s_putF (ci := 0) (k := 2) (by decide +kernel : decode cX0_init 18 = .ok (.putfield 15, 3)) rfl (by decide) wd206 inX0 tyX0_ok nmX0 rfl rfl rfl rfl).to, ?_⟩
  refine List.forall_mem_cons.mpr ⟨s_vret (by decide +kernel : decode cX0_init 21 = .ok (.return_, 1)) rfl, ?_⟩
  exact fun _ h => absurd h List.not_mem_nil
theorem sn_tX0_emit : ∀ q ∈ tX0_emit, am_Snd am_P0 RX0 cX0_emit 2 (Option.none : Option FieldType) "emit" q.1 q.2 := by
  unfold tX0_emit
  refine List.forall_mem_cons.mpr ⟨(s_aloadn (by decide +kernel : decode cX0_emit 0 = .ok (.aload_n 0, 1)) rfl).to, ?_⟩
  refine List.forall_mem_cons.mpr ⟨(s_get (ci := 0) (k := 1) (by decide +kernel : decode cX0_emit 1 = .ok (.getfield 18, 3)) rfl (by decide) wd203 inX0 rfl).to, ?_⟩
  refine List.forall_mem_cons.mpr ⟨(s_sipush (by decide +kernel : decode cX0_emit 4 = .ok (.sipush 1800, 3)) (by decide)).to, ?_⟩
  refine List.forall_mem_cons.mpr ⟨(s_icmp_ge (by decide +kernel : decode cX0_emit 7 = .ok (.if_icmp .ge 23, 3)) (by decide)).to, ?_⟩
  refine List.forall_mem_cons.mpr ⟨(s_aloadn (by decide +kernel : decode cX0_emit 10 = .ok (.aload_n 0, 1)) rfl).to, ?_⟩
  refine List.forall_mem_cons.mpr ⟨(s_get (ci := 0) (k := 0) (by decide +kernel : decode cX0_emit 11 = .ok (.getfield 9, 3)) rfl (by decide) wd202 inX0 rfl).to, ?_⟩
  refine List.forall_mem_cons.mpr ⟨(s_aloadn (by decide +kernel : decode cX0_emit 14 = .ok (.aload_n 0, 1)) rfl).to, ?_⟩
  refine List.forall_mem_cons.mpr ⟨(s_get (ci := 0) (k := 1) (by decide +kernel : decode cX0_emit 15 = .ok (.getfield 18, 3)) rfl (by decide) wd203 inX0 rfl).to, ?_⟩
  refine List.forall_mem_cons.mpr ⟨(s_iloadn (by decide +kernel : decode cX0_emit 18 = .ok (.iload_n 1, 1)) rfl).to, ?_⟩
  refine List.forall_mem_cons.mpr ⟨(s_iast (by decide +kernel : decode cX0_emit 19 = .ok (.iastore, 1))).to, ?_⟩
  refine List.forall_mem_cons.mpr ⟨(s_aloadn (by decide +kernel : decode cX0_emit 20 = .ok (.aload_n 0, 1)) rfl).to, ?_⟩
  refine List.forall_mem_cons.mpr ⟨(s_dup (by decide +kernel : decode cX0_emit 21 = .ok (.dup, 1))).to, ?_⟩
  refine List.forall_mem_cons.mpr ⟨(s_get (ci := 0) (k := 1) (by decide +kernel : decode cX0_emit 22 = .ok (.getfield 18, 3)) rfl (by decide) wd203 inX0 rfl).to, ?_⟩
  refine List.forall_mem_cons.mpr ⟨(s_iconst (by decide +kernel : decode cX0_emit 25 = .ok (.iconst 1, 1)) (by decide)).to, ?_⟩
  refine List.forall_mem_cons.mpr ⟨(s_iadd (by decide +kernel : decode cX0_emit 26 = .ok (.iadd, 1))).to, ?_⟩
  refine List.forall_mem_cons.mpr ⟨(s_put (ci := 0) (k := 1) (by decide +kernel : decode cX0_emit 27 = .ok (.putfield 18, 3)) rfl (by decide) wd203 inX0 tyX0_ok nmX0 rfl rfl).to, ?_⟩
  refine List.forall_mem_cons.mpr ⟨s_vret (by decide +kernel : decode cX0_emit 30 = .ok (.return_, 1)) rfl, ?_⟩
  exact fun _ h => absurd h List.not_mem_nil
theorem sn_tX0_valueOf_0 : ∀ q ∈ tX0_valueOf_0, am_Snd am_P0 RX0 cX0_valueOf 11 (Option.some FieldType.int) "valueOf" q.1 q.2 := by
  unfold tX0_valueOf_0
  refine List.forall_mem_cons.mpr ⟨(s_iconst (by decide +kernel : decode cX0_valueOf 0 = .ok (.iconst 0, 1)) (by decide)).to, ?_⟩
  refine List.forall_mem_cons.mpr ⟨(s_istore (by decide +kernel : decode cX0_valueOf 1 = .ok (.istore 6, 2)) (by decide)).to, ?_⟩
  refine List.forall_mem_cons.mpr ⟨(s_iloadn (by decide +kernel : decode cX0_valueOf 3 = .ok (.iload_n 1, 1)) rfl).to, ?_⟩
  refine List.forall_mem_cons.mpr ⟨(s_istore (by decide +kernel : decode cX0_valueOf 4 = .ok (.istore 7, 2)) (by decide)).to, ?_⟩
  refine List.forall_mem_cons.mpr ⟨(s_iload (by decide +kernel : decode cX0_valueOf 6 = .ok (.iload 7, 2))).to, ?_⟩
  refine List.forall_mem_cons.mpr ⟨(s_iloadn (by decide +kernel : decode cX0_valueOf 8 = .ok (.iload_n 2, 1)) rfl).to, ?_⟩
  refine List.forall_mem_cons.mpr ⟨(s_icmp_ge (by decide +kernel : decode cX0_valueOf 9 = .ok (.if_icmp .ge 155, 3)) (by decide)).to, ?_⟩
  refine List.forall_mem_cons.mpr ⟨(s_aloadn (by decide +kernel : decode cX0_valueOf 12 = .ok (.aload_n 0, 1)) rfl).to, ?_⟩
  refine List.forall_mem_cons.mpr ⟨(s_get (ci := 0) (k := 0) (by decide +kernel : decode cX0_valueOf 13 = .ok (.getfield 9, 3)) rfl (by decide) wd202 inX0 rfl).to, ?_⟩
  refine List.forall_mem_cons.mpr ⟨(s_iload (by decide +kernel : decode cX0_valueOf 16 = .ok (.iload 7, 2))).to, ?_⟩
  refine List.forall_mem_cons.mpr ⟨(s_iald (by decide +kernel : decode cX0_valueOf 18 = .ok (.iaload, 1))).to, ?_⟩
  refine List.forall_mem_cons.mpr ⟨(s_istore (by decide +kernel : decode cX0_valueOf 19 = .ok (.istore 8, 2)) (by decide)).to, ?_⟩
  refine List.forall_mem_cons.mpr ⟨(s_iload (by decide +kernel : decode cX0_valueOf 21 = .ok (.iload 8, 2))).to, ?_⟩
  refine List.forall_mem_cons.mpr ⟨(s_bipush (by decide +kernel : decode cX0_valueOf 23 = .ok (.bipush (-4), 2)) (by decide)).to, ?_⟩
  refine List.forall_mem_cons.mpr ⟨(s_icmp_lt (by decide +kernel : decode cX0_valueOf 25 = .ok (.if_icmp .lt 35, 3)) (by decide)).to, ?_⟩
  refine List.forall_mem_cons.mpr ⟨(s_iload (by decide +kernel : decode cX0_valueOf 28 = .ok (.iload 6, 2))).to, ?_⟩
  refine List.forall_mem_cons.mpr ⟨(s_bipush (by decide +kernel : decode cX0_valueOf 30 = .ok (.bipush 64, 2)) (by decide)).to, ?_⟩
  refine List.forall_mem_cons.mpr ⟨(s_icmp_lt (by decide +kernel : decode cX0_valueOf 32 = .ok (.if_icmp .lt 5, 3)) (by decide)).to, ?_⟩
  refine List.forall_mem_cons.mpr ⟨(s_iconst (by decide +kernel : decode cX0_valueOf 35 = .ok (.iconst 0, 1)) (by decide)).to, ?_⟩
  refine List.forall_mem_cons.mpr ⟨s_iret (by decide +kernel : decode cX0_valueOf 36 = .ok (.ireturn, 1)) rfl, ?_⟩
  refine List.forall_mem_cons.mpr ⟨(s_aloadn (by decide +kernel : decode cX0_valueOf 37 = .ok (.aload_n 0, 1)) rfl).to, ?_⟩
  refine List.forall_mem_cons.mpr ⟨(s_get (ci := 0) (k := 2) (by decide +kernel : decode cX0_valueOf 38 = .ok (.getfield 15, 3)) rfl (by decide) wd206 inX0 rfl).to, ?_⟩
  refine List.forall_mem_cons.mpr ⟨(s_iload (by decide +kernel : decode cX0_valueOf 41 = .ok (.iload 6, 2))).to, ?_⟩
  refine List.forall_mem_cons.mpr ⟨(s_iload (by decide +kernel : decode cX0_valueOf 43 = .ok (.iload 8, 2))).to, ?_⟩
  refine List.forall_mem_cons.mpr ⟨(s_iloadn (by decide +kernel : decode cX0_valueOf 45 = .ok (.iload_n 3, 1)) rfl).to, ?_⟩
  refine List.forall_mem_cons.mpr ⟨(s_iload (by decide +kernel : decode cX0_valueOf 46 = .ok (.iload 4, 2))).to, ?_⟩
  refine List.forall_mem_cons.mpr ⟨(s_iload (by decide +kernel : decode cX0_valueOf 48 = .ok (.iload 5, 2))).to, ?_⟩
  refine List.forall_mem_cons.mpr ⟨z_cs (by decide +kernel : decode cX0_valueOf 50 = .ok (.invokestatic 22, 3)) mt3 wd865, ?_⟩
  refine List.forall_mem_cons.mpr ⟨(s_iast (by decide +kernel : decode cX0_valueOf 53 = .ok (.iastore, 1))).to, ?_⟩
  refine List.forall_mem_cons.mpr ⟨(s_iinc (by decide +kernel : decode cX0_valueOf 54 = .ok (.iinc 6 1, 3)) (by decide) (by decide)).to, ?_⟩
  refine List.forall_mem_cons.mpr ⟨(s_goto (by decide +kernel : decode cX0_valueOf 57 = .ok (.goto 101, 3)) (by decide)).to, ?_⟩
  refine List.forall_mem_cons.mpr ⟨(s_iload (by decide +kernel : decode cX0_valueOf 60 = .ok (.iload 8, 2))).to, ?_⟩
  refine List.forall_mem_cons.mpr ⟨(s_bipush (by decide +kernel : decode cX0_valueOf 62 = .ok (.bipush (-5), 2)) (by decide)).to, ?_⟩
  refine List.forall_mem_cons.mpr ⟨(s_icmp_ne (by decide +kernel : decode cX0_valueOf 64 = .ok (.if_icmp .ne 34, 3)) (by decide)).to, ?_⟩
  refine List.forall_mem_cons.mpr ⟨(s_iload (by decide +kernel : decode cX0_valueOf 67 = .ok (.iload 6, 2))).to, ?_⟩
  refine List.forall_mem_cons.mpr ⟨(s_iconst (by decide +kernel : decode cX0_valueOf 69 = .ok (.iconst 1, 1)) (by decide)).to, ?_⟩
  refine List.forall_mem_cons.mpr ⟨(s_icmp_ge (by decide +kernel : decode cX0_valueOf 70 = .ok (.if_icmp .ge 5, 3)) (by decide)).to, ?_⟩
  refine List.forall_mem_cons.mpr ⟨(s_iconst (by decide +kernel : decode cX0_valueOf 73 = .ok (.iconst 0, 1)) (by decide)).to, ?_⟩
  refine List.forall_mem_cons.mpr ⟨s_iret (by decide +kernel : decode cX0_valueOf 74 = .ok (.ireturn, 1)) rfl, ?_⟩
  refine List.forall_mem_cons.mpr ⟨(s_aloadn (by decide +kernel : decode cX0_valueOf 75 = .ok (.aload_n 0, 1)) rfl).to, ?_⟩
  refine List.forall_mem_cons.mpr ⟨(s_get (ci := 0) (k := 2) (by decide +kernel : decode cX0_valueOf 76 = .ok (.getfield 15, 3)) rfl (by decide) wd206 inX0 rfl).to, ?_⟩
  refine List.forall_mem_cons.mpr ⟨(s_iload (by decide +kernel : decode cX0_valueOf 79 = .ok (.iload 6, 2))).to, ?_⟩
  refine List.forall_mem_cons.mpr ⟨(s_iconst (by decide +kernel : decode cX0_valueOf 81 = .ok (.iconst 1, 1)) (by decide)).to, ?_⟩
  refine List.forall_mem_cons.mpr ⟨(s_isub (by decide +kernel : decode cX0_valueOf 82 = .ok (.isub, 1))).to, ?_⟩
  refine List.forall_mem_cons.mpr ⟨(s_iconst (by decide +kernel : decode cX0_valueOf 83 = .ok (.iconst 1, 1)) (by decide)).to, ?_⟩
  refine List.forall_mem_cons.mpr ⟨(s_aloadn (by decide +kernel : decode cX0_valueOf 84 = .ok (.aload_n 0, 1)) rfl).to, ?_⟩
  refine List.forall_mem_cons.mpr ⟨(s_get (ci := 0) (k := 2) (by decide +kernel : decode cX0_valueOf 85 = .ok (.getfield 15, 3)) rfl (by decide) wd206 inX0 rfl).to, ?_⟩
  refine List.forall_mem_cons.mpr ⟨(s_iload (by decide +kernel : decode cX0_valueOf 88 = .ok (.iload 6, 2))).to, ?_⟩
  refine List.forall_mem_cons.mpr ⟨(s_iconst (by decide +kernel : decode cX0_valueOf 90 = .ok (.iconst 1, 1)) (by decide)).to, ?_⟩
  refine List.forall_mem_cons.mpr ⟨(s_isub (by decide +kernel : decode cX0_valueOf 91 = .ok (.isub, 1))).to, ?_⟩
  refine List.forall_mem_cons.mpr ⟨(s_iald (by decide +kernel : decode cX0_valueOf 92 = .ok (.iaload, 1))).to, ?_⟩
  refine List.forall_mem_cons.mpr ⟨(s_isub (by decide +kernel : decode cX0_valueOf 93 = .ok (.isub, 1))).to, ?_⟩
  refine List.forall_mem_cons.mpr ⟨(s_iast (by decide +kernel : decode cX0_valueOf 94 = .ok (.iastore, 1))).to, ?_⟩
  refine List.forall_mem_cons.mpr ⟨(s_goto (by decide +kernel : decode cX0_valueOf 95 = .ok (.goto 63, 3)) (by decide)).to, ?_⟩
  refine List.forall_mem_cons.mpr ⟨(s_iload (by decide +kernel : decode cX0_valueOf 98 = .ok (.iload 6, 2))).to, ?_⟩
  refine List.forall_mem_cons.mpr ⟨(s_iconst (by decide +kernel : decode cX0_valueOf 100 = .ok (.iconst 2, 1)) (by decide)).to, ?_⟩
  refine List.forall_mem_cons.mpr ⟨(s_icmp_ge (by decide +kernel : decode cX0_valueOf 101 = .ok (.if_icmp .ge 5, 3)) (by decide)).to, ?_⟩
  refine List.forall_mem_cons.mpr ⟨(s_iconst (by decide +kernel : decode cX0_valueOf 104 = .ok (.iconst 0, 1)) (by decide)).to, ?_⟩
  refine List.forall_mem_cons.mpr ⟨s_iret (by decide +kernel : decode cX0_valueOf 105 = .ok (.ireturn, 1)) rfl, ?_⟩
  refine List.forall_mem_cons.mpr ⟨(s_iinc (by decide +kernel : decode cX0_valueOf 106 = .ok (.iinc 6 (-1), 3)) (by decide) (by decide)).to, ?_⟩
  exact fun _ h => absurd h List.not_mem_nil
theorem sn_tX0_valueOf_1 : ∀ q ∈ tX0_valueOf_1, am_Snd am_P0 RX0 cX0_valueOf 11 (Option.some FieldType.int) "valueOf" q.1 q.2 := by
  unfold tX0_valueOf_1
  refine List.forall_mem_cons.mpr ⟨(s_iload (by decide +kernel : decode cX0_valueOf 109 = .ok (.iload 8, 2))).to, ?_⟩
  refine List.forall_mem_cons.mpr ⟨(s_aloadn (by decide +kernel : decode cX0_valueOf 111 = .ok (.aload_n 0, 1)) rfl).to, ?_⟩
  refine List.forall_mem_cons.mpr ⟨(s_get (ci := 0) (k := 2) (by decide +kernel : decode cX0_valueOf 112 = .ok (.getfield 15, 3)) rfl (by decide) wd206 inX0 rfl).to, ?_⟩
  refine List.forall_mem_cons.mpr ⟨(s_iload (by decide +kernel : decode cX0_valueOf 115 = .ok (.iload 6, 2))).to, ?_⟩
  refine List.forall_mem_cons.mpr ⟨(s_iconst (by decide +kernel : decode cX0_valueOf 117 = .ok (.iconst 1, 1)) (by decide)).to, ?_⟩
  refine List.forall_mem_cons.mpr ⟨(s_isub (by decide +kernel : decode cX0_valueOf 118 = .ok (.isub, 1))).to, ?_⟩
  refine List.forall_mem_cons.mpr ⟨(s_iald (by decide +kernel : decode cX0_valueOf 119 = .ok (.iaload, 1))).to, ?_⟩
  refine List.forall_mem_cons.mpr ⟨(s_i2l (by decide +kernel : decode cX0_valueOf 120 = .ok (.i2l, 1))).to, ?_⟩
  refine List.forall_mem_cons.mpr ⟨(s_aloadn (by decide +kernel : decode cX0_valueOf 121 = .ok (.aload_n 0, 1)) rfl).to, ?_⟩
  refine List.forall_mem_cons.mpr ⟨(s_get (ci := 0) (k := 2) (by decide +kernel : decode cX0_valueOf 122 = .ok (.getfield 15, 3)) rfl (by decide) wd206 inX0 rfl).to, ?_⟩
  refine List.forall_mem_cons.mpr ⟨(s_iload (by decide +kernel : decode cX0_valueOf 125 = .ok (.iload 6, 2))).to, ?_⟩
  refine List.forall_mem_cons.mpr ⟨(s_iald (by decide +kernel : decode cX0_valueOf 127 = .ok (.iaload, 1))).to, ?_⟩
  refine List.forall_mem_cons.mpr ⟨(s_i2l (by decide +kernel : decode cX0_valueOf 128 = .ok (.i2l, 1))).to, ?_⟩
  refine List.forall_mem_cons.mpr ⟨z_cs (by decide +kernel : decode cX0_valueOf 129 = .ok (.invokestatic 26, 3)) mt4 wd868, ?_⟩
  refine List.forall_mem_cons.mpr ⟨(s_lstore (by decide +kernel : decode cX0_valueOf 132 = .ok (.lstore 9, 2)) (by decide)).to, ?_⟩
  refine List.forall_mem_cons.mpr ⟨(s_aloadn (by decide +kernel : decode cX0_valueOf 134 = .ok (.aload_n 0, 1)) rfl).to, ?_⟩
  refine List.forall_mem_cons.mpr ⟨(s_get (ci := 0) (k := 2) (by decide +kernel : decode cX0_valueOf 135 = .ok (.getfield 15, 3)) rfl (by decide) wd206 inX0 rfl).to, ?_⟩
  refine List.forall_mem_cons.mpr ⟨(s_iload (by decide +kernel : decode cX0_valueOf 138 = .ok (.iload 6, 2))).to, ?_⟩
  refine List.forall_mem_cons.mpr ⟨(s_iconst (by decide +kernel : decode cX0_valueOf 140 = .ok (.iconst 1, 1)) (by decide)).to, ?_⟩
  refine List.forall_mem_cons.mpr ⟨(s_isub (by decide +kernel : decode cX0_valueOf 141 = .ok (.isub, 1))).to, ?_⟩
  refine List.forall_mem_cons.mpr ⟨(s_ldc2 (by decide +kernel : decode cX0_valueOf 142 = .ok (.ldc2_w 30, 3)) wd883).to, ?_⟩
  refine List.forall_mem_cons.mpr ⟨(s_ldc2 (by decide +kernel : decode cX0_valueOf 145 = .ok (.ldc2_w 32, 3)) wd884).to, ?_⟩
  refine List.forall_mem_cons.mpr ⟨(s_lload (by decide +kernel : decode cX0_valueOf 148 = .ok (.lload 9, 2))).to, ?_⟩
  refine List.forall_mem_cons.mpr ⟨z_cs (by decide +kernel : decode cX0_valueOf 150 = .ok (.invokestatic 34, 3)) mt310 wd877, ?_⟩
  refine List.forall_mem_cons.mpr ⟨z_cs (by decide +kernel : decode cX0_valueOf 153 = .ok (.invokestatic 40, 3)) mt308 wd880, ?_⟩
  refine List.forall_mem_cons.mpr ⟨(s_l2i (by decide +kernel : decode cX0_valueOf 156 = .ok (.l2i, 1))).to, ?_⟩
  refine List.forall_mem_cons.mpr ⟨(s_iast (by decide +kernel : decode cX0_valueOf 157 = .ok (.iastore, 1))).to, ?_⟩
  refine List.forall_mem_cons.mpr ⟨(s_iinc (by decide +kernel : decode cX0_valueOf 158 = .ok (.iinc 7 1, 3)) (by decide) (by decide)).to, ?_⟩
  refine List.forall_mem_cons.mpr ⟨(s_goto (by decide +kernel : decode cX0_valueOf 161 = .ok (.goto (-155), 3)) (by decide)).to, ?_⟩
  refine List.forall_mem_cons.mpr ⟨(s_iload (by decide +kernel : decode cX0_valueOf 164 = .ok (.iload 6, 2))).to, ?_⟩
  refine List.forall_mem_cons.mpr ⟨(s_if_le (by decide +kernel : decode cX0_valueOf 166 = .ok (.ifCond .le 15, 3)) (by decide)).to, ?_⟩
  refine List.forall_mem_cons.mpr ⟨(s_aloadn (by decide +kernel : decode cX0_valueOf 169 = .ok (.aload_n 0, 1)) rfl).to, ?_⟩
  refine List.forall_mem_cons.mpr ⟨(s_get (ci := 0) (k := 2) (by decide +kernel : decode cX0_valueOf 170 = .ok (.getfield 15, 3)) rfl (by decide) wd206 inX0 rfl).to, ?_⟩
  refine List.forall_mem_cons.mpr ⟨(s_iload (by decide +kernel : decode cX0_valueOf 173 = .ok (.iload 6, 2))).to, ?_⟩
  refine List.forall_mem_cons.mpr ⟨(s_iconst (by decide +kernel : decode cX0_valueOf 175 = .ok (.iconst 1, 1)) (by decide)).to, ?_⟩
  refine List.forall_mem_cons.mpr ⟨(s_isub (by decide +kernel : decode cX0_valueOf 176 = .ok (.isub, 1))).to, ?_⟩
  refine List.forall_mem_cons.mpr ⟨(s_iald (by decide +kernel : decode cX0_valueOf 177 = .ok (.iaload, 1))).to, ?_⟩
  refine List.forall_mem_cons.mpr ⟨(s_goto (by decide +kernel : decode cX0_valueOf 178 = .ok (.goto 4, 3)) (by decide)).to, ?_⟩
  refine List.forall_mem_cons.mpr ⟨(s_iconst (by decide +kernel : decode cX0_valueOf 181 = .ok (.iconst 0, 1)) (by decide)).to, ?_⟩
  refine List.forall_mem_cons.mpr ⟨s_iret (by decide +kernel : decode cX0_valueOf 182 = .ok (.ireturn, 1)) rfl, ?_⟩
  exact fun _ h => absurd h List.not_mem_nil
theorem sn_tX0_valueOf : ∀ q ∈ tX0_valueOf, am_Snd am_P0 RX0 cX0_valueOf 11 (Option.some FieldType.int) "valueOf" q.1 q.2 := by
  unfold tX0_valueOf
  exact List.forall_mem_append.mpr ⟨sn_tX0_valueOf_0, sn_tX0_valueOf_1⟩
theorem sn_tX0_partOf : ∀ q ∈ tX0_partOf, am_Snd am_P0 RX0 cX0_partOf 4 (Option.some FieldType.int) "partOf" q.1 q.2 := by
  unfold tX0_partOf
  refine List.forall_mem_cons.mpr ⟨(s_iloadn (by decide +kernel : decode cX0_partOf 0 = .ok (.iload_n 0, 1)) rfl).to, ?_⟩
  refine List.forall_mem_cons.mpr ⟨(s_table (by decide +kernel : decode cX0_partOf 1 = .ok (.tableswitch 45 (-4) (-1) #[43, 41, 36, 31], 31)) (by decide) (by decide) (by decide) (by decide)).to, ?_⟩
  refine List.forall_mem_cons.mpr ⟨(s_iloadn (by decide +kernel : decode cX0_partOf 32 = .ok (.iload_n 1, 1)) rfl).to, ?_⟩
  refine List.forall_mem_cons.mpr ⟨(s_bipush (by decide +kernel : decode cX0_partOf 33 = .ok (.bipush 16, 2)) (by decide)).to, ?_⟩
  refine List.forall_mem_cons.mpr ⟨(s_irem (by decide +kernel : decode cX0_partOf 35 = .ok (.irem, 1))).to, ?_⟩
  refine List.forall_mem_cons.mpr ⟨s_iret (by decide +kernel : decode cX0_partOf 36 = .ok (.ireturn, 1)) rfl, ?_⟩
  refine List.forall_mem_cons.mpr ⟨(s_iloadn (by decide +kernel : decode cX0_partOf 37 = .ok (.iload_n 1, 1)) rfl).to, ?_⟩
  refine List.forall_mem_cons.mpr ⟨(s_bipush (by decide +kernel : decode cX0_partOf 38 = .ok (.bipush 16, 2)) (by decide)).to, ?_⟩
  refine List.forall_mem_cons.mpr ⟨(s_idiv (by decide +kernel : decode cX0_partOf 40 = .ok (.idiv, 1))).to, ?_⟩
  refine List.forall_mem_cons.mpr ⟨s_iret (by decide +kernel : decode cX0_partOf 41 = .ok (.ireturn, 1)) rfl, ?_⟩
  refine List.forall_mem_cons.mpr ⟨(s_iloadn (by decide +kernel : decode cX0_partOf 42 = .ok (.iload_n 2, 1)) rfl).to, ?_⟩
  refine List.forall_mem_cons.mpr ⟨s_iret (by decide +kernel : decode cX0_partOf 43 = .ok (.ireturn, 1)) rfl, ?_⟩
  refine List.forall_mem_cons.mpr ⟨(s_iloadn (by decide +kernel : decode cX0_partOf 44 = .ok (.iload_n 3, 1)) rfl).to, ?_⟩
  refine List.forall_mem_cons.mpr ⟨s_iret (by decide +kernel : decode cX0_partOf 45 = .ok (.ireturn, 1)) rfl, ?_⟩
  refine List.forall_mem_cons.mpr ⟨(s_iloadn (by decide +kernel : decode cX0_partOf 46 = .ok (.iload_n 0, 1)) rfl).to, ?_⟩
  refine List.forall_mem_cons.mpr ⟨s_iret (by decide +kernel : decode cX0_partOf 47 = .ok (.ireturn, 1)) rfl, ?_⟩
  exact fun _ h => absurd h List.not_mem_nil
theorem sn_tX0_joined_0 : ∀ q ∈ tX0_joined_0, am_Snd am_P0 RX0 cX0_joined 5 (Option.some FieldType.long) "joined" q.1 q.2 := by
  unfold tX0_joined_0
  refine List.forall_mem_cons.mpr ⟨(s_iloadn (by decide +kernel : decode cX0_joined 0 = .ok (.iload_n 0, 1)) rfl).to, ?_⟩
  refine List.forall_mem_cons.mpr ⟨(s_table (by decide +kernel : decode cX0_joined 1 = .ok (.tableswitch 155 (-16) (-6) #[151, 139, 127, 115, 109, 103, 87, 71, 67, 63, 59], 59)) (by decide) (by decide) (by decide) (by decide)).to, ?_⟩
  refine List.forall_mem_cons.mpr ⟨(s_lloadn (by decide +kernel : decode cX0_joined 60 = .ok (.lload_n 1, 1)) rfl).to, ?_⟩
  refine List.forall_mem_cons.mpr ⟨(s_lloadn (by decide +kernel : decode cX0_joined 61 = .ok (.lload_n 3, 1)) rfl).to, ?_⟩
  refine List.forall_mem_cons.mpr ⟨(s_ladd (by decide +kernel : decode cX0_joined 62 = .ok (.ladd, 1))).to, ?_⟩
  refine List.forall_mem_cons.mpr ⟨s_lret (by decide +kernel : decode cX0_joined 63 = .ok (.lreturn, 1)) rfl, ?_⟩
  refine List.forall_mem_cons.mpr ⟨(s_lloadn (by decide +kernel : decode cX0_joined 64 = .ok (.lload_n 1, 1)) rfl).to, ?_⟩
  refine List.forall_mem_cons.mpr ⟨(s_lloadn (by decide +kernel : decode cX0_joined 65 = .ok (.lload_n 3, 1)) rfl).to, ?_⟩
  refine List.forall_mem_cons.mpr ⟨(s_lsub (by decide +kernel : decode cX0_joined 66 = .ok (.lsub, 1))).to, ?_⟩
  refine List.forall_mem_cons.mpr ⟨s_lret (by decide +kernel : decode cX0_joined 67 = .ok (.lreturn, 1)) rfl, ?_⟩
  refine List.forall_mem_cons.mpr ⟨(s_lloadn (by decide +kernel : decode cX0_joined 68 = .ok (.lload_n 1, 1)) rfl).to, ?_⟩
  refine List.forall_mem_cons.mpr ⟨(s_lloadn (by decide +kernel : decode cX0_joined 69 = .ok (.lload_n 3, 1)) rfl).to, ?_⟩
  refine List.forall_mem_cons.mpr ⟨(s_lmul (by decide +kernel : decode cX0_joined 70 = .ok (.lmul, 1))).to, ?_⟩
  refine List.forall_mem_cons.mpr ⟨s_lret (by decide +kernel : decode cX0_joined 71 = .ok (.lreturn, 1)) rfl, ?_⟩
  refine List.forall_mem_cons.mpr ⟨(s_lloadn (by decide +kernel : decode cX0_joined 72 = .ok (.lload_n 3, 1)) rfl).to, ?_⟩
  refine List.forall_mem_cons.mpr ⟨(s_lconst (by decide +kernel : decode cX0_joined 73 = .ok (.lconst 0, 1)) (by decide)).to, ?_⟩
  refine List.forall_mem_cons.mpr ⟨(s_lcmp (by decide +kernel : decode cX0_joined 74 = .ok (.lcmp, 1))).to, ?_⟩
  refine List.forall_mem_cons.mpr ⟨(s_if_ne (by decide +kernel : decode cX0_joined 75 = .ok (.ifCond .ne 7, 3)) (by decide)).to, ?_⟩
  refine List.forall_mem_cons.mpr ⟨(s_lconst (by decide +kernel : decode cX0_joined 78 = .ok (.lconst 0, 1)) (by decide)).to, ?_⟩
  refine List.forall_mem_cons.mpr ⟨(s_goto (by decide +kernel : decode cX0_joined 79 = .ok (.goto 8, 3)) (by decide)).to, ?_⟩
  refine List.forall_mem_cons.mpr ⟨(s_lloadn (by decide +kernel : decode cX0_joined 82 = .ok (.lload_n 1, 1)) rfl).to, ?_⟩
  refine List.forall_mem_cons.mpr ⟨(s_lloadn (by decide +kernel : decode cX0_joined 83 = .ok (.lload_n 3, 1)) rfl).to, ?_⟩
  refine List.forall_mem_cons.mpr ⟨z_cs (by decide +kernel : decode cX0_joined 84 = .ok (.invokestatic 43, 3)) mt304 wd871, ?_⟩
  refine List.forall_mem_cons.mpr ⟨s_lret (by decide +kernel : decode cX0_joined 87 = .ok (.lreturn, 1)) rfl, ?_⟩
  refine List.forall_mem_cons.mpr ⟨(s_lloadn (by decide +kernel : decode cX0_joined 88 = .ok (.lload_n 3, 1)) rfl).to, ?_⟩
  refine List.forall_mem_cons.mpr ⟨(s_lconst (by decide +kernel : decode cX0_joined 89 = .ok (.lconst 0, 1)) (by decide)).to, ?_⟩
  refine List.forall_mem_cons.mpr ⟨(s_lcmp (by decide +kernel : decode cX0_joined 90 = .ok (.lcmp, 1))).to, ?_⟩
  refine List.forall_mem_cons.mpr ⟨(s_if_ne (by decide +kernel : decode cX0_joined 91 = .ok (.ifCond .ne 7, 3)) (by decide)).to, ?_⟩
  refine List.forall_mem_cons.mpr ⟨(s_lconst (by decide +kernel : decode cX0_joined 94 = .ok (.lconst 0, 1)) (by decide)).to, ?_⟩
  refine List.forall_mem_cons.mpr ⟨(s_goto (by decide +kernel : decode cX0_joined 95 = .ok (.goto 8, 3)) (by decide)).to, ?_⟩
  refine List.forall_mem_cons.mpr ⟨(s_lloadn (by decide +kernel : decode cX0_joined 98 = .ok (.lload_n 1, 1)) rfl).to, ?_⟩
  refine List.forall_mem_cons.mpr ⟨(s_lloadn (by decide +kernel : decode cX0_joined 99 = .ok (.lload_n 3, 1)) rfl).to, ?_⟩
  refine List.forall_mem_cons.mpr ⟨z_cs (by decide +kernel : decode cX0_joined 100 = .ok (.invokestatic 46, 3)) mt305 wd874, ?_⟩
  refine List.forall_mem_cons.mpr ⟨s_lret (by decide +kernel : decode cX0_joined 103 = .ok (.lreturn, 1)) rfl, ?_⟩
  refine List.forall_mem_cons.mpr ⟨(s_lloadn (by decide +kernel : decode cX0_joined 104 = .ok (.lload_n 1, 1)) rfl).to, ?_⟩
  refine List.forall_mem_cons.mpr ⟨(s_lloadn (by decide +kernel : decode cX0_joined 105 = .ok (.lload_n 3, 1)) rfl).to, ?_⟩
  refine List.forall_mem_cons.mpr ⟨z_cs (by decide +kernel : decode cX0_joined 106 = .ok (.invokestatic 34, 3)) mt310 wd877, ?_⟩
  refine List.forall_mem_cons.mpr ⟨s_lret (by decide +kernel : decode cX0_joined 109 = .ok (.lreturn, 1)) rfl, ?_⟩
  refine List.forall_mem_cons.mpr ⟨(s_lloadn (by decide +kernel : decode cX0_joined 110 = .ok (.lload_n 1, 1)) rfl).to, ?_⟩
  refine List.forall_mem_cons.mpr ⟨(s_lloadn (by decide +kernel : decode cX0_joined 111 = .ok (.lload_n 3, 1)) rfl).to, ?_⟩
  refine List.forall_mem_cons.mpr ⟨z_cs (by decide +kernel : decode cX0_joined 112 = .ok (.invokestatic 40, 3)) mt308 wd880, ?_⟩
  refine List.forall_mem_cons.mpr ⟨s_lret (by decide +kernel : decode cX0_joined 115 = .ok (.lreturn, 1)) rfl, ?_⟩
  refine List.forall_mem_cons.mpr ⟨(s_lloadn (by decide +kernel : decode cX0_joined 116 = .ok (.lload_n 1, 1)) rfl).to, ?_⟩
  refine List.forall_mem_cons.mpr ⟨(s_lloadn (by decide +kernel : decode cX0_joined 117 = .ok (.lload_n 3, 1)) rfl).to, ?_⟩
  refine List.forall_mem_cons.mpr ⟨(s_lcmp (by decide +kernel : decode cX0_joined 118 = .ok (.lcmp, 1))).to, ?_⟩
  refine List.forall_mem_cons.mpr ⟨(s_if_ge (by decide +kernel : decode cX0_joined 119 = .ok (.ifCond .ge 7, 3)) (by decide)).to, ?_⟩
  refine List.forall_mem_cons.mpr ⟨(s_lconst (by decide +kernel : decode cX0_joined 122 = .ok (.lconst 1, 1)) (by decide)).to, ?_⟩
  refine List.forall_mem_cons.mpr ⟨(s_goto (by decide +kernel : decode cX0_joined 123 = .ok (.goto 4, 3)) (by decide)).to, ?_⟩
  refine List.forall_mem_cons.mpr ⟨(s_lconst (by decide +kernel : decode cX0_joined 126 = .ok (.lconst 0, 1)) (by decide)).to, ?_⟩
  refine List.forall_mem_cons.mpr ⟨s_lret (by decide +kernel : decode cX0_joined 127 = .ok (.lreturn, 1)) rfl, ?_⟩
  refine List.forall_mem_cons.mpr ⟨(s_lloadn (by decide +kernel : decode cX0_joined 128 = .ok (.lload_n 1, 1)) rfl).to, ?_⟩
  refine List.forall_mem_cons.mpr ⟨(s_lloadn (by decide +kernel : decode cX0_joined 129 = .ok (.lload_n 3, 1)) rfl).to, ?_⟩
  refine List.forall_mem_cons.mpr ⟨(s_lcmp (by decide +kernel : decode cX0_joined 130 = .ok (.lcmp, 1))).to, ?_⟩
  refine List.forall_mem_cons.mpr ⟨(s_if_le (by decide +kernel : decode cX0_joined 131 = .ok (.ifCond .le 7, 3)) (by decide)).to, ?_⟩
  refine List.forall_mem_cons.mpr ⟨(s_lconst (by decide +kernel : decode cX0_joined 134 = .ok (.lconst 1, 1)) (by decide)).to, ?_⟩
  refine List.forall_mem_cons.mpr ⟨(s_goto (by decide +kernel : decode cX0_joined 135 = .ok (.goto 4, 3)) (by decide)).to, ?_⟩
  refine List.forall_mem_cons.mpr ⟨(s_lconst (by decide +kernel : decode cX0_joined 138 = .ok (.lconst 0, 1)) (by decide)).to, ?_⟩
  refine List.forall_mem_cons.mpr ⟨s_lret (by decide +kernel : decode cX0_joined 139 = .ok (.lreturn, 1)) rfl, ?_⟩
  refine List.forall_mem_cons.mpr ⟨(s_lloadn (by decide +kernel : decode cX0_joined 140 = .ok (.lload_n 1, 1)) rfl).to, ?_⟩
  refine List.forall_mem_cons.mpr ⟨(s_lloadn (by decide +kernel : decode cX0_joined 141 = .ok (.lload_n 3, 1)) rfl).to, ?_⟩
  exact fun _ h => absurd h List.not_mem_nil
theorem sn_tX0_joined_1 : ∀ q ∈ tX0_joined_1, am_Snd am_P0 RX0 cX0_joined 5 (Option.some FieldType.long) "joined" q.1 q.2 := by
  unfold tX0_joined_1
  refine List.forall_mem_cons.mpr ⟨(s_lcmp (by decide +kernel : decode cX0_joined 142 = .ok (.lcmp, 1))).to, ?_⟩
  refine List.forall_mem_cons.mpr ⟨(s_if_ne (by decide +kernel : decode cX0_joined 143 = .ok (.ifCond .ne 7, 3)) (by decide)).to, ?_⟩
  refine List.forall_mem_cons.mpr ⟨(s_lconst (by decide +kernel : decode cX0_joined 146 = .ok (.lconst 1, 1)) (by decide)).to, ?_⟩
  refine List.forall_mem_cons.mpr ⟨(s_goto (by decide +kernel : decode cX0_joined 147 = .ok (.goto 4, 3)) (by decide)).to, ?_⟩
  refine List.forall_mem_cons.mpr ⟨(s_lconst (by decide +kernel : decode cX0_joined 150 = .ok (.lconst 0, 1)) (by decide)).to, ?_⟩
  refine List.forall_mem_cons.mpr ⟨s_lret (by decide +kernel : decode cX0_joined 151 = .ok (.lreturn, 1)) rfl, ?_⟩
  refine List.forall_mem_cons.mpr ⟨(s_lloadn (by decide +kernel : decode cX0_joined 152 = .ok (.lload_n 1, 1)) rfl).to, ?_⟩
  refine List.forall_mem_cons.mpr ⟨(s_lloadn (by decide +kernel : decode cX0_joined 153 = .ok (.lload_n 3, 1)) rfl).to, ?_⟩
  refine List.forall_mem_cons.mpr ⟨(s_land (by decide +kernel : decode cX0_joined 154 = .ok (.land, 1))).to, ?_⟩
  refine List.forall_mem_cons.mpr ⟨s_lret (by decide +kernel : decode cX0_joined 155 = .ok (.lreturn, 1)) rfl, ?_⟩
  refine List.forall_mem_cons.mpr ⟨(s_lloadn (by decide +kernel : decode cX0_joined 156 = .ok (.lload_n 1, 1)) rfl).to, ?_⟩
  refine List.forall_mem_cons.mpr ⟨(s_lloadn (by decide +kernel : decode cX0_joined 157 = .ok (.lload_n 3, 1)) rfl).to, ?_⟩
  refine List.forall_mem_cons.mpr ⟨(s_lor (by decide +kernel : decode cX0_joined 158 = .ok (.lor, 1))).to, ?_⟩
  refine List.forall_mem_cons.mpr ⟨s_lret (by decide +kernel : decode cX0_joined 159 = .ok (.lreturn, 1)) rfl, ?_⟩
  exact fun _ h => absurd h List.not_mem_nil
theorem sn_tX0_joined : ∀ q ∈ tX0_joined, am_Snd am_P0 RX0 cX0_joined 5 (Option.some FieldType.long) "joined" q.1 q.2 := by
  unfold tX0_joined
  exact List.forall_mem_append.mpr ⟨sn_tX0_joined_0, sn_tX0_joined_1⟩
theorem sn_tX1_init : ∀ q ∈ tX1_init, am_Snd am_P0 RX1 cX1_init 1 (Option.none : Option FieldType) "<init>" q.1 q.2 := by
  unfold tX1_init
  refine List.forall_mem_cons.mpr ⟨(s_aloadn (by decide +kernel : decode cX1_init 0 = .ok (.aload_n 0, 1)) rfl).to, ?_⟩
  refine List.forall_mem_cons.mpr ⟨(s_obj (by decide +kernel : decode cX1_init 1 = .ok (.invokespecial 3, 3)) wd512 wd160 wd161).to, ?_⟩
  refine List.forall_mem_cons.mpr ⟨(s_aloadn (by decide +kernel : decode cX1_init 4 = .ok (.aload_n 0, 1)) rfl).to, ?_⟩
  refine List.forall_mem_cons.mpr ⟨(s_bipush (by decide +kernel : decode cX1_init 5 = .ok (.bipush 48, 2)) (by decide)).to, ?_⟩
  refine List.forall_mem_cons.mpr ⟨(s_newa (kd := 0) (ty := .int) (by decide +kernel : decode cX1_init 7 = .ok (.newarray .int, 2)) rfl rfl wd195 (by decide) (by decide) (fun _ _ h => h)).to, ?_⟩
  refine List.forall_mem_cons.mpr ⟨(s_putF (ci := 1) (k := 0) (by decide +kernel : decode cX1_init 9 = .ok (.putfield 9, 3)) rfl (by decide) wd513 inX1 tyX1_ok nmX1 rfl rfl rfl rfl).to, ?_⟩
  refine List.forall_mem_cons.mpr ⟨s_vret (by decide +kernel : decode cX1_init 12 = .ok (.return_, 1)) rfl, ?_⟩
  exact fun _ h => absurd h List.not_mem_nil
theorem sn_tX1_clear : ∀ q ∈ tX1_clear, am_Snd am_P0 RX1 cX1_clear 1 (Option.none : Option FieldType) "clear" q.1 q.2 := by
  unfold tX1_clear
  refine List.forall_mem_cons.mpr ⟨(s_aloadn (by decide +kernel : decode cX1_clear 0 = .ok (.aload_n 0, 1)) rfl).to, ?_⟩
  refine List.forall_mem_cons.mpr ⟨(s_get (ci := 1) (k := 0) (by decide +kernel : decode cX1_clear 1 = .ok (.getfield 9, 3)) rfl (by decide) wd513 inX1 rfl).to, ?_⟩
  refine List.forall_mem_cons.mpr ⟨(s_iconst (by decide +kernel : decode cX1_clear 4 = .ok (.iconst (-1), 1)) (by decide)).to, ?_⟩
  refine List.forall_mem_cons.mpr ⟨z_cs (by decide +kernel : decode cX1_clear 5 = .ok (.invokestatic 15, 3)) mt324 wd945, ?_⟩
  refine List.forall_mem_cons.mpr ⟨s_vret (by decide +kernel : decode cX1_clear 8 = .ok (.return_, 1)) rfl, ?_⟩
  exact fun _ h => absurd h List.not_mem_nil
theorem sn_tX1_put : ∀ q ∈ tX1_put, am_Snd am_P0 RX1 cX1_put 3 (Option.some FieldType.boolean) "put" q.1 q.2 := by
  unfold tX1_put
  refine List.forall_mem_cons.mpr ⟨(s_aloadn (by decide +kernel : decode cX1_put 0 = .ok (.aload_n 0, 1)) rfl).to, ?_⟩
  refine List.forall_mem_cons.mpr ⟨(s_get (ci := 1) (k := 0) (by decide +kernel : decode cX1_put 1 = .ok (.getfield 9, 3)) rfl (by decide) wd513 inX1 rfl).to, ?_⟩
  refine List.forall_mem_cons.mpr ⟨(s_iloadn (by decide +kernel : decode cX1_put 4 = .ok (.iload_n 1, 1)) rfl).to, ?_⟩
  refine List.forall_mem_cons.mpr ⟨(s_iald (by decide +kernel : decode cX1_put 5 = .ok (.iaload, 1))).to, ?_⟩
  refine List.forall_mem_cons.mpr ⟨(s_iconst (by decide +kernel : decode cX1_put 6 = .ok (.iconst (-1), 1)) (by decide)).to, ?_⟩
  refine List.forall_mem_cons.mpr ⟨(s_icmp_eq (by decide +kernel : decode cX1_put 7 = .ok (.if_icmp .eq 15, 3)) (by decide)).to, ?_⟩
  refine List.forall_mem_cons.mpr ⟨(s_aloadn (by decide +kernel : decode cX1_put 10 = .ok (.aload_n 0, 1)) rfl).to, ?_⟩
  refine List.forall_mem_cons.mpr ⟨(s_get (ci := 1) (k := 0) (by decide +kernel : decode cX1_put 11 = .ok (.getfield 9, 3)) rfl (by decide) wd513 inX1 rfl).to, ?_⟩
  refine List.forall_mem_cons.mpr ⟨(s_iloadn (by decide +kernel : decode cX1_put 14 = .ok (.iload_n 1, 1)) rfl).to, ?_⟩
  refine List.forall_mem_cons.mpr ⟨(s_iald (by decide +kernel : decode cX1_put 15 = .ok (.iaload, 1))).to, ?_⟩
  refine List.forall_mem_cons.mpr ⟨(s_iloadn (by decide +kernel : decode cX1_put 16 = .ok (.iload_n 2, 1)) rfl).to, ?_⟩
  refine List.forall_mem_cons.mpr ⟨(s_icmp_eq (by decide +kernel : decode cX1_put 17 = .ok (.if_icmp .eq 5, 3)) (by decide)).to, ?_⟩
  refine List.forall_mem_cons.mpr ⟨(s_iconst (by decide +kernel : decode cX1_put 20 = .ok (.iconst 0, 1)) (by decide)).to, ?_⟩
  refine List.forall_mem_cons.mpr ⟨s_zret (by decide +kernel : decode cX1_put 21 = .ok (.ireturn, 1)) rfl, ?_⟩
  refine List.forall_mem_cons.mpr ⟨(s_aloadn (by decide +kernel : decode cX1_put 22 = .ok (.aload_n 0, 1)) rfl).to, ?_⟩
  refine List.forall_mem_cons.mpr ⟨(s_get (ci := 1) (k := 0) (by decide +kernel : decode cX1_put 23 = .ok (.getfield 9, 3)) rfl (by decide) wd513 inX1 rfl).to, ?_⟩
  refine List.forall_mem_cons.mpr ⟨(s_iloadn (by decide +kernel : decode cX1_put 26 = .ok (.iload_n 1, 1)) rfl).to, ?_⟩
  refine List.forall_mem_cons.mpr ⟨(s_iloadn (by decide +kernel : decode cX1_put 27 = .ok (.iload_n 2, 1)) rfl).to, ?_⟩
  refine List.forall_mem_cons.mpr ⟨(s_iast (by decide +kernel : decode cX1_put 28 = .ok (.iastore, 1))).to, ?_⟩
  refine List.forall_mem_cons.mpr ⟨(s_iconst (by decide +kernel : decode cX1_put 29 = .ok (.iconst 1, 1)) (by decide)).to, ?_⟩
  refine List.forall_mem_cons.mpr ⟨s_zret (by decide +kernel : decode cX1_put 30 = .ok (.ireturn, 1)) rfl, ?_⟩
  exact fun _ h => absurd h List.not_mem_nil
theorem sn_tX1_holds : ∀ q ∈ tX1_holds, am_Snd am_P0 RX1 cX1_holds 5 (Option.some FieldType.boolean) "holds" q.1 q.2 := by
  unfold tX1_holds
  refine List.forall_mem_cons.mpr ⟨(s_iconst (by decide +kernel : decode cX1_holds 0 = .ok (.iconst (-1), 1)) (by decide)).to, ?_⟩
  refine List.forall_mem_cons.mpr ⟨(s_istoren (by decide +kernel : decode cX1_holds 1 = .ok (.istore_n 2, 1)) rfl (by decide)).to, ?_⟩
  refine List.forall_mem_cons.mpr ⟨(s_iconst (by decide +kernel : decode cX1_holds 2 = .ok (.iconst 0, 1)) (by decide)).to, ?_⟩
  refine List.forall_mem_cons.mpr ⟨(s_istoren (by decide +kernel : decode cX1_holds 3 = .ok (.istore_n 3, 1)) rfl (by decide)).to, ?_⟩
  refine List.forall_mem_cons.mpr ⟨(s_iloadn (by decide +kernel : decode cX1_holds 4 = .ok (.iload_n 3, 1)) rfl).to, ?_⟩
  refine List.forall_mem_cons.mpr ⟨(s_bipush (by decide +kernel : decode cX1_holds 5 = .ok (.bipush 48, 2)) (by decide)).to, ?_⟩
  refine List.forall_mem_cons.mpr ⟨(s_icmp_ge (by decide +kernel : decode cX1_holds 7 = .ok (.if_icmp .ge 62, 3)) (by decide)).to, ?_⟩
  refine List.forall_mem_cons.mpr ⟨(s_aloadn (by decide +kernel : decode cX1_holds 10 = .ok (.aload_n 0, 1)) rfl).to, ?_⟩
  refine List.forall_mem_cons.mpr ⟨(s_get (ci := 1) (k := 0) (by decide +kernel : decode cX1_holds 11 = .ok (.getfield 9, 3)) rfl (by decide) wd513 inX1 rfl).to, ?_⟩
  refine List.forall_mem_cons.mpr ⟨(s_iloadn (by decide +kernel : decode cX1_holds 14 = .ok (.iload_n 3, 1)) rfl).to, ?_⟩
  refine List.forall_mem_cons.mpr ⟨(s_iald (by decide +kernel : decode cX1_holds 15 = .ok (.iaload, 1))).to, ?_⟩
  refine List.forall_mem_cons.mpr ⟨(s_istore (by decide +kernel : decode cX1_holds 16 = .ok (.istore 4, 2)) (by decide)).to, ?_⟩
  refine List.forall_mem_cons.mpr ⟨(s_iload (by decide +kernel : decode cX1_holds 18 = .ok (.iload 4, 2))).to, ?_⟩
  refine List.forall_mem_cons.mpr ⟨(s_iconst (by decide +kernel : decode cX1_holds 20 = .ok (.iconst (-1), 1)) (by decide)).to, ?_⟩
  refine List.forall_mem_cons.mpr ⟨(s_icmp_ne (by decide +kernel : decode cX1_holds 21 = .ok (.if_icmp .ne 6, 3)) (by decide)).to, ?_⟩
  refine List.forall_mem_cons.mpr ⟨(s_goto (by decide +kernel : decode cX1_holds 24 = .ok (.goto 39, 3)) (by decide)).to, ?_⟩
  refine List.forall_mem_cons.mpr ⟨(s_aloadn (by decide +kernel : decode cX1_holds 27 = .ok (.aload_n 1, 1)) rfl).to, ?_⟩
  refine List.forall_mem_cons.mpr ⟨(s_iload (by decide +kernel : decode cX1_holds 28 = .ok (.iload 4, 2))).to, ?_⟩
  refine List.forall_mem_cons.mpr ⟨z_cv (by decide +kernel : decode cX1_holds 30 = .ok (.invokevirtual 21, 3)) mt103 wd954 (ci := 9) rfl (by decide), ?_⟩
  refine List.forall_mem_cons.mpr ⟨(s_if_eq (by decide +kernel : decode cX1_holds 33 = .ok (.ifCond .eq 26, 3)) (by decide)).to, ?_⟩
  refine List.forall_mem_cons.mpr ⟨(s_iloadn (by decide +kernel : decode cX1_holds 36 = .ok (.iload_n 2, 1)) rfl).to, ?_⟩
  refine List.forall_mem_cons.mpr ⟨(s_iconst (by decide +kernel : decode cX1_holds 37 = .ok (.iconst (-1), 1)) (by decide)).to, ?_⟩
  refine List.forall_mem_cons.mpr ⟨(s_icmp_eq (by decide +kernel : decode cX1_holds 38 = .ok (.if_icmp .eq 23, 3)) (by decide)).to, ?_⟩
  refine List.forall_mem_cons.mpr ⟨(s_aloadn (by decide +kernel : decode cX1_holds 41 = .ok (.aload_n 1, 1)) rfl).to, ?_⟩
  refine List.forall_mem_cons.mpr ⟨(s_aloadn (by decide +kernel : decode cX1_holds 42 = .ok (.aload_n 0, 1)) rfl).to, ?_⟩
  refine List.forall_mem_cons.mpr ⟨(s_get (ci := 1) (k := 0) (by decide +kernel : decode cX1_holds 43 = .ok (.getfield 9, 3)) rfl (by decide) wd513 inX1 rfl).to, ?_⟩
  refine List.forall_mem_cons.mpr ⟨(s_iloadn (by decide +kernel : decode cX1_holds 46 = .ok (.iload_n 2, 1)) rfl).to, ?_⟩
  refine List.forall_mem_cons.mpr ⟨(s_iald (by decide +kernel : decode cX1_holds 47 = .ok (.iaload, 1))).to, ?_⟩
  refine List.forall_mem_cons.mpr ⟨(s_iload (by decide +kernel : decode cX1_holds 48 = .ok (.iload 4, 2))).to, ?_⟩
  refine List.forall_mem_cons.mpr ⟨(s_iloadn (by decide +kernel : decode cX1_holds 50 = .ok (.iload_n 3, 1)) rfl).to, ?_⟩
  refine List.forall_mem_cons.mpr ⟨(s_iloadn (by decide +kernel : decode cX1_holds 51 = .ok (.iload_n 2, 1)) rfl).to, ?_⟩
  refine List.forall_mem_cons.mpr ⟨(s_isub (by decide +kernel : decode cX1_holds 52 = .ok (.isub, 1))).to, ?_⟩
  refine List.forall_mem_cons.mpr ⟨z_cv (by decide +kernel : decode cX1_holds 53 = .ok (.invokevirtual 27, 3)) mt104 wd958 (ci := 9) rfl (by decide), ?_⟩
  refine List.forall_mem_cons.mpr ⟨(s_if_ne (by decide +kernel : decode cX1_holds 56 = .ok (.ifCond .ne 5, 3)) (by decide)).to, ?_⟩
  refine List.forall_mem_cons.mpr ⟨(s_iconst (by decide +kernel : decode cX1_holds 59 = .ok (.iconst 0, 1)) (by decide)).to, ?_⟩
  refine List.forall_mem_cons.mpr ⟨s_zret (by decide +kernel : decode cX1_holds 60 = .ok (.ireturn, 1)) rfl, ?_⟩
  refine List.forall_mem_cons.mpr ⟨(s_iloadn (by decide +kernel : decode cX1_holds 61 = .ok (.iload_n 3, 1)) rfl).to, ?_⟩
  refine List.forall_mem_cons.mpr ⟨(s_istoren (by decide +kernel : decode cX1_holds 62 = .ok (.istore_n 2, 1)) rfl (by decide)).to, ?_⟩
  refine List.forall_mem_cons.mpr ⟨(s_iinc (by decide +kernel : decode cX1_holds 63 = .ok (.iinc 3 1, 3)) (by decide) (by decide)).to, ?_⟩
  refine List.forall_mem_cons.mpr ⟨(s_goto (by decide +kernel : decode cX1_holds 66 = .ok (.goto (-62), 3)) (by decide)).to, ?_⟩
  refine List.forall_mem_cons.mpr ⟨(s_iconst (by decide +kernel : decode cX1_holds 69 = .ok (.iconst 1, 1)) (by decide)).to, ?_⟩
  refine List.forall_mem_cons.mpr ⟨s_zret (by decide +kernel : decode cX1_holds 70 = .ok (.ireturn, 1)) rfl, ?_⟩
  exact fun _ h => absurd h List.not_mem_nil
theorem sn_tX2_init : ∀ q ∈ tX2_init, am_Snd am_P0 RX2 cX2_init 2 (Option.none : Option FieldType) "<init>" q.1 q.2 := by
  unfold tX2_init
  refine List.forall_mem_cons.mpr ⟨(s_aloadn (by decide +kernel : decode cX2_init 0 = .ok (.aload_n 0, 1)) rfl).to, ?_⟩
  refine List.forall_mem_cons.mpr ⟨(s_obj (by decide +kernel : decode cX2_init 1 = .ok (.invokespecial 3, 3)) wd372 wd160 wd161).to, ?_⟩
  refine List.forall_mem_cons.mpr ⟨(s_aloadn (by decide +kernel : decode cX2_init 4 = .ok (.aload_n 0, 1)) rfl).to, ?_⟩
  refine List.forall_mem_cons.mpr ⟨(s_new (ci := 3) (by decide +kernel : decode cX2_init 5 = .ok (.new 9, 3)) rfl wd373 wd374 wd141 inX3 tyX3_ok (by decide)).to, ?_⟩
  refine List.forall_mem_cons.mpr ⟨(s_dup (by decide +kernel : decode cX2_init 8 = .ok (.dup, 1))).to, ?_⟩
  refine List.forall_mem_cons.mpr ⟨z_ci (ci := 3) (by decide +kernel : decode cX2_init 9 = .ok (.invokespecial 11, 3)) mt33 wd375 rfl rfl, ?_⟩
  refine List.forall_mem_cons.mpr ⟨(s_putF (ci := 2) (k := 0) (by decide +kernel : decode cX2_init 12 = .ok (.putfield 12, 3)) rfl (by decide) wd467 inX2 tyX2_ok nmX2 rfl rfl rfl rfl).to, ?_⟩
  refine List.forall_mem_cons.mpr ⟨(s_aloadn (by decide +kernel : decode cX2_init 15 = .ok (.aload_n 0, 1)) rfl).to, ?_⟩
  refine List.forall_mem_cons.mpr ⟨(s_aloadn (by decide +kernel : decode cX2_init 16 = .ok (.aload_n 1, 1)) rfl).to, ?_⟩
  refine List.forall_mem_cons.mpr ⟨(s_put (ci := 2) (k := 1) (by decide +kernel : decode cX2_init 17 = .ok (.putfield 18, 3)) rfl (by decide) wd469 inX2 tyX2_ok nmX2 rfl rfl).to, ?_⟩
  refine List.forall_mem_cons.mpr ⟨s_vret (by decide +kernel : decode cX2_init 20 = .ok (.return_, 1)) rfl, ?_⟩
  exact fun _ h => absurd h List.not_mem_nil
theorem sn_tX2_open : ∀ q ∈ tX2_open, am_Snd am_P0 RX2 cX2_open 4 (Option.none : Option FieldType) "open" q.1 q.2 := by
  unfold tX2_open
  refine List.forall_mem_cons.mpr ⟨(s_aloadn (by decide +kernel : decode cX2_open 0 = .ok (.aload_n 0, 1)) rfl).to, ?_⟩
  refine List.forall_mem_cons.mpr ⟨(s_aloadn (by decide +kernel : decode cX2_open 1 = .ok (.aload_n 1, 1)) rfl).to, ?_⟩
  refine List.forall_mem_cons.mpr ⟨(s_put (ci := 2) (k := 1) (by decide +kernel : decode cX2_open 2 = .ok (.putfield 18, 3)) rfl (by decide) wd469 inX2 tyX2_ok nmX2 rfl rfl).to, ?_⟩
  refine List.forall_mem_cons.mpr ⟨(s_aloadn (by decide +kernel : decode cX2_open 5 = .ok (.aload_n 0, 1)) rfl).to, ?_⟩
  refine List.forall_mem_cons.mpr ⟨(s_get (ci := 2) (k := 1) (by decide +kernel : decode cX2_open 6 = .ok (.getfield 18, 3)) rfl (by decide) wd469 inX2 rfl).to, ?_⟩
  refine List.forall_mem_cons.mpr ⟨z_cv (by decide +kernel : decode cX2_open 9 = .ok (.invokevirtual 22, 3)) mt52 wd651 (ci := 5) rfl (by decide), ?_⟩
  refine List.forall_mem_cons.mpr ⟨(s_aloadn (by decide +kernel : decode cX2_open 12 = .ok (.aload_n 0, 1)) rfl).to, ?_⟩
  refine List.forall_mem_cons.mpr ⟨(s_get (ci := 2) (k := 0) (by decide +kernel : decode cX2_open 13 = .ok (.getfield 12, 3)) rfl (by decide) wd467 inX2 rfl).to, ?_⟩
  refine List.forall_mem_cons.mpr ⟨(s_aloadn (by decide +kernel : decode cX2_open 16 = .ok (.aload_n 2, 1)) rfl).to, ?_⟩
  refine List.forall_mem_cons.mpr ⟨(s_iloadn (by decide +kernel : decode cX2_open 17 = .ok (.iload_n 3, 1)) rfl).to, ?_⟩
  refine List.forall_mem_cons.mpr ⟨z_cv (by decide +kernel : decode cX2_open 18 = .ok (.invokevirtual 27, 3)) mt34 wd655 (ci := 3) rfl (by decide), ?_⟩
  refine List.forall_mem_cons.mpr ⟨s_vret (by decide +kernel : decode cX2_open 21 = .ok (.return_, 1)) rfl, ?_⟩
  exact fun _ h => absurd h List.not_mem_nil
theorem sn_tX2_readStatement_0 : ∀ q ∈ tX2_readStatement_0, am_Snd am_P0 RX2 cX2_readStatement 2 (Option.none : Option FieldType) "readStatement" q.1 q.2 := by
  unfold tX2_readStatement_0
  refine List.forall_mem_cons.mpr ⟨(s_iloadn (by decide +kernel : decode cX2_readStatement 0 = .ok (.iload_n 1, 1)) rfl).to, ?_⟩
  refine List.forall_mem_cons.mpr ⟨(s_aloadn (by decide +kernel : decode cX2_readStatement 1 = .ok (.aload_n 0, 1)) rfl).to, ?_⟩
  refine List.forall_mem_cons.mpr ⟨(s_get (ci := 2) (k := 0) (by decide +kernel : decode cX2_readStatement 2 = .ok (.getfield 12, 3)) rfl (by decide) wd467 inX2 rfl).to, ?_⟩
  refine List.forall_mem_cons.mpr ⟨(s_get (ci := 3) (k := 6) (by decide +kernel : decode cX2_readStatement 5 = .ok (.getfield 31, 3)) rfl (by decide) wd437 inX3 rfl).to, ?_⟩
  refine List.forall_mem_cons.mpr ⟨(s_if_ne (by decide +kernel : decode cX2_readStatement 8 = .ok (.ifCond .ne 7, 3)) (by decide)).to, ?_⟩
  refine List.forall_mem_cons.mpr ⟨(s_iconst (by decide +kernel : decode cX2_readStatement 11 = .ok (.iconst 1, 1)) (by decide)).to, ?_⟩
  refine List.forall_mem_cons.mpr ⟨(s_goto (by decide +kernel : decode cX2_readStatement 12 = .ok (.goto 4, 3)) (by decide)).to, ?_⟩
  refine List.forall_mem_cons.mpr ⟨(s_iconst (by decide +kernel : decode cX2_readStatement 15 = .ok (.iconst 0, 1)) (by decide)).to, ?_⟩
  refine List.forall_mem_cons.mpr ⟨(s_icmp_eq (by decide +kernel : decode cX2_readStatement 16 = .ok (.if_icmp .eq 12, 3)) (by decide)).to, ?_⟩
  refine List.forall_mem_cons.mpr ⟨(s_aloadn (by decide +kernel : decode cX2_readStatement 19 = .ok (.aload_n 0, 1)) rfl).to, ?_⟩
  refine List.forall_mem_cons.mpr ⟨(s_get (ci := 2) (k := 0) (by decide +kernel : decode cX2_readStatement 20 = .ok (.getfield 12, 3)) rfl (by decide) wd467 inX2 rfl).to, ?_⟩
  refine List.forall_mem_cons.mpr ⟨(s_iconst (by decide +kernel : decode cX2_readStatement 23 = .ok (.iconst 1, 1)) (by decide)).to, ?_⟩
  refine List.forall_mem_cons.mpr ⟨z_cv (by decide +kernel : decode cX2_readStatement 24 = .ok (.invokevirtual 35, 3)) mt39 wd681 (ci := 3) rfl (by decide), ?_⟩
  refine List.forall_mem_cons.mpr ⟨s_vret (by decide +kernel : decode cX2_readStatement 27 = .ok (.return_, 1)) rfl, ?_⟩
  refine List.forall_mem_cons.mpr ⟨(s_aloadn (by decide +kernel : decode cX2_readStatement 28 = .ok (.aload_n 0, 1)) rfl).to, ?_⟩
  refine List.forall_mem_cons.mpr ⟨(s_get (ci := 2) (k := 0) (by decide +kernel : decode cX2_readStatement 29 = .ok (.getfield 12, 3)) rfl (by decide) wd467 inX2 rfl).to, ?_⟩
  refine List.forall_mem_cons.mpr ⟨(s_get (ci := 3) (k := 6) (by decide +kernel : decode cX2_readStatement 32 = .ok (.getfield 31, 3)) rfl (by decide) wd437 inX3 rfl).to, ?_⟩
  refine List.forall_mem_cons.mpr ⟨(s_table (by decide +kernel : decode cX2_readStatement 35 = .ok (.tableswitch 192 0 17 #[85, 92, 107, 122, 137, 192, 192, 192, 192, 144, 192, 192, 151, 192, 192, 158, 192, 165], 85)) (by decide) (by decide) (by decide) (by decide)).to, ?_⟩
  refine List.forall_mem_cons.mpr ⟨(s_aloadn (by decide +kernel : decode cX2_readStatement 120 = .ok (.aload_n 0, 1)) rfl).to, ?_⟩
  refine List.forall_mem_cons.mpr ⟨z_cv (by decide +kernel : decode cX2_readStatement 121 = .ok (.invokevirtual 39, 3)) mt12 wd685 (ci := 2) rfl (by decide), ?_⟩
  refine List.forall_mem_cons.mpr ⟨(s_goto (by decide +kernel : decode cX2_readStatement 124 = .ok (.goto 111, 3)) (by decide)).to, ?_⟩
  refine List.forall_mem_cons.mpr ⟨(s_aloadn (by decide +kernel : decode cX2_readStatement 127 = .ok (.aload_n 0, 1)) rfl).to, ?_⟩
  refine List.forall_mem_cons.mpr ⟨(s_aloadn (by decide +kernel : decode cX2_readStatement 128 = .ok (.aload_n 0, 1)) rfl).to, ?_⟩
  refine List.forall_mem_cons.mpr ⟨(s_get (ci := 2) (k := 1) (by decide +kernel : decode cX2_readStatement 129 = .ok (.getfield 18, 3)) rfl (by decide) wd469 inX2 rfl).to, ?_⟩
  refine List.forall_mem_cons.mpr ⟨(s_get (ci := 5) (k := 7) (by decide +kernel : decode cX2_readStatement 132 = .ok (.getfield 42, 3)) rfl (by decide) wd326 inX5 rfl).to, ?_⟩
  refine List.forall_mem_cons.mpr ⟨(s_iconst (by decide +kernel : decode cX2_readStatement 135 = .ok (.iconst 1, 1)) (by decide)).to, ?_⟩
  refine List.forall_mem_cons.mpr ⟨z_cv (by decide +kernel : decode cX2_readStatement 136 = .ok (.invokevirtual 46, 3)) mt14 wd699 (ci := 2) rfl (by decide), ?_⟩
  refine List.forall_mem_cons.mpr ⟨(s_goto (by decide +kernel : decode cX2_readStatement 139 = .ok (.goto 96, 3)) (by decide)).to, ?_⟩
  refine List.forall_mem_cons.mpr ⟨(s_aloadn (by decide +kernel : decode cX2_readStatement 142 = .ok (.aload_n 0, 1)) rfl).to, ?_⟩
  refine List.forall_mem_cons.mpr ⟨(s_aloadn (by decide +kernel : decode cX2_readStatement 143 = .ok (.aload_n 0, 1)) rfl).to, ?_⟩
  refine List.forall_mem_cons.mpr ⟨(s_get (ci := 2) (k := 1) (by decide +kernel : decode cX2_readStatement 144 = .ok (.getfield 18, 3)) rfl (by decide) wd469 inX2 rfl).to, ?_⟩
  refine List.forall_mem_cons.mpr ⟨(s_get (ci := 5) (k := 8) (by decide +kernel : decode cX2_readStatement 147 = .ok (.getfield 50, 3)) rfl (by decide) wd328 inX5 rfl).to, ?_⟩
  refine List.forall_mem_cons.mpr ⟨(s_iconst (by decide +kernel : decode cX2_readStatement 150 = .ok (.iconst 1, 1)) (by decide)).to, ?_⟩
  refine List.forall_mem_cons.mpr ⟨z_cv (by decide +kernel : decode cX2_readStatement 151 = .ok (.invokevirtual 46, 3)) mt14 wd699 (ci := 2) rfl (by decide), ?_⟩
  refine List.forall_mem_cons.mpr ⟨(s_goto (by decide +kernel : decode cX2_readStatement 154 = .ok (.goto 81, 3)) (by decide)).to, ?_⟩
  refine List.forall_mem_cons.mpr ⟨(s_aloadn (by decide +kernel : decode cX2_readStatement 157 = .ok (.aload_n 0, 1)) rfl).to, ?_⟩
  refine List.forall_mem_cons.mpr ⟨(s_aloadn (by decide +kernel : decode cX2_readStatement 158 = .ok (.aload_n 0, 1)) rfl).to, ?_⟩
  refine List.forall_mem_cons.mpr ⟨(s_get (ci := 2) (k := 1) (by decide +kernel : decode cX2_readStatement 159 = .ok (.getfield 18, 3)) rfl (by decide) wd469 inX2 rfl).to, ?_⟩
  refine List.forall_mem_cons.mpr ⟨(s_get (ci := 5) (k := 9) (by decide +kernel : decode cX2_readStatement 162 = .ok (.getfield 53, 3)) rfl (by decide) wd330 inX5 rfl).to, ?_⟩
  refine List.forall_mem_cons.mpr ⟨(s_iconst (by decide +kernel : decode cX2_readStatement 165 = .ok (.iconst 0, 1)) (by decide)).to, ?_⟩
  refine List.forall_mem_cons.mpr ⟨z_cv (by decide +kernel : decode cX2_readStatement 166 = .ok (.invokevirtual 46, 3)) mt14 wd699 (ci := 2) rfl (by decide), ?_⟩
  refine List.forall_mem_cons.mpr ⟨(s_goto (by decide +kernel : decode cX2_readStatement 169 = .ok (.goto 66, 3)) (by decide)).to, ?_⟩
  refine List.forall_mem_cons.mpr ⟨(s_aloadn (by decide +kernel : decode cX2_readStatement 172 = .ok (.aload_n 0, 1)) rfl).to, ?_⟩
  refine List.forall_mem_cons.mpr ⟨z_cv (by decide +kernel : decode cX2_readStatement 173 = .ok (.invokevirtual 56, 3)) mt16 wd777 (ci := 2) rfl (by decide), ?_⟩
  refine List.forall_mem_cons.mpr ⟨(s_goto (by decide +kernel : decode cX2_readStatement 176 = .ok (.goto 59, 3)) (by decide)).to, ?_⟩
  refine List.forall_mem_cons.mpr ⟨(s_aloadn (by decide +kernel : decode cX2_readStatement 179 = .ok (.aload_n 0, 1)) rfl).to, ?_⟩
  refine List.forall_mem_cons.mpr ⟨z_cv (by decide +kernel : decode cX2_readStatement 180 = .ok (.invokevirtual 59, 3)) mt19 wd797 (ci := 2) rfl (by decide), ?_⟩
  refine List.forall_mem_cons.mpr ⟨(s_goto (by decide +kernel : decode cX2_readStatement 183 = .ok (.goto 52, 3)) (by decide)).to, ?_⟩
  refine List.forall_mem_cons.mpr ⟨(s_aloadn (by decide +kernel : decode cX2_readStatement 186 = .ok (.aload_n 0, 1)) rfl).to, ?_⟩
  refine List.forall_mem_cons.mpr ⟨z_cv (by decide +kernel : decode cX2_readStatement 187 = .ok (.invokevirtual 62, 3)) mt20 wd822 (ci := 2) rfl (by decide), ?_⟩
  refine List.forall_mem_cons.mpr ⟨(s_goto (by decide +kernel : decode cX2_readStatement 190 = .ok (.goto 45, 3)) (by decide)).to, ?_⟩
  refine List.forall_mem_cons.mpr ⟨(s_aloadn (by decide +kernel : decode cX2_readStatement 193 = .ok (.aload_n 0, 1)) rfl).to, ?_⟩
  refine List.forall_mem_cons.mpr ⟨z_cv (by decide +kernel : decode cX2_readStatement 194 = .ok (.invokevirtual 65, 3)) mt21 wd834 (ci := 2) rfl (by decide), ?_⟩
  refine List.forall_mem_cons.mpr ⟨(s_goto (by decide +kernel : decode cX2_readStatement 197 = .ok (.goto 38, 3)) (by decide)).to, ?_⟩
  refine List.forall_mem_cons.mpr ⟨(s_aloadn (by decide +kernel : decode cX2_readStatement 200 = .ok (.aload_n 0, 1)) rfl).to, ?_⟩
  refine List.forall_mem_cons.mpr ⟨(s_get (ci := 2) (k := 0) (by decide +kernel : decode cX2_readStatement 201 = .ok (.getfield 12, 3)) rfl (by decide) wd467 inX2 rfl).to, ?_⟩
  refine List.forall_mem_cons.mpr ⟨z_cv (by decide +kernel : decode cX2_readStatement 204 = .ok (.invokevirtual 68, 3)) mt35 wd689 (ci := 3) rfl (by decide), ?_⟩
  refine List.forall_mem_cons.mpr ⟨(s_aloadn (by decide +kernel : decode cX2_readStatement 207 = .ok (.aload_n 0, 1)) rfl).to, ?_⟩
  refine List.forall_mem_cons.mpr ⟨(s_get (ci := 2) (k := 1) (by decide +kernel : decode cX2_readStatement 208 = .ok (.getfield 18, 3)) rfl (by decide) wd469 inX2 rfl).to, ?_⟩
  refine List.forall_mem_cons.mpr ⟨(s_aloadn (by decide +kernel : decode cX2_readStatement 211 = .ok (.aload_n 0, 1)) rfl).to, ?_⟩
  exact fun _ h => absurd h List.not_mem_nil
theorem sn_tX2_readStatement_1 : ∀ q ∈ tX2_readStatement_1, am_Snd am_P0 RX2 cX2_readStatement 2 (Option.none : Option FieldType) "readStatement" q.1 q.2 := by
  unfold tX2_readStatement_1
  refine List.forall_mem_cons.mpr ⟨(s_get (ci := 2) (k := 0) (by decide +kernel : decode cX2_readStatement 212 = .ok (.getfield 12, 3)) rfl (by decide) wd467 inX2 rfl).to, ?_⟩
  refine List.forall_mem_cons.mpr ⟨(s_iconst (by decide +kernel : decode cX2_readStatement 215 = .ok (.iconst 0, 1)) (by decide)).to, ?_⟩
  refine List.forall_mem_cons.mpr ⟨(s_bipush (by decide +kernel : decode cX2_readStatement 216 = .ok (.bipush 100, 2)) (by decide)).to, ?_⟩
  refine List.forall_mem_cons.mpr ⟨z_cv (by decide +kernel : decode cX2_readStatement 218 = .ok (.invokevirtual 71, 3)) mt44 wd690 (ci := 3) rfl (by decide), ?_⟩
  refine List.forall_mem_cons.mpr ⟨(s_put (ci := 5) (k := 2) (by decide +kernel : decode cX2_readStatement 221 = .ok (.putfield 75, 3)) rfl (by decide) wd312 inX5 tyX5_ok nmX5 rfl rfl).to, ?_⟩
  refine List.forall_mem_cons.mpr ⟨(s_goto (by decide +kernel : decode cX2_readStatement 224 = .ok (.goto 11, 3)) (by decide)).to, ?_⟩
  refine List.forall_mem_cons.mpr ⟨(s_aloadn (by decide +kernel : decode cX2_readStatement 227 = .ok (.aload_n 0, 1)) rfl).to, ?_⟩
  refine List.forall_mem_cons.mpr ⟨(s_get (ci := 2) (k := 0) (by decide +kernel : decode cX2_readStatement 228 = .ok (.getfield 12, 3)) rfl (by decide) wd467 inX2 rfl).to, ?_⟩
  refine List.forall_mem_cons.mpr ⟨(s_iconst (by decide +kernel : decode cX2_readStatement 231 = .ok (.iconst 1, 1)) (by decide)).to, ?_⟩
  refine List.forall_mem_cons.mpr ⟨z_cv (by decide +kernel : decode cX2_readStatement 232 = .ok (.invokevirtual 35, 3)) mt39 wd681 (ci := 3) rfl (by decide), ?_⟩
  refine List.forall_mem_cons.mpr ⟨s_vret (by decide +kernel : decode cX2_readStatement 235 = .ok (.return_, 1)) rfl, ?_⟩
  exact fun _ h => absurd h List.not_mem_nil
theorem sn_tX2_readStatement : ∀ q ∈ tX2_readStatement, am_Snd am_P0 RX2 cX2_readStatement 2 (Option.none : Option FieldType) "readStatement" q.1 q.2 := by
  unfold tX2_readStatement
  exact List.forall_mem_append.mpr ⟨sn_tX2_readStatement_0, sn_tX2_readStatement_1⟩
theorem sn_tX2_readSize : ∀ q ∈ tX2_readSize, am_Snd am_P0 RX2 cX2_readSize 1 (Option.none : Option FieldType) "readSize" q.1 q.2 := by
  unfold tX2_readSize
  refine List.forall_mem_cons.mpr ⟨(s_aloadn (by decide +kernel : decode cX2_readSize 0 = .ok (.aload_n 0, 1)) rfl).to, ?_⟩
  refine List.forall_mem_cons.mpr ⟨(s_get (ci := 2) (k := 0) (by decide +kernel : decode cX2_readSize 1 = .ok (.getfield 12, 3)) rfl (by decide) wd467 inX2 rfl).to, ?_⟩
  refine List.forall_mem_cons.mpr ⟨z_cv (by decide +kernel : decode cX2_readSize 4 = .ok (.invokevirtual 68, 3)) mt35 wd689 (ci := 3) rfl (by decide), ?_⟩
  refine List.forall_mem_cons.mpr ⟨(s_aloadn (by decide +kernel : decode cX2_readSize 7 = .ok (.aload_n 0, 1)) rfl).to, ?_⟩
  refine List.forall_mem_cons.mpr ⟨(s_get (ci := 2) (k := 1) (by decide +kernel : decode cX2_readSize 8 = .ok (.getfield 18, 3)) rfl (by decide) wd469 inX2 rfl).to, ?_⟩
  refine List.forall_mem_cons.mpr ⟨(s_aloadn (by decide +kernel : decode cX2_readSize 11 = .ok (.aload_n 0, 1)) rfl).to, ?_⟩
  refine List.forall_mem_cons.mpr ⟨(s_get (ci := 2) (k := 0) (by decide +kernel : decode cX2_readSize 12 = .ok (.getfield 12, 3)) rfl (by decide) wd467 inX2 rfl).to, ?_⟩
  refine List.forall_mem_cons.mpr ⟨(s_iconst (by decide +kernel : decode cX2_readSize 15 = .ok (.iconst 2, 1)) (by decide)).to, ?_⟩
  refine List.forall_mem_cons.mpr ⟨(s_bipush (by decide +kernel : decode cX2_readSize 16 = .ok (.bipush 16, 2)) (by decide)).to, ?_⟩
  refine List.forall_mem_cons.mpr ⟨z_cv (by decide +kernel : decode cX2_readSize 18 = .ok (.invokevirtual 71, 3)) mt44 wd690 (ci := 3) rfl (by decide), ?_⟩
  refine List.forall_mem_cons.mpr ⟨(s_put (ci := 5) (k := 0) (by decide +kernel : decode cX2_readSize 21 = .ok (.putfield 78, 3)) rfl (by decide) wd306 inX5 tyX5_ok nmX5 rfl rfl).to, ?_⟩
  refine List.forall_mem_cons.mpr ⟨(s_aloadn (by decide +kernel : decode cX2_readSize 24 = .ok (.aload_n 0, 1)) rfl).to, ?_⟩
  refine List.forall_mem_cons.mpr ⟨(s_get (ci := 2) (k := 1) (by decide +kernel : decode cX2_readSize 25 = .ok (.getfield 18, 3)) rfl (by decide) wd469 inX2 rfl).to, ?_⟩
  refine List.forall_mem_cons.mpr ⟨(s_aloadn (by decide +kernel : decode cX2_readSize 28 = .ok (.aload_n 0, 1)) rfl).to, ?_⟩
  refine List.forall_mem_cons.mpr ⟨(s_get (ci := 2) (k := 0) (by decide +kernel : decode cX2_readSize 29 = .ok (.getfield 12, 3)) rfl (by decide) wd467 inX2 rfl).to, ?_⟩
  refine List.forall_mem_cons.mpr ⟨(s_iconst (by decide +kernel : decode cX2_readSize 32 = .ok (.iconst 2, 1)) (by decide)).to, ?_⟩
  refine List.forall_mem_cons.mpr ⟨(s_bipush (by decide +kernel : decode cX2_readSize 33 = .ok (.bipush 16, 2)) (by decide)).to, ?_⟩
  refine List.forall_mem_cons.mpr ⟨z_cv (by decide +kernel : decode cX2_readSize 35 = .ok (.invokevirtual 71, 3)) mt44 wd690 (ci := 3) rfl (by decide), ?_⟩
  refine List.forall_mem_cons.mpr ⟨(s_put (ci := 5) (k := 1) (by decide +kernel : decode cX2_readSize 38 = .ok (.putfield 81, 3)) rfl (by decide) wd309 inX5 tyX5_ok nmX5 rfl rfl).to, ?_⟩
  refine List.forall_mem_cons.mpr ⟨s_vret (by decide +kernel : decode cX2_readSize 41 = .ok (.return_, 1)) rfl, ?_⟩
  exact fun _ h => absurd h List.not_mem_nil
theorem sn_tX2_beginStatement : ∀ q ∈ tX2_beginStatement, am_Snd am_P0 RX2 cX2_beginStatement 2 (Option.some FieldType.boolean) "beginStatement" q.1 q.2 := by
  unfold tX2_beginStatement
  refine List.forall_mem_cons.mpr ⟨(s_iloadn (by decide +kernel : decode cX2_beginStatement 0 = .ok (.iload_n 1, 1)) rfl).to, ?_⟩
  refine List.forall_mem_cons.mpr ⟨(s_if_eq (by decide +kernel : decode cX2_beginStatement 1 = .ok (.ifCond .eq 13, 3)) (by decide)).to, ?_⟩
  refine List.forall_mem_cons.mpr ⟨(s_aloadn (by decide +kernel : decode cX2_beginStatement 4 = .ok (.aload_n 0, 1)) rfl).to, ?_⟩
  refine List.forall_mem_cons.mpr ⟨(s_get (ci := 2) (k := 0) (by decide +kernel : decode cX2_beginStatement 5 = .ok (.getfield 12, 3)) rfl (by decide) wd467 inX2 rfl).to, ?_⟩
  refine List.forall_mem_cons.mpr ⟨(s_iconst (by decide +kernel : decode cX2_beginStatement 8 = .ok (.iconst 5, 1)) (by decide)).to, ?_⟩
  refine List.forall_mem_cons.mpr ⟨z_cv (by decide +kernel : decode cX2_beginStatement 9 = .ok (.invokevirtual 35, 3)) mt39 wd681 (ci := 3) rfl (by decide), ?_⟩
  refine List.forall_mem_cons.mpr ⟨(s_iconst (by decide +kernel : decode cX2_beginStatement 12 = .ok (.iconst 0, 1)) (by decide)).to, ?_⟩
  refine List.forall_mem_cons.mpr ⟨s_zret (by decide +kernel : decode cX2_beginStatement 13 = .ok (.ireturn, 1)) rfl, ?_⟩
  refine List.forall_mem_cons.mpr ⟨(s_aloadn (by decide +kernel : decode cX2_beginStatement 14 = .ok (.aload_n 0, 1)) rfl).to, ?_⟩
  refine List.forall_mem_cons.mpr ⟨(s_get (ci := 2) (k := 0) (by decide +kernel : decode cX2_beginStatement 15 = .ok (.getfield 12, 3)) rfl (by decide) wd467 inX2 rfl).to, ?_⟩
  refine List.forall_mem_cons.mpr ⟨z_cv (by decide +kernel : decode cX2_beginStatement 18 = .ok (.invokevirtual 68, 3)) mt35 wd689 (ci := 3) rfl (by decide), ?_⟩
  refine List.forall_mem_cons.mpr ⟨(s_iconst (by decide +kernel : decode cX2_beginStatement 21 = .ok (.iconst 1, 1)) (by decide)).to, ?_⟩
  refine List.forall_mem_cons.mpr ⟨s_zret (by decide +kernel : decode cX2_beginStatement 22 = .ok (.ireturn, 1)) rfl, ?_⟩
  exact fun _ h => absurd h List.not_mem_nil
theorem sn_tX2_readRule : ∀ q ∈ tX2_readRule, am_Snd am_P0 RX2 cX2_readRule 5 (Option.none : Option FieldType) "readRule" q.1 q.2 := by
  unfold tX2_readRule
  refine List.forall_mem_cons.mpr ⟨(s_aloadn (by decide +kernel : decode cX2_readRule 0 = .ok (.aload_n 0, 1)) rfl).to, ?_⟩
  refine List.forall_mem_cons.mpr ⟨(s_aloadn (by decide +kernel : decode cX2_readRule 1 = .ok (.aload_n 1, 1)) rfl).to, ?_⟩
  refine List.forall_mem_cons.mpr ⟨z_cv (by decide +kernel : decode cX2_readRule 2 = .ok (.invokevirtual 84, 3)) mt47 wd703 (ci := 4) rfl (by decide), ?_⟩
  refine List.forall_mem_cons.mpr ⟨z_cv (by decide +kernel : decode cX2_readRule 5 = .ok (.invokevirtual 90, 3)) mt13 wd707 (ci := 2) rfl (by decide), ?_⟩
  refine List.forall_mem_cons.mpr ⟨(s_if_ne (by decide +kernel : decode cX2_readRule 8 = .ok (.ifCond .ne 4, 3)) (by decide)).to, ?_⟩
  refine List.forall_mem_cons.mpr ⟨s_vret (by decide +kernel : decode cX2_readRule 11 = .ok (.return_, 1)) rfl, ?_⟩
  refine List.forall_mem_cons.mpr ⟨(s_aloadn (by decide +kernel : decode cX2_readRule 12 = .ok (.aload_n 0, 1)) rfl).to, ?_⟩
  refine List.forall_mem_cons.mpr ⟨(s_get (ci := 2) (k := 1) (by decide +kernel : decode cX2_readRule 13 = .ok (.getfield 18, 3)) rfl (by decide) wd469 inX2 rfl).to, ?_⟩
  refine List.forall_mem_cons.mpr ⟨(s_get (ci := 5) (k := 6) (by decide +kernel : decode cX2_readRule 16 = .ok (.getfield 94, 3)) rfl (by decide) wd324 inX5 rfl).to, ?_⟩
  refine List.forall_mem_cons.mpr ⟨(s_get (ci := 0) (k := 1) (by decide +kernel : decode cX2_readRule 19 = .ok (.getfield 98, 3)) rfl (by decide) wd205 inX0 rfl).to, ?_⟩
  refine List.forall_mem_cons.mpr ⟨(s_istoren (by decide +kernel : decode cX2_readRule 22 = .ok (.istore_n 3, 1)) rfl (by decide)).to, ?_⟩
  refine List.forall_mem_cons.mpr ⟨(s_iloadn (by decide +kernel : decode cX2_readRule 23 = .ok (.iload_n 2, 1)) rfl).to, ?_⟩
  refine List.forall_mem_cons.mpr ⟨(s_if_eq (by decide +kernel : decode cX2_readRule 24 = .ok (.ifCond .eq 8, 3)) (by decide)).to, ?_⟩
  refine List.forall_mem_cons.mpr ⟨(s_aloadn (by decide +kernel : decode cX2_readRule 27 = .ok (.aload_n 0, 1)) rfl).to, ?_⟩
  refine List.forall_mem_cons.mpr ⟨(s_iconst (by decide +kernel : decode cX2_readRule 28 = .ok (.iconst 0, 1)) (by decide)).to, ?_⟩
  refine List.forall_mem_cons.mpr ⟨z_cv (by decide +kernel : decode cX2_readRule 29 = .ok (.invokevirtual 103, 3)) mt26 wd711 (ci := 2) rfl (by decide), ?_⟩
  refine List.forall_mem_cons.mpr ⟨(s_aloadn (by decide +kernel : decode cX2_readRule 32 = .ok (.aload_n 0, 1)) rfl).to, ?_⟩
  refine List.forall_mem_cons.mpr ⟨(s_get (ci := 2) (k := 0) (by decide +kernel : decode cX2_readRule 33 = .ok (.getfield 12, 3)) rfl (by decide) wd467 inX2 rfl).to, ?_⟩
  refine List.forall_mem_cons.mpr ⟨(s_bipush (by decide +kernel : decode cX2_readRule 36 = .ok (.bipush 18, 2)) (by decide)).to, ?_⟩
  refine List.forall_mem_cons.mpr ⟨z_cv (by decide +kernel : decode cX2_readRule 38 = .ok (.invokevirtual 106, 3)) mt42 wd752 (ci := 3) rfl (by decide), ?_⟩
  refine List.forall_mem_cons.mpr ⟨(s_aloadn (by decide +kernel : decode cX2_readRule 41 = .ok (.aload_n 0, 1)) rfl).to, ?_⟩
  refine List.forall_mem_cons.mpr ⟨(s_get (ci := 2) (k := 1) (by decide +kernel : decode cX2_readRule 42 = .ok (.getfield 18, 3)) rfl (by decide) wd469 inX2 rfl).to, ?_⟩
  refine List.forall_mem_cons.mpr ⟨(s_get (ci := 5) (k := 6) (by decide +kernel : decode cX2_readRule 45 = .ok (.getfield 94, 3)) rfl (by decide) wd324 inX5 rfl).to, ?_⟩
  refine List.forall_mem_cons.mpr ⟨(s_get (ci := 0) (k := 1) (by decide +kernel : decode cX2_readRule 48 = .ok (.getfield 98, 3)) rfl (by decide) wd205 inX0 rfl).to, ?_⟩
  refine List.forall_mem_cons.mpr ⟨(s_istore (by decide +kernel : decode cX2_readRule 51 = .ok (.istore 4, 2)) (by decide)).to, ?_⟩
  refine List.forall_mem_cons.mpr ⟨(s_aloadn (by decide +kernel : decode cX2_readRule 53 = .ok (.aload_n 0, 1)) rfl).to, ?_⟩
  refine List.forall_mem_cons.mpr ⟨(s_iconst (by decide +kernel : decode cX2_readRule 54 = .ok (.iconst 0, 1)) (by decide)).to, ?_⟩
  refine List.forall_mem_cons.mpr ⟨z_cv (by decide +kernel : decode cX2_readRule 55 = .ok (.invokevirtual 109, 3)) mt22 wd756 (ci := 2) rfl (by decide), ?_⟩
  refine List.forall_mem_cons.mpr ⟨(s_aloadn (by decide +kernel : decode cX2_readRule 58 = .ok (.aload_n 0, 1)) rfl).to, ?_⟩
  refine List.forall_mem_cons.mpr ⟨(s_get (ci := 2) (k := 0) (by decide +kernel : decode cX2_readRule 59 = .ok (.getfield 12, 3)) rfl (by decide) wd467 inX2 rfl).to, ?_⟩
  refine List.forall_mem_cons.mpr ⟨(s_get (ci := 3) (k := 8) (by decide +kernel : decode cX2_readRule 62 = .ok (.getfield 112, 3)) rfl (by decide) wd442 inX3 rfl).to, ?_⟩
  refine List.forall_mem_cons.mpr ⟨(s_if_ne (by decide +kernel : decode cX2_readRule 65 = .ok (.ifCond .ne 20, 3)) (by decide)).to, ?_⟩
  refine List.forall_mem_cons.mpr ⟨(s_aloadn (by decide +kernel : decode cX2_readRule 68 = .ok (.aload_n 1, 1)) rfl).to, ?_⟩
  refine List.forall_mem_cons.mpr ⟨(s_iloadn (by decide +kernel : decode cX2_readRule 69 = .ok (.iload_n 3, 1)) rfl).to, ?_⟩
  refine List.forall_mem_cons.mpr ⟨(s_iload (by decide +kernel : decode cX2_readRule 70 = .ok (.iload 4, 2))).to, ?_⟩
  refine List.forall_mem_cons.mpr ⟨(s_aloadn (by decide +kernel : decode cX2_readRule 72 = .ok (.aload_n 0, 1)) rfl).to, ?_⟩
  refine List.forall_mem_cons.mpr ⟨(s_get (ci := 2) (k := 1) (by decide +kernel : decode cX2_readRule 73 = .ok (.getfield 18, 3)) rfl (by decide) wd469 inX2 rfl).to, ?_⟩
  refine List.forall_mem_cons.mpr ⟨(s_get (ci := 5) (k := 6) (by decide +kernel : decode cX2_readRule 76 = .ok (.getfield 94, 3)) rfl (by decide) wd324 inX5 rfl).to, ?_⟩
  refine List.forall_mem_cons.mpr ⟨(s_get (ci := 0) (k := 1) (by decide +kernel : decode cX2_readRule 79 = .ok (.getfield 98, 3)) rfl (by decide) wd205 inX0 rfl).to, ?_⟩
  refine List.forall_mem_cons.mpr ⟨z_cv (by decide +kernel : decode cX2_readRule 82 = .ok (.invokevirtual 115, 3)) mt48 wd772 (ci := 4) rfl (by decide), ?_⟩
  refine List.forall_mem_cons.mpr ⟨s_vret (by decide +kernel : decode cX2_readRule 85 = .ok (.return_, 1)) rfl, ?_⟩
  exact fun _ h => absurd h List.not_mem_nil
theorem sn_tX2_takeAfter : ∀ q ∈ tX2_takeAfter, am_Snd am_P0 RX2 cX2_takeAfter 4 (Option.some FieldType.int) "takeAfter" q.1 q.2 := by
  unfold tX2_takeAfter
  refine List.forall_mem_cons.mpr ⟨(s_aloadn (by decide +kernel : decode cX2_takeAfter 0 = .ok (.aload_n 0, 1)) rfl).to, ?_⟩
  refine List.forall_mem_cons.mpr ⟨(s_get (ci := 2) (k := 0) (by decide +kernel : decode cX2_takeAfter 1 = .ok (.getfield 12, 3)) rfl (by decide) wd467 inX2 rfl).to, ?_⟩
  refine List.forall_mem_cons.mpr ⟨(s_iloadn (by decide +kernel : decode cX2_takeAfter 4 = .ok (.iload_n 1, 1)) rfl).to, ?_⟩
  refine List.forall_mem_cons.mpr ⟨z_cv (by decide +kernel : decode cX2_takeAfter 5 = .ok (.invokevirtual 106, 3)) mt42 wd752 (ci := 3) rfl (by decide), ?_⟩
  refine List.forall_mem_cons.mpr ⟨(s_aloadn (by decide +kernel : decode cX2_takeAfter 8 = .ok (.aload_n 0, 1)) rfl).to, ?_⟩
  refine List.forall_mem_cons.mpr ⟨(s_get (ci := 2) (k := 0) (by decide +kernel : decode cX2_takeAfter 9 = .ok (.getfield 12, 3)) rfl (by decide) wd467 inX2 rfl).to, ?_⟩
  refine List.forall_mem_cons.mpr ⟨(s_iloadn (by decide +kernel : decode cX2_takeAfter 12 = .ok (.iload_n 2, 1)) rfl).to, ?_⟩
  refine List.forall_mem_cons.mpr ⟨(s_iloadn (by decide +kernel : decode cX2_takeAfter 13 = .ok (.iload_n 3, 1)) rfl).to, ?_⟩
  refine List.forall_mem_cons.mpr ⟨z_cv (by decide +kernel : decode cX2_takeAfter 14 = .ok (.invokevirtual 71, 3)) mt44 wd690 (ci := 3) rfl (by decide), ?_⟩
  refine List.forall_mem_cons.mpr ⟨s_iret (by decide +kernel : decode cX2_takeAfter 17 = .ok (.ireturn, 1)) rfl, ?_⟩
  exact fun _ h => absurd h List.not_mem_nil
theorem sn_tX2_readShip_0 : ∀ q ∈ tX2_readShip_0, am_Snd am_P0 RX2 cX2_readShip 6 (Option.none : Option FieldType) "readShip" q.1 q.2 := by
  unfold tX2_readShip_0
  refine List.forall_mem_cons.mpr ⟨(s_aloadn (by decide +kernel : decode cX2_readShip 0 = .ok (.aload_n 0, 1)) rfl).to, ?_⟩
  refine List.forall_mem_cons.mpr ⟨(s_aloadn (by decide +kernel : decode cX2_readShip 1 = .ok (.aload_n 0, 1)) rfl).to, ?_⟩
  refine List.forall_mem_cons.mpr ⟨(s_get (ci := 2) (k := 1) (by decide +kernel : decode cX2_readShip 2 = .ok (.getfield 18, 3)) rfl (by decide) wd469 inX2 rfl).to, ?_⟩
  refine List.forall_mem_cons.mpr ⟨(s_get (ci := 5) (k := 3) (by decide +kernel : decode cX2_readShip 5 = .ok (.getfield 119, 3)) rfl (by decide) wd316 inX5 rfl).to, ?_⟩
  refine List.forall_mem_cons.mpr ⟨(s_bipush (by decide +kernel : decode cX2_readShip 8 = .ok (.bipush 8, 2)) (by decide)).to, ?_⟩
  refine List.forall_mem_cons.mpr ⟨(s_icmp_lt (by decide +kernel : decode cX2_readShip 10 = .ok (.if_icmp .lt 7, 3)) (by decide)).to, ?_⟩
  refine List.forall_mem_cons.mpr ⟨(s_iconst (by decide +kernel : decode cX2_readShip 13 = .ok (.iconst 1, 1)) (by decide)).to, ?_⟩
  refine List.forall_mem_cons.mpr ⟨(s_goto (by decide +kernel : decode cX2_readShip 14 = .ok (.goto 4, 3)) (by decide)).to, ?_⟩
  refine List.forall_mem_cons.mpr ⟨(s_iconst (by decide +kernel : decode cX2_readShip 17 = .ok (.iconst 0, 1)) (by decide)).to, ?_⟩
  refine List.forall_mem_cons.mpr ⟨z_cv (by decide +kernel : decode cX2_readShip 18 = .ok (.invokevirtual 90, 3)) mt13 wd707 (ci := 2) rfl (by decide), ?_⟩
  refine List.forall_mem_cons.mpr ⟨(s_if_eq (by decide +kernel : decode cX2_readShip 21 = .ok (.ifCond .eq 13, 3)) (by decide)).to, ?_⟩
  refine List.forall_mem_cons.mpr ⟨(s_aloadn (by decide +kernel : decode cX2_readShip 24 = .ok (.aload_n 0, 1)) rfl).to, ?_⟩
  refine List.forall_mem_cons.mpr ⟨(s_get (ci := 2) (k := 0) (by decide +kernel : decode cX2_readShip 25 = .ok (.getfield 12, 3)) rfl (by decide) wd467 inX2 rfl).to, ?_⟩
  refine List.forall_mem_cons.mpr ⟨z_cv (by decide +kernel : decode cX2_readShip 28 = .ok (.invokevirtual 122, 3)) mt45 wd781 (ci := 3) rfl (by decide), ?_⟩
  refine List.forall_mem_cons.mpr ⟨(s_if_ne (by decide +kernel : decode cX2_readShip 31 = .ok (.ifCond .ne 4, 3)) (by decide)).to, ?_⟩
  refine List.forall_mem_cons.mpr ⟨s_vret (by decide +kernel : decode cX2_readShip 34 = .ok (.return_, 1)) rfl, ?_⟩
  refine List.forall_mem_cons.mpr ⟨(s_aloadn (by decide +kernel : decode cX2_readShip 35 = .ok (.aload_n 0, 1)) rfl).to, ?_⟩
  refine List.forall_mem_cons.mpr ⟨(s_get (ci := 2) (k := 0) (by decide +kernel : decode cX2_readShip 36 = .ok (.getfield 12, 3)) rfl (by decide) wd467 inX2 rfl).to, ?_⟩
  refine List.forall_mem_cons.mpr ⟨(s_get (ci := 3) (k := 5) (by decide +kernel : decode cX2_readShip 39 = .ok (.getfield 125, 3)) rfl (by decide) wd436 inX3 rfl).to, ?_⟩
  refine List.forall_mem_cons.mpr ⟨(s_istoren (by decide +kernel : decode cX2_readShip 42 = .ok (.istore_n 1, 1)) rfl (by decide)).to, ?_⟩
  refine List.forall_mem_cons.mpr ⟨(s_aloadn (by decide +kernel : decode cX2_readShip 43 = .ok (.aload_n 0, 1)) rfl).to, ?_⟩
  refine List.forall_mem_cons.mpr ⟨(s_get (ci := 2) (k := 1) (by decide +kernel : decode cX2_readShip 44 = .ok (.getfield 18, 3)) rfl (by decide) wd469 inX2 rfl).to, ?_⟩
  refine List.forall_mem_cons.mpr ⟨(s_iloadn (by decide +kernel : decode cX2_readShip 47 = .ok (.iload_n 1, 1)) rfl).to, ?_⟩
  refine List.forall_mem_cons.mpr ⟨z_cv (by decide +kernel : decode cX2_readShip 48 = .ok (.invokevirtual 128, 3)) mt62 wd785 (ci := 5) rfl (by decide), ?_⟩
  refine List.forall_mem_cons.mpr ⟨(s_iconst (by decide +kernel : decode cX2_readShip 51 = .ok (.iconst (-1), 1)) (by decide)).to, ?_⟩
  refine List.forall_mem_cons.mpr ⟨(s_icmp_eq (by decide +kernel : decode cX2_readShip 52 = .ok (.if_icmp .eq 12, 3)) (by decide)).to, ?_⟩
  refine List.forall_mem_cons.mpr ⟨(s_aloadn (by decide +kernel : decode cX2_readShip 55 = .ok (.aload_n 0, 1)) rfl).to, ?_⟩
  refine List.forall_mem_cons.mpr ⟨(s_get (ci := 2) (k := 0) (by decide +kernel : decode cX2_readShip 56 = .ok (.getfield 12, 3)) rfl (by decide) wd467 inX2 rfl).to, ?_⟩
  refine List.forall_mem_cons.mpr ⟨(s_iconst (by decide +kernel : decode cX2_readShip 59 = .ok (.iconst 2, 1)) (by decide)).to, ?_⟩
  refine List.forall_mem_cons.mpr ⟨z_cv (by decide +kernel : decode cX2_readShip 60 = .ok (.invokevirtual 35, 3)) mt39 wd681 (ci := 3) rfl (by decide), ?_⟩
  refine List.forall_mem_cons.mpr ⟨s_vret (by decide +kernel : decode cX2_readShip 63 = .ok (.return_, 1)) rfl, ?_⟩
  refine List.forall_mem_cons.mpr ⟨(s_aloadn (by decide +kernel : decode cX2_readShip 64 = .ok (.aload_n 0, 1)) rfl).to, ?_⟩
  refine List.forall_mem_cons.mpr ⟨(s_get (ci := 2) (k := 0) (by decide +kernel : decode cX2_readShip 65 = .ok (.getfield 12, 3)) rfl (by decide) wd467 inX2 rfl).to, ?_⟩
  refine List.forall_mem_cons.mpr ⟨z_cv (by decide +kernel : decode cX2_readShip 68 = .ok (.invokevirtual 68, 3)) mt35 wd689 (ci := 3) rfl (by decide), ?_⟩
  refine List.forall_mem_cons.mpr ⟨(s_aloadn (by decide +kernel : decode cX2_readShip 71 = .ok (.aload_n 0, 1)) rfl).to, ?_⟩
  refine List.forall_mem_cons.mpr ⟨(s_iconst (by decide +kernel : decode cX2_readShip 72 = .ok (.iconst 5, 1)) (by decide)).to, ?_⟩
  refine List.forall_mem_cons.mpr ⟨(s_iconst (by decide +kernel : decode cX2_readShip 73 = .ok (.iconst 0, 1)) (by decide)).to, ?_⟩
  refine List.forall_mem_cons.mpr ⟨(s_iconst (by decide +kernel : decode cX2_readShip 74 = .ok (.iconst 3, 1)) (by decide)).to, ?_⟩
  refine List.forall_mem_cons.mpr ⟨z_cv (by decide +kernel : decode cX2_readShip 75 = .ok (.invokevirtual 132, 3)) mt15 wd789 (ci := 2) rfl (by decide), ?_⟩
  refine List.forall_mem_cons.mpr ⟨(s_istoren (by decide +kernel : decode cX2_readShip 78 = .ok (.istore_n 2, 1)) rfl (by decide)).to, ?_⟩
  refine List.forall_mem_cons.mpr ⟨(s_aloadn (by decide +kernel : decode cX2_readShip 79 = .ok (.aload_n 0, 1)) rfl).to, ?_⟩
  refine List.forall_mem_cons.mpr ⟨(s_bipush (by decide +kernel : decode cX2_readShip 80 = .ok (.bipush 6, 2)) (by decide)).to, ?_⟩
  refine List.forall_mem_cons.mpr ⟨(s_iconst (by decide +kernel : decode cX2_readShip 82 = .ok (.iconst 1, 1)) (by decide)).to, ?_⟩
  refine List.forall_mem_cons.mpr ⟨(s_iconst (by decide +kernel : decode cX2_readShip 83 = .ok (.iconst 4, 1)) (by decide)).to, ?_⟩
  refine List.forall_mem_cons.mpr ⟨z_cv (by decide +kernel : decode cX2_readShip 84 = .ok (.invokevirtual 132, 3)) mt15 wd789 (ci := 2) rfl (by decide), ?_⟩
  refine List.forall_mem_cons.mpr ⟨(s_istoren (by decide +kernel : decode cX2_readShip 87 = .ok (.istore_n 3, 1)) rfl (by decide)).to, ?_⟩
  refine List.forall_mem_cons.mpr ⟨(s_aloadn (by decide +kernel : decode cX2_readShip 88 = .ok (.aload_n 0, 1)) rfl).to, ?_⟩
  refine List.forall_mem_cons.mpr ⟨(s_bipush (by decide +kernel : decode cX2_readShip 89 = .ok (.bipush 7, 2)) (by decide)).to, ?_⟩
  refine List.forall_mem_cons.mpr ⟨(s_iconst (by decide +kernel : decode cX2_readShip 91 = .ok (.iconst 1, 1)) (by decide)).to, ?_⟩
  refine List.forall_mem_cons.mpr ⟨(s_bipush (by decide +kernel : decode cX2_readShip 92 = .ok (.bipush 40, 2)) (by decide)).to, ?_⟩
  refine List.forall_mem_cons.mpr ⟨z_cv (by decide +kernel : decode cX2_readShip 94 = .ok (.invokevirtual 132, 3)) mt15 wd789 (ci := 2) rfl (by decide), ?_⟩
  refine List.forall_mem_cons.mpr ⟨(s_istore (by decide +kernel : decode cX2_readShip 97 = .ok (.istore 4, 2)) (by decide)).to, ?_⟩
  refine List.forall_mem_cons.mpr ⟨(s_aloadn (by decide +kernel : decode cX2_readShip 99 = .ok (.aload_n 0, 1)) rfl).to, ?_⟩
  refine List.forall_mem_cons.mpr ⟨(s_bipush (by decide +kernel : decode cX2_readShip 100 = .ok (.bipush 8, 2)) (by decide)).to, ?_⟩
  refine List.forall_mem_cons.mpr ⟨(s_iconst (by decide +kernel : decode cX2_readShip 102 = .ok (.iconst 0, 1)) (by decide)).to, ?_⟩
  refine List.forall_mem_cons.mpr ⟨(s_bipush (by decide +kernel : decode cX2_readShip 103 = .ok (.bipush 40, 2)) (by decide)).to, ?_⟩
  refine List.forall_mem_cons.mpr ⟨z_cv (by decide +kernel : decode cX2_readShip 105 = .ok (.invokevirtual 132, 3)) mt15 wd789 (ci := 2) rfl (by decide), ?_⟩
  refine List.forall_mem_cons.mpr ⟨(s_istore (by decide +kernel : decode cX2_readShip 108 = .ok (.istore 5, 2)) (by decide)).to, ?_⟩
  refine List.forall_mem_cons.mpr ⟨(s_aloadn (by decide +kernel : decode cX2_readShip 110 = .ok (.aload_n 0, 1)) rfl).to, ?_⟩
  refine List.forall_mem_cons.mpr ⟨(s_get (ci := 2) (k := 0) (by decide +kernel : decode cX2_readShip 111 = .ok (.getfield 12, 3)) rfl (by decide) wd467 inX2 rfl).to, ?_⟩
  exact fun _ h => absurd h List.not_mem_nil
theorem sn_tX2_readShip_1 : ∀ q ∈ tX2_readShip_1, am_Snd am_P0 RX2 cX2_readShip 6 (Option.none : Option FieldType) "readShip" q.1 q.2 := by
  unfold tX2_readShip_1
  refine List.forall_mem_cons.mpr ⟨(s_get (ci := 3) (k := 8) (by decide +kernel : decode cX2_readShip 114 = .ok (.getfield 112, 3)) rfl (by decide) wd442 inX3 rfl).to, ?_⟩
  refine List.forall_mem_cons.mpr ⟨(s_if_ne (by decide +kernel : decode cX2_readShip 117 = .ok (.ifCond .ne 17, 3)) (by decide)).to, ?_⟩
  refine List.forall_mem_cons.mpr ⟨(s_aloadn (by decide +kernel : decode cX2_readShip 120 = .ok (.aload_n 0, 1)) rfl).to, ?_⟩
  refine List.forall_mem_cons.mpr ⟨(s_get (ci := 2) (k := 1) (by decide +kernel : decode cX2_readShip 121 = .ok (.getfield 18, 3)) rfl (by decide) wd469 inX2 rfl).to, ?_⟩
  refine List.forall_mem_cons.mpr ⟨(s_iloadn (by decide +kernel : decode cX2_readShip 124 = .ok (.iload_n 1, 1)) rfl).to, ?_⟩
  refine List.forall_mem_cons.mpr ⟨(s_iloadn (by decide +kernel : decode cX2_readShip 125 = .ok (.iload_n 2, 1)) rfl).to, ?_⟩
  refine List.forall_mem_cons.mpr ⟨(s_iloadn (by decide +kernel : decode cX2_readShip 126 = .ok (.iload_n 3, 1)) rfl).to, ?_⟩
  refine List.forall_mem_cons.mpr ⟨(s_iload (by decide +kernel : decode cX2_readShip 127 = .ok (.iload 4, 2))).to, ?_⟩
  refine List.forall_mem_cons.mpr ⟨(s_iload (by decide +kernel : decode cX2_readShip 129 = .ok (.iload 5, 2))).to, ?_⟩
  refine List.forall_mem_cons.mpr ⟨z_cv (by decide +kernel : decode cX2_readShip 131 = .ok (.invokevirtual 136, 3)) mt63 wd793 (ci := 5) rfl (by decide), ?_⟩
  refine List.forall_mem_cons.mpr ⟨s_vret (by decide +kernel : decode cX2_readShip 134 = .ok (.return_, 1)) rfl, ?_⟩
  exact fun _ h => absurd h List.not_mem_nil
theorem sn_tX2_readShip : ∀ q ∈ tX2_readShip, am_Snd am_P0 RX2 cX2_readShip 6 (Option.none : Option FieldType) "readShip" q.1 q.2 := by
  unfold tX2_readShip
  exact List.forall_mem_append.mpr ⟨sn_tX2_readShip_0, sn_tX2_readShip_1⟩
theorem sn_tX2_takeShip : ∀ q ∈ tX2_takeShip, am_Snd am_P0 RX2 cX2_takeShip 2 (Option.some FieldType.int) "takeShip" q.1 q.2 := by
  unfold tX2_takeShip
  refine List.forall_mem_cons.mpr ⟨(s_aloadn (by decide +kernel : decode cX2_takeShip 0 = .ok (.aload_n 0, 1)) rfl).to, ?_⟩
  refine List.forall_mem_cons.mpr ⟨(s_get (ci := 2) (k := 0) (by decide +kernel : decode cX2_takeShip 1 = .ok (.getfield 12, 3)) rfl (by decide) wd467 inX2 rfl).to, ?_⟩
  refine List.forall_mem_cons.mpr ⟨z_cv (by decide +kernel : decode cX2_takeShip 4 = .ok (.invokevirtual 122, 3)) mt45 wd781 (ci := 3) rfl (by decide), ?_⟩
  refine List.forall_mem_cons.mpr ⟨(s_if_ne (by decide +kernel : decode cX2_takeShip 7 = .ok (.ifCond .ne 5, 3)) (by decide)).to, ?_⟩
  refine List.forall_mem_cons.mpr ⟨(s_iconst (by decide +kernel : decode cX2_takeShip 10 = .ok (.iconst (-1), 1)) (by decide)).to, ?_⟩
  refine List.forall_mem_cons.mpr ⟨s_iret (by decide +kernel : decode cX2_takeShip 11 = .ok (.ireturn, 1)) rfl, ?_⟩
  refine List.forall_mem_cons.mpr ⟨(s_aloadn (by decide +kernel : decode cX2_takeShip 12 = .ok (.aload_n 0, 1)) rfl).to, ?_⟩
  refine List.forall_mem_cons.mpr ⟨(s_get (ci := 2) (k := 1) (by decide +kernel : decode cX2_takeShip 13 = .ok (.getfield 18, 3)) rfl (by decide) wd469 inX2 rfl).to, ?_⟩
  refine List.forall_mem_cons.mpr ⟨(s_aloadn (by decide +kernel : decode cX2_takeShip 16 = .ok (.aload_n 0, 1)) rfl).to, ?_⟩
  refine List.forall_mem_cons.mpr ⟨(s_get (ci := 2) (k := 0) (by decide +kernel : decode cX2_takeShip 17 = .ok (.getfield 12, 3)) rfl (by decide) wd467 inX2 rfl).to, ?_⟩
  refine List.forall_mem_cons.mpr ⟨(s_get (ci := 3) (k := 5) (by decide +kernel : decode cX2_takeShip 20 = .ok (.getfield 125, 3)) rfl (by decide) wd436 inX3 rfl).to, ?_⟩
  refine List.forall_mem_cons.mpr ⟨z_cv (by decide +kernel : decode cX2_takeShip 23 = .ok (.invokevirtual 128, 3)) mt62 wd785 (ci := 5) rfl (by decide), ?_⟩
  refine List.forall_mem_cons.mpr ⟨(s_istoren (by decide +kernel : decode cX2_takeShip 26 = .ok (.istore_n 1, 1)) rfl (by decide)).to, ?_⟩
  refine List.forall_mem_cons.mpr ⟨(s_iloadn (by decide +kernel : decode cX2_takeShip 27 = .ok (.iload_n 1, 1)) rfl).to, ?_⟩
  refine List.forall_mem_cons.mpr ⟨(s_iconst (by decide +kernel : decode cX2_takeShip 28 = .ok (.iconst (-1), 1)) (by decide)).to, ?_⟩
  refine List.forall_mem_cons.mpr ⟨(s_icmp_ne (by decide +kernel : decode cX2_takeShip 29 = .ok (.if_icmp .ne 14, 3)) (by decide)).to, ?_⟩
  refine List.forall_mem_cons.mpr ⟨(s_aloadn (by decide +kernel : decode cX2_takeShip 32 = .ok (.aload_n 0, 1)) rfl).to, ?_⟩
  refine List.forall_mem_cons.mpr ⟨(s_get (ci := 2) (k := 0) (by decide +kernel : decode cX2_takeShip 33 = .ok (.getfield 12, 3)) rfl (by decide) wd467 inX2 rfl).to, ?_⟩
  refine List.forall_mem_cons.mpr ⟨(s_iconst (by decide +kernel : decode cX2_takeShip 36 = .ok (.iconst 3, 1)) (by decide)).to, ?_⟩
  refine List.forall_mem_cons.mpr ⟨z_cv (by decide +kernel : decode cX2_takeShip 37 = .ok (.invokevirtual 35, 3)) mt39 wd681 (ci := 3) rfl (by decide), ?_⟩
  refine List.forall_mem_cons.mpr ⟨(s_goto (by decide +kernel : decode cX2_takeShip 40 = .ok (.goto 10, 3)) (by decide)).to, ?_⟩
  refine List.forall_mem_cons.mpr ⟨(s_aloadn (by decide +kernel : decode cX2_takeShip 43 = .ok (.aload_n 0, 1)) rfl).to, ?_⟩
  refine List.forall_mem_cons.mpr ⟨(s_get (ci := 2) (k := 0) (by decide +kernel : decode cX2_takeShip 44 = .ok (.getfield 12, 3)) rfl (by decide) wd467 inX2 rfl).to, ?_⟩
  refine List.forall_mem_cons.mpr ⟨z_cv (by decide +kernel : decode cX2_takeShip 47 = .ok (.invokevirtual 68, 3)) mt35 wd689 (ci := 3) rfl (by decide), ?_⟩
  refine List.forall_mem_cons.mpr ⟨(s_iloadn (by decide +kernel : decode cX2_takeShip 50 = .ok (.iload_n 1, 1)) rfl).to, ?_⟩
  refine List.forall_mem_cons.mpr ⟨s_iret (by decide +kernel : decode cX2_takeShip 51 = .ok (.ireturn, 1)) rfl, ?_⟩
  exact fun _ h => absurd h List.not_mem_nil
theorem sn_tX2_takePlace : ∀ q ∈ tX2_takePlace, am_Snd am_P0 RX2 cX2_takePlace 3 (Option.some FieldType.int) "takePlace" q.1 q.2 := by
  unfold tX2_takePlace
  refine List.forall_mem_cons.mpr ⟨(s_aloadn (by decide +kernel : decode cX2_takePlace 0 = .ok (.aload_n 0, 1)) rfl).to, ?_⟩
  refine List.forall_mem_cons.mpr ⟨(s_get (ci := 2) (k := 0) (by decide +kernel : decode cX2_takePlace 1 = .ok (.getfield 12, 3)) rfl (by decide) wd467 inX2 rfl).to, ?_⟩
  refine List.forall_mem_cons.mpr ⟨(s_bipush (by decide +kernel : decode cX2_takePlace 4 = .ok (.bipush 10, 2)) (by decide)).to, ?_⟩
  refine List.forall_mem_cons.mpr ⟨z_cv (by decide +kernel : decode cX2_takePlace 6 = .ok (.invokevirtual 106, 3)) mt42 wd752 (ci := 3) rfl (by decide), ?_⟩
  refine List.forall_mem_cons.mpr ⟨(s_aloadn (by decide +kernel : decode cX2_takePlace 9 = .ok (.aload_n 0, 1)) rfl).to, ?_⟩
  refine List.forall_mem_cons.mpr ⟨(s_get (ci := 2) (k := 0) (by decide +kernel : decode cX2_takePlace 10 = .ok (.getfield 12, 3)) rfl (by decide) wd467 inX2 rfl).to, ?_⟩
  refine List.forall_mem_cons.mpr ⟨(s_iconst (by decide +kernel : decode cX2_takePlace 13 = .ok (.iconst 0, 1)) (by decide)).to, ?_⟩
  refine List.forall_mem_cons.mpr ⟨(s_aloadn (by decide +kernel : decode cX2_takePlace 14 = .ok (.aload_n 0, 1)) rfl).to, ?_⟩
  refine List.forall_mem_cons.mpr ⟨(s_get (ci := 2) (k := 1) (by decide +kernel : decode cX2_takePlace 15 = .ok (.getfield 18, 3)) rfl (by decide) wd469 inX2 rfl).to, ?_⟩
  refine List.forall_mem_cons.mpr ⟨(s_get (ci := 5) (k := 0) (by decide +kernel : decode cX2_takePlace 18 = .ok (.getfield 78, 3)) rfl (by decide) wd306 inX5 rfl).to, ?_⟩
  refine List.forall_mem_cons.mpr ⟨(s_iconst (by decide +kernel : decode cX2_takePlace 21 = .ok (.iconst 1, 1)) (by decide)).to, ?_⟩
  refine List.forall_mem_cons.mpr ⟨(s_isub (by decide +kernel : decode cX2_takePlace 22 = .ok (.isub, 1))).to, ?_⟩
  refine List.forall_mem_cons.mpr ⟨z_cv (by decide +kernel : decode cX2_takePlace 23 = .ok (.invokevirtual 71, 3)) mt44 wd690 (ci := 3) rfl (by decide), ?_⟩
  refine List.forall_mem_cons.mpr ⟨(s_istoren (by decide +kernel : decode cX2_takePlace 26 = .ok (.istore_n 1, 1)) rfl (by decide)).to, ?_⟩
  refine List.forall_mem_cons.mpr ⟨(s_aloadn (by decide +kernel : decode cX2_takePlace 27 = .ok (.aload_n 0, 1)) rfl).to, ?_⟩
  refine List.forall_mem_cons.mpr ⟨(s_get (ci := 2) (k := 0) (by decide +kernel : decode cX2_takePlace 28 = .ok (.getfield 12, 3)) rfl (by decide) wd467 inX2 rfl).to, ?_⟩
  refine List.forall_mem_cons.mpr ⟨(s_iconst (by decide +kernel : decode cX2_takePlace 31 = .ok (.iconst 0, 1)) (by decide)).to, ?_⟩
  refine List.forall_mem_cons.mpr ⟨(s_aloadn (by decide +kernel : decode cX2_takePlace 32 = .ok (.aload_n 0, 1)) rfl).to, ?_⟩
  refine List.forall_mem_cons.mpr ⟨(s_get (ci := 2) (k := 1) (by decide +kernel : decode cX2_takePlace 33 = .ok (.getfield 18, 3)) rfl (by decide) wd469 inX2 rfl).to, ?_⟩
  refine List.forall_mem_cons.mpr ⟨(s_get (ci := 5) (k := 1) (by decide +kernel : decode cX2_takePlace 36 = .ok (.getfield 81, 3)) rfl (by decide) wd309 inX5 rfl).to, ?_⟩
  refine List.forall_mem_cons.mpr ⟨(s_iconst (by decide +kernel : decode cX2_takePlace 39 = .ok (.iconst 1, 1)) (by decide)).to, ?_⟩
  refine List.forall_mem_cons.mpr ⟨(s_isub (by decide +kernel : decode cX2_takePlace 40 = .ok (.isub, 1))).to, ?_⟩
  refine List.forall_mem_cons.mpr ⟨z_cv (by decide +kernel : decode cX2_takePlace 41 = .ok (.invokevirtual 71, 3)) mt44 wd690 (ci := 3) rfl (by decide), ?_⟩
  refine List.forall_mem_cons.mpr ⟨(s_istoren (by decide +kernel : decode cX2_takePlace 44 = .ok (.istore_n 2, 1)) rfl (by decide)).to, ?_⟩
  refine List.forall_mem_cons.mpr ⟨(s_iloadn (by decide +kernel : decode cX2_takePlace 45 = .ok (.iload_n 2, 1)) rfl).to, ?_⟩
  refine List.forall_mem_cons.mpr ⟨(s_bipush (by decide +kernel : decode cX2_takePlace 46 = .ok (.bipush 16, 2)) (by decide)).to, ?_⟩
  refine List.forall_mem_cons.mpr ⟨(s_imul (by decide +kernel : decode cX2_takePlace 48 = .ok (.imul, 1))).to, ?_⟩
  refine List.forall_mem_cons.mpr ⟨(s_iloadn (by decide +kernel : decode cX2_takePlace 49 = .ok (.iload_n 1, 1)) rfl).to, ?_⟩
  refine List.forall_mem_cons.mpr ⟨(s_iadd (by decide +kernel : decode cX2_takePlace 50 = .ok (.iadd, 1))).to, ?_⟩
  refine List.forall_mem_cons.mpr ⟨s_iret (by decide +kernel : decode cX2_takePlace 51 = .ok (.ireturn, 1)) rfl, ?_⟩
  exact fun _ h => absurd h List.not_mem_nil
theorem sn_tX2_readSaying_0 : ∀ q ∈ tX2_readSaying_0, am_Snd am_P0 RX2 cX2_readSaying 5 (Option.none : Option FieldType) "readSaying" q.1 q.2 := by
  unfold tX2_readSaying_0
  refine List.forall_mem_cons.mpr ⟨(s_aloadn (by decide +kernel : decode cX2_readSaying 0 = .ok (.aload_n 0, 1)) rfl).to, ?_⟩
  refine List.forall_mem_cons.mpr ⟨(s_aloadn (by decide +kernel : decode cX2_readSaying 1 = .ok (.aload_n 0, 1)) rfl).to, ?_⟩
  refine List.forall_mem_cons.mpr ⟨(s_get (ci := 2) (k := 1) (by decide +kernel : decode cX2_readSaying 2 = .ok (.getfield 18, 3)) rfl (by decide) wd469 inX2 rfl).to, ?_⟩
  refine List.forall_mem_cons.mpr ⟨z_cv (by decide +kernel : decode cX2_readSaying 5 = .ok (.invokevirtual 140, 3)) mt59 wd801 (ci := 5) rfl (by decide), ?_⟩
  refine List.forall_mem_cons.mpr ⟨(s_bipush (by decide +kernel : decode cX2_readSaying 8 = .ok (.bipush 96, 2)) (by decide)).to, ?_⟩
  refine List.forall_mem_cons.mpr ⟨(s_icmp_lt (by decide +kernel : decode cX2_readSaying 10 = .ok (.if_icmp .lt 7, 3)) (by decide)).to, ?_⟩
  refine List.forall_mem_cons.mpr ⟨(s_iconst (by decide +kernel : decode cX2_readSaying 13 = .ok (.iconst 1, 1)) (by decide)).to, ?_⟩
  refine List.forall_mem_cons.mpr ⟨(s_goto (by decide +kernel : decode cX2_readSaying 14 = .ok (.goto 4, 3)) (by decide)).to, ?_⟩
  refine List.forall_mem_cons.mpr ⟨(s_iconst (by decide +kernel : decode cX2_readSaying 17 = .ok (.iconst 0, 1)) (by decide)).to, ?_⟩
  refine List.forall_mem_cons.mpr ⟨z_cv (by decide +kernel : decode cX2_readSaying 18 = .ok (.invokevirtual 90, 3)) mt13 wd707 (ci := 2) rfl (by decide), ?_⟩
  refine List.forall_mem_cons.mpr ⟨(s_if_ne (by decide +kernel : decode cX2_readSaying 21 = .ok (.ifCond .ne 4, 3)) (by decide)).to, ?_⟩
  refine List.forall_mem_cons.mpr ⟨s_vret (by decide +kernel : decode cX2_readSaying 24 = .ok (.return_, 1)) rfl, ?_⟩
  refine List.forall_mem_cons.mpr ⟨(s_aloadn (by decide +kernel : decode cX2_readSaying 25 = .ok (.aload_n 0, 1)) rfl).to, ?_⟩
  refine List.forall_mem_cons.mpr ⟨z_cv (by decide +kernel : decode cX2_readSaying 26 = .ok (.invokevirtual 144, 3)) mt17 wd805 (ci := 2) rfl (by decide), ?_⟩
  refine List.forall_mem_cons.mpr ⟨(s_istoren (by decide +kernel : decode cX2_readSaying 29 = .ok (.istore_n 1, 1)) rfl (by decide)).to, ?_⟩
  refine List.forall_mem_cons.mpr ⟨(s_iloadn (by decide +kernel : decode cX2_readSaying 30 = .ok (.iload_n 1, 1)) rfl).to, ?_⟩
  refine List.forall_mem_cons.mpr ⟨(s_iconst (by decide +kernel : decode cX2_readSaying 31 = .ok (.iconst (-1), 1)) (by decide)).to, ?_⟩
  refine List.forall_mem_cons.mpr ⟨(s_icmp_eq (by decide +kernel : decode cX2_readSaying 32 = .ok (.if_icmp .eq 16, 3)) (by decide)).to, ?_⟩
  refine List.forall_mem_cons.mpr ⟨(s_aloadn (by decide +kernel : decode cX2_readSaying 35 = .ok (.aload_n 0, 1)) rfl).to, ?_⟩
  refine List.forall_mem_cons.mpr ⟨(s_get (ci := 2) (k := 0) (by decide +kernel : decode cX2_readSaying 36 = .ok (.getfield 12, 3)) rfl (by decide) wd467 inX2 rfl).to, ?_⟩
  refine List.forall_mem_cons.mpr ⟨(s_iconst (by decide +kernel : decode cX2_readSaying 39 = .ok (.iconst 0, 1)) (by decide)).to, ?_⟩
  refine List.forall_mem_cons.mpr ⟨(s_bipush (by decide +kernel : decode cX2_readSaying 40 = .ok (.bipush 47, 2)) (by decide)).to, ?_⟩
  refine List.forall_mem_cons.mpr ⟨z_cv (by decide +kernel : decode cX2_readSaying 42 = .ok (.invokevirtual 147, 3)) mt43 wd809 (ci := 3) rfl (by decide), ?_⟩
  refine List.forall_mem_cons.mpr ⟨(s_if_ne (by decide +kernel : decode cX2_readSaying 45 = .ok (.ifCond .ne 4, 3)) (by decide)).to, ?_⟩
  refine List.forall_mem_cons.mpr ⟨s_vret (by decide +kernel : decode cX2_readSaying 48 = .ok (.return_, 1)) rfl, ?_⟩
  refine List.forall_mem_cons.mpr ⟨(s_aloadn (by decide +kernel : decode cX2_readSaying 49 = .ok (.aload_n 0, 1)) rfl).to, ?_⟩
  refine List.forall_mem_cons.mpr ⟨(s_get (ci := 2) (k := 0) (by decide +kernel : decode cX2_readSaying 50 = .ok (.getfield 12, 3)) rfl (by decide) wd467 inX2 rfl).to, ?_⟩
  refine List.forall_mem_cons.mpr ⟨(s_get (ci := 3) (k := 5) (by decide +kernel : decode cX2_readSaying 53 = .ok (.getfield 125, 3)) rfl (by decide) wd436 inX3 rfl).to, ?_⟩
  refine List.forall_mem_cons.mpr ⟨(s_istoren (by decide +kernel : decode cX2_readSaying 56 = .ok (.istore_n 2, 1)) rfl (by decide)).to, ?_⟩
  refine List.forall_mem_cons.mpr ⟨(s_aloadn (by decide +kernel : decode cX2_readSaying 57 = .ok (.aload_n 0, 1)) rfl).to, ?_⟩
  refine List.forall_mem_cons.mpr ⟨(s_get (ci := 2) (k := 1) (by decide +kernel : decode cX2_readSaying 58 = .ok (.getfield 18, 3)) rfl (by decide) wd469 inX2 rfl).to, ?_⟩
  refine List.forall_mem_cons.mpr ⟨(s_get (ci := 5) (k := 4) (by decide +kernel : decode cX2_readSaying 61 = .ok (.getfield 151, 3)) rfl (by decide) wd319 inX5 rfl).to, ?_⟩
  refine List.forall_mem_cons.mpr ⟨(s_iloadn (by decide +kernel : decode cX2_readSaying 64 = .ok (.iload_n 1, 1)) rfl).to, ?_⟩
  refine List.forall_mem_cons.mpr ⟨(s_aald (by decide +kernel : decode cX2_readSaying 65 = .ok (.aaload, 1))).to, ?_⟩
  refine List.forall_mem_cons.mpr ⟨(s_iloadn (by decide +kernel : decode cX2_readSaying 66 = .ok (.iload_n 2, 1)) rfl).to, ?_⟩
  refine List.forall_mem_cons.mpr ⟨z_cv (by decide +kernel : decode cX2_readSaying 67 = .ok (.invokevirtual 155, 3)) mt65 wd810 (ci := 6) rfl (by decide), ?_⟩
  refine List.forall_mem_cons.mpr ⟨(s_if_eq (by decide +kernel : decode cX2_readSaying 70 = .ok (.ifCond .eq 12, 3)) (by decide)).to, ?_⟩
  refine List.forall_mem_cons.mpr ⟨(s_aloadn (by decide +kernel : decode cX2_readSaying 73 = .ok (.aload_n 0, 1)) rfl).to, ?_⟩
  refine List.forall_mem_cons.mpr ⟨(s_get (ci := 2) (k := 0) (by decide +kernel : decode cX2_readSaying 74 = .ok (.getfield 12, 3)) rfl (by decide) wd467 inX2 rfl).to, ?_⟩
  refine List.forall_mem_cons.mpr ⟨(s_iconst (by decide +kernel : decode cX2_readSaying 77 = .ok (.iconst 3, 1)) (by decide)).to, ?_⟩
  refine List.forall_mem_cons.mpr ⟨z_cv (by decide +kernel : decode cX2_readSaying 78 = .ok (.invokevirtual 35, 3)) mt39 wd681 (ci := 3) rfl (by decide), ?_⟩
  refine List.forall_mem_cons.mpr ⟨s_vret (by decide +kernel : decode cX2_readSaying 81 = .ok (.return_, 1)) rfl, ?_⟩
  refine List.forall_mem_cons.mpr ⟨(s_aloadn (by decide +kernel : decode cX2_readSaying 82 = .ok (.aload_n 0, 1)) rfl).to, ?_⟩
  refine List.forall_mem_cons.mpr ⟨(s_get (ci := 2) (k := 0) (by decide +kernel : decode cX2_readSaying 83 = .ok (.getfield 12, 3)) rfl (by decide) wd467 inX2 rfl).to, ?_⟩
  refine List.forall_mem_cons.mpr ⟨z_cv (by decide +kernel : decode cX2_readSaying 86 = .ok (.invokevirtual 68, 3)) mt35 wd689 (ci := 3) rfl (by decide), ?_⟩
  refine List.forall_mem_cons.mpr ⟨(s_aloadn (by decide +kernel : decode cX2_readSaying 89 = .ok (.aload_n 0, 1)) rfl).to, ?_⟩
  refine List.forall_mem_cons.mpr ⟨z_cv (by decide +kernel : decode cX2_readSaying 90 = .ok (.invokevirtual 161, 3)) mt18 wd814 (ci := 2) rfl (by decide), ?_⟩
  refine List.forall_mem_cons.mpr ⟨(s_istoren (by decide +kernel : decode cX2_readSaying 93 = .ok (.istore_n 3, 1)) rfl (by decide)).to, ?_⟩
  refine List.forall_mem_cons.mpr ⟨(s_aloadn (by decide +kernel : decode cX2_readSaying 94 = .ok (.aload_n 0, 1)) rfl).to, ?_⟩
  refine List.forall_mem_cons.mpr ⟨(s_bipush (by decide +kernel : decode cX2_readSaying 95 = .ok (.bipush 11, 2)) (by decide)).to, ?_⟩
  refine List.forall_mem_cons.mpr ⟨(s_iconst (by decide +kernel : decode cX2_readSaying 97 = .ok (.iconst 0, 1)) (by decide)).to, ?_⟩
  refine List.forall_mem_cons.mpr ⟨(s_iconst (by decide +kernel : decode cX2_readSaying 98 = .ok (.iconst 1, 1)) (by decide)).to, ?_⟩
  refine List.forall_mem_cons.mpr ⟨z_cv (by decide +kernel : decode cX2_readSaying 99 = .ok (.invokevirtual 132, 3)) mt15 wd789 (ci := 2) rfl (by decide), ?_⟩
  refine List.forall_mem_cons.mpr ⟨(s_istore (by decide +kernel : decode cX2_readSaying 102 = .ok (.istore 4, 2)) (by decide)).to, ?_⟩
  refine List.forall_mem_cons.mpr ⟨(s_aloadn (by decide +kernel : decode cX2_readSaying 104 = .ok (.aload_n 0, 1)) rfl).to, ?_⟩
  refine List.forall_mem_cons.mpr ⟨(s_get (ci := 2) (k := 0) (by decide +kernel : decode cX2_readSaying 105 = .ok (.getfield 12, 3)) rfl (by decide) wd467 inX2 rfl).to, ?_⟩
  refine List.forall_mem_cons.mpr ⟨(s_get (ci := 3) (k := 8) (by decide +kernel : decode cX2_readSaying 108 = .ok (.getfield 112, 3)) rfl (by decide) wd442 inX3 rfl).to, ?_⟩
  refine List.forall_mem_cons.mpr ⟨(s_if_ne (by decide +kernel : decode cX2_readSaying 111 = .ok (.ifCond .ne 29, 3)) (by decide)).to, ?_⟩
  refine List.forall_mem_cons.mpr ⟨(s_aloadn (by decide +kernel : decode cX2_readSaying 114 = .ok (.aload_n 0, 1)) rfl).to, ?_⟩
  refine List.forall_mem_cons.mpr ⟨(s_get (ci := 2) (k := 1) (by decide +kernel : decode cX2_readSaying 115 = .ok (.getfield 18, 3)) rfl (by decide) wd469 inX2 rfl).to, ?_⟩
  exact fun _ h => absurd h List.not_mem_nil
theorem sn_tX2_readSaying_1 : ∀ q ∈ tX2_readSaying_1, am_Snd am_P0 RX2 cX2_readSaying 5 (Option.none : Option FieldType) "readSaying" q.1 q.2 := by
  unfold tX2_readSaying_1
  refine List.forall_mem_cons.mpr ⟨(s_get (ci := 5) (k := 4) (by decide +kernel : decode cX2_readSaying 118 = .ok (.getfield 151, 3)) rfl (by decide) wd319 inX5 rfl).to, ?_⟩
  refine List.forall_mem_cons.mpr ⟨(s_iloadn (by decide +kernel : decode cX2_readSaying 121 = .ok (.iload_n 1, 1)) rfl).to, ?_⟩
  refine List.forall_mem_cons.mpr ⟨(s_aald (by decide +kernel : decode cX2_readSaying 122 = .ok (.aaload, 1))).to, ?_⟩
  refine List.forall_mem_cons.mpr ⟨(s_iloadn (by decide +kernel : decode cX2_readSaying 123 = .ok (.iload_n 2, 1)) rfl).to, ?_⟩
  refine List.forall_mem_cons.mpr ⟨(s_iloadn (by decide +kernel : decode cX2_readSaying 124 = .ok (.iload_n 3, 1)) rfl).to, ?_⟩
  refine List.forall_mem_cons.mpr ⟨(s_iload (by decide +kernel : decode cX2_readSaying 125 = .ok (.iload 4, 2))).to, ?_⟩
  refine List.forall_mem_cons.mpr ⟨(s_iconst (by decide +kernel : decode cX2_readSaying 127 = .ok (.iconst 1, 1)) (by decide)).to, ?_⟩
  refine List.forall_mem_cons.mpr ⟨(s_icmp_ne (by decide +kernel : decode cX2_readSaying 128 = .ok (.if_icmp .ne 7, 3)) (by decide)).to, ?_⟩
  refine List.forall_mem_cons.mpr ⟨(s_iconst (by decide +kernel : decode cX2_readSaying 131 = .ok (.iconst 1, 1)) (by decide)).to, ?_⟩
  refine List.forall_mem_cons.mpr ⟨(s_goto (by decide +kernel : decode cX2_readSaying 132 = .ok (.goto 4, 3)) (by decide)).to, ?_⟩
  refine List.forall_mem_cons.mpr ⟨(s_iconst (by decide +kernel : decode cX2_readSaying 135 = .ok (.iconst 0, 1)) (by decide)).to, ?_⟩
  refine List.forall_mem_cons.mpr ⟨z_cv (by decide +kernel : decode cX2_readSaying 136 = .ok (.invokevirtual 164, 3)) mt66 wd818 (ci := 6) rfl (by decide), ?_⟩
  refine List.forall_mem_cons.mpr ⟨(s_pop (by decide +kernel : decode cX2_readSaying 139 = .ok (.pop, 1))).to, ?_⟩
  refine List.forall_mem_cons.mpr ⟨s_vret (by decide +kernel : decode cX2_readSaying 140 = .ok (.return_, 1)) rfl, ?_⟩
  exact fun _ h => absurd h List.not_mem_nil
theorem sn_tX2_readSaying : ∀ q ∈ tX2_readSaying, am_Snd am_P0 RX2 cX2_readSaying 5 (Option.none : Option FieldType) "readSaying" q.1 q.2 := by
  unfold tX2_readSaying
  exact List.forall_mem_append.mpr ⟨sn_tX2_readSaying_0, sn_tX2_readSaying_1⟩
theorem sn_tX2_readBook : ∀ q ∈ tX2_readBook, am_Snd am_P0 RX2 cX2_readBook 5 (Option.none : Option FieldType) "readBook" q.1 q.2 := by
  unfold tX2_readBook
  refine List.forall_mem_cons.mpr ⟨(s_aloadn (by decide +kernel : decode cX2_readBook 0 = .ok (.aload_n 0, 1)) rfl).to, ?_⟩
  refine List.forall_mem_cons.mpr ⟨(s_aloadn (by decide +kernel : decode cX2_readBook 1 = .ok (.aload_n 0, 1)) rfl).to, ?_⟩
  refine List.forall_mem_cons.mpr ⟨(s_get (ci := 2) (k := 1) (by decide +kernel : decode cX2_readBook 2 = .ok (.getfield 18, 3)) rfl (by decide) wd469 inX2 rfl).to, ?_⟩
  refine List.forall_mem_cons.mpr ⟨z_cv (by decide +kernel : decode cX2_readBook 5 = .ok (.invokevirtual 168, 3)) mt61 wd826 (ci := 5) rfl (by decide), ?_⟩
  refine List.forall_mem_cons.mpr ⟨(s_bipush (by decide +kernel : decode cX2_readBook 8 = .ok (.bipush 12, 2)) (by decide)).to, ?_⟩
  refine List.forall_mem_cons.mpr ⟨(s_icmp_lt (by decide +kernel : decode cX2_readBook 10 = .ok (.if_icmp .lt 7, 3)) (by decide)).to, ?_⟩
  refine List.forall_mem_cons.mpr ⟨(s_iconst (by decide +kernel : decode cX2_readBook 13 = .ok (.iconst 1, 1)) (by decide)).to, ?_⟩
  refine List.forall_mem_cons.mpr ⟨(s_goto (by decide +kernel : decode cX2_readBook 14 = .ok (.goto 4, 3)) (by decide)).to, ?_⟩
  refine List.forall_mem_cons.mpr ⟨(s_iconst (by decide +kernel : decode cX2_readBook 17 = .ok (.iconst 0, 1)) (by decide)).to, ?_⟩
  refine List.forall_mem_cons.mpr ⟨z_cv (by decide +kernel : decode cX2_readBook 18 = .ok (.invokevirtual 90, 3)) mt13 wd707 (ci := 2) rfl (by decide), ?_⟩
  refine List.forall_mem_cons.mpr ⟨(s_if_ne (by decide +kernel : decode cX2_readBook 21 = .ok (.ifCond .ne 4, 3)) (by decide)).to, ?_⟩
  refine List.forall_mem_cons.mpr ⟨s_vret (by decide +kernel : decode cX2_readBook 24 = .ok (.return_, 1)) rfl, ?_⟩
  refine List.forall_mem_cons.mpr ⟨(s_aloadn (by decide +kernel : decode cX2_readBook 25 = .ok (.aload_n 0, 1)) rfl).to, ?_⟩
  refine List.forall_mem_cons.mpr ⟨z_cv (by decide +kernel : decode cX2_readBook 26 = .ok (.invokevirtual 144, 3)) mt17 wd805 (ci := 2) rfl (by decide), ?_⟩
  refine List.forall_mem_cons.mpr ⟨(s_istoren (by decide +kernel : decode cX2_readBook 29 = .ok (.istore_n 1, 1)) rfl (by decide)).to, ?_⟩
  refine List.forall_mem_cons.mpr ⟨(s_aloadn (by decide +kernel : decode cX2_readBook 30 = .ok (.aload_n 0, 1)) rfl).to, ?_⟩
  refine List.forall_mem_cons.mpr ⟨z_cv (by decide +kernel : decode cX2_readBook 31 = .ok (.invokevirtual 161, 3)) mt18 wd814 (ci := 2) rfl (by decide), ?_⟩
  refine List.forall_mem_cons.mpr ⟨(s_istoren (by decide +kernel : decode cX2_readBook 34 = .ok (.istore_n 2, 1)) rfl (by decide)).to, ?_⟩
  refine List.forall_mem_cons.mpr ⟨(s_aloadn (by decide +kernel : decode cX2_readBook 35 = .ok (.aload_n 0, 1)) rfl).to, ?_⟩
  refine List.forall_mem_cons.mpr ⟨(s_bipush (by decide +kernel : decode cX2_readBook 36 = .ok (.bipush 13, 2)) (by decide)).to, ?_⟩
  refine List.forall_mem_cons.mpr ⟨(s_iconst (by decide +kernel : decode cX2_readBook 38 = .ok (.iconst 0, 1)) (by decide)).to, ?_⟩
  refine List.forall_mem_cons.mpr ⟨(s_bipush (by decide +kernel : decode cX2_readBook 39 = .ok (.bipush 47, 2)) (by decide)).to, ?_⟩
  refine List.forall_mem_cons.mpr ⟨z_cv (by decide +kernel : decode cX2_readBook 41 = .ok (.invokevirtual 132, 3)) mt15 wd789 (ci := 2) rfl (by decide), ?_⟩
  refine List.forall_mem_cons.mpr ⟨(s_istoren (by decide +kernel : decode cX2_readBook 44 = .ok (.istore_n 3, 1)) rfl (by decide)).to, ?_⟩
  refine List.forall_mem_cons.mpr ⟨(s_aloadn (by decide +kernel : decode cX2_readBook 45 = .ok (.aload_n 0, 1)) rfl).to, ?_⟩
  refine List.forall_mem_cons.mpr ⟨(s_bipush (by decide +kernel : decode cX2_readBook 46 = .ok (.bipush 14, 2)) (by decide)).to, ?_⟩
  refine List.forall_mem_cons.mpr ⟨(s_iloadn (by decide +kernel : decode cX2_readBook 48 = .ok (.iload_n 3, 1)) rfl).to, ?_⟩
  refine List.forall_mem_cons.mpr ⟨(s_bipush (by decide +kernel : decode cX2_readBook 49 = .ok (.bipush 47, 2)) (by decide)).to, ?_⟩
  refine List.forall_mem_cons.mpr ⟨z_cv (by decide +kernel : decode cX2_readBook 51 = .ok (.invokevirtual 132, 3)) mt15 wd789 (ci := 2) rfl (by decide), ?_⟩
  refine List.forall_mem_cons.mpr ⟨(s_istore (by decide +kernel : decode cX2_readBook 54 = .ok (.istore 4, 2)) (by decide)).to, ?_⟩
  refine List.forall_mem_cons.mpr ⟨(s_aloadn (by decide +kernel : decode cX2_readBook 56 = .ok (.aload_n 0, 1)) rfl).to, ?_⟩
  refine List.forall_mem_cons.mpr ⟨(s_get (ci := 2) (k := 0) (by decide +kernel : decode cX2_readBook 57 = .ok (.getfield 12, 3)) rfl (by decide) wd467 inX2 rfl).to, ?_⟩
  refine List.forall_mem_cons.mpr ⟨(s_get (ci := 3) (k := 8) (by decide +kernel : decode cX2_readBook 60 = .ok (.getfield 112, 3)) rfl (by decide) wd442 inX3 rfl).to, ?_⟩
  refine List.forall_mem_cons.mpr ⟨(s_if_ne (by decide +kernel : decode cX2_readBook 63 = .ok (.ifCond .ne 24, 3)) (by decide)).to, ?_⟩
  refine List.forall_mem_cons.mpr ⟨(s_iloadn (by decide +kernel : decode cX2_readBook 66 = .ok (.iload_n 1, 1)) rfl).to, ?_⟩
  refine List.forall_mem_cons.mpr ⟨(s_iconst (by decide +kernel : decode cX2_readBook 67 = .ok (.iconst (-1), 1)) (by decide)).to, ?_⟩
  refine List.forall_mem_cons.mpr ⟨(s_icmp_eq (by decide +kernel : decode cX2_readBook 68 = .ok (.if_icmp .eq 19, 3)) (by decide)).to, ?_⟩
  refine List.forall_mem_cons.mpr ⟨(s_aloadn (by decide +kernel : decode cX2_readBook 71 = .ok (.aload_n 0, 1)) rfl).to, ?_⟩
  refine List.forall_mem_cons.mpr ⟨(s_get (ci := 2) (k := 1) (by decide +kernel : decode cX2_readBook 72 = .ok (.getfield 18, 3)) rfl (by decide) wd469 inX2 rfl).to, ?_⟩
  refine List.forall_mem_cons.mpr ⟨(s_get (ci := 5) (k := 4) (by decide +kernel : decode cX2_readBook 75 = .ok (.getfield 151, 3)) rfl (by decide) wd319 inX5 rfl).to, ?_⟩
  refine List.forall_mem_cons.mpr ⟨(s_iloadn (by decide +kernel : decode cX2_readBook 78 = .ok (.iload_n 1, 1)) rfl).to, ?_⟩
  refine List.forall_mem_cons.mpr ⟨(s_aald (by decide +kernel : decode cX2_readBook 79 = .ok (.aaload, 1))).to, ?_⟩
  refine List.forall_mem_cons.mpr ⟨(s_iloadn (by decide +kernel : decode cX2_readBook 80 = .ok (.iload_n 2, 1)) rfl).to, ?_⟩
  refine List.forall_mem_cons.mpr ⟨(s_iloadn (by decide +kernel : decode cX2_readBook 81 = .ok (.iload_n 3, 1)) rfl).to, ?_⟩
  refine List.forall_mem_cons.mpr ⟨(s_iload (by decide +kernel : decode cX2_readBook 82 = .ok (.iload 4, 2))).to, ?_⟩
  refine List.forall_mem_cons.mpr ⟨z_cv (by decide +kernel : decode cX2_readBook 84 = .ok (.invokevirtual 171, 3)) mt68 wd830 (ci := 6) rfl (by decide), ?_⟩
  refine List.forall_mem_cons.mpr ⟨s_vret (by decide +kernel : decode cX2_readBook 87 = .ok (.return_, 1)) rfl, ?_⟩
  exact fun _ h => absurd h List.not_mem_nil
theorem sn_tX2_readSighting : ∀ q ∈ tX2_readSighting, am_Snd am_P0 RX2 cX2_readSighting 4 (Option.none : Option FieldType) "readSighting" q.1 q.2 := by
  unfold tX2_readSighting
  refine List.forall_mem_cons.mpr ⟨(s_aloadn (by decide +kernel : decode cX2_readSighting 0 = .ok (.aload_n 0, 1)) rfl).to, ?_⟩
  refine List.forall_mem_cons.mpr ⟨(s_aloadn (by decide +kernel : decode cX2_readSighting 1 = .ok (.aload_n 0, 1)) rfl).to, ?_⟩
  refine List.forall_mem_cons.mpr ⟨(s_get (ci := 2) (k := 1) (by decide +kernel : decode cX2_readSighting 2 = .ok (.getfield 18, 3)) rfl (by decide) wd469 inX2 rfl).to, ?_⟩
  refine List.forall_mem_cons.mpr ⟨(s_get (ci := 5) (k := 5) (by decide +kernel : decode cX2_readSighting 5 = .ok (.getfield 174, 3)) rfl (by decide) wd322 inX5 rfl).to, ?_⟩
  refine List.forall_mem_cons.mpr ⟨(s_get (ci := 7) (k := 0) (by decide +kernel : decode cX2_readSighting 8 = .ok (.getfield 178, 3)) rfl (by decide) wd179 inX7 rfl).to, ?_⟩
  refine List.forall_mem_cons.mpr ⟨(s_bipush (by decide +kernel : decode cX2_readSighting 11 = .ok (.bipush 40, 2)) (by decide)).to, ?_⟩
  refine List.forall_mem_cons.mpr ⟨(s_icmp_lt (by decide +kernel : decode cX2_readSighting 13 = .ok (.if_icmp .lt 7, 3)) (by decide)).to, ?_⟩
  refine List.forall_mem_cons.mpr ⟨(s_iconst (by decide +kernel : decode cX2_readSighting 16 = .ok (.iconst 1, 1)) (by decide)).to, ?_⟩
  refine List.forall_mem_cons.mpr ⟨(s_goto (by decide +kernel : decode cX2_readSighting 17 = .ok (.goto 4, 3)) (by decide)).to, ?_⟩
  refine List.forall_mem_cons.mpr ⟨(s_iconst (by decide +kernel : decode cX2_readSighting 20 = .ok (.iconst 0, 1)) (by decide)).to, ?_⟩
  refine List.forall_mem_cons.mpr ⟨z_cv (by decide +kernel : decode cX2_readSighting 21 = .ok (.invokevirtual 90, 3)) mt13 wd707 (ci := 2) rfl (by decide), ?_⟩
  refine List.forall_mem_cons.mpr ⟨(s_if_ne (by decide +kernel : decode cX2_readSighting 24 = .ok (.ifCond .ne 4, 3)) (by decide)).to, ?_⟩
  refine List.forall_mem_cons.mpr ⟨s_vret (by decide +kernel : decode cX2_readSighting 27 = .ok (.return_, 1)) rfl, ?_⟩
  refine List.forall_mem_cons.mpr ⟨(s_aloadn (by decide +kernel : decode cX2_readSighting 28 = .ok (.aload_n 0, 1)) rfl).to, ?_⟩
  refine List.forall_mem_cons.mpr ⟨(s_get (ci := 2) (k := 0) (by decide +kernel : decode cX2_readSighting 29 = .ok (.getfield 12, 3)) rfl (by decide) wd467 inX2 rfl).to, ?_⟩
  refine List.forall_mem_cons.mpr ⟨(s_iconst (by decide +kernel : decode cX2_readSighting 32 = .ok (.iconst 0, 1)) (by decide)).to, ?_⟩
  refine List.forall_mem_cons.mpr ⟨(s_iconst (by decide +kernel : decode cX2_readSighting 33 = .ok (.iconst 3, 1)) (by decide)).to, ?_⟩
  refine List.forall_mem_cons.mpr ⟨z_cv (by decide +kernel : decode cX2_readSighting 34 = .ok (.invokevirtual 71, 3)) mt44 wd690 (ci := 3) rfl (by decide), ?_⟩
  refine List.forall_mem_cons.mpr ⟨(s_istoren (by decide +kernel : decode cX2_readSighting 37 = .ok (.istore_n 1, 1)) rfl (by decide)).to, ?_⟩
  refine List.forall_mem_cons.mpr ⟨(s_aloadn (by decide +kernel : decode cX2_readSighting 38 = .ok (.aload_n 0, 1)) rfl).to, ?_⟩
  refine List.forall_mem_cons.mpr ⟨z_cv (by decide +kernel : decode cX2_readSighting 39 = .ok (.invokevirtual 161, 3)) mt18 wd814 (ci := 2) rfl (by decide), ?_⟩
  refine List.forall_mem_cons.mpr ⟨(s_istoren (by decide +kernel : decode cX2_readSighting 42 = .ok (.istore_n 2, 1)) rfl (by decide)).to, ?_⟩
  refine List.forall_mem_cons.mpr ⟨(s_aloadn (by decide +kernel : decode cX2_readSighting 43 = .ok (.aload_n 0, 1)) rfl).to, ?_⟩
  refine List.forall_mem_cons.mpr ⟨(s_bipush (by decide +kernel : decode cX2_readSighting 44 = .ok (.bipush 16, 2)) (by decide)).to, ?_⟩
  refine List.forall_mem_cons.mpr ⟨(s_iconst (by decide +kernel : decode cX2_readSighting 46 = .ok (.iconst 0, 1)) (by decide)).to, ?_⟩
  refine List.forall_mem_cons.mpr ⟨(s_bipush (by decide +kernel : decode cX2_readSighting 47 = .ok (.bipush 47, 2)) (by decide)).to, ?_⟩
  refine List.forall_mem_cons.mpr ⟨z_cv (by decide +kernel : decode cX2_readSighting 49 = .ok (.invokevirtual 132, 3)) mt15 wd789 (ci := 2) rfl (by decide), ?_⟩
  refine List.forall_mem_cons.mpr ⟨(s_istoren (by decide +kernel : decode cX2_readSighting 52 = .ok (.istore_n 3, 1)) rfl (by decide)).to, ?_⟩
  refine List.forall_mem_cons.mpr ⟨(s_aloadn (by decide +kernel : decode cX2_readSighting 53 = .ok (.aload_n 0, 1)) rfl).to, ?_⟩
  refine List.forall_mem_cons.mpr ⟨(s_get (ci := 2) (k := 0) (by decide +kernel : decode cX2_readSighting 54 = .ok (.getfield 12, 3)) rfl (by decide) wd467 inX2 rfl).to, ?_⟩
  refine List.forall_mem_cons.mpr ⟨(s_get (ci := 3) (k := 8) (by decide +kernel : decode cX2_readSighting 57 = .ok (.getfield 112, 3)) rfl (by decide) wd442 inX3 rfl).to, ?_⟩
  refine List.forall_mem_cons.mpr ⟨(s_if_ne (by decide +kernel : decode cX2_readSighting 60 = .ok (.ifCond .ne 16, 3)) (by decide)).to, ?_⟩
  refine List.forall_mem_cons.mpr ⟨(s_aloadn (by decide +kernel : decode cX2_readSighting 63 = .ok (.aload_n 0, 1)) rfl).to, ?_⟩
  refine List.forall_mem_cons.mpr ⟨(s_get (ci := 2) (k := 1) (by decide +kernel : decode cX2_readSighting 64 = .ok (.getfield 18, 3)) rfl (by decide) wd469 inX2 rfl).to, ?_⟩
  refine List.forall_mem_cons.mpr ⟨(s_get (ci := 5) (k := 5) (by decide +kernel : decode cX2_readSighting 67 = .ok (.getfield 174, 3)) rfl (by decide) wd322 inX5 rfl).to, ?_⟩
  refine List.forall_mem_cons.mpr ⟨(s_iloadn (by decide +kernel : decode cX2_readSighting 70 = .ok (.iload_n 1, 1)) rfl).to, ?_⟩
  refine List.forall_mem_cons.mpr ⟨(s_iloadn (by decide +kernel : decode cX2_readSighting 71 = .ok (.iload_n 2, 1)) rfl).to, ?_⟩
  refine List.forall_mem_cons.mpr ⟨(s_iloadn (by decide +kernel : decode cX2_readSighting 72 = .ok (.iload_n 3, 1)) rfl).to, ?_⟩
  refine List.forall_mem_cons.mpr ⟨z_cv (by decide +kernel : decode cX2_readSighting 73 = .ok (.invokevirtual 181, 3)) mt71 wd838 (ci := 7) rfl (by decide), ?_⟩
  refine List.forall_mem_cons.mpr ⟨s_vret (by decide +kernel : decode cX2_readSighting 76 = .ok (.return_, 1)) rfl, ?_⟩
  exact fun _ h => absurd h List.not_mem_nil
theorem sn_tX2_readTest : ∀ q ∈ tX2_readTest, am_Snd am_P0 RX2 cX2_readTest 3 (Option.none : Option FieldType) "readTest" q.1 q.2 := by
  unfold tX2_readTest
  refine List.forall_mem_cons.mpr ⟨(s_aloadn (by decide +kernel : decode cX2_readTest 0 = .ok (.aload_n 0, 1)) rfl).to, ?_⟩
  refine List.forall_mem_cons.mpr ⟨(s_iloadn (by decide +kernel : decode cX2_readTest 1 = .ok (.iload_n 1, 1)) rfl).to, ?_⟩
  refine List.forall_mem_cons.mpr ⟨z_cv (by decide +kernel : decode cX2_readTest 2 = .ok (.invokevirtual 182, 3)) mt23 wd760 (ci := 2) rfl (by decide), ?_⟩
  refine List.forall_mem_cons.mpr ⟨(s_iconst (by decide +kernel : decode cX2_readTest 5 = .ok (.iconst 0, 1)) (by decide)).to, ?_⟩
  refine List.forall_mem_cons.mpr ⟨(s_istoren (by decide +kernel : decode cX2_readTest 6 = .ok (.istore_n 2, 1)) rfl (by decide)).to, ?_⟩
  refine List.forall_mem_cons.mpr ⟨(s_iloadn (by decide +kernel : decode cX2_readTest 7 = .ok (.iload_n 2, 1)) rfl).to, ?_⟩
  refine List.forall_mem_cons.mpr ⟨(s_sipush (by decide +kernel : decode cX2_readTest 8 = .ok (.sipush 1800, 3)) (by decide)).to, ?_⟩
  refine List.forall_mem_cons.mpr ⟨(s_icmp_ge (by decide +kernel : decode cX2_readTest 11 = .ok (.if_icmp .ge 45, 3)) (by decide)).to, ?_⟩
  refine List.forall_mem_cons.mpr ⟨(s_aloadn (by decide +kernel : decode cX2_readTest 14 = .ok (.aload_n 0, 1)) rfl).to, ?_⟩
  refine List.forall_mem_cons.mpr ⟨(s_get (ci := 2) (k := 0) (by decide +kernel : decode cX2_readTest 15 = .ok (.getfield 12, 3)) rfl (by decide) wd467 inX2 rfl).to, ?_⟩
  refine List.forall_mem_cons.mpr ⟨(s_get (ci := 3) (k := 6) (by decide +kernel : decode cX2_readTest 18 = .ok (.getfield 31, 3)) rfl (by decide) wd437 inX3 rfl).to, ?_⟩
  refine List.forall_mem_cons.mpr ⟨(s_bipush (by decide +kernel : decode cX2_readTest 21 = .ok (.bipush 19, 2)) (by decide)).to, ?_⟩
  refine List.forall_mem_cons.mpr ⟨(s_icmp_ne (by decide +kernel : decode cX2_readTest 23 = .ok (.if_icmp .ne 33, 3)) (by decide)).to, ?_⟩
  refine List.forall_mem_cons.mpr ⟨(s_aloadn (by decide +kernel : decode cX2_readTest 26 = .ok (.aload_n 0, 1)) rfl).to, ?_⟩
  refine List.forall_mem_cons.mpr ⟨(s_get (ci := 2) (k := 0) (by decide +kernel : decode cX2_readTest 27 = .ok (.getfield 12, 3)) rfl (by decide) wd467 inX2 rfl).to, ?_⟩
  refine List.forall_mem_cons.mpr ⟨z_cv (by decide +kernel : decode cX2_readTest 30 = .ok (.invokevirtual 68, 3)) mt35 wd689 (ci := 3) rfl (by decide), ?_⟩
  refine List.forall_mem_cons.mpr ⟨(s_aloadn (by decide +kernel : decode cX2_readTest 33 = .ok (.aload_n 0, 1)) rfl).to, ?_⟩
  refine List.forall_mem_cons.mpr ⟨(s_iloadn (by decide +kernel : decode cX2_readTest 34 = .ok (.iload_n 1, 1)) rfl).to, ?_⟩
  refine List.forall_mem_cons.mpr ⟨z_cv (by decide +kernel : decode cX2_readTest 35 = .ok (.invokevirtual 182, 3)) mt23 wd760 (ci := 2) rfl (by decide), ?_⟩
  refine List.forall_mem_cons.mpr ⟨(s_aloadn (by decide +kernel : decode cX2_readTest 38 = .ok (.aload_n 0, 1)) rfl).to, ?_⟩
  refine List.forall_mem_cons.mpr ⟨(s_get (ci := 2) (k := 1) (by decide +kernel : decode cX2_readTest 39 = .ok (.getfield 18, 3)) rfl (by decide) wd469 inX2 rfl).to, ?_⟩
  refine List.forall_mem_cons.mpr ⟨(s_get (ci := 5) (k := 6) (by decide +kernel : decode cX2_readTest 42 = .ok (.getfield 94, 3)) rfl (by decide) wd324 inX5 rfl).to, ?_⟩
  refine List.forall_mem_cons.mpr ⟨(s_bipush (by decide +kernel : decode cX2_readTest 45 = .ok (.bipush (-17), 2)) (by decide)).to, ?_⟩
  refine List.forall_mem_cons.mpr ⟨z_cv (by decide +kernel : decode cX2_readTest 47 = .ok (.invokevirtual 185, 3)) mt1 wd727 (ci := 0) rfl (by decide), ?_⟩
  refine List.forall_mem_cons.mpr ⟨(s_iinc (by decide +kernel : decode cX2_readTest 50 = .ok (.iinc 2 1, 3)) (by decide) (by decide)).to, ?_⟩
  refine List.forall_mem_cons.mpr ⟨(s_goto (by decide +kernel : decode cX2_readTest 53 = .ok (.goto (-46), 3)) (by decide)).to, ?_⟩
  refine List.forall_mem_cons.mpr ⟨s_vret (by decide +kernel : decode cX2_readTest 56 = .ok (.return_, 1)) rfl, ?_⟩
  exact fun _ h => absurd h List.not_mem_nil
theorem sn_tX2_readBoth : ∀ q ∈ tX2_readBoth, am_Snd am_P0 RX2 cX2_readBoth 3 (Option.none : Option FieldType) "readBoth" q.1 q.2 := by
  unfold tX2_readBoth
  refine List.forall_mem_cons.mpr ⟨(s_aloadn (by decide +kernel : decode cX2_readBoth 0 = .ok (.aload_n 0, 1)) rfl).to, ?_⟩
  refine List.forall_mem_cons.mpr ⟨(s_iloadn (by decide +kernel : decode cX2_readBoth 1 = .ok (.iload_n 1, 1)) rfl).to, ?_⟩
  refine List.forall_mem_cons.mpr ⟨z_cv (by decide +kernel : decode cX2_readBoth 2 = .ok (.invokevirtual 188, 3)) mt24 wd764 (ci := 2) rfl (by decide), ?_⟩
  refine List.forall_mem_cons.mpr ⟨(s_iconst (by decide +kernel : decode cX2_readBoth 5 = .ok (.iconst 0, 1)) (by decide)).to, ?_⟩
  refine List.forall_mem_cons.mpr ⟨(s_istoren (by decide +kernel : decode cX2_readBoth 6 = .ok (.istore_n 2, 1)) rfl (by decide)).to, ?_⟩
  refine List.forall_mem_cons.mpr ⟨(s_iloadn (by decide +kernel : decode cX2_readBoth 7 = .ok (.iload_n 2, 1)) rfl).to, ?_⟩
  refine List.forall_mem_cons.mpr ⟨(s_sipush (by decide +kernel : decode cX2_readBoth 8 = .ok (.sipush 1800, 3)) (by decide)).to, ?_⟩
  refine List.forall_mem_cons.mpr ⟨(s_icmp_ge (by decide +kernel : decode cX2_readBoth 11 = .ok (.if_icmp .ge 45, 3)) (by decide)).to, ?_⟩
  refine List.forall_mem_cons.mpr ⟨(s_aloadn (by decide +kernel : decode cX2_readBoth 14 = .ok (.aload_n 0, 1)) rfl).to, ?_⟩
  refine List.forall_mem_cons.mpr ⟨(s_get (ci := 2) (k := 0) (by decide +kernel : decode cX2_readBoth 15 = .ok (.getfield 12, 3)) rfl (by decide) wd467 inX2 rfl).to, ?_⟩
  refine List.forall_mem_cons.mpr ⟨(s_get (ci := 3) (k := 6) (by decide +kernel : decode cX2_readBoth 18 = .ok (.getfield 31, 3)) rfl (by decide) wd437 inX3 rfl).to, ?_⟩
  refine List.forall_mem_cons.mpr ⟨(s_bipush (by decide +kernel : decode cX2_readBoth 21 = .ok (.bipush 20, 2)) (by decide)).to, ?_⟩
  refine List.forall_mem_cons.mpr ⟨(s_icmp_ne (by decide +kernel : decode cX2_readBoth 23 = .ok (.if_icmp .ne 33, 3)) (by decide)).to, ?_⟩
  refine List.forall_mem_cons.mpr ⟨(s_aloadn (by decide +kernel : decode cX2_readBoth 26 = .ok (.aload_n 0, 1)) rfl).to, ?_⟩
  refine List.forall_mem_cons.mpr ⟨(s_get (ci := 2) (k := 0) (by decide +kernel : decode cX2_readBoth 27 = .ok (.getfield 12, 3)) rfl (by decide) wd467 inX2 rfl).to, ?_⟩
  refine List.forall_mem_cons.mpr ⟨z_cv (by decide +kernel : decode cX2_readBoth 30 = .ok (.invokevirtual 68, 3)) mt35 wd689 (ci := 3) rfl (by decide), ?_⟩
  refine List.forall_mem_cons.mpr ⟨(s_aloadn (by decide +kernel : decode cX2_readBoth 33 = .ok (.aload_n 0, 1)) rfl).to, ?_⟩
  refine List.forall_mem_cons.mpr ⟨(s_iloadn (by decide +kernel : decode cX2_readBoth 34 = .ok (.iload_n 1, 1)) rfl).to, ?_⟩
  refine List.forall_mem_cons.mpr ⟨z_cv (by decide +kernel : decode cX2_readBoth 35 = .ok (.invokevirtual 188, 3)) mt24 wd764 (ci := 2) rfl (by decide), ?_⟩
  refine List.forall_mem_cons.mpr ⟨(s_aloadn (by decide +kernel : decode cX2_readBoth 38 = .ok (.aload_n 0, 1)) rfl).to, ?_⟩
  refine List.forall_mem_cons.mpr ⟨(s_get (ci := 2) (k := 1) (by decide +kernel : decode cX2_readBoth 39 = .ok (.getfield 18, 3)) rfl (by decide) wd469 inX2 rfl).to, ?_⟩
  refine List.forall_mem_cons.mpr ⟨(s_get (ci := 5) (k := 6) (by decide +kernel : decode cX2_readBoth 42 = .ok (.getfield 94, 3)) rfl (by decide) wd324 inX5 rfl).to, ?_⟩
  refine List.forall_mem_cons.mpr ⟨(s_bipush (by decide +kernel : decode cX2_readBoth 45 = .ok (.bipush (-16), 2)) (by decide)).to, ?_⟩
  refine List.forall_mem_cons.mpr ⟨z_cv (by decide +kernel : decode cX2_readBoth 47 = .ok (.invokevirtual 185, 3)) mt1 wd727 (ci := 0) rfl (by decide), ?_⟩
  refine List.forall_mem_cons.mpr ⟨(s_iinc (by decide +kernel : decode cX2_readBoth 50 = .ok (.iinc 2 1, 3)) (by decide) (by decide)).to, ?_⟩
  refine List.forall_mem_cons.mpr ⟨(s_goto (by decide +kernel : decode cX2_readBoth 53 = .ok (.goto (-46), 3)) (by decide)).to, ?_⟩
  refine List.forall_mem_cons.mpr ⟨s_vret (by decide +kernel : decode cX2_readBoth 56 = .ok (.return_, 1)) rfl, ?_⟩
  exact fun _ h => absurd h List.not_mem_nil
theorem sn_tX2_readFact_0 : ∀ q ∈ tX2_readFact_0, am_Snd am_P0 RX2 cX2_readFact 4 (Option.none : Option FieldType) "readFact" q.1 q.2 := by
  unfold tX2_readFact_0
  refine List.forall_mem_cons.mpr ⟨(s_iconst (by decide +kernel : decode cX2_readFact 0 = .ok (.iconst 0, 1)) (by decide)).to, ?_⟩
  refine List.forall_mem_cons.mpr ⟨(s_istoren (by decide +kernel : decode cX2_readFact 1 = .ok (.istore_n 2, 1)) rfl (by decide)).to, ?_⟩
  refine List.forall_mem_cons.mpr ⟨(s_iconst (by decide +kernel : decode cX2_readFact 2 = .ok (.iconst 0, 1)) (by decide)).to, ?_⟩
  refine List.forall_mem_cons.mpr ⟨(s_istoren (by decide +kernel : decode cX2_readFact 3 = .ok (.istore_n 3, 1)) rfl (by decide)).to, ?_⟩
  refine List.forall_mem_cons.mpr ⟨(s_iloadn (by decide +kernel : decode cX2_readFact 4 = .ok (.iload_n 3, 1)) rfl).to, ?_⟩
  refine List.forall_mem_cons.mpr ⟨(s_sipush (by decide +kernel : decode cX2_readFact 5 = .ok (.sipush 1800, 3)) (by decide)).to, ?_⟩
  refine List.forall_mem_cons.mpr ⟨(s_icmp_ge (by decide +kernel : decode cX2_readFact 8 = .ok (.if_icmp .ge 38, 3)) (by decide)).to, ?_⟩
  refine List.forall_mem_cons.mpr ⟨(s_aloadn (by decide +kernel : decode cX2_readFact 11 = .ok (.aload_n 0, 1)) rfl).to, ?_⟩
  refine List.forall_mem_cons.mpr ⟨(s_get (ci := 2) (k := 0) (by decide +kernel : decode cX2_readFact 12 = .ok (.getfield 12, 3)) rfl (by decide) wd467 inX2 rfl).to, ?_⟩
  refine List.forall_mem_cons.mpr ⟨(s_get (ci := 3) (k := 6) (by decide +kernel : decode cX2_readFact 15 = .ok (.getfield 31, 3)) rfl (by decide) wd437 inX3 rfl).to, ?_⟩
  refine List.forall_mem_cons.mpr ⟨(s_bipush (by decide +kernel : decode cX2_readFact 18 = .ok (.bipush 21, 2)) (by decide)).to, ?_⟩
  refine List.forall_mem_cons.mpr ⟨(s_icmp_ne (by decide +kernel : decode cX2_readFact 20 = .ok (.if_icmp .ne 26, 3)) (by decide)).to, ?_⟩
  refine List.forall_mem_cons.mpr ⟨(s_aloadn (by decide +kernel : decode cX2_readFact 23 = .ok (.aload_n 0, 1)) rfl).to, ?_⟩
  refine List.forall_mem_cons.mpr ⟨(s_get (ci := 2) (k := 0) (by decide +kernel : decode cX2_readFact 24 = .ok (.getfield 12, 3)) rfl (by decide) wd467 inX2 rfl).to, ?_⟩
  refine List.forall_mem_cons.mpr ⟨z_cv (by decide +kernel : decode cX2_readFact 27 = .ok (.invokevirtual 68, 3)) mt35 wd689 (ci := 3) rfl (by decide), ?_⟩
  refine List.forall_mem_cons.mpr ⟨(s_iloadn (by decide +kernel : decode cX2_readFact 30 = .ok (.iload_n 2, 1)) rfl).to, ?_⟩
  refine List.forall_mem_cons.mpr ⟨(s_if_ne (by decide +kernel : decode cX2_readFact 31 = .ok (.ifCond .ne 7, 3)) (by decide)).to, ?_⟩
  refine List.forall_mem_cons.mpr ⟨(s_iconst (by decide +kernel : decode cX2_readFact 34 = .ok (.iconst 1, 1)) (by decide)).to, ?_⟩
  refine List.forall_mem_cons.mpr ⟨(s_goto (by decide +kernel : decode cX2_readFact 35 = .ok (.goto 4, 3)) (by decide)).to, ?_⟩
  refine List.forall_mem_cons.mpr ⟨(s_iconst (by decide +kernel : decode cX2_readFact 38 = .ok (.iconst 0, 1)) (by decide)).to, ?_⟩
  refine List.forall_mem_cons.mpr ⟨(s_istoren (by decide +kernel : decode cX2_readFact 39 = .ok (.istore_n 2, 1)) rfl (by decide)).to, ?_⟩
  refine List.forall_mem_cons.mpr ⟨(s_iinc (by decide +kernel : decode cX2_readFact 40 = .ok (.iinc 3 1, 3)) (by decide) (by decide)).to, ?_⟩
  refine List.forall_mem_cons.mpr ⟨(s_goto (by decide +kernel : decode cX2_readFact 43 = .ok (.goto (-39), 3)) (by decide)).to, ?_⟩
  refine List.forall_mem_cons.mpr ⟨(s_aloadn (by decide +kernel : decode cX2_readFact 46 = .ok (.aload_n 0, 1)) rfl).to, ?_⟩
  refine List.forall_mem_cons.mpr ⟨(s_get (ci := 2) (k := 0) (by decide +kernel : decode cX2_readFact 47 = .ok (.getfield 12, 3)) rfl (by decide) wd467 inX2 rfl).to, ?_⟩
  refine List.forall_mem_cons.mpr ⟨(s_bipush (by decide +kernel : decode cX2_readFact 50 = .ok (.bipush 91, 2)) (by decide)).to, ?_⟩
  refine List.forall_mem_cons.mpr ⟨z_cv (by decide +kernel : decode cX2_readFact 52 = .ok (.invokevirtual 191, 3)) mt40 wd731 (ci := 3) rfl (by decide), ?_⟩
  refine List.forall_mem_cons.mpr ⟨(s_if_eq (by decide +kernel : decode cX2_readFact 55 = .ok (.ifCond .eq 32, 3)) (by decide)).to, ?_⟩
  refine List.forall_mem_cons.mpr ⟨(s_aloadn (by decide +kernel : decode cX2_readFact 58 = .ok (.aload_n 0, 1)) rfl).to, ?_⟩
  refine List.forall_mem_cons.mpr ⟨(s_bipush (by decide +kernel : decode cX2_readFact 59 = .ok (.bipush 91, 2)) (by decide)).to, ?_⟩
  refine List.forall_mem_cons.mpr ⟨(s_iloadn (by decide +kernel : decode cX2_readFact 61 = .ok (.iload_n 1, 1)) rfl).to, ?_⟩
  refine List.forall_mem_cons.mpr ⟨z_cv (by decide +kernel : decode cX2_readFact 62 = .ok (.invokevirtual 194, 3)) mt32 wd735 (ci := 2) rfl (by decide), ?_⟩
  refine List.forall_mem_cons.mpr ⟨(s_if_eq (by decide +kernel : decode cX2_readFact 65 = .ok (.ifCond .eq 81, 3)) (by decide)).to, ?_⟩
  refine List.forall_mem_cons.mpr ⟨(s_aloadn (by decide +kernel : decode cX2_readFact 68 = .ok (.aload_n 0, 1)) rfl).to, ?_⟩
  refine List.forall_mem_cons.mpr ⟨(s_iloadn (by decide +kernel : decode cX2_readFact 69 = .ok (.iload_n 1, 1)) rfl).to, ?_⟩
  refine List.forall_mem_cons.mpr ⟨(s_iconst (by decide +kernel : decode cX2_readFact 70 = .ok (.iconst 1, 1)) (by decide)).to, ?_⟩
  refine List.forall_mem_cons.mpr ⟨(s_iadd (by decide +kernel : decode cX2_readFact 71 = .ok (.iadd, 1))).to, ?_⟩
  refine List.forall_mem_cons.mpr ⟨z_cv (by decide +kernel : decode cX2_readFact 72 = .ok (.invokevirtual 109, 3)) mt22 wd756 (ci := 2) rfl (by decide), ?_⟩
  refine List.forall_mem_cons.mpr ⟨(s_aloadn (by decide +kernel : decode cX2_readFact 75 = .ok (.aload_n 0, 1)) rfl).to, ?_⟩
  refine List.forall_mem_cons.mpr ⟨(s_get (ci := 2) (k := 0) (by decide +kernel : decode cX2_readFact 76 = .ok (.getfield 12, 3)) rfl (by decide) wd467 inX2 rfl).to, ?_⟩
  refine List.forall_mem_cons.mpr ⟨(s_bipush (by decide +kernel : decode cX2_readFact 79 = .ok (.bipush 93, 2)) (by decide)).to, ?_⟩
  refine List.forall_mem_cons.mpr ⟨z_cv (by decide +kernel : decode cX2_readFact 81 = .ok (.invokevirtual 197, 3)) mt41 wd739 (ci := 3) rfl (by decide), ?_⟩
  refine List.forall_mem_cons.mpr ⟨(s_goto (by decide +kernel : decode cX2_readFact 84 = .ok (.goto 62, 3)) (by decide)).to, ?_⟩
  refine List.forall_mem_cons.mpr ⟨(s_aloadn (by decide +kernel : decode cX2_readFact 87 = .ok (.aload_n 0, 1)) rfl).to, ?_⟩
  refine List.forall_mem_cons.mpr ⟨(s_get (ci := 2) (k := 0) (by decide +kernel : decode cX2_readFact 88 = .ok (.getfield 12, 3)) rfl (by decide) wd467 inX2 rfl).to, ?_⟩
  refine List.forall_mem_cons.mpr ⟨(s_get (ci := 3) (k := 6) (by decide +kernel : decode cX2_readFact 91 = .ok (.getfield 31, 3)) rfl (by decide) wd437 inX3 rfl).to, ?_⟩
  refine List.forall_mem_cons.mpr ⟨(s_bipush (by decide +kernel : decode cX2_readFact 94 = .ok (.bipush 22, 2)) (by decide)).to, ?_⟩
  refine List.forall_mem_cons.mpr ⟨(s_icmp_ne (by decide +kernel : decode cX2_readFact 96 = .ok (.if_icmp .ne 24, 3)) (by decide)).to, ?_⟩
  refine List.forall_mem_cons.mpr ⟨(s_aloadn (by decide +kernel : decode cX2_readFact 99 = .ok (.aload_n 0, 1)) rfl).to, ?_⟩
  refine List.forall_mem_cons.mpr ⟨(s_get (ci := 2) (k := 0) (by decide +kernel : decode cX2_readFact 100 = .ok (.getfield 12, 3)) rfl (by decide) wd467 inX2 rfl).to, ?_⟩
  refine List.forall_mem_cons.mpr ⟨z_cv (by decide +kernel : decode cX2_readFact 103 = .ok (.invokevirtual 68, 3)) mt35 wd689 (ci := 3) rfl (by decide), ?_⟩
  refine List.forall_mem_cons.mpr ⟨(s_aloadn (by decide +kernel : decode cX2_readFact 106 = .ok (.aload_n 0, 1)) rfl).to, ?_⟩
  refine List.forall_mem_cons.mpr ⟨(s_get (ci := 2) (k := 1) (by decide +kernel : decode cX2_readFact 107 = .ok (.getfield 18, 3)) rfl (by decide) wd469 inX2 rfl).to, ?_⟩
  refine List.forall_mem_cons.mpr ⟨(s_get (ci := 5) (k := 6) (by decide +kernel : decode cX2_readFact 110 = .ok (.getfield 94, 3)) rfl (by decide) wd324 inX5 rfl).to, ?_⟩
  refine List.forall_mem_cons.mpr ⟨(s_iconst (by decide +kernel : decode cX2_readFact 113 = .ok (.iconst 1, 1)) (by decide)).to, ?_⟩
  refine List.forall_mem_cons.mpr ⟨z_cv (by decide +kernel : decode cX2_readFact 114 = .ok (.invokevirtual 185, 3)) mt1 wd727 (ci := 0) rfl (by decide), ?_⟩
  refine List.forall_mem_cons.mpr ⟨(s_goto (by decide +kernel : decode cX2_readFact 117 = .ok (.goto 29, 3)) (by decide)).to, ?_⟩
  refine List.forall_mem_cons.mpr ⟨(s_aloadn (by decide +kernel : decode cX2_readFact 120 = .ok (.aload_n 0, 1)) rfl).to, ?_⟩
  refine List.forall_mem_cons.mpr ⟨(s_iloadn (by decide +kernel : decode cX2_readFact 121 = .ok (.iload_n 1, 1)) rfl).to, ?_⟩
  refine List.forall_mem_cons.mpr ⟨z_cv (by decide +kernel : decode cX2_readFact 122 = .ok (.invokevirtual 103, 3)) mt26 wd711 (ci := 2) rfl (by decide), ?_⟩
  exact fun _ h => absurd h List.not_mem_nil
theorem sn_tX2_readFact_1 : ∀ q ∈ tX2_readFact_1, am_Snd am_P0 RX2 cX2_readFact 4 (Option.none : Option FieldType) "readFact" q.1 q.2 := by
  unfold tX2_readFact_1
  refine List.forall_mem_cons.mpr ⟨(s_aloadn (by decide +kernel : decode cX2_readFact 125 = .ok (.aload_n 0, 1)) rfl).to, ?_⟩
  refine List.forall_mem_cons.mpr ⟨z_cv (by decide +kernel : decode cX2_readFact 126 = .ok (.invokevirtual 200, 3)) mt25 wd768 (ci := 2) rfl (by decide), ?_⟩
  refine List.forall_mem_cons.mpr ⟨(s_istoren (by decide +kernel : decode cX2_readFact 129 = .ok (.istore_n 3, 1)) rfl (by decide)).to, ?_⟩
  refine List.forall_mem_cons.mpr ⟨(s_aloadn (by decide +kernel : decode cX2_readFact 130 = .ok (.aload_n 0, 1)) rfl).to, ?_⟩
  refine List.forall_mem_cons.mpr ⟨(s_iloadn (by decide +kernel : decode cX2_readFact 131 = .ok (.iload_n 1, 1)) rfl).to, ?_⟩
  refine List.forall_mem_cons.mpr ⟨z_cv (by decide +kernel : decode cX2_readFact 132 = .ok (.invokevirtual 103, 3)) mt26 wd711 (ci := 2) rfl (by decide), ?_⟩
  refine List.forall_mem_cons.mpr ⟨(s_aloadn (by decide +kernel : decode cX2_readFact 135 = .ok (.aload_n 0, 1)) rfl).to, ?_⟩
  refine List.forall_mem_cons.mpr ⟨(s_get (ci := 2) (k := 1) (by decide +kernel : decode cX2_readFact 136 = .ok (.getfield 18, 3)) rfl (by decide) wd469 inX2 rfl).to, ?_⟩
  refine List.forall_mem_cons.mpr ⟨(s_get (ci := 5) (k := 6) (by decide +kernel : decode cX2_readFact 139 = .ok (.getfield 94, 3)) rfl (by decide) wd324 inX5 rfl).to, ?_⟩
  refine List.forall_mem_cons.mpr ⟨(s_iloadn (by decide +kernel : decode cX2_readFact 142 = .ok (.iload_n 3, 1)) rfl).to, ?_⟩
  refine List.forall_mem_cons.mpr ⟨z_cv (by decide +kernel : decode cX2_readFact 143 = .ok (.invokevirtual 185, 3)) mt1 wd727 (ci := 0) rfl (by decide), ?_⟩
  refine List.forall_mem_cons.mpr ⟨(s_iloadn (by decide +kernel : decode cX2_readFact 146 = .ok (.iload_n 2, 1)) rfl).to, ?_⟩
  refine List.forall_mem_cons.mpr ⟨(s_if_eq (by decide +kernel : decode cX2_readFact 147 = .ok (.ifCond .eq 15, 3)) (by decide)).to, ?_⟩
  refine List.forall_mem_cons.mpr ⟨(s_aloadn (by decide +kernel : decode cX2_readFact 150 = .ok (.aload_n 0, 1)) rfl).to, ?_⟩
  refine List.forall_mem_cons.mpr ⟨(s_get (ci := 2) (k := 1) (by decide +kernel : decode cX2_readFact 151 = .ok (.getfield 18, 3)) rfl (by decide) wd469 inX2 rfl).to, ?_⟩
  refine List.forall_mem_cons.mpr ⟨(s_get (ci := 5) (k := 6) (by decide +kernel : decode cX2_readFact 154 = .ok (.getfield 94, 3)) rfl (by decide) wd324 inX5 rfl).to, ?_⟩
  refine List.forall_mem_cons.mpr ⟨(s_bipush (by decide +kernel : decode cX2_readFact 157 = .ok (.bipush (-5), 2)) (by decide)).to, ?_⟩
  refine List.forall_mem_cons.mpr ⟨z_cv (by decide +kernel : decode cX2_readFact 159 = .ok (.invokevirtual 185, 3)) mt1 wd727 (ci := 0) rfl (by decide), ?_⟩
  refine List.forall_mem_cons.mpr ⟨s_vret (by decide +kernel : decode cX2_readFact 162 = .ok (.return_, 1)) rfl, ?_⟩
  exact fun _ h => absurd h List.not_mem_nil
theorem sn_tX2_readFact : ∀ q ∈ tX2_readFact, am_Snd am_P0 RX2 cX2_readFact 4 (Option.none : Option FieldType) "readFact" q.1 q.2 := by
  unfold tX2_readFact
  exact List.forall_mem_append.mpr ⟨sn_tX2_readFact_0, sn_tX2_readFact_1⟩
theorem sn_tX2_takeComparison : ∀ q ∈ tX2_takeComparison, am_Snd am_P0 RX2 cX2_takeComparison 1 (Option.some FieldType.int) "takeComparison" q.1 q.2 := by
  unfold tX2_takeComparison
  refine List.forall_mem_cons.mpr ⟨(s_aloadn (by decide +kernel : decode cX2_takeComparison 0 = .ok (.aload_n 0, 1)) rfl).to, ?_⟩
  refine List.forall_mem_cons.mpr ⟨(s_get (ci := 2) (k := 0) (by decide +kernel : decode cX2_takeComparison 1 = .ok (.getfield 12, 3)) rfl (by decide) wd467 inX2 rfl).to, ?_⟩
  refine List.forall_mem_cons.mpr ⟨(s_bipush (by decide +kernel : decode cX2_takeComparison 4 = .ok (.bipush 60, 2)) (by decide)).to, ?_⟩
  refine List.forall_mem_cons.mpr ⟨z_cv (by decide +kernel : decode cX2_takeComparison 6 = .ok (.invokevirtual 191, 3)) mt40 wd731 (ci := 3) rfl (by decide), ?_⟩
  refine List.forall_mem_cons.mpr ⟨(s_if_eq (by decide +kernel : decode cX2_takeComparison 9 = .ok (.ifCond .eq 13, 3)) (by decide)).to, ?_⟩
  refine List.forall_mem_cons.mpr ⟨(s_aloadn (by decide +kernel : decode cX2_takeComparison 12 = .ok (.aload_n 0, 1)) rfl).to, ?_⟩
  refine List.forall_mem_cons.mpr ⟨(s_get (ci := 2) (k := 0) (by decide +kernel : decode cX2_takeComparison 13 = .ok (.getfield 12, 3)) rfl (by decide) wd467 inX2 rfl).to, ?_⟩
  refine List.forall_mem_cons.mpr ⟨z_cv (by decide +kernel : decode cX2_takeComparison 16 = .ok (.invokevirtual 68, 3)) mt35 wd689 (ci := 3) rfl (by decide), ?_⟩
  refine List.forall_mem_cons.mpr ⟨(s_bipush (by decide +kernel : decode cX2_takeComparison 19 = .ok (.bipush (-13), 2)) (by decide)).to, ?_⟩
  refine List.forall_mem_cons.mpr ⟨s_iret (by decide +kernel : decode cX2_takeComparison 21 = .ok (.ireturn, 1)) rfl, ?_⟩
  refine List.forall_mem_cons.mpr ⟨(s_aloadn (by decide +kernel : decode cX2_takeComparison 22 = .ok (.aload_n 0, 1)) rfl).to, ?_⟩
  refine List.forall_mem_cons.mpr ⟨(s_get (ci := 2) (k := 0) (by decide +kernel : decode cX2_takeComparison 23 = .ok (.getfield 12, 3)) rfl (by decide) wd467 inX2 rfl).to, ?_⟩
  refine List.forall_mem_cons.mpr ⟨(s_bipush (by decide +kernel : decode cX2_takeComparison 26 = .ok (.bipush 62, 2)) (by decide)).to, ?_⟩
  refine List.forall_mem_cons.mpr ⟨z_cv (by decide +kernel : decode cX2_takeComparison 28 = .ok (.invokevirtual 191, 3)) mt40 wd731 (ci := 3) rfl (by decide), ?_⟩
  refine List.forall_mem_cons.mpr ⟨(s_if_eq (by decide +kernel : decode cX2_takeComparison 31 = .ok (.ifCond .eq 13, 3)) (by decide)).to, ?_⟩
  refine List.forall_mem_cons.mpr ⟨(s_aloadn (by decide +kernel : decode cX2_takeComparison 34 = .ok (.aload_n 0, 1)) rfl).to, ?_⟩
  refine List.forall_mem_cons.mpr ⟨(s_get (ci := 2) (k := 0) (by decide +kernel : decode cX2_takeComparison 35 = .ok (.getfield 12, 3)) rfl (by decide) wd467 inX2 rfl).to, ?_⟩
  refine List.forall_mem_cons.mpr ⟨z_cv (by decide +kernel : decode cX2_takeComparison 38 = .ok (.invokevirtual 68, 3)) mt35 wd689 (ci := 3) rfl (by decide), ?_⟩
  refine List.forall_mem_cons.mpr ⟨(s_bipush (by decide +kernel : decode cX2_takeComparison 41 = .ok (.bipush (-14), 2)) (by decide)).to, ?_⟩
  refine List.forall_mem_cons.mpr ⟨s_iret (by decide +kernel : decode cX2_takeComparison 43 = .ok (.ireturn, 1)) rfl, ?_⟩
  refine List.forall_mem_cons.mpr ⟨(s_aloadn (by decide +kernel : decode cX2_takeComparison 44 = .ok (.aload_n 0, 1)) rfl).to, ?_⟩
  refine List.forall_mem_cons.mpr ⟨(s_get (ci := 2) (k := 0) (by decide +kernel : decode cX2_takeComparison 45 = .ok (.getfield 12, 3)) rfl (by decide) wd467 inX2 rfl).to, ?_⟩
  refine List.forall_mem_cons.mpr ⟨(s_bipush (by decide +kernel : decode cX2_takeComparison 48 = .ok (.bipush 61, 2)) (by decide)).to, ?_⟩
  refine List.forall_mem_cons.mpr ⟨z_cv (by decide +kernel : decode cX2_takeComparison 50 = .ok (.invokevirtual 197, 3)) mt41 wd739 (ci := 3) rfl (by decide), ?_⟩
  refine List.forall_mem_cons.mpr ⟨(s_bipush (by decide +kernel : decode cX2_takeComparison 53 = .ok (.bipush (-15), 2)) (by decide)).to, ?_⟩
  refine List.forall_mem_cons.mpr ⟨s_iret (by decide +kernel : decode cX2_takeComparison 55 = .ok (.ireturn, 1)) rfl, ?_⟩
  exact fun _ h => absurd h List.not_mem_nil
