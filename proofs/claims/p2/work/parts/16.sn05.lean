/-! the machine follows each instruction (by program: gen_prog.py) -/
theorem sn_tX10_explainersOf : ∀ q ∈ tX10_explainersOf, am_Snd am_P0 RX10 cX10_explainersOf 5 (Option.some FieldType.int) "explainersOf" q.1 q.2 := by
  unfold tX10_explainersOf
  refine List.forall_mem_cons.mpr ⟨(s_aloadn (am_dp pw_X10_explainersOf_0 dd_X10_explainersOf_0a.1) rfl).to, ?_⟩
  refine List.forall_mem_cons.mpr ⟨(s_get (ci := 10) (k := 2) (am_dp pw_X10_explainersOf_0 dd_X10_explainersOf_0a.2.1) rfl (by decide) wd581 inX10 rfl).to, ?_⟩
  refine List.forall_mem_cons.mpr ⟨(s_get (ci := 5) (k := 5) (am_dp pw_X10_explainersOf_0 dd_X10_explainersOf_0a.2.2.1) rfl (by decide) wd321 inX5 rfl).to, ?_⟩
  refine List.forall_mem_cons.mpr ⟨(s_astoren (am_dp pw_X10_explainersOf_0 dd_X10_explainersOf_0a.2.2.2.1) rfl (by decide)).to, ?_⟩
  refine List.forall_mem_cons.mpr ⟨(s_iconst (am_dp pw_X10_explainersOf_0 dd_X10_explainersOf_0a.2.2.2.2.1) (by decide)).to, ?_⟩
  refine List.forall_mem_cons.mpr ⟨(s_istoren (am_dp pw_X10_explainersOf_0 dd_X10_explainersOf_0a.2.2.2.2.2.1) rfl (by decide)).to, ?_⟩
  refine List.forall_mem_cons.mpr ⟨(s_iconst (am_dp pw_X10_explainersOf_0 dd_X10_explainersOf_0a.2.2.2.2.2.2.1) (by decide)).to, ?_⟩
  refine List.forall_mem_cons.mpr ⟨(s_istore (am_dp pw_X10_explainersOf_0 dd_X10_explainersOf_0a.2.2.2.2.2.2.2) (by decide)).to, ?_⟩
  refine List.forall_mem_cons.mpr ⟨(s_iload (am_dp pw_X10_explainersOf_0 dd_X10_explainersOf_0b.1)).to, ?_⟩
  refine List.forall_mem_cons.mpr ⟨(s_aloadn (am_dp pw_X10_explainersOf_0 dd_X10_explainersOf_0b.2.1) rfl).to, ?_⟩
  refine List.forall_mem_cons.mpr ⟨(s_get (ci := 10) (k := 2) (am_dp pw_X10_explainersOf_0 dd_X10_explainersOf_0b.2.2.1) rfl (by decide) wd581 inX10 rfl).to, ?_⟩
  refine List.forall_mem_cons.mpr ⟨(s_get (ci := 5) (k := 3) (am_dp pw_X10_explainersOf_0 dd_X10_explainersOf_0b.2.2.2.1) rfl (by decide) wd315 inX5 rfl).to, ?_⟩
  refine List.forall_mem_cons.mpr ⟨(s_icmp_ge (am_dp pw_X10_explainersOf_0 dd_X10_explainersOf_0b.2.2.2.2.1) (by decide)).to, ?_⟩
  refine List.forall_mem_cons.mpr ⟨(s_aloadn (am_dp pw_X10_explainersOf_0 dd_X10_explainersOf_0b.2.2.2.2.2.1) rfl).to, ?_⟩
  refine List.forall_mem_cons.mpr ⟨(s_get (ci := 10) (k := 2) (am_dp pw_X10_explainersOf_0 dd_X10_explainersOf_0b.2.2.2.2.2.2.1) rfl (by decide) wd581 inX10 rfl).to, ?_⟩
  refine List.forall_mem_cons.mpr ⟨(s_get (ci := 5) (k := 4) (am_dp pw_X10_explainersOf_0 dd_X10_explainersOf_0b.2.2.2.2.2.2.2) rfl (by decide) wd318 inX5 rfl).to, ?_⟩
  refine List.forall_mem_cons.mpr ⟨(s_iload (am_dp pw_X10_explainersOf_32 dd_X10_explainersOf_32a.1)).to, ?_⟩
  refine List.forall_mem_cons.mpr ⟨(s_aald (am_dp pw_X10_explainersOf_32 dd_X10_explainersOf_32a.2.1)).to, ?_⟩
  refine List.forall_mem_cons.mpr ⟨(s_get (ci := 6) (k := 1) (am_dp pw_X10_explainersOf_32 dd_X10_explainersOf_32a.2.2.1) rfl (by decide) wd241 inX6 rfl).to, ?_⟩
  refine List.forall_mem_cons.mpr ⟨(s_aloadn (am_dp pw_X10_explainersOf_32 dd_X10_explainersOf_32a.2.2.2.1) rfl).to, ?_⟩
  refine List.forall_mem_cons.mpr ⟨(s_get (ci := 7) (k := 1) (am_dp pw_X10_explainersOf_32 dd_X10_explainersOf_32a.2.2.2.2.1) rfl (by decide) wd181 inX7 rfl).to, ?_⟩
  refine List.forall_mem_cons.mpr ⟨(s_iloadn (am_dp pw_X10_explainersOf_32 dd_X10_explainersOf_32a.2.2.2.2.2.1) rfl).to, ?_⟩
  refine List.forall_mem_cons.mpr ⟨(s_iald (am_dp pw_X10_explainersOf_32 dd_X10_explainersOf_32a.2.2.2.2.2.2.1)).to, ?_⟩
  refine List.forall_mem_cons.mpr ⟨(s_icmp_ne (am_dp pw_X10_explainersOf_32 dd_X10_explainersOf_32a.2.2.2.2.2.2.2) (by decide)).to, ?_⟩
  refine List.forall_mem_cons.mpr ⟨(s_aloadn (am_dp pw_X10_explainersOf_32 dd_X10_explainersOf_32b.1) rfl).to, ?_⟩
  refine List.forall_mem_cons.mpr ⟨(s_iload (am_dp pw_X10_explainersOf_32 dd_X10_explainersOf_32b.2.1)).to, ?_⟩
  refine List.forall_mem_cons.mpr ⟨zw_cv154 (am_dp pw_X10_explainersOf_32 dd_X10_explainersOf_32b.2.2.1) wd929, ?_⟩
  refine List.forall_mem_cons.mpr ⟨(s_aloadn (am_dp pw_X10_explainersOf_32 dd_X10_explainersOf_32b.2.2.2.1) rfl).to, ?_⟩
  refine List.forall_mem_cons.mpr ⟨(s_get (ci := 7) (k := 3) (am_dp pw_X10_explainersOf_32 dd_X10_explainersOf_32b.2.2.2.2.1) rfl (by decide) wd185 inX7 rfl).to, ?_⟩
  refine List.forall_mem_cons.mpr ⟨(s_iloadn (am_dp pw_X10_explainersOf_32 dd_X10_explainersOf_32b.2.2.2.2.2.1) rfl).to, ?_⟩
  refine List.forall_mem_cons.mpr ⟨(s_iald (am_dp pw_X10_explainersOf_32 dd_X10_explainersOf_32b.2.2.2.2.2.2.1)).to, ?_⟩
  refine List.forall_mem_cons.mpr ⟨(s_aloadn (am_dp pw_X10_explainersOf_32 dd_X10_explainersOf_32b.2.2.2.2.2.2.2) rfl).to, ?_⟩
  refine List.forall_mem_cons.mpr ⟨(s_get (ci := 7) (k := 2) (am_dp pw_X10_explainersOf_32 dd_X10_explainersOf_32c.1) rfl (by decide) wd183 inX7 rfl).to, ?_⟩
  refine List.forall_mem_cons.mpr ⟨(s_iloadn (am_dp pw_X10_explainersOf_32 dd_X10_explainersOf_32c.2) rfl).to, ?_⟩
  refine List.forall_mem_cons.mpr ⟨(s_iald (am_dp pw_X10_explainersOf_64 dd_X10_explainersOf_64a.1)).to, ?_⟩
  refine List.forall_mem_cons.mpr ⟨zw_cv88 (am_dp pw_X10_explainersOf_64 dd_X10_explainersOf_64a.2.1) wd1078, ?_⟩
  refine List.forall_mem_cons.mpr ⟨(s_if_eq (am_dp pw_X10_explainersOf_64 dd_X10_explainersOf_64a.2.2.1) (by decide)).to, ?_⟩
  refine List.forall_mem_cons.mpr ⟨(s_iloadn (am_dp pw_X10_explainersOf_64 dd_X10_explainersOf_64a.2.2.2.1) rfl).to, ?_⟩
  refine List.forall_mem_cons.mpr ⟨(s_iconst (am_dp pw_X10_explainersOf_64 dd_X10_explainersOf_64a.2.2.2.2.1) (by decide)).to, ?_⟩
  refine List.forall_mem_cons.mpr ⟨(s_iload (am_dp pw_X10_explainersOf_64 dd_X10_explainersOf_64a.2.2.2.2.2.1)).to, ?_⟩
  refine List.forall_mem_cons.mpr ⟨(s_ishl (am_dp pw_X10_explainersOf_64 dd_X10_explainersOf_64a.2.2.2.2.2.2.1)).to, ?_⟩
  refine List.forall_mem_cons.mpr ⟨(s_ior (am_dp pw_X10_explainersOf_64 dd_X10_explainersOf_64a.2.2.2.2.2.2.2)).to, ?_⟩
  refine List.forall_mem_cons.mpr ⟨(s_istoren (am_dp pw_X10_explainersOf_64 dd_X10_explainersOf_64b.1) rfl (by decide)).to, ?_⟩
  refine List.forall_mem_cons.mpr ⟨(s_iinc (am_dp pw_X10_explainersOf_64 dd_X10_explainersOf_64b.2.1) (by decide) (by decide)).to, ?_⟩
  refine List.forall_mem_cons.mpr ⟨(s_goto (am_dp pw_X10_explainersOf_64 dd_X10_explainersOf_64b.2.2.1) (by decide)).to, ?_⟩
  refine List.forall_mem_cons.mpr ⟨(s_iloadn (am_dp pw_X10_explainersOf_64 dd_X10_explainersOf_64b.2.2.2.1) rfl).to, ?_⟩
  refine List.forall_mem_cons.mpr ⟨s_iret (am_dp pw_X10_explainersOf_64 dd_X10_explainersOf_64b.2.2.2.2) rfl, ?_⟩
  exact fun _ h => absurd h List.not_mem_nil
theorem sn_tX10_chanceOf_0 : ∀ q ∈ tX10_chanceOf_0, am_Snd am_P0 RX10 cX10_chanceOf 8 (Option.some FieldType.long) "chanceOf" q.1 q.2 := by
  unfold tX10_chanceOf_0
  refine List.forall_mem_cons.mpr ⟨(s_aloadn (am_dp pw_X10_chanceOf_0 dd_X10_chanceOf_0a.1) rfl).to, ?_⟩
  refine List.forall_mem_cons.mpr ⟨(s_get (ci := 10) (k := 7) (am_dp pw_X10_chanceOf_0 dd_X10_chanceOf_0a.2.1) rfl (by decide) wd586 inX10 rfl).to, ?_⟩
  refine List.forall_mem_cons.mpr ⟨(s_iloadn (am_dp pw_X10_chanceOf_0 dd_X10_chanceOf_0a.2.2.1) rfl).to, ?_⟩
  refine List.forall_mem_cons.mpr ⟨(s_aald (am_dp pw_X10_chanceOf_0 dd_X10_chanceOf_0a.2.2.2.1)).to, ?_⟩
  refine List.forall_mem_cons.mpr ⟨(s_astoren (am_dp pw_X10_chanceOf_0 dd_X10_chanceOf_0a.2.2.2.2.1) rfl (by decide)).to, ?_⟩
  refine List.forall_mem_cons.mpr ⟨(s_aloadn (am_dp pw_X10_chanceOf_0 dd_X10_chanceOf_0a.2.2.2.2.2.1) rfl).to, ?_⟩
  refine List.forall_mem_cons.mpr ⟨zw_cv98 (am_dp pw_X10_chanceOf_0 dd_X10_chanceOf_0a.2.2.2.2.2.2.1) wd1094, ?_⟩
  refine List.forall_mem_cons.mpr ⟨(s_aloadn (am_dp pw_X10_chanceOf_0 dd_X10_chanceOf_0a.2.2.2.2.2.2.2) rfl).to, ?_⟩
  refine List.forall_mem_cons.mpr ⟨(s_get (ci := 10) (k := 2) (am_dp pw_X10_chanceOf_0 dd_X10_chanceOf_0b.1) rfl (by decide) wd581 inX10 rfl).to, ?_⟩
  refine List.forall_mem_cons.mpr ⟨(s_get (ci := 5) (k := 2) (am_dp pw_X10_chanceOf_0 dd_X10_chanceOf_0b.2.1) rfl (by decide) wd313 inX5 rfl).to, ?_⟩
  refine List.forall_mem_cons.mpr ⟨(s_istoren (am_dp pw_X10_chanceOf_0 dd_X10_chanceOf_0b.2.2.1) rfl (by decide)).to, ?_⟩
  refine List.forall_mem_cons.mpr ⟨(s_aloadn (am_dp pw_X10_chanceOf_0 dd_X10_chanceOf_0b.2.2.2.1) rfl).to, ?_⟩
  refine List.forall_mem_cons.mpr ⟨zw_cv97 (am_dp pw_X10_chanceOf_0 dd_X10_chanceOf_0b.2.2.2.2.1) wd1214, ?_⟩
  refine List.forall_mem_cons.mpr ⟨(s_istore (am_dp pw_X10_chanceOf_0 dd_X10_chanceOf_0b.2.2.2.2.2.1) (by decide)).to, ?_⟩
  refine List.forall_mem_cons.mpr ⟨(s_aloadn (am_dp pw_X10_chanceOf_0 dd_X10_chanceOf_0b.2.2.2.2.2.2.1) rfl).to, ?_⟩
  refine List.forall_mem_cons.mpr ⟨(s_get (ci := 10) (k := 11) (am_dp pw_X10_chanceOf_0 dd_X10_chanceOf_0b.2.2.2.2.2.2.2) rfl (by decide) wd590 inX10 rfl).to, ?_⟩
  refine List.forall_mem_cons.mpr ⟨(s_lconst (am_dp pw_X10_chanceOf_0 dd_X10_chanceOf_0c.1) (by decide)).to, ?_⟩
  refine List.forall_mem_cons.mpr ⟨zw_cs322 (am_dp pw_X10_chanceOf_0 dd_X10_chanceOf_0c.2) wd1218, ?_⟩
  refine List.forall_mem_cons.mpr ⟨(s_aloadn (am_dp pw_X10_chanceOf_32 dd_X10_chanceOf_32a.1) rfl).to, ?_⟩
  refine List.forall_mem_cons.mpr ⟨(s_get (ci := 10) (k := 11) (am_dp pw_X10_chanceOf_32 dd_X10_chanceOf_32a.2.1) rfl (by decide) wd590 inX10 rfl).to, ?_⟩
  refine List.forall_mem_cons.mpr ⟨(s_iconst (am_dp pw_X10_chanceOf_32 dd_X10_chanceOf_32a.2.2.1) (by decide)).to, ?_⟩
  refine List.forall_mem_cons.mpr ⟨(s_ldc2 (am_dp pw_X10_chanceOf_32 dd_X10_chanceOf_32a.2.2.2.1) wd1219).to, ?_⟩
  refine List.forall_mem_cons.mpr ⟨(s_last (am_dp pw_X10_chanceOf_32 dd_X10_chanceOf_32a.2.2.2.2.1)).to, ?_⟩
  refine List.forall_mem_cons.mpr ⟨(s_iconst (am_dp pw_X10_chanceOf_32 dd_X10_chanceOf_32a.2.2.2.2.2.1) (by decide)).to, ?_⟩
  refine List.forall_mem_cons.mpr ⟨(s_istore (am_dp pw_X10_chanceOf_32 dd_X10_chanceOf_32a.2.2.2.2.2.2.1) (by decide)).to, ?_⟩
  refine List.forall_mem_cons.mpr ⟨(s_iload (am_dp pw_X10_chanceOf_32 dd_X10_chanceOf_32a.2.2.2.2.2.2.2)).to, ?_⟩
  refine List.forall_mem_cons.mpr ⟨(s_iload (am_dp pw_X10_chanceOf_32 dd_X10_chanceOf_32b.1)).to, ?_⟩
  refine List.forall_mem_cons.mpr ⟨(s_icmp_ge (am_dp pw_X10_chanceOf_32 dd_X10_chanceOf_32b.2.1) (by decide)).to, ?_⟩
  refine List.forall_mem_cons.mpr ⟨(s_iload (am_dp pw_X10_chanceOf_32 dd_X10_chanceOf_32b.2.2.1)).to, ?_⟩
  refine List.forall_mem_cons.mpr ⟨(s_iconst (am_dp pw_X10_chanceOf_32 dd_X10_chanceOf_32b.2.2.2.1) (by decide)).to, ?_⟩
  refine List.forall_mem_cons.mpr ⟨(s_iadd (am_dp pw_X10_chanceOf_32 dd_X10_chanceOf_32b.2.2.2.2.1)).to, ?_⟩
  refine List.forall_mem_cons.mpr ⟨(s_bipush (am_dp pw_X10_chanceOf_32 dd_X10_chanceOf_32b.2.2.2.2.2.1) (by decide)).to, ?_⟩
  refine List.forall_mem_cons.mpr ⟨zw_cs309 (am_dp pw_X10_chanceOf_32 dd_X10_chanceOf_32b.2.2.2.2.2.2.1) wd1220, ?_⟩
  refine List.forall_mem_cons.mpr ⟨(s_istore (am_dp pw_X10_chanceOf_32 dd_X10_chanceOf_32b.2.2.2.2.2.2.2) (by decide)).to, ?_⟩
  refine List.forall_mem_cons.mpr ⟨(s_iload (am_dp pw_X10_chanceOf_32 dd_X10_chanceOf_32c)).to, ?_⟩
  refine List.forall_mem_cons.mpr ⟨(s_if_le (am_dp pw_X10_chanceOf_64 dd_X10_chanceOf_64a.1) (by decide)).to, ?_⟩
  refine List.forall_mem_cons.mpr ⟨(s_aloadn (am_dp pw_X10_chanceOf_64 dd_X10_chanceOf_64a.2.1) rfl).to, ?_⟩
  refine List.forall_mem_cons.mpr ⟨(s_get (ci := 10) (k := 11) (am_dp pw_X10_chanceOf_64 dd_X10_chanceOf_64a.2.2.1) rfl (by decide) wd590 inX10 rfl).to, ?_⟩
  refine List.forall_mem_cons.mpr ⟨(s_iload (am_dp pw_X10_chanceOf_64 dd_X10_chanceOf_64a.2.2.2.1)).to, ?_⟩
  refine List.forall_mem_cons.mpr ⟨(s_aloadn (am_dp pw_X10_chanceOf_64 dd_X10_chanceOf_64a.2.2.2.2.1) rfl).to, ?_⟩
  refine List.forall_mem_cons.mpr ⟨(s_get (ci := 10) (k := 11) (am_dp pw_X10_chanceOf_64 dd_X10_chanceOf_64a.2.2.2.2.2.1) rfl (by decide) wd590 inX10 rfl).to, ?_⟩
  refine List.forall_mem_cons.mpr ⟨(s_iload (am_dp pw_X10_chanceOf_64 dd_X10_chanceOf_64a.2.2.2.2.2.2.1)).to, ?_⟩
  refine List.forall_mem_cons.mpr ⟨(s_lald (am_dp pw_X10_chanceOf_64 dd_X10_chanceOf_64a.2.2.2.2.2.2.2)).to, ?_⟩
  refine List.forall_mem_cons.mpr ⟨(s_bipush (am_dp pw_X10_chanceOf_64 dd_X10_chanceOf_64b.1) (by decide)).to, ?_⟩
  refine List.forall_mem_cons.mpr ⟨(s_iloadn (am_dp pw_X10_chanceOf_64 dd_X10_chanceOf_64b.2.1) rfl).to, ?_⟩
  refine List.forall_mem_cons.mpr ⟨(s_isub (am_dp pw_X10_chanceOf_64 dd_X10_chanceOf_64b.2.2.1)).to, ?_⟩
  refine List.forall_mem_cons.mpr ⟨(s_i2l (am_dp pw_X10_chanceOf_64 dd_X10_chanceOf_64b.2.2.2.1)).to, ?_⟩
  refine List.forall_mem_cons.mpr ⟨(s_lmul (am_dp pw_X10_chanceOf_64 dd_X10_chanceOf_64b.2.2.2.2.1)).to, ?_⟩
  refine List.forall_mem_cons.mpr ⟨(s_aloadn (am_dp pw_X10_chanceOf_64 dd_X10_chanceOf_64b.2.2.2.2.2.1) rfl).to, ?_⟩
  refine List.forall_mem_cons.mpr ⟨(s_get (ci := 10) (k := 11) (am_dp pw_X10_chanceOf_64 dd_X10_chanceOf_64b.2.2.2.2.2.2.1) rfl (by decide) wd590 inX10 rfl).to, ?_⟩
  refine List.forall_mem_cons.mpr ⟨(s_iload (am_dp pw_X10_chanceOf_64 dd_X10_chanceOf_64b.2.2.2.2.2.2.2)).to, ?_⟩
  refine List.forall_mem_cons.mpr ⟨(s_iconst (am_dp pw_X10_chanceOf_64 dd_X10_chanceOf_64c.1) (by decide)).to, ?_⟩
  refine List.forall_mem_cons.mpr ⟨(s_isub (am_dp pw_X10_chanceOf_64 dd_X10_chanceOf_64c.2.1)).to, ?_⟩
  refine List.forall_mem_cons.mpr ⟨(s_lald (am_dp pw_X10_chanceOf_64 dd_X10_chanceOf_64c.2.2)).to, ?_⟩
  refine List.forall_mem_cons.mpr ⟨(s_iloadn (am_dp pw_X10_chanceOf_96 dd_X10_chanceOf_96a.1) rfl).to, ?_⟩
  refine List.forall_mem_cons.mpr ⟨(s_i2l (am_dp pw_X10_chanceOf_96 dd_X10_chanceOf_96a.2.1)).to, ?_⟩
  refine List.forall_mem_cons.mpr ⟨(s_lmul (am_dp pw_X10_chanceOf_96 dd_X10_chanceOf_96a.2.2.1)).to, ?_⟩
  refine List.forall_mem_cons.mpr ⟨(s_ladd (am_dp pw_X10_chanceOf_96 dd_X10_chanceOf_96a.2.2.2.1)).to, ?_⟩
  refine List.forall_mem_cons.mpr ⟨(s_ldc2 (am_dp pw_X10_chanceOf_96 dd_X10_chanceOf_96a.2.2.2.2.1) wd1221).to, ?_⟩
  refine List.forall_mem_cons.mpr ⟨(s_ldiv (am_dp pw_X10_chanceOf_96 dd_X10_chanceOf_96a.2.2.2.2.2.1)).to, ?_⟩
  exact fun _ h => absurd h List.not_mem_nil
theorem sn_tX10_chanceOf_1 : ∀ q ∈ tX10_chanceOf_1, am_Snd am_P0 RX10 cX10_chanceOf 8 (Option.some FieldType.long) "chanceOf" q.1 q.2 := by
  unfold tX10_chanceOf_1
  refine List.forall_mem_cons.mpr ⟨(s_last (am_dp pw_X10_chanceOf_96 dd_X10_chanceOf_96a.2.2.2.2.2.2.1)).to, ?_⟩
  refine List.forall_mem_cons.mpr ⟨(s_iinc (am_dp pw_X10_chanceOf_96 dd_X10_chanceOf_96a.2.2.2.2.2.2.2) (by decide) (by decide)).to, ?_⟩
  refine List.forall_mem_cons.mpr ⟨(s_goto (am_dp pw_X10_chanceOf_96 dd_X10_chanceOf_96b.1) (by decide)).to, ?_⟩
  refine List.forall_mem_cons.mpr ⟨(s_aloadn (am_dp pw_X10_chanceOf_96 dd_X10_chanceOf_96b.2.1) rfl).to, ?_⟩
  refine List.forall_mem_cons.mpr ⟨(s_get (ci := 10) (k := 11) (am_dp pw_X10_chanceOf_96 dd_X10_chanceOf_96b.2.2.1) rfl (by decide) wd590 inX10 rfl).to, ?_⟩
  refine List.forall_mem_cons.mpr ⟨(s_iconst (am_dp pw_X10_chanceOf_96 dd_X10_chanceOf_96b.2.2.2.1) (by decide)).to, ?_⟩
  refine List.forall_mem_cons.mpr ⟨(s_aloadn (am_dp pw_X10_chanceOf_96 dd_X10_chanceOf_96b.2.2.2.2.1) rfl).to, ?_⟩
  refine List.forall_mem_cons.mpr ⟨(s_get (ci := 10) (k := 11) (am_dp pw_X10_chanceOf_96 dd_X10_chanceOf_96b.2.2.2.2.2.1) rfl (by decide) wd590 inX10 rfl).to, ?_⟩
  refine List.forall_mem_cons.mpr ⟨(s_iconst (am_dp pw_X10_chanceOf_96 dd_X10_chanceOf_96b.2.2.2.2.2.2.1) (by decide)).to, ?_⟩
  refine List.forall_mem_cons.mpr ⟨(s_lald (am_dp pw_X10_chanceOf_96 dd_X10_chanceOf_96b.2.2.2.2.2.2.2)).to, ?_⟩
  refine List.forall_mem_cons.mpr ⟨(s_bipush (am_dp pw_X10_chanceOf_96 dd_X10_chanceOf_96c.1) (by decide)).to, ?_⟩
  refine List.forall_mem_cons.mpr ⟨(s_iloadn (am_dp pw_X10_chanceOf_96 dd_X10_chanceOf_96c.2.1) rfl).to, ?_⟩
  refine List.forall_mem_cons.mpr ⟨(s_isub (am_dp pw_X10_chanceOf_96 dd_X10_chanceOf_96c.2.2.1)).to, ?_⟩
  refine List.forall_mem_cons.mpr ⟨(s_i2l (am_dp pw_X10_chanceOf_96 dd_X10_chanceOf_96c.2.2.2.1)).to, ?_⟩
  refine List.forall_mem_cons.mpr ⟨(s_lmul (am_dp pw_X10_chanceOf_96 dd_X10_chanceOf_96c.2.2.2.2)).to, ?_⟩
  refine List.forall_mem_cons.mpr ⟨(s_ldc2 (am_dp pw_X10_chanceOf_128 dd_X10_chanceOf_128a.1) wd1221).to, ?_⟩
  refine List.forall_mem_cons.mpr ⟨(s_ldiv (am_dp pw_X10_chanceOf_128 dd_X10_chanceOf_128a.2.1)).to, ?_⟩
  refine List.forall_mem_cons.mpr ⟨(s_last (am_dp pw_X10_chanceOf_128 dd_X10_chanceOf_128a.2.2.1)).to, ?_⟩
  refine List.forall_mem_cons.mpr ⟨(s_iinc (am_dp pw_X10_chanceOf_128 dd_X10_chanceOf_128a.2.2.2.1) (by decide) (by decide)).to, ?_⟩
  refine List.forall_mem_cons.mpr ⟨(s_goto (am_dp pw_X10_chanceOf_128 dd_X10_chanceOf_128a.2.2.2.2.1) (by decide)).to, ?_⟩
  refine List.forall_mem_cons.mpr ⟨(s_lconst (am_dp pw_X10_chanceOf_128 dd_X10_chanceOf_128a.2.2.2.2.2.1) (by decide)).to, ?_⟩
  refine List.forall_mem_cons.mpr ⟨(s_lstore (am_dp pw_X10_chanceOf_128 dd_X10_chanceOf_128a.2.2.2.2.2.2.1) (by decide)).to, ?_⟩
  refine List.forall_mem_cons.mpr ⟨(s_aloadn (am_dp pw_X10_chanceOf_128 dd_X10_chanceOf_128a.2.2.2.2.2.2.2) rfl).to, ?_⟩
  refine List.forall_mem_cons.mpr ⟨(s_get (ci := 8) (k := 14) (am_dp pw_X10_chanceOf_128 dd_X10_chanceOf_128b.1) rfl (by decide) wd541 inX8 rfl).to, ?_⟩
  refine List.forall_mem_cons.mpr ⟨(s_istore (am_dp pw_X10_chanceOf_128 dd_X10_chanceOf_128b.2.1) (by decide)).to, ?_⟩
  refine List.forall_mem_cons.mpr ⟨(s_iload (am_dp pw_X10_chanceOf_128 dd_X10_chanceOf_128b.2.2.1)).to, ?_⟩
  refine List.forall_mem_cons.mpr ⟨(s_bipush (am_dp pw_X10_chanceOf_128 dd_X10_chanceOf_128b.2.2.2.1) (by decide)).to, ?_⟩
  refine List.forall_mem_cons.mpr ⟨(s_icmp_ge (am_dp pw_X10_chanceOf_128 dd_X10_chanceOf_128b.2.2.2.2.1) (by decide)).to, ?_⟩
  refine List.forall_mem_cons.mpr ⟨(s_lload (am_dp pw_X10_chanceOf_128 dd_X10_chanceOf_128b.2.2.2.2.2.1)).to, ?_⟩
  refine List.forall_mem_cons.mpr ⟨(s_aloadn (am_dp pw_X10_chanceOf_128 dd_X10_chanceOf_128b.2.2.2.2.2.2.1) rfl).to, ?_⟩
  refine List.forall_mem_cons.mpr ⟨(s_get (ci := 10) (k := 11) (am_dp pw_X10_chanceOf_128 dd_X10_chanceOf_128b.2.2.2.2.2.2.2) rfl (by decide) wd590 inX10 rfl).to, ?_⟩
  refine List.forall_mem_cons.mpr ⟨(s_iload (am_dp pw_X10_chanceOf_160 dd_X10_chanceOf_160a.1)).to, ?_⟩
  refine List.forall_mem_cons.mpr ⟨(s_lald (am_dp pw_X10_chanceOf_160 dd_X10_chanceOf_160a.2.1)).to, ?_⟩
  refine List.forall_mem_cons.mpr ⟨(s_ladd (am_dp pw_X10_chanceOf_160 dd_X10_chanceOf_160a.2.2.1)).to, ?_⟩
  refine List.forall_mem_cons.mpr ⟨(s_lstore (am_dp pw_X10_chanceOf_160 dd_X10_chanceOf_160a.2.2.2.1) (by decide)).to, ?_⟩
  refine List.forall_mem_cons.mpr ⟨(s_iinc (am_dp pw_X10_chanceOf_160 dd_X10_chanceOf_160a.2.2.2.2.1) (by decide) (by decide)).to, ?_⟩
  refine List.forall_mem_cons.mpr ⟨(s_goto (am_dp pw_X10_chanceOf_160 dd_X10_chanceOf_160a.2.2.2.2.2.1) (by decide)).to, ?_⟩
  refine List.forall_mem_cons.mpr ⟨(s_lload (am_dp pw_X10_chanceOf_160 dd_X10_chanceOf_160a.2.2.2.2.2.2.1)).to, ?_⟩
  refine List.forall_mem_cons.mpr ⟨s_lret (am_dp pw_X10_chanceOf_160 dd_X10_chanceOf_160a.2.2.2.2.2.2.2) rfl, ?_⟩
  exact fun _ h => absurd h List.not_mem_nil
theorem sn_tX10_chanceOf : ∀ q ∈ tX10_chanceOf, am_Snd am_P0 RX10 cX10_chanceOf 8 (Option.some FieldType.long) "chanceOf" q.1 q.2 := by
  unfold tX10_chanceOf
  exact List.forall_mem_append.mpr ⟨sn_tX10_chanceOf_0, sn_tX10_chanceOf_1⟩
theorem sn_tX10_findLook_0 : ∀ q ∈ tX10_findLook_0, am_Snd am_P0 RX10 cX10_findLook 6 (Option.none : Option FieldType) "findLook" q.1 q.2 := by
  unfold tX10_findLook_0
  refine List.forall_mem_cons.mpr ⟨(s_aloadn (am_dp pw_X10_findLook_0 dd_X10_findLook_0a.1) rfl).to, ?_⟩
  refine List.forall_mem_cons.mpr ⟨(s_iconst (am_dp pw_X10_findLook_0 dd_X10_findLook_0a.2.1) (by decide)).to, ?_⟩
  refine List.forall_mem_cons.mpr ⟨(s_put (ci := 10) (k := 16) (am_dp pw_X10_findLook_0 dd_X10_findLook_0a.2.2.1) rfl (by decide) wd595 inX10 tyX10_ok nmX10 rfl rfl).to, ?_⟩
  refine List.forall_mem_cons.mpr ⟨(s_iconst (am_dp pw_X10_findLook_0 dd_X10_findLook_0a.2.2.2.1) (by decide)).to, ?_⟩
  refine List.forall_mem_cons.mpr ⟨(s_istoren (am_dp pw_X10_findLook_0 dd_X10_findLook_0a.2.2.2.2.1) rfl (by decide)).to, ?_⟩
  refine List.forall_mem_cons.mpr ⟨(s_iconst (am_dp pw_X10_findLook_0 dd_X10_findLook_0a.2.2.2.2.2.1) (by decide)).to, ?_⟩
  refine List.forall_mem_cons.mpr ⟨(s_istoren (am_dp pw_X10_findLook_0 dd_X10_findLook_0a.2.2.2.2.2.2.1) rfl (by decide)).to, ?_⟩
  refine List.forall_mem_cons.mpr ⟨(s_iloadn (am_dp pw_X10_findLook_0 dd_X10_findLook_0a.2.2.2.2.2.2.2) rfl).to, ?_⟩
  refine List.forall_mem_cons.mpr ⟨(s_aloadn (am_dp pw_X10_findLook_0 dd_X10_findLook_0b.1) rfl).to, ?_⟩
  refine List.forall_mem_cons.mpr ⟨(s_get (ci := 10) (k := 2) (am_dp pw_X10_findLook_0 dd_X10_findLook_0b.2.1) rfl (by decide) wd581 inX10 rfl).to, ?_⟩
  refine List.forall_mem_cons.mpr ⟨(s_get (ci := 5) (k := 3) (am_dp pw_X10_findLook_0 dd_X10_findLook_0b.2.2.1) rfl (by decide) wd315 inX5 rfl).to, ?_⟩
  refine List.forall_mem_cons.mpr ⟨(s_icmp_ge (am_dp pw_X10_findLook_0 dd_X10_findLook_0b.2.2.2.1) (by decide)).to, ?_⟩
  refine List.forall_mem_cons.mpr ⟨(s_aloadn (am_dp pw_X10_findLook_0 dd_X10_findLook_0b.2.2.2.2.1) rfl).to, ?_⟩
  refine List.forall_mem_cons.mpr ⟨(s_get (ci := 10) (k := 7) (am_dp pw_X10_findLook_0 dd_X10_findLook_0b.2.2.2.2.2.1) rfl (by decide) wd586 inX10 rfl).to, ?_⟩
  refine List.forall_mem_cons.mpr ⟨(s_iloadn (am_dp pw_X10_findLook_0 dd_X10_findLook_0b.2.2.2.2.2.2.1) rfl).to, ?_⟩
  refine List.forall_mem_cons.mpr ⟨(s_aald (am_dp pw_X10_findLook_0 dd_X10_findLook_0b.2.2.2.2.2.2.2)).to, ?_⟩
  refine List.forall_mem_cons.mpr ⟨zw_cv83 (am_dp pw_X10_findLook_0 dd_X10_findLook_0c.1) wd933, ?_⟩
  refine List.forall_mem_cons.mpr ⟨(s_iinc (am_dp pw_X10_findLook_0 dd_X10_findLook_0c.2) (by decide) (by decide)).to, ?_⟩
  refine List.forall_mem_cons.mpr ⟨(s_goto (am_dp pw_X10_findLook_32 dd_X10_findLook_32a.1) (by decide)).to, ?_⟩
  refine List.forall_mem_cons.mpr ⟨(s_iconst (am_dp pw_X10_findLook_32 dd_X10_findLook_32a.2.1) (by decide)).to, ?_⟩
  refine List.forall_mem_cons.mpr ⟨(s_istoren (am_dp pw_X10_findLook_32 dd_X10_findLook_32a.2.2.1) rfl (by decide)).to, ?_⟩
  refine List.forall_mem_cons.mpr ⟨(s_iloadn (am_dp pw_X10_findLook_32 dd_X10_findLook_32a.2.2.2.1) rfl).to, ?_⟩
  refine List.forall_mem_cons.mpr ⟨(s_bipush (am_dp pw_X10_findLook_32 dd_X10_findLook_32a.2.2.2.2.1) (by decide)).to, ?_⟩
  refine List.forall_mem_cons.mpr ⟨(s_icmp_ge (am_dp pw_X10_findLook_32 dd_X10_findLook_32a.2.2.2.2.2.1) (by decide)).to, ?_⟩
  refine List.forall_mem_cons.mpr ⟨(s_aloadn (am_dp pw_X10_findLook_32 dd_X10_findLook_32a.2.2.2.2.2.2.1) rfl).to, ?_⟩
  refine List.forall_mem_cons.mpr ⟨(s_iloadn (am_dp pw_X10_findLook_32 dd_X10_findLook_32a.2.2.2.2.2.2.2) rfl).to, ?_⟩
  refine List.forall_mem_cons.mpr ⟨zw_cv161 (am_dp pw_X10_findLook_32 dd_X10_findLook_32b.1) wd1240, ?_⟩
  refine List.forall_mem_cons.mpr ⟨(s_istoren (am_dp pw_X10_findLook_32 dd_X10_findLook_32b.2.1) rfl (by decide)).to, ?_⟩
  refine List.forall_mem_cons.mpr ⟨(s_iloadn (am_dp pw_X10_findLook_32 dd_X10_findLook_32b.2.2.1) rfl).to, ?_⟩
  refine List.forall_mem_cons.mpr ⟨(s_if_eq (am_dp pw_X10_findLook_32 dd_X10_findLook_32b.2.2.2.1) (by decide)).to, ?_⟩
  refine List.forall_mem_cons.mpr ⟨(s_iloadn (am_dp pw_X10_findLook_32 dd_X10_findLook_32b.2.2.2.2.1) rfl).to, ?_⟩
  refine List.forall_mem_cons.mpr ⟨(s_aloadn (am_dp pw_X10_findLook_32 dd_X10_findLook_32b.2.2.2.2.2.1) rfl).to, ?_⟩
  refine List.forall_mem_cons.mpr ⟨(s_get (ci := 10) (k := 16) (am_dp pw_X10_findLook_32 dd_X10_findLook_32b.2.2.2.2.2.2.1) rfl (by decide) wd595 inX10 rfl).to, ?_⟩
  refine List.forall_mem_cons.mpr ⟨(s_icmp_ge (am_dp pw_X10_findLook_32 dd_X10_findLook_32b.2.2.2.2.2.2.2) (by decide)).to, ?_⟩
  refine List.forall_mem_cons.mpr ⟨(s_goto (am_dp pw_X10_findLook_32 dd_X10_findLook_32c) (by decide)).to, ?_⟩
  refine List.forall_mem_cons.mpr ⟨(s_iconst (am_dp pw_X10_findLook_64 dd_X10_findLook_64a.1) (by decide)).to, ?_⟩
  refine List.forall_mem_cons.mpr ⟨(s_istore (am_dp pw_X10_findLook_64 dd_X10_findLook_64a.2.1) (by decide)).to, ?_⟩
  refine List.forall_mem_cons.mpr ⟨(s_iload (am_dp pw_X10_findLook_64 dd_X10_findLook_64a.2.2.1)).to, ?_⟩
  refine List.forall_mem_cons.mpr ⟨(s_sipush (am_dp pw_X10_findLook_64 dd_X10_findLook_64a.2.2.2.1) (by decide)).to, ?_⟩
  refine List.forall_mem_cons.mpr ⟨(s_icmp_ge (am_dp pw_X10_findLook_64 dd_X10_findLook_64a.2.2.2.2.1) (by decide)).to, ?_⟩
  refine List.forall_mem_cons.mpr ⟨(s_aloadn (am_dp pw_X10_findLook_64 dd_X10_findLook_64a.2.2.2.2.2.1) rfl).to, ?_⟩
  refine List.forall_mem_cons.mpr ⟨(s_get (ci := 10) (k := 12) (am_dp pw_X10_findLook_64 dd_X10_findLook_64a.2.2.2.2.2.2.1) rfl (by decide) wd591 inX10 rfl).to, ?_⟩
  refine List.forall_mem_cons.mpr ⟨(s_iloadn (am_dp pw_X10_findLook_64 dd_X10_findLook_64a.2.2.2.2.2.2.2) rfl).to, ?_⟩
  refine List.forall_mem_cons.mpr ⟨(s_iconst (am_dp pw_X10_findLook_64 dd_X10_findLook_64b.1) (by decide)).to, ?_⟩
  refine List.forall_mem_cons.mpr ⟨(s_imul (am_dp pw_X10_findLook_64 dd_X10_findLook_64b.2.1)).to, ?_⟩
  refine List.forall_mem_cons.mpr ⟨(s_iload (am_dp pw_X10_findLook_64 dd_X10_findLook_64b.2.2.1)).to, ?_⟩
  refine List.forall_mem_cons.mpr ⟨(s_bipush (am_dp pw_X10_findLook_64 dd_X10_findLook_64b.2.2.2.1) (by decide)).to, ?_⟩
  refine List.forall_mem_cons.mpr ⟨(s_ishr (am_dp pw_X10_findLook_64 dd_X10_findLook_64b.2.2.2.2.1)).to, ?_⟩
  refine List.forall_mem_cons.mpr ⟨(s_iadd (am_dp pw_X10_findLook_64 dd_X10_findLook_64b.2.2.2.2.2.1)).to, ?_⟩
  refine List.forall_mem_cons.mpr ⟨(s_lald (am_dp pw_X10_findLook_64 dd_X10_findLook_64b.2.2.2.2.2.2.1)).to, ?_⟩
  refine List.forall_mem_cons.mpr ⟨(s_iload (am_dp pw_X10_findLook_64 dd_X10_findLook_64b.2.2.2.2.2.2.2)).to, ?_⟩
  refine List.forall_mem_cons.mpr ⟨(s_bipush (am_dp pw_X10_findLook_64 dd_X10_findLook_64c.1) (by decide)).to, ?_⟩
  refine List.forall_mem_cons.mpr ⟨(s_iand (am_dp pw_X10_findLook_64 dd_X10_findLook_64c.2.1)).to, ?_⟩
  refine List.forall_mem_cons.mpr ⟨(s_lushr (am_dp pw_X10_findLook_64 dd_X10_findLook_64c.2.2.1)).to, ?_⟩
  refine List.forall_mem_cons.mpr ⟨(s_lconst (am_dp pw_X10_findLook_64 dd_X10_findLook_64c.2.2.2) (by decide)).to, ?_⟩
  refine List.forall_mem_cons.mpr ⟨(s_land (am_dp pw_X10_findLook_96 dd_X10_findLook_96a.1)).to, ?_⟩
  refine List.forall_mem_cons.mpr ⟨(s_lconst (am_dp pw_X10_findLook_96 dd_X10_findLook_96a.2.1) (by decide)).to, ?_⟩
  refine List.forall_mem_cons.mpr ⟨(s_lcmp (am_dp pw_X10_findLook_96 dd_X10_findLook_96a.2.2.1)).to, ?_⟩
  refine List.forall_mem_cons.mpr ⟨(s_if_ne (am_dp pw_X10_findLook_96 dd_X10_findLook_96a.2.2.2.1) (by decide)).to, ?_⟩
  refine List.forall_mem_cons.mpr ⟨(s_goto (am_dp pw_X10_findLook_96 dd_X10_findLook_96a.2.2.2.2.1) (by decide)).to, ?_⟩
  exact fun _ h => absurd h List.not_mem_nil
theorem sn_tX10_findLook_1 : ∀ q ∈ tX10_findLook_1, am_Snd am_P0 RX10 cX10_findLook 6 (Option.none : Option FieldType) "findLook" q.1 q.2 := by
  unfold tX10_findLook_1
  refine List.forall_mem_cons.mpr ⟨(s_aloadn (am_dp pw_X10_findLook_96 dd_X10_findLook_96a.2.2.2.2.2.1) rfl).to, ?_⟩
  refine List.forall_mem_cons.mpr ⟨(s_get (ci := 10) (k := 2) (am_dp pw_X10_findLook_96 dd_X10_findLook_96a.2.2.2.2.2.2.1) rfl (by decide) wd581 inX10 rfl).to, ?_⟩
  refine List.forall_mem_cons.mpr ⟨(s_iload (am_dp pw_X10_findLook_96 dd_X10_findLook_96a.2.2.2.2.2.2.2)).to, ?_⟩
  refine List.forall_mem_cons.mpr ⟨zw_cv54 (am_dp pw_X10_findLook_96 dd_X10_findLook_96b.1) wd1031, ?_⟩
  refine List.forall_mem_cons.mpr ⟨(s_istore (am_dp pw_X10_findLook_96 dd_X10_findLook_96b.2.1) (by decide)).to, ?_⟩
  refine List.forall_mem_cons.mpr ⟨(s_iloadn (am_dp pw_X10_findLook_96 dd_X10_findLook_96b.2.2.1) rfl).to, ?_⟩
  refine List.forall_mem_cons.mpr ⟨(s_aloadn (am_dp pw_X10_findLook_96 dd_X10_findLook_96b.2.2.2.1) rfl).to, ?_⟩
  refine List.forall_mem_cons.mpr ⟨(s_get (ci := 10) (k := 16) (am_dp pw_X10_findLook_96 dd_X10_findLook_96b.2.2.2.2.1) rfl (by decide) wd595 inX10 rfl).to, ?_⟩
  refine List.forall_mem_cons.mpr ⟨(s_icmp_gt (am_dp pw_X10_findLook_96 dd_X10_findLook_96b.2.2.2.2.2.1) (by decide)).to, ?_⟩
  refine List.forall_mem_cons.mpr ⟨(s_iload (am_dp pw_X10_findLook_96 dd_X10_findLook_96b.2.2.2.2.2.2.1)).to, ?_⟩
  refine List.forall_mem_cons.mpr ⟨(s_iloadn (am_dp pw_X10_findLook_96 dd_X10_findLook_96b.2.2.2.2.2.2.2) rfl).to, ?_⟩
  refine List.forall_mem_cons.mpr ⟨(s_icmp_ge (am_dp pw_X10_findLook_96 dd_X10_findLook_96c) (by decide)).to, ?_⟩
  refine List.forall_mem_cons.mpr ⟨(s_aloadn (am_dp pw_X10_findLook_128 dd_X10_findLook_128a.1) rfl).to, ?_⟩
  refine List.forall_mem_cons.mpr ⟨(s_iloadn (am_dp pw_X10_findLook_128 dd_X10_findLook_128a.2.1) rfl).to, ?_⟩
  refine List.forall_mem_cons.mpr ⟨(s_put (ci := 10) (k := 16) (am_dp pw_X10_findLook_128 dd_X10_findLook_128a.2.2.1) rfl (by decide) wd595 inX10 tyX10_ok nmX10 rfl rfl).to, ?_⟩
  refine List.forall_mem_cons.mpr ⟨(s_aloadn (am_dp pw_X10_findLook_128 dd_X10_findLook_128a.2.2.2.1) rfl).to, ?_⟩
  refine List.forall_mem_cons.mpr ⟨(s_iloadn (am_dp pw_X10_findLook_128 dd_X10_findLook_128a.2.2.2.2.1) rfl).to, ?_⟩
  refine List.forall_mem_cons.mpr ⟨(s_put (ci := 10) (k := 14) (am_dp pw_X10_findLook_128 dd_X10_findLook_128a.2.2.2.2.2.1) rfl (by decide) wd593 inX10 tyX10_ok nmX10 rfl rfl).to, ?_⟩
  refine List.forall_mem_cons.mpr ⟨(s_aloadn (am_dp pw_X10_findLook_128 dd_X10_findLook_128a.2.2.2.2.2.2.1) rfl).to, ?_⟩
  refine List.forall_mem_cons.mpr ⟨(s_iload (am_dp pw_X10_findLook_128 dd_X10_findLook_128a.2.2.2.2.2.2.2)).to, ?_⟩
  refine List.forall_mem_cons.mpr ⟨(s_put (ci := 10) (k := 15) (am_dp pw_X10_findLook_128 dd_X10_findLook_128b.1) rfl (by decide) wd594 inX10 tyX10_ok nmX10 rfl rfl).to, ?_⟩
  refine List.forall_mem_cons.mpr ⟨(s_iload (am_dp pw_X10_findLook_128 dd_X10_findLook_128b.2.1)).to, ?_⟩
  refine List.forall_mem_cons.mpr ⟨(s_istoren (am_dp pw_X10_findLook_128 dd_X10_findLook_128b.2.2.1) rfl (by decide)).to, ?_⟩
  refine List.forall_mem_cons.mpr ⟨(s_iinc (am_dp pw_X10_findLook_128 dd_X10_findLook_128b.2.2.2.1) (by decide) (by decide)).to, ?_⟩
  refine List.forall_mem_cons.mpr ⟨(s_goto (am_dp pw_X10_findLook_128 dd_X10_findLook_128b.2.2.2.2.1) (by decide)).to, ?_⟩
  refine List.forall_mem_cons.mpr ⟨(s_iinc (am_dp pw_X10_findLook_128 dd_X10_findLook_128b.2.2.2.2.2.1) (by decide) (by decide)).to, ?_⟩
  refine List.forall_mem_cons.mpr ⟨(s_goto (am_dp pw_X10_findLook_128 dd_X10_findLook_128b.2.2.2.2.2.2) (by decide)).to, ?_⟩
  refine List.forall_mem_cons.mpr ⟨s_vret (am_dp pw_X10_findLook_160 dd_X10_findLook_160a) rfl, ?_⟩
  exact fun _ h => absurd h List.not_mem_nil
theorem sn_tX10_findLook : ∀ q ∈ tX10_findLook, am_Snd am_P0 RX10 cX10_findLook 6 (Option.none : Option FieldType) "findLook" q.1 q.2 := by
  unfold tX10_findLook
  exact List.forall_mem_append.mpr ⟨sn_tX10_findLook_0, sn_tX10_findLook_1⟩
theorem sn_tX10_pileUp_0 : ∀ q ∈ tX10_pileUp_0, am_Snd am_P0 RX10 cX10_pileUp 7 (Option.some FieldType.int) "pileUp" q.1 q.2 := by
  unfold tX10_pileUp_0
  refine List.forall_mem_cons.mpr ⟨(s_aloadn (am_dp pw_X10_pileUp_0 dd_X10_pileUp_0a.1) rfl).to, ?_⟩
  refine List.forall_mem_cons.mpr ⟨(s_get (ci := 10) (k := 12) (am_dp pw_X10_pileUp_0 dd_X10_pileUp_0a.2.1) rfl (by decide) wd591 inX10 rfl).to, ?_⟩
  refine List.forall_mem_cons.mpr ⟨(s_lconst (am_dp pw_X10_pileUp_0 dd_X10_pileUp_0a.2.2.1) (by decide)).to, ?_⟩
  refine List.forall_mem_cons.mpr ⟨zw_cs322 (am_dp pw_X10_pileUp_0 dd_X10_pileUp_0a.2.2.2.1) wd1218, ?_⟩
  refine List.forall_mem_cons.mpr ⟨(s_aloadn (am_dp pw_X10_pileUp_0 dd_X10_pileUp_0a.2.2.2.2.1) rfl).to, ?_⟩
  refine List.forall_mem_cons.mpr ⟨(s_get (ci := 10) (k := 12) (am_dp pw_X10_pileUp_0 dd_X10_pileUp_0a.2.2.2.2.2.1) rfl (by decide) wd591 inX10 rfl).to, ?_⟩
  refine List.forall_mem_cons.mpr ⟨(s_iconst (am_dp pw_X10_pileUp_0 dd_X10_pileUp_0a.2.2.2.2.2.2.1) (by decide)).to, ?_⟩
  refine List.forall_mem_cons.mpr ⟨(s_iconst (am_dp pw_X10_pileUp_0 dd_X10_pileUp_0a.2.2.2.2.2.2.2) (by decide)).to, ?_⟩
  refine List.forall_mem_cons.mpr ⟨(s_ldc2 (am_dp pw_X10_pileUp_0 dd_X10_pileUp_0b.1) wd1222).to, ?_⟩
  refine List.forall_mem_cons.mpr ⟨zw_cs323 (am_dp pw_X10_pileUp_0 dd_X10_pileUp_0b.2.1) wd1244, ?_⟩
  refine List.forall_mem_cons.mpr ⟨(s_iconst (am_dp pw_X10_pileUp_0 dd_X10_pileUp_0b.2.2.1) (by decide)).to, ?_⟩
  refine List.forall_mem_cons.mpr ⟨(s_istoren (am_dp pw_X10_pileUp_0 dd_X10_pileUp_0b.2.2.2.1) rfl (by decide)).to, ?_⟩
  refine List.forall_mem_cons.mpr ⟨(s_iconst (am_dp pw_X10_pileUp_0 dd_X10_pileUp_0b.2.2.2.2.1) (by decide)).to, ?_⟩
  refine List.forall_mem_cons.mpr ⟨(s_istoren (am_dp pw_X10_pileUp_0 dd_X10_pileUp_0b.2.2.2.2.2.1) rfl (by decide)).to, ?_⟩
  refine List.forall_mem_cons.mpr ⟨(s_iloadn (am_dp pw_X10_pileUp_0 dd_X10_pileUp_0b.2.2.2.2.2.2.1) rfl).to, ?_⟩
  refine List.forall_mem_cons.mpr ⟨(s_aloadn (am_dp pw_X10_pileUp_0 dd_X10_pileUp_0b.2.2.2.2.2.2.2) rfl).to, ?_⟩
  refine List.forall_mem_cons.mpr ⟨(s_get (ci := 10) (k := 2) (am_dp pw_X10_pileUp_0 dd_X10_pileUp_0c.1) rfl (by decide) wd581 inX10 rfl).to, ?_⟩
  refine List.forall_mem_cons.mpr ⟨(s_get (ci := 5) (k := 3) (am_dp pw_X10_pileUp_0 dd_X10_pileUp_0c.2) rfl (by decide) wd315 inX5 rfl).to, ?_⟩
  refine List.forall_mem_cons.mpr ⟨(s_icmp_ge (am_dp pw_X10_pileUp_32 dd_X10_pileUp_32a.1) (by decide)).to, ?_⟩
  refine List.forall_mem_cons.mpr ⟨(s_aloadn (am_dp pw_X10_pileUp_32 dd_X10_pileUp_32a.2.1) rfl).to, ?_⟩
  refine List.forall_mem_cons.mpr ⟨(s_get (ci := 10) (k := 2) (am_dp pw_X10_pileUp_32 dd_X10_pileUp_32a.2.2.1) rfl (by decide) wd581 inX10 rfl).to, ?_⟩
  refine List.forall_mem_cons.mpr ⟨(s_get (ci := 5) (k := 4) (am_dp pw_X10_pileUp_32 dd_X10_pileUp_32a.2.2.2.1) rfl (by decide) wd318 inX5 rfl).to, ?_⟩
  refine List.forall_mem_cons.mpr ⟨(s_iloadn (am_dp pw_X10_pileUp_32 dd_X10_pileUp_32a.2.2.2.2.1) rfl).to, ?_⟩
  refine List.forall_mem_cons.mpr ⟨(s_aald (am_dp pw_X10_pileUp_32 dd_X10_pileUp_32a.2.2.2.2.2.1)).to, ?_⟩
  refine List.forall_mem_cons.mpr ⟨(s_get (ci := 6) (k := 5) (am_dp pw_X10_pileUp_32 dd_X10_pileUp_32a.2.2.2.2.2.2.1) rfl (by decide) wd255 inX6 rfl).to, ?_⟩
  refine List.forall_mem_cons.mpr ⟨(s_if_eq (am_dp pw_X10_pileUp_32 dd_X10_pileUp_32a.2.2.2.2.2.2.2) (by decide)).to, ?_⟩
  refine List.forall_mem_cons.mpr ⟨(s_aloadn (am_dp pw_X10_pileUp_32 dd_X10_pileUp_32b.1) rfl).to, ?_⟩
  refine List.forall_mem_cons.mpr ⟨(s_get (ci := 10) (k := 7) (am_dp pw_X10_pileUp_32 dd_X10_pileUp_32b.2.1) rfl (by decide) wd586 inX10 rfl).to, ?_⟩
  refine List.forall_mem_cons.mpr ⟨(s_iloadn (am_dp pw_X10_pileUp_32 dd_X10_pileUp_32b.2.2.1) rfl).to, ?_⟩
  refine List.forall_mem_cons.mpr ⟨(s_aald (am_dp pw_X10_pileUp_32 dd_X10_pileUp_32b.2.2.2.1)).to, ?_⟩
  refine List.forall_mem_cons.mpr ⟨(s_iloadn (am_dp pw_X10_pileUp_32 dd_X10_pileUp_32b.2.2.2.2.1) rfl).to, ?_⟩
  refine List.forall_mem_cons.mpr ⟨zw_cv89 (am_dp pw_X10_pileUp_32 dd_X10_pileUp_32b.2.2.2.2.2.1) wd1064, ?_⟩
  refine List.forall_mem_cons.mpr ⟨(s_iconst (am_dp pw_X10_pileUp_32 dd_X10_pileUp_32b.2.2.2.2.2.2.1) (by decide)).to, ?_⟩
  refine List.forall_mem_cons.mpr ⟨(s_icmp_ge (am_dp pw_X10_pileUp_32 dd_X10_pileUp_32b.2.2.2.2.2.2.2) (by decide)).to, ?_⟩
  refine List.forall_mem_cons.mpr ⟨(s_goto (am_dp pw_X10_pileUp_64 dd_X10_pileUp_64a.1) (by decide)).to, ?_⟩
  refine List.forall_mem_cons.mpr ⟨(s_iloadn (am_dp pw_X10_pileUp_64 dd_X10_pileUp_64a.2.1) rfl).to, ?_⟩
  refine List.forall_mem_cons.mpr ⟨(s_iconst (am_dp pw_X10_pileUp_64 dd_X10_pileUp_64a.2.2.1) (by decide)).to, ?_⟩
  refine List.forall_mem_cons.mpr ⟨(s_iadd (am_dp pw_X10_pileUp_64 dd_X10_pileUp_64a.2.2.2.1)).to, ?_⟩
  refine List.forall_mem_cons.mpr ⟨(s_bipush (am_dp pw_X10_pileUp_64 dd_X10_pileUp_64a.2.2.2.2.1) (by decide)).to, ?_⟩
  refine List.forall_mem_cons.mpr ⟨zw_cs309 (am_dp pw_X10_pileUp_64 dd_X10_pileUp_64a.2.2.2.2.2.1) wd1220, ?_⟩
  refine List.forall_mem_cons.mpr ⟨(s_istore (am_dp pw_X10_pileUp_64 dd_X10_pileUp_64a.2.2.2.2.2.2.1) (by decide)).to, ?_⟩
  refine List.forall_mem_cons.mpr ⟨(s_iload (am_dp pw_X10_pileUp_64 dd_X10_pileUp_64a.2.2.2.2.2.2.2)).to, ?_⟩
  refine List.forall_mem_cons.mpr ⟨(s_if_le (am_dp pw_X10_pileUp_64 dd_X10_pileUp_64b.1) (by decide)).to, ?_⟩
  refine List.forall_mem_cons.mpr ⟨(s_iconst (am_dp pw_X10_pileUp_64 dd_X10_pileUp_64b.2.1) (by decide)).to, ?_⟩
  refine List.forall_mem_cons.mpr ⟨(s_istore (am_dp pw_X10_pileUp_64 dd_X10_pileUp_64b.2.2.1) (by decide)).to, ?_⟩
  refine List.forall_mem_cons.mpr ⟨(s_iload (am_dp pw_X10_pileUp_64 dd_X10_pileUp_64b.2.2.2.1)).to, ?_⟩
  refine List.forall_mem_cons.mpr ⟨(s_iconst (am_dp pw_X10_pileUp_64 dd_X10_pileUp_64b.2.2.2.2.1) (by decide)).to, ?_⟩
  refine List.forall_mem_cons.mpr ⟨(s_icmp_ge (am_dp pw_X10_pileUp_64 dd_X10_pileUp_64b.2.2.2.2.2.1) (by decide)).to, ?_⟩
  refine List.forall_mem_cons.mpr ⟨(s_iload (am_dp pw_X10_pileUp_64 dd_X10_pileUp_64b.2.2.2.2.2.2.1)).to, ?_⟩
  refine List.forall_mem_cons.mpr ⟨(s_iconst (am_dp pw_X10_pileUp_64 dd_X10_pileUp_64b.2.2.2.2.2.2.2) (by decide)).to, ?_⟩
  refine List.forall_mem_cons.mpr ⟨(s_imul (am_dp pw_X10_pileUp_64 dd_X10_pileUp_64c.1)).to, ?_⟩
  refine List.forall_mem_cons.mpr ⟨(s_iload (am_dp pw_X10_pileUp_64 dd_X10_pileUp_64c.2)).to, ?_⟩
  refine List.forall_mem_cons.mpr ⟨(s_iadd (am_dp pw_X10_pileUp_96 dd_X10_pileUp_96a.1)).to, ?_⟩
  refine List.forall_mem_cons.mpr ⟨(s_istore (am_dp pw_X10_pileUp_96 dd_X10_pileUp_96a.2.1) (by decide)).to, ?_⟩
  refine List.forall_mem_cons.mpr ⟨(s_aloadn (am_dp pw_X10_pileUp_96 dd_X10_pileUp_96a.2.2.1) rfl).to, ?_⟩
  refine List.forall_mem_cons.mpr ⟨(s_get (ci := 10) (k := 12) (am_dp pw_X10_pileUp_96 dd_X10_pileUp_96a.2.2.2.1) rfl (by decide) wd591 inX10 rfl).to, ?_⟩
  refine List.forall_mem_cons.mpr ⟨(s_iload (am_dp pw_X10_pileUp_96 dd_X10_pileUp_96a.2.2.2.2.1)).to, ?_⟩
  refine List.forall_mem_cons.mpr ⟨(s_dup2 (am_dp pw_X10_pileUp_96 dd_X10_pileUp_96a.2.2.2.2.2.1)).to, ?_⟩
  refine List.forall_mem_cons.mpr ⟨(s_lald (am_dp pw_X10_pileUp_96 dd_X10_pileUp_96a.2.2.2.2.2.2.1)).to, ?_⟩
  refine List.forall_mem_cons.mpr ⟨(s_aloadn (am_dp pw_X10_pileUp_96 dd_X10_pileUp_96a.2.2.2.2.2.2.2) rfl).to, ?_⟩
  exact fun _ h => absurd h List.not_mem_nil
theorem sn_tX10_pileUp_1 : ∀ q ∈ tX10_pileUp_1, am_Snd am_P0 RX10 cX10_pileUp 7 (Option.some FieldType.int) "pileUp" q.1 q.2 := by
  unfold tX10_pileUp_1
  refine List.forall_mem_cons.mpr ⟨(s_get (ci := 10) (k := 12) (am_dp pw_X10_pileUp_96 dd_X10_pileUp_96b.1) rfl (by decide) wd591 inX10 rfl).to, ?_⟩
  refine List.forall_mem_cons.mpr ⟨(s_iload (am_dp pw_X10_pileUp_96 dd_X10_pileUp_96b.2.1)).to, ?_⟩
  refine List.forall_mem_cons.mpr ⟨(s_iconst (am_dp pw_X10_pileUp_96 dd_X10_pileUp_96b.2.2.1) (by decide)).to, ?_⟩
  refine List.forall_mem_cons.mpr ⟨(s_isub (am_dp pw_X10_pileUp_96 dd_X10_pileUp_96b.2.2.2.1)).to, ?_⟩
  refine List.forall_mem_cons.mpr ⟨(s_lald (am_dp pw_X10_pileUp_96 dd_X10_pileUp_96b.2.2.2.2.1)).to, ?_⟩
  refine List.forall_mem_cons.mpr ⟨(s_aloadn (am_dp pw_X10_pileUp_96 dd_X10_pileUp_96b.2.2.2.2.2.1) rfl).to, ?_⟩
  refine List.forall_mem_cons.mpr ⟨(s_get (ci := 10) (k := 7) (am_dp pw_X10_pileUp_96 dd_X10_pileUp_96b.2.2.2.2.2.2.1) rfl (by decide) wd586 inX10 rfl).to, ?_⟩
  refine List.forall_mem_cons.mpr ⟨(s_iloadn (am_dp pw_X10_pileUp_96 dd_X10_pileUp_96b.2.2.2.2.2.2.2) rfl).to, ?_⟩
  refine List.forall_mem_cons.mpr ⟨(s_aald (am_dp pw_X10_pileUp_96 dd_X10_pileUp_96c.1)).to, ?_⟩
  refine List.forall_mem_cons.mpr ⟨(s_get (ci := 8) (k := 12) (am_dp pw_X10_pileUp_96 dd_X10_pileUp_96c.2.1) rfl (by decide) wd537 inX8 rfl).to, ?_⟩
  refine List.forall_mem_cons.mpr ⟨(s_iloadn (am_dp pw_X10_pileUp_96 dd_X10_pileUp_96c.2.2.1) rfl).to, ?_⟩
  refine List.forall_mem_cons.mpr ⟨(s_iconst (am_dp pw_X10_pileUp_96 dd_X10_pileUp_96c.2.2.2) (by decide)).to, ?_⟩
  refine List.forall_mem_cons.mpr ⟨(s_imul (am_dp pw_X10_pileUp_128 dd_X10_pileUp_128a.1)).to, ?_⟩
  refine List.forall_mem_cons.mpr ⟨(s_iload (am_dp pw_X10_pileUp_128 dd_X10_pileUp_128a.2.1)).to, ?_⟩
  refine List.forall_mem_cons.mpr ⟨(s_iadd (am_dp pw_X10_pileUp_128 dd_X10_pileUp_128a.2.2.1)).to, ?_⟩
  refine List.forall_mem_cons.mpr ⟨(s_lald (am_dp pw_X10_pileUp_128 dd_X10_pileUp_128a.2.2.2.1)).to, ?_⟩
  refine List.forall_mem_cons.mpr ⟨(s_land (am_dp pw_X10_pileUp_128 dd_X10_pileUp_128a.2.2.2.2.1)).to, ?_⟩
  refine List.forall_mem_cons.mpr ⟨(s_lor (am_dp pw_X10_pileUp_128 dd_X10_pileUp_128a.2.2.2.2.2.1)).to, ?_⟩
  refine List.forall_mem_cons.mpr ⟨(s_last (am_dp pw_X10_pileUp_128 dd_X10_pileUp_128a.2.2.2.2.2.2.1)).to, ?_⟩
  refine List.forall_mem_cons.mpr ⟨(s_aloadn (am_dp pw_X10_pileUp_128 dd_X10_pileUp_128a.2.2.2.2.2.2.2) rfl).to, ?_⟩
  refine List.forall_mem_cons.mpr ⟨(s_get (ci := 10) (k := 12) (am_dp pw_X10_pileUp_128 dd_X10_pileUp_128b.1) rfl (by decide) wd591 inX10 rfl).to, ?_⟩
  refine List.forall_mem_cons.mpr ⟨(s_iload (am_dp pw_X10_pileUp_128 dd_X10_pileUp_128b.2.1)).to, ?_⟩
  refine List.forall_mem_cons.mpr ⟨(s_lald (am_dp pw_X10_pileUp_128 dd_X10_pileUp_128b.2.2.1)).to, ?_⟩
  refine List.forall_mem_cons.mpr ⟨(s_lconst (am_dp pw_X10_pileUp_128 dd_X10_pileUp_128b.2.2.2.1) (by decide)).to, ?_⟩
  refine List.forall_mem_cons.mpr ⟨(s_lcmp (am_dp pw_X10_pileUp_128 dd_X10_pileUp_128b.2.2.2.2.1)).to, ?_⟩
  refine List.forall_mem_cons.mpr ⟨(s_if_eq (am_dp pw_X10_pileUp_128 dd_X10_pileUp_128b.2.2.2.2.2.1) (by decide)).to, ?_⟩
  refine List.forall_mem_cons.mpr ⟨(s_iloadn (am_dp pw_X10_pileUp_128 dd_X10_pileUp_128b.2.2.2.2.2.2.1) rfl).to, ?_⟩
  refine List.forall_mem_cons.mpr ⟨(s_iload (am_dp pw_X10_pileUp_128 dd_X10_pileUp_128b.2.2.2.2.2.2.2)).to, ?_⟩
  refine List.forall_mem_cons.mpr ⟨zw_cs307 (am_dp pw_X10_pileUp_128 dd_X10_pileUp_128c.1) wd1250, ?_⟩
  refine List.forall_mem_cons.mpr ⟨(s_istoren (am_dp pw_X10_pileUp_128 dd_X10_pileUp_128c.2.1) rfl (by decide)).to, ?_⟩
  refine List.forall_mem_cons.mpr ⟨(s_iinc (am_dp pw_X10_pileUp_128 dd_X10_pileUp_128c.2.2.1) (by decide) (by decide)).to, ?_⟩
  refine List.forall_mem_cons.mpr ⟨(s_goto (am_dp pw_X10_pileUp_128 dd_X10_pileUp_128c.2.2.2) (by decide)).to, ?_⟩
  refine List.forall_mem_cons.mpr ⟨(s_iinc (am_dp pw_X10_pileUp_160 dd_X10_pileUp_160a.1) (by decide) (by decide)).to, ?_⟩
  refine List.forall_mem_cons.mpr ⟨(s_goto (am_dp pw_X10_pileUp_160 dd_X10_pileUp_160a.2.1) (by decide)).to, ?_⟩
  refine List.forall_mem_cons.mpr ⟨(s_iinc (am_dp pw_X10_pileUp_160 dd_X10_pileUp_160a.2.2.1) (by decide) (by decide)).to, ?_⟩
  refine List.forall_mem_cons.mpr ⟨(s_goto (am_dp pw_X10_pileUp_160 dd_X10_pileUp_160a.2.2.2.1) (by decide)).to, ?_⟩
  refine List.forall_mem_cons.mpr ⟨(s_iloadn (am_dp pw_X10_pileUp_160 dd_X10_pileUp_160a.2.2.2.2.1) rfl).to, ?_⟩
  refine List.forall_mem_cons.mpr ⟨s_iret (am_dp pw_X10_pileUp_160 dd_X10_pileUp_160a.2.2.2.2.2) rfl, ?_⟩
  exact fun _ h => absurd h List.not_mem_nil
theorem sn_tX10_pileUp : ∀ q ∈ tX10_pileUp, am_Snd am_P0 RX10 cX10_pileUp 7 (Option.some FieldType.int) "pileUp" q.1 q.2 := by
  unfold tX10_pileUp
  exact List.forall_mem_append.mpr ⟨sn_tX10_pileUp_0, sn_tX10_pileUp_1⟩
theorem sn_tX10_write : ∀ q ∈ tX10_write, am_Snd am_P0 RX10 cX10_write 2 (Option.none : Option FieldType) "write" q.1 q.2 := by
  unfold tX10_write
  refine List.forall_mem_cons.mpr ⟨(s_aloadn (am_dp pw_X10_write_0 dd_X10_write_0a.1) rfl).to, ?_⟩
  refine List.forall_mem_cons.mpr ⟨(s_get (ci := 10) (k := 10) (am_dp pw_X10_write_0 dd_X10_write_0a.2.1) rfl (by decide) wd589 inX10 rfl).to, ?_⟩
  refine List.forall_mem_cons.mpr ⟨(s_sipush (am_dp pw_X10_write_0 dd_X10_write_0a.2.2.1) (by decide)).to, ?_⟩
  refine List.forall_mem_cons.mpr ⟨(s_icmp_ge (am_dp pw_X10_write_0 dd_X10_write_0a.2.2.2.1) (by decide)).to, ?_⟩
  refine List.forall_mem_cons.mpr ⟨(s_aloadn (am_dp pw_X10_write_0 dd_X10_write_0a.2.2.2.2.1) rfl).to, ?_⟩
  refine List.forall_mem_cons.mpr ⟨(s_get (ci := 10) (k := 9) (am_dp pw_X10_write_0 dd_X10_write_0a.2.2.2.2.2.1) rfl (by decide) wd588 inX10 rfl).to, ?_⟩
  refine List.forall_mem_cons.mpr ⟨(s_aloadn (am_dp pw_X10_write_0 dd_X10_write_0a.2.2.2.2.2.2.1) rfl).to, ?_⟩
  refine List.forall_mem_cons.mpr ⟨(s_get (ci := 10) (k := 10) (am_dp pw_X10_write_0 dd_X10_write_0a.2.2.2.2.2.2.2) rfl (by decide) wd589 inX10 rfl).to, ?_⟩
  refine List.forall_mem_cons.mpr ⟨(s_iloadn (am_dp pw_X10_write_0 dd_X10_write_0b.1) rfl).to, ?_⟩
  refine List.forall_mem_cons.mpr ⟨(s_iast (am_dp pw_X10_write_0 dd_X10_write_0b.2.1)).to, ?_⟩
  refine List.forall_mem_cons.mpr ⟨(s_aloadn (am_dp pw_X10_write_0 dd_X10_write_0b.2.2.1) rfl).to, ?_⟩
  refine List.forall_mem_cons.mpr ⟨(s_dup (am_dp pw_X10_write_0 dd_X10_write_0b.2.2.2.1)).to, ?_⟩
  refine List.forall_mem_cons.mpr ⟨(s_get (ci := 10) (k := 10) (am_dp pw_X10_write_0 dd_X10_write_0b.2.2.2.2.1) rfl (by decide) wd589 inX10 rfl).to, ?_⟩
  refine List.forall_mem_cons.mpr ⟨(s_iconst (am_dp pw_X10_write_0 dd_X10_write_0b.2.2.2.2.2.1) (by decide)).to, ?_⟩
  refine List.forall_mem_cons.mpr ⟨(s_iadd (am_dp pw_X10_write_0 dd_X10_write_0b.2.2.2.2.2.2.1)).to, ?_⟩
  refine List.forall_mem_cons.mpr ⟨(s_put (ci := 10) (k := 10) (am_dp pw_X10_write_0 dd_X10_write_0b.2.2.2.2.2.2.2) rfl (by decide) wd589 inX10 tyX10_ok nmX10 rfl rfl).to, ?_⟩
  refine List.forall_mem_cons.mpr ⟨s_vret (am_dp pw_X10_write_0 dd_X10_write_0c) rfl, ?_⟩
  exact fun _ h => absurd h List.not_mem_nil
theorem sn_tX10_checkOf : ∀ q ∈ tX10_checkOf, am_Snd am_P0 RX10 cX10_checkOf 4 (Option.some FieldType.int) "checkOf" q.1 q.2 := by
  unfold tX10_checkOf
  refine List.forall_mem_cons.mpr ⟨(s_bipush (am_dp pw_X10_checkOf_0 dd_X10_checkOf_0a.1) (by decide)).to, ?_⟩
  refine List.forall_mem_cons.mpr ⟨(s_istoren (am_dp pw_X10_checkOf_0 dd_X10_checkOf_0a.2.1) rfl (by decide)).to, ?_⟩
  refine List.forall_mem_cons.mpr ⟨(s_iconst (am_dp pw_X10_checkOf_0 dd_X10_checkOf_0a.2.2.1) (by decide)).to, ?_⟩
  refine List.forall_mem_cons.mpr ⟨(s_istoren (am_dp pw_X10_checkOf_0 dd_X10_checkOf_0a.2.2.2.1) rfl (by decide)).to, ?_⟩
  refine List.forall_mem_cons.mpr ⟨(s_iloadn (am_dp pw_X10_checkOf_0 dd_X10_checkOf_0a.2.2.2.2.1) rfl).to, ?_⟩
  refine List.forall_mem_cons.mpr ⟨(s_iloadn (am_dp pw_X10_checkOf_0 dd_X10_checkOf_0a.2.2.2.2.2.1) rfl).to, ?_⟩
  refine List.forall_mem_cons.mpr ⟨(s_icmp_ge (am_dp pw_X10_checkOf_0 dd_X10_checkOf_0a.2.2.2.2.2.2.1) (by decide)).to, ?_⟩
  refine List.forall_mem_cons.mpr ⟨(s_iconst (am_dp pw_X10_checkOf_0 dd_X10_checkOf_0a.2.2.2.2.2.2.2) (by decide)).to, ?_⟩
  refine List.forall_mem_cons.mpr ⟨(s_iloadn (am_dp pw_X10_checkOf_0 dd_X10_checkOf_0b.1) rfl).to, ?_⟩
  refine List.forall_mem_cons.mpr ⟨(s_imul (am_dp pw_X10_checkOf_0 dd_X10_checkOf_0b.2.1)).to, ?_⟩
  refine List.forall_mem_cons.mpr ⟨(s_aloadn (am_dp pw_X10_checkOf_0 dd_X10_checkOf_0b.2.2.1) rfl).to, ?_⟩
  refine List.forall_mem_cons.mpr ⟨(s_iloadn (am_dp pw_X10_checkOf_0 dd_X10_checkOf_0b.2.2.2.1) rfl).to, ?_⟩
  refine List.forall_mem_cons.mpr ⟨(s_iald (am_dp pw_X10_checkOf_0 dd_X10_checkOf_0b.2.2.2.2.1)).to, ?_⟩
  refine List.forall_mem_cons.mpr ⟨(s_iadd (am_dp pw_X10_checkOf_0 dd_X10_checkOf_0b.2.2.2.2.2.1)).to, ?_⟩
  refine List.forall_mem_cons.mpr ⟨(s_sipush (am_dp pw_X10_checkOf_0 dd_X10_checkOf_0b.2.2.2.2.2.2.1) (by decide)).to, ?_⟩
  refine List.forall_mem_cons.mpr ⟨(s_irem (am_dp pw_X10_checkOf_0 dd_X10_checkOf_0b.2.2.2.2.2.2.2)).to, ?_⟩
  refine List.forall_mem_cons.mpr ⟨(s_istoren (am_dp pw_X10_checkOf_0 dd_X10_checkOf_0c.1) rfl (by decide)).to, ?_⟩
  refine List.forall_mem_cons.mpr ⟨(s_iinc (am_dp pw_X10_checkOf_0 dd_X10_checkOf_0c.2.1) (by decide) (by decide)).to, ?_⟩
  refine List.forall_mem_cons.mpr ⟨(s_goto (am_dp pw_X10_checkOf_0 dd_X10_checkOf_0c.2.2.1) (by decide)).to, ?_⟩
  refine List.forall_mem_cons.mpr ⟨(s_iloadn (am_dp pw_X10_checkOf_0 dd_X10_checkOf_0c.2.2.2.1) rfl).to, ?_⟩
  refine List.forall_mem_cons.mpr ⟨s_iret (am_dp pw_X10_checkOf_0 dd_X10_checkOf_0c.2.2.2.2) rfl, ?_⟩
  exact fun _ h => absurd h List.not_mem_nil
theorem sn_tX10_isImage_0 : ∀ q ∈ tX10_isImage_0, am_Snd am_P0 RX10 cX10_isImage 6 (Option.some FieldType.boolean) "isImage" q.1 q.2 := by
  unfold tX10_isImage_0
  refine List.forall_mem_cons.mpr ⟨(s_iloadn (am_dp pw_X10_isImage_0 dd_X10_isImage_0a.1) rfl).to, ?_⟩
  refine List.forall_mem_cons.mpr ⟨(s_iconst (am_dp pw_X10_isImage_0 dd_X10_isImage_0a.2.1) (by decide)).to, ?_⟩
  refine List.forall_mem_cons.mpr ⟨(s_icmp_lt (am_dp pw_X10_isImage_0 dd_X10_isImage_0a.2.2.1) (by decide)).to, ?_⟩
  refine List.forall_mem_cons.mpr ⟨(s_aloadn (am_dp pw_X10_isImage_0 dd_X10_isImage_0a.2.2.2.1) rfl).to, ?_⟩
  refine List.forall_mem_cons.mpr ⟨(s_get (ci := 10) (k := 0) (am_dp pw_X10_isImage_0 dd_X10_isImage_0a.2.2.2.2.1) rfl (by decide) wd579 inX10 rfl).to, ?_⟩
  refine List.forall_mem_cons.mpr ⟨(s_iconst (am_dp pw_X10_isImage_0 dd_X10_isImage_0a.2.2.2.2.2.1) (by decide)).to, ?_⟩
  refine List.forall_mem_cons.mpr ⟨(s_iald (am_dp pw_X10_isImage_0 dd_X10_isImage_0a.2.2.2.2.2.2.1)).to, ?_⟩
  refine List.forall_mem_cons.mpr ⟨(s_bipush (am_dp pw_X10_isImage_0 dd_X10_isImage_0a.2.2.2.2.2.2.2) (by decide)).to, ?_⟩
  refine List.forall_mem_cons.mpr ⟨(s_icmp_le (am_dp pw_X10_isImage_0 dd_X10_isImage_0b.1) (by decide)).to, ?_⟩
  refine List.forall_mem_cons.mpr ⟨(s_iconst (am_dp pw_X10_isImage_0 dd_X10_isImage_0b.2.1) (by decide)).to, ?_⟩
  refine List.forall_mem_cons.mpr ⟨s_zret (am_dp pw_X10_isImage_0 dd_X10_isImage_0b.2.2.1) rfl, ?_⟩
  refine List.forall_mem_cons.mpr ⟨(s_iconst (am_dp pw_X10_isImage_0 dd_X10_isImage_0b.2.2.2.1) (by decide)).to, ?_⟩
  refine List.forall_mem_cons.mpr ⟨(s_iconst (am_dp pw_X10_isImage_0 dd_X10_isImage_0b.2.2.2.2.1) (by decide)).to, ?_⟩
  refine List.forall_mem_cons.mpr ⟨(s_aloadn (am_dp pw_X10_isImage_0 dd_X10_isImage_0b.2.2.2.2.2.1) rfl).to, ?_⟩
  refine List.forall_mem_cons.mpr ⟨(s_get (ci := 10) (k := 0) (am_dp pw_X10_isImage_0 dd_X10_isImage_0b.2.2.2.2.2.2.1) rfl (by decide) wd579 inX10 rfl).to, ?_⟩
  refine List.forall_mem_cons.mpr ⟨(s_iconst (am_dp pw_X10_isImage_0 dd_X10_isImage_0b.2.2.2.2.2.2.2) (by decide)).to, ?_⟩
  refine List.forall_mem_cons.mpr ⟨(s_iald (am_dp pw_X10_isImage_0 dd_X10_isImage_0c.1)).to, ?_⟩
  refine List.forall_mem_cons.mpr ⟨(s_imul (am_dp pw_X10_isImage_0 dd_X10_isImage_0c.2.1)).to, ?_⟩
  refine List.forall_mem_cons.mpr ⟨(s_iadd (am_dp pw_X10_isImage_0 dd_X10_isImage_0c.2.2.1)).to, ?_⟩
  refine List.forall_mem_cons.mpr ⟨(s_istoren (am_dp pw_X10_isImage_0 dd_X10_isImage_0c.2.2.2.1) rfl (by decide)).to, ?_⟩
  refine List.forall_mem_cons.mpr ⟨(s_iloadn (am_dp pw_X10_isImage_0 dd_X10_isImage_0c.2.2.2.2.1) rfl).to, ?_⟩
  refine List.forall_mem_cons.mpr ⟨(s_iloadn (am_dp pw_X10_isImage_0 dd_X10_isImage_0c.2.2.2.2.2.1) rfl).to, ?_⟩
  refine List.forall_mem_cons.mpr ⟨(s_icmp_ge (am_dp pw_X10_isImage_0 dd_X10_isImage_0c.2.2.2.2.2.2) (by decide)).to, ?_⟩
  refine List.forall_mem_cons.mpr ⟨(s_aloadn (am_dp pw_X10_isImage_32 dd_X10_isImage_32a.1) rfl).to, ?_⟩
  refine List.forall_mem_cons.mpr ⟨(s_get (ci := 10) (k := 0) (am_dp pw_X10_isImage_32 dd_X10_isImage_32a.2.1) rfl (by decide) wd579 inX10 rfl).to, ?_⟩
  refine List.forall_mem_cons.mpr ⟨(s_iloadn (am_dp pw_X10_isImage_32 dd_X10_isImage_32a.2.2.1) rfl).to, ?_⟩
  refine List.forall_mem_cons.mpr ⟨(s_iald (am_dp pw_X10_isImage_32 dd_X10_isImage_32a.2.2.2.1)).to, ?_⟩
  refine List.forall_mem_cons.mpr ⟨(s_bipush (am_dp pw_X10_isImage_32 dd_X10_isImage_32a.2.2.2.2.1) (by decide)).to, ?_⟩
  refine List.forall_mem_cons.mpr ⟨(s_icmp_gt (am_dp pw_X10_isImage_32 dd_X10_isImage_32a.2.2.2.2.2.1) (by decide)).to, ?_⟩
  refine List.forall_mem_cons.mpr ⟨(s_iloadn (am_dp pw_X10_isImage_32 dd_X10_isImage_32a.2.2.2.2.2.2.1) rfl).to, ?_⟩
  refine List.forall_mem_cons.mpr ⟨(s_iloadn (am_dp pw_X10_isImage_32 dd_X10_isImage_32a.2.2.2.2.2.2.2) rfl).to, ?_⟩
  refine List.forall_mem_cons.mpr ⟨(s_iconst (am_dp pw_X10_isImage_32 dd_X10_isImage_32b.1) (by decide)).to, ?_⟩
  refine List.forall_mem_cons.mpr ⟨(s_iadd (am_dp pw_X10_isImage_32 dd_X10_isImage_32b.2.1)).to, ?_⟩
  refine List.forall_mem_cons.mpr ⟨(s_iconst (am_dp pw_X10_isImage_32 dd_X10_isImage_32b.2.2.1) (by decide)).to, ?_⟩
  refine List.forall_mem_cons.mpr ⟨(s_aloadn (am_dp pw_X10_isImage_32 dd_X10_isImage_32b.2.2.2.1) rfl).to, ?_⟩
  refine List.forall_mem_cons.mpr ⟨(s_get (ci := 10) (k := 0) (am_dp pw_X10_isImage_32 dd_X10_isImage_32b.2.2.2.2.1) rfl (by decide) wd579 inX10 rfl).to, ?_⟩
  refine List.forall_mem_cons.mpr ⟨(s_iloadn (am_dp pw_X10_isImage_32 dd_X10_isImage_32b.2.2.2.2.2.1) rfl).to, ?_⟩
  refine List.forall_mem_cons.mpr ⟨(s_iald (am_dp pw_X10_isImage_32 dd_X10_isImage_32b.2.2.2.2.2.2.1)).to, ?_⟩
  refine List.forall_mem_cons.mpr ⟨(s_imul (am_dp pw_X10_isImage_32 dd_X10_isImage_32b.2.2.2.2.2.2.2)).to, ?_⟩
  refine List.forall_mem_cons.mpr ⟨(s_iadd (am_dp pw_X10_isImage_32 dd_X10_isImage_32c.1)).to, ?_⟩
  refine List.forall_mem_cons.mpr ⟨(s_iconst (am_dp pw_X10_isImage_32 dd_X10_isImage_32c.2.1) (by decide)).to, ?_⟩
  refine List.forall_mem_cons.mpr ⟨(s_iadd (am_dp pw_X10_isImage_32 dd_X10_isImage_32c.2.2.1)).to, ?_⟩
  refine List.forall_mem_cons.mpr ⟨(s_icmp_ne (am_dp pw_X10_isImage_32 dd_X10_isImage_32c.2.2.2.1) (by decide)).to, ?_⟩
  refine List.forall_mem_cons.mpr ⟨(s_aloadn (am_dp pw_X10_isImage_32 dd_X10_isImage_32c.2.2.2.2) rfl).to, ?_⟩
  refine List.forall_mem_cons.mpr ⟨(s_get (ci := 10) (k := 0) (am_dp pw_X10_isImage_64 dd_X10_isImage_64a.1) rfl (by decide) wd579 inX10 rfl).to, ?_⟩
  refine List.forall_mem_cons.mpr ⟨(s_iloadn (am_dp pw_X10_isImage_64 dd_X10_isImage_64a.2.1) rfl).to, ?_⟩
  refine List.forall_mem_cons.mpr ⟨(s_iconst (am_dp pw_X10_isImage_64 dd_X10_isImage_64a.2.2.1) (by decide)).to, ?_⟩
  refine List.forall_mem_cons.mpr ⟨(s_isub (am_dp pw_X10_isImage_64 dd_X10_isImage_64a.2.2.2.1)).to, ?_⟩
  refine List.forall_mem_cons.mpr ⟨(s_iald (am_dp pw_X10_isImage_64 dd_X10_isImage_64a.2.2.2.2.1)).to, ?_⟩
  refine List.forall_mem_cons.mpr ⟨(s_aloadn (am_dp pw_X10_isImage_64 dd_X10_isImage_64a.2.2.2.2.2.1) rfl).to, ?_⟩
  refine List.forall_mem_cons.mpr ⟨(s_get (ci := 10) (k := 0) (am_dp pw_X10_isImage_64 dd_X10_isImage_64a.2.2.2.2.2.2.1) rfl (by decide) wd579 inX10 rfl).to, ?_⟩
  refine List.forall_mem_cons.mpr ⟨(s_iloadn (am_dp pw_X10_isImage_64 dd_X10_isImage_64a.2.2.2.2.2.2.2) rfl).to, ?_⟩
  refine List.forall_mem_cons.mpr ⟨(s_iconst (am_dp pw_X10_isImage_64 dd_X10_isImage_64b.1) (by decide)).to, ?_⟩
  refine List.forall_mem_cons.mpr ⟨(s_isub (am_dp pw_X10_isImage_64 dd_X10_isImage_64b.2.1)).to, ?_⟩
  refine List.forall_mem_cons.mpr ⟨zw_cs163 (am_dp pw_X10_isImage_64 dd_X10_isImage_64b.2.2.1) wd1300, ?_⟩
  refine List.forall_mem_cons.mpr ⟨(s_icmp_eq (am_dp pw_X10_isImage_64 dd_X10_isImage_64b.2.2.2.1) (by decide)).to, ?_⟩
  refine List.forall_mem_cons.mpr ⟨(s_iconst (am_dp pw_X10_isImage_64 dd_X10_isImage_64b.2.2.2.2.1) (by decide)).to, ?_⟩
  refine List.forall_mem_cons.mpr ⟨s_zret (am_dp pw_X10_isImage_64 dd_X10_isImage_64b.2.2.2.2.2.1) rfl, ?_⟩
  refine List.forall_mem_cons.mpr ⟨(s_iconst (am_dp pw_X10_isImage_64 dd_X10_isImage_64b.2.2.2.2.2.2.1) (by decide)).to, ?_⟩
  refine List.forall_mem_cons.mpr ⟨(s_istoren (am_dp pw_X10_isImage_64 dd_X10_isImage_64b.2.2.2.2.2.2.2) rfl (by decide)).to, ?_⟩
  exact fun _ h => absurd h List.not_mem_nil
theorem sn_tX10_isImage_1 : ∀ q ∈ tX10_isImage_1, am_Snd am_P0 RX10 cX10_isImage 6 (Option.some FieldType.boolean) "isImage" q.1 q.2 := by
  unfold tX10_isImage_1
  refine List.forall_mem_cons.mpr ⟨(s_iconst (am_dp pw_X10_isImage_64 dd_X10_isImage_64c.1) (by decide)).to, ?_⟩
  refine List.forall_mem_cons.mpr ⟨(s_istore (am_dp pw_X10_isImage_64 dd_X10_isImage_64c.2.1) (by decide)).to, ?_⟩
  refine List.forall_mem_cons.mpr ⟨(s_iload (am_dp pw_X10_isImage_64 dd_X10_isImage_64c.2.2.1)).to, ?_⟩
  refine List.forall_mem_cons.mpr ⟨(s_iloadn (am_dp pw_X10_isImage_64 dd_X10_isImage_64c.2.2.2.1) rfl).to, ?_⟩
  refine List.forall_mem_cons.mpr ⟨(s_icmp_ge (am_dp pw_X10_isImage_64 dd_X10_isImage_64c.2.2.2.2) (by decide)).to, ?_⟩
  refine List.forall_mem_cons.mpr ⟨(s_aloadn (am_dp pw_X10_isImage_96 dd_X10_isImage_96a.1) rfl).to, ?_⟩
  refine List.forall_mem_cons.mpr ⟨(s_get (ci := 10) (k := 0) (am_dp pw_X10_isImage_96 dd_X10_isImage_96a.2.1) rfl (by decide) wd579 inX10 rfl).to, ?_⟩
  refine List.forall_mem_cons.mpr ⟨(s_iload (am_dp pw_X10_isImage_96 dd_X10_isImage_96a.2.2.1)).to, ?_⟩
  refine List.forall_mem_cons.mpr ⟨(s_iald (am_dp pw_X10_isImage_96 dd_X10_isImage_96a.2.2.2.1)).to, ?_⟩
  refine List.forall_mem_cons.mpr ⟨(s_bipush (am_dp pw_X10_isImage_96 dd_X10_isImage_96a.2.2.2.2.1) (by decide)).to, ?_⟩
  refine List.forall_mem_cons.mpr ⟨(s_imul (am_dp pw_X10_isImage_96 dd_X10_isImage_96a.2.2.2.2.2.1)).to, ?_⟩
  refine List.forall_mem_cons.mpr ⟨(s_aloadn (am_dp pw_X10_isImage_96 dd_X10_isImage_96a.2.2.2.2.2.2.1) rfl).to, ?_⟩
  refine List.forall_mem_cons.mpr ⟨(s_get (ci := 10) (k := 0) (am_dp pw_X10_isImage_96 dd_X10_isImage_96a.2.2.2.2.2.2.2) rfl (by decide) wd579 inX10 rfl).to, ?_⟩
  refine List.forall_mem_cons.mpr ⟨(s_iload (am_dp pw_X10_isImage_96 dd_X10_isImage_96b.1)).to, ?_⟩
  refine List.forall_mem_cons.mpr ⟨(s_iconst (am_dp pw_X10_isImage_96 dd_X10_isImage_96b.2.1) (by decide)).to, ?_⟩
  refine List.forall_mem_cons.mpr ⟨(s_iadd (am_dp pw_X10_isImage_96 dd_X10_isImage_96b.2.2.1)).to, ?_⟩
  refine List.forall_mem_cons.mpr ⟨(s_iald (am_dp pw_X10_isImage_96 dd_X10_isImage_96b.2.2.2.1)).to, ?_⟩
  refine List.forall_mem_cons.mpr ⟨(s_iadd (am_dp pw_X10_isImage_96 dd_X10_isImage_96b.2.2.2.2.1)).to, ?_⟩
  refine List.forall_mem_cons.mpr ⟨(s_istore (am_dp pw_X10_isImage_96 dd_X10_isImage_96b.2.2.2.2.2.1) (by decide)).to, ?_⟩
  refine List.forall_mem_cons.mpr ⟨(s_aloadn (am_dp pw_X10_isImage_96 dd_X10_isImage_96b.2.2.2.2.2.2.1) rfl).to, ?_⟩
  refine List.forall_mem_cons.mpr ⟨(s_aloadn (am_dp pw_X10_isImage_96 dd_X10_isImage_96b.2.2.2.2.2.2.2) rfl).to, ?_⟩
  refine List.forall_mem_cons.mpr ⟨(s_get (ci := 10) (k := 0) (am_dp pw_X10_isImage_96 dd_X10_isImage_96c.1) rfl (by decide) wd579 inX10 rfl).to, ?_⟩
  refine List.forall_mem_cons.mpr ⟨(s_iload (am_dp pw_X10_isImage_96 dd_X10_isImage_96c.2.1)).to, ?_⟩
  refine List.forall_mem_cons.mpr ⟨(s_iald (am_dp pw_X10_isImage_96 dd_X10_isImage_96c.2.2.1)).to, ?_⟩
  refine List.forall_mem_cons.mpr ⟨zw_cv150 (am_dp pw_X10_isImage_96 dd_X10_isImage_96c.2.2.2) wd921, ?_⟩
  refine List.forall_mem_cons.mpr ⟨(s_if_eq (am_dp pw_X10_isImage_128 dd_X10_isImage_128a.1) (by decide)).to, ?_⟩
  refine List.forall_mem_cons.mpr ⟨(s_aloadn (am_dp pw_X10_isImage_128 dd_X10_isImage_128a.2.1) rfl).to, ?_⟩
  refine List.forall_mem_cons.mpr ⟨(s_get (ci := 10) (k := 0) (am_dp pw_X10_isImage_128 dd_X10_isImage_128a.2.2.1) rfl (by decide) wd579 inX10 rfl).to, ?_⟩
  refine List.forall_mem_cons.mpr ⟨(s_iload (am_dp pw_X10_isImage_128 dd_X10_isImage_128a.2.2.2.1)).to, ?_⟩
  refine List.forall_mem_cons.mpr ⟨(s_iconst (am_dp pw_X10_isImage_128 dd_X10_isImage_128a.2.2.2.2.1) (by decide)).to, ?_⟩
  refine List.forall_mem_cons.mpr ⟨(s_iadd (am_dp pw_X10_isImage_128 dd_X10_isImage_128a.2.2.2.2.2.1)).to, ?_⟩
  refine List.forall_mem_cons.mpr ⟨(s_iald (am_dp pw_X10_isImage_128 dd_X10_isImage_128a.2.2.2.2.2.2.1)).to, ?_⟩
  refine List.forall_mem_cons.mpr ⟨zw_cs149 (am_dp pw_X10_isImage_128 dd_X10_isImage_128a.2.2.2.2.2.2.2) wd1028, ?_⟩
  refine List.forall_mem_cons.mpr ⟨(s_if_eq (am_dp pw_X10_isImage_128 dd_X10_isImage_128b.1) (by decide)).to, ?_⟩
  refine List.forall_mem_cons.mpr ⟨(s_aloadn (am_dp pw_X10_isImage_128 dd_X10_isImage_128b.2.1) rfl).to, ?_⟩
  refine List.forall_mem_cons.mpr ⟨(s_get (ci := 10) (k := 2) (am_dp pw_X10_isImage_128 dd_X10_isImage_128b.2.2.1) rfl (by decide) wd581 inX10 rfl).to, ?_⟩
  refine List.forall_mem_cons.mpr ⟨(s_aloadn (am_dp pw_X10_isImage_128 dd_X10_isImage_128b.2.2.2.1) rfl).to, ?_⟩
  refine List.forall_mem_cons.mpr ⟨(s_get (ci := 10) (k := 0) (am_dp pw_X10_isImage_128 dd_X10_isImage_128b.2.2.2.2.1) rfl (by decide) wd579 inX10 rfl).to, ?_⟩
  refine List.forall_mem_cons.mpr ⟨(s_iload (am_dp pw_X10_isImage_128 dd_X10_isImage_128b.2.2.2.2.2.1)).to, ?_⟩
  refine List.forall_mem_cons.mpr ⟨(s_iconst (am_dp pw_X10_isImage_128 dd_X10_isImage_128b.2.2.2.2.2.2.1) (by decide)).to, ?_⟩
  refine List.forall_mem_cons.mpr ⟨(s_iadd (am_dp pw_X10_isImage_128 dd_X10_isImage_128b.2.2.2.2.2.2.2)).to, ?_⟩
  refine List.forall_mem_cons.mpr ⟨(s_iald (am_dp pw_X10_isImage_160 dd_X10_isImage_160a.1)).to, ?_⟩
  refine List.forall_mem_cons.mpr ⟨zw_cv57 (am_dp pw_X10_isImage_160 dd_X10_isImage_160a.2.1) wd1315, ?_⟩
  refine List.forall_mem_cons.mpr ⟨(s_iconst (am_dp pw_X10_isImage_160 dd_X10_isImage_160a.2.2.1) (by decide)).to, ?_⟩
  refine List.forall_mem_cons.mpr ⟨(s_icmp_eq (am_dp pw_X10_isImage_160 dd_X10_isImage_160a.2.2.2.1) (by decide)).to, ?_⟩
  refine List.forall_mem_cons.mpr ⟨(s_aloadn (am_dp pw_X10_isImage_160 dd_X10_isImage_160a.2.2.2.2.1) rfl).to, ?_⟩
  refine List.forall_mem_cons.mpr ⟨(s_get (ci := 10) (k := 0) (am_dp pw_X10_isImage_160 dd_X10_isImage_160a.2.2.2.2.2.1) rfl (by decide) wd579 inX10 rfl).to, ?_⟩
  refine List.forall_mem_cons.mpr ⟨(s_iload (am_dp pw_X10_isImage_160 dd_X10_isImage_160a.2.2.2.2.2.2.1)).to, ?_⟩
  refine List.forall_mem_cons.mpr ⟨(s_iconst (am_dp pw_X10_isImage_160 dd_X10_isImage_160a.2.2.2.2.2.2.2) (by decide)).to, ?_⟩
  refine List.forall_mem_cons.mpr ⟨(s_iadd (am_dp pw_X10_isImage_160 dd_X10_isImage_160b.1)).to, ?_⟩
  refine List.forall_mem_cons.mpr ⟨(s_iald (am_dp pw_X10_isImage_160 dd_X10_isImage_160b.2.1)).to, ?_⟩
  refine List.forall_mem_cons.mpr ⟨(s_iconst (am_dp pw_X10_isImage_160 dd_X10_isImage_160b.2.2.1) (by decide)).to, ?_⟩
  refine List.forall_mem_cons.mpr ⟨(s_icmp_gt (am_dp pw_X10_isImage_160 dd_X10_isImage_160b.2.2.2.1) (by decide)).to, ?_⟩
  refine List.forall_mem_cons.mpr ⟨(s_iload (am_dp pw_X10_isImage_160 dd_X10_isImage_160b.2.2.2.2.1)).to, ?_⟩
  refine List.forall_mem_cons.mpr ⟨(s_iloadn (am_dp pw_X10_isImage_160 dd_X10_isImage_160b.2.2.2.2.2.1) rfl).to, ?_⟩
  refine List.forall_mem_cons.mpr ⟨(s_icmp_gt (am_dp pw_X10_isImage_160 dd_X10_isImage_160b.2.2.2.2.2.2.1) (by decide)).to, ?_⟩
  refine List.forall_mem_cons.mpr ⟨(s_iconst (am_dp pw_X10_isImage_160 dd_X10_isImage_160b.2.2.2.2.2.2.2) (by decide)).to, ?_⟩
  refine List.forall_mem_cons.mpr ⟨s_zret (am_dp pw_X10_isImage_160 dd_X10_isImage_160c.1) rfl, ?_⟩
  refine List.forall_mem_cons.mpr ⟨(s_iload (am_dp pw_X10_isImage_160 dd_X10_isImage_160c.2.1)).to, ?_⟩
  refine List.forall_mem_cons.mpr ⟨(s_istoren (am_dp pw_X10_isImage_160 dd_X10_isImage_160c.2.2) rfl (by decide)).to, ?_⟩
  exact fun _ h => absurd h List.not_mem_nil
theorem sn_tX10_isImage_2 : ∀ q ∈ tX10_isImage_2, am_Snd am_P0 RX10 cX10_isImage 6 (Option.some FieldType.boolean) "isImage" q.1 q.2 := by
  unfold tX10_isImage_2
  refine List.forall_mem_cons.mpr ⟨(s_iinc (am_dp pw_X10_isImage_192 dd_X10_isImage_192a.1) (by decide) (by decide)).to, ?_⟩
  refine List.forall_mem_cons.mpr ⟨(s_goto (am_dp pw_X10_isImage_192 dd_X10_isImage_192a.2.1) (by decide)).to, ?_⟩
  refine List.forall_mem_cons.mpr ⟨(s_iloadn (am_dp pw_X10_isImage_192 dd_X10_isImage_192a.2.2.1) rfl).to, ?_⟩
  refine List.forall_mem_cons.mpr ⟨(s_iconst (am_dp pw_X10_isImage_192 dd_X10_isImage_192a.2.2.2.1) (by decide)).to, ?_⟩
  refine List.forall_mem_cons.mpr ⟨(s_iadd (am_dp pw_X10_isImage_192 dd_X10_isImage_192a.2.2.2.2.1)).to, ?_⟩
  refine List.forall_mem_cons.mpr ⟨(s_istore (am_dp pw_X10_isImage_192 dd_X10_isImage_192a.2.2.2.2.2.1) (by decide)).to, ?_⟩
  refine List.forall_mem_cons.mpr ⟨(s_iload (am_dp pw_X10_isImage_192 dd_X10_isImage_192a.2.2.2.2.2.2.1)).to, ?_⟩
  refine List.forall_mem_cons.mpr ⟨(s_iloadn (am_dp pw_X10_isImage_192 dd_X10_isImage_192a.2.2.2.2.2.2.2) rfl).to, ?_⟩
  refine List.forall_mem_cons.mpr ⟨(s_iconst (am_dp pw_X10_isImage_192 dd_X10_isImage_192b.1) (by decide)).to, ?_⟩
  refine List.forall_mem_cons.mpr ⟨(s_isub (am_dp pw_X10_isImage_192 dd_X10_isImage_192b.2.1)).to, ?_⟩
  refine List.forall_mem_cons.mpr ⟨(s_icmp_ge (am_dp pw_X10_isImage_192 dd_X10_isImage_192b.2.2.1) (by decide)).to, ?_⟩
  refine List.forall_mem_cons.mpr ⟨(s_aloadn (am_dp pw_X10_isImage_192 dd_X10_isImage_192b.2.2.2.1) rfl).to, ?_⟩
  refine List.forall_mem_cons.mpr ⟨(s_get (ci := 10) (k := 0) (am_dp pw_X10_isImage_192 dd_X10_isImage_192b.2.2.2.2.1) rfl (by decide) wd579 inX10 rfl).to, ?_⟩
  refine List.forall_mem_cons.mpr ⟨(s_iload (am_dp pw_X10_isImage_192 dd_X10_isImage_192b.2.2.2.2.2.1)).to, ?_⟩
  refine List.forall_mem_cons.mpr ⟨(s_iald (am_dp pw_X10_isImage_192 dd_X10_isImage_192b.2.2.2.2.2.2.1)).to, ?_⟩
  refine List.forall_mem_cons.mpr ⟨(s_iconst (am_dp pw_X10_isImage_192 dd_X10_isImage_192b.2.2.2.2.2.2.2) (by decide)).to, ?_⟩
  refine List.forall_mem_cons.mpr ⟨(s_icmp_ge (am_dp pw_X10_isImage_192 dd_X10_isImage_192c.1) (by decide)).to, ?_⟩
  refine List.forall_mem_cons.mpr ⟨(s_aloadn (am_dp pw_X10_isImage_192 dd_X10_isImage_192c.2.1) rfl).to, ?_⟩
  refine List.forall_mem_cons.mpr ⟨(s_get (ci := 10) (k := 2) (am_dp pw_X10_isImage_192 dd_X10_isImage_192c.2.2) rfl (by decide) wd581 inX10 rfl).to, ?_⟩
  refine List.forall_mem_cons.mpr ⟨(s_aloadn (am_dp pw_X10_isImage_224 dd_X10_isImage_224a.1) rfl).to, ?_⟩
  refine List.forall_mem_cons.mpr ⟨(s_get (ci := 10) (k := 0) (am_dp pw_X10_isImage_224 dd_X10_isImage_224a.2.1) rfl (by decide) wd579 inX10 rfl).to, ?_⟩
  refine List.forall_mem_cons.mpr ⟨(s_iload (am_dp pw_X10_isImage_224 dd_X10_isImage_224a.2.2.1)).to, ?_⟩
  refine List.forall_mem_cons.mpr ⟨(s_iconst (am_dp pw_X10_isImage_224 dd_X10_isImage_224a.2.2.2.1) (by decide)).to, ?_⟩
  refine List.forall_mem_cons.mpr ⟨(s_iadd (am_dp pw_X10_isImage_224 dd_X10_isImage_224a.2.2.2.2.1)).to, ?_⟩
  refine List.forall_mem_cons.mpr ⟨(s_iald (am_dp pw_X10_isImage_224 dd_X10_isImage_224a.2.2.2.2.2.1)).to, ?_⟩
  refine List.forall_mem_cons.mpr ⟨zw_cv57 (am_dp pw_X10_isImage_224 dd_X10_isImage_224a.2.2.2.2.2.2.1) wd1315, ?_⟩
  refine List.forall_mem_cons.mpr ⟨(s_iconst (am_dp pw_X10_isImage_224 dd_X10_isImage_224a.2.2.2.2.2.2.2) (by decide)).to, ?_⟩
  refine List.forall_mem_cons.mpr ⟨(s_icmp_eq (am_dp pw_X10_isImage_224 dd_X10_isImage_224b.1) (by decide)).to, ?_⟩
  refine List.forall_mem_cons.mpr ⟨(s_aloadn (am_dp pw_X10_isImage_224 dd_X10_isImage_224b.2.1) rfl).to, ?_⟩
  refine List.forall_mem_cons.mpr ⟨(s_get (ci := 10) (k := 0) (am_dp pw_X10_isImage_224 dd_X10_isImage_224b.2.2.1) rfl (by decide) wd579 inX10 rfl).to, ?_⟩
  refine List.forall_mem_cons.mpr ⟨(s_iload (am_dp pw_X10_isImage_224 dd_X10_isImage_224b.2.2.2.1)).to, ?_⟩
  refine List.forall_mem_cons.mpr ⟨(s_iconst (am_dp pw_X10_isImage_224 dd_X10_isImage_224b.2.2.2.2.1) (by decide)).to, ?_⟩
  refine List.forall_mem_cons.mpr ⟨(s_iadd (am_dp pw_X10_isImage_224 dd_X10_isImage_224b.2.2.2.2.2.1)).to, ?_⟩
  refine List.forall_mem_cons.mpr ⟨(s_iald (am_dp pw_X10_isImage_224 dd_X10_isImage_224b.2.2.2.2.2.2.1)).to, ?_⟩
  refine List.forall_mem_cons.mpr ⟨zw_cs149 (am_dp pw_X10_isImage_224 dd_X10_isImage_224b.2.2.2.2.2.2.2) wd1028, ?_⟩
  refine List.forall_mem_cons.mpr ⟨(s_if_ne (am_dp pw_X10_isImage_224 dd_X10_isImage_224c) (by decide)).to, ?_⟩
  refine List.forall_mem_cons.mpr ⟨(s_iconst (am_dp pw_X10_isImage_256 dd_X10_isImage_256a.1) (by decide)).to, ?_⟩
  refine List.forall_mem_cons.mpr ⟨s_zret (am_dp pw_X10_isImage_256 dd_X10_isImage_256a.2.1) rfl, ?_⟩
  refine List.forall_mem_cons.mpr ⟨(s_iinc (am_dp pw_X10_isImage_256 dd_X10_isImage_256a.2.2.1) (by decide) (by decide)).to, ?_⟩
  refine List.forall_mem_cons.mpr ⟨(s_goto (am_dp pw_X10_isImage_256 dd_X10_isImage_256a.2.2.2.1) (by decide)).to, ?_⟩
  refine List.forall_mem_cons.mpr ⟨(s_iconst (am_dp pw_X10_isImage_256 dd_X10_isImage_256a.2.2.2.2.1) (by decide)).to, ?_⟩
  refine List.forall_mem_cons.mpr ⟨s_zret (am_dp pw_X10_isImage_256 dd_X10_isImage_256a.2.2.2.2.2) rfl, ?_⟩
  exact fun _ h => absurd h List.not_mem_nil
theorem sn_tX10_isImage : ∀ q ∈ tX10_isImage, am_Snd am_P0 RX10 cX10_isImage 6 (Option.some FieldType.boolean) "isImage" q.1 q.2 := by
  unfold tX10_isImage
  exact List.forall_mem_append.mpr ⟨List.forall_mem_append.mpr ⟨sn_tX10_isImage_0, sn_tX10_isImage_1⟩, sn_tX10_isImage_2⟩
theorem sn_tX10_takeImage_0 : ∀ q ∈ tX10_takeImage_0, am_Snd am_P0 RX10 cX10_takeImage 4 (Option.none : Option FieldType) "takeImage" q.1 q.2 := by
  unfold tX10_takeImage_0
  refine List.forall_mem_cons.mpr ⟨(s_iconst (am_dp pw_X10_takeImage_0 dd_X10_takeImage_0a.1) (by decide)).to, ?_⟩
  refine List.forall_mem_cons.mpr ⟨(s_istoren (am_dp pw_X10_takeImage_0 dd_X10_takeImage_0a.2.1) rfl (by decide)).to, ?_⟩
  refine List.forall_mem_cons.mpr ⟨(s_iloadn (am_dp pw_X10_takeImage_0 dd_X10_takeImage_0a.2.2.1) rfl).to, ?_⟩
  refine List.forall_mem_cons.mpr ⟨(s_aloadn (am_dp pw_X10_takeImage_0 dd_X10_takeImage_0a.2.2.2.1) rfl).to, ?_⟩
  refine List.forall_mem_cons.mpr ⟨(s_get (ci := 10) (k := 2) (am_dp pw_X10_takeImage_0 dd_X10_takeImage_0a.2.2.2.2.1) rfl (by decide) wd581 inX10 rfl).to, ?_⟩
  refine List.forall_mem_cons.mpr ⟨(s_get (ci := 5) (k := 3) (am_dp pw_X10_takeImage_0 dd_X10_takeImage_0a.2.2.2.2.2.1) rfl (by decide) wd315 inX5 rfl).to, ?_⟩
  refine List.forall_mem_cons.mpr ⟨(s_icmp_ge (am_dp pw_X10_takeImage_0 dd_X10_takeImage_0a.2.2.2.2.2.2.1) (by decide)).to, ?_⟩
  refine List.forall_mem_cons.mpr ⟨(s_aloadn (am_dp pw_X10_takeImage_0 dd_X10_takeImage_0a.2.2.2.2.2.2.2) rfl).to, ?_⟩
  refine List.forall_mem_cons.mpr ⟨(s_get (ci := 10) (k := 2) (am_dp pw_X10_takeImage_0 dd_X10_takeImage_0b.1) rfl (by decide) wd581 inX10 rfl).to, ?_⟩
  refine List.forall_mem_cons.mpr ⟨(s_get (ci := 5) (k := 4) (am_dp pw_X10_takeImage_0 dd_X10_takeImage_0b.2.1) rfl (by decide) wd318 inX5 rfl).to, ?_⟩
  refine List.forall_mem_cons.mpr ⟨(s_iloadn (am_dp pw_X10_takeImage_0 dd_X10_takeImage_0b.2.2.1) rfl).to, ?_⟩
  refine List.forall_mem_cons.mpr ⟨(s_aald (am_dp pw_X10_takeImage_0 dd_X10_takeImage_0b.2.2.2.1)).to, ?_⟩
  refine List.forall_mem_cons.mpr ⟨(s_iconst (am_dp pw_X10_takeImage_0 dd_X10_takeImage_0b.2.2.2.2.1) (by decide)).to, ?_⟩
  refine List.forall_mem_cons.mpr ⟨(s_put (ci := 6) (k := 5) (am_dp pw_X10_takeImage_0 dd_X10_takeImage_0b.2.2.2.2.2.1) rfl (by decide) wd255 inX6 tyX6_ok nmX6 rfl rfl).to, ?_⟩
  refine List.forall_mem_cons.mpr ⟨(s_iinc (am_dp pw_X10_takeImage_0 dd_X10_takeImage_0b.2.2.2.2.2.2.1) (by decide) (by decide)).to, ?_⟩
  refine List.forall_mem_cons.mpr ⟨(s_goto (am_dp pw_X10_takeImage_0 dd_X10_takeImage_0b.2.2.2.2.2.2.2) (by decide)).to, ?_⟩
  refine List.forall_mem_cons.mpr ⟨(s_iconst (am_dp pw_X10_takeImage_32 dd_X10_takeImage_32a.1) (by decide)).to, ?_⟩
  refine List.forall_mem_cons.mpr ⟨(s_iconst (am_dp pw_X10_takeImage_32 dd_X10_takeImage_32a.2.1) (by decide)).to, ?_⟩
  refine List.forall_mem_cons.mpr ⟨(s_aloadn (am_dp pw_X10_takeImage_32 dd_X10_takeImage_32a.2.2.1) rfl).to, ?_⟩
  refine List.forall_mem_cons.mpr ⟨(s_get (ci := 10) (k := 0) (am_dp pw_X10_takeImage_32 dd_X10_takeImage_32a.2.2.2.1) rfl (by decide) wd579 inX10 rfl).to, ?_⟩
  refine List.forall_mem_cons.mpr ⟨(s_iconst (am_dp pw_X10_takeImage_32 dd_X10_takeImage_32a.2.2.2.2.1) (by decide)).to, ?_⟩
  refine List.forall_mem_cons.mpr ⟨(s_iald (am_dp pw_X10_takeImage_32 dd_X10_takeImage_32a.2.2.2.2.2.1)).to, ?_⟩
  refine List.forall_mem_cons.mpr ⟨(s_imul (am_dp pw_X10_takeImage_32 dd_X10_takeImage_32a.2.2.2.2.2.2.1)).to, ?_⟩
  refine List.forall_mem_cons.mpr ⟨(s_iadd (am_dp pw_X10_takeImage_32 dd_X10_takeImage_32a.2.2.2.2.2.2.2)).to, ?_⟩
  refine List.forall_mem_cons.mpr ⟨(s_istoren (am_dp pw_X10_takeImage_32 dd_X10_takeImage_32b.1) rfl (by decide)).to, ?_⟩
  refine List.forall_mem_cons.mpr ⟨(s_iconst (am_dp pw_X10_takeImage_32 dd_X10_takeImage_32b.2.1) (by decide)).to, ?_⟩
  refine List.forall_mem_cons.mpr ⟨(s_istoren (am_dp pw_X10_takeImage_32 dd_X10_takeImage_32b.2.2.1) rfl (by decide)).to, ?_⟩
  refine List.forall_mem_cons.mpr ⟨(s_iloadn (am_dp pw_X10_takeImage_32 dd_X10_takeImage_32b.2.2.2.1) rfl).to, ?_⟩
  refine List.forall_mem_cons.mpr ⟨(s_iloadn (am_dp pw_X10_takeImage_32 dd_X10_takeImage_32b.2.2.2.2.1) rfl).to, ?_⟩
  refine List.forall_mem_cons.mpr ⟨(s_icmp_ge (am_dp pw_X10_takeImage_32 dd_X10_takeImage_32b.2.2.2.2.2.1) (by decide)).to, ?_⟩
  refine List.forall_mem_cons.mpr ⟨(s_aloadn (am_dp pw_X10_takeImage_32 dd_X10_takeImage_32b.2.2.2.2.2.2.1) rfl).to, ?_⟩
  refine List.forall_mem_cons.mpr ⟨(s_get (ci := 10) (k := 2) (am_dp pw_X10_takeImage_32 dd_X10_takeImage_32b.2.2.2.2.2.2.2) rfl (by decide) wd581 inX10 rfl).to, ?_⟩
  refine List.forall_mem_cons.mpr ⟨(s_get (ci := 5) (k := 4) (am_dp pw_X10_takeImage_32 dd_X10_takeImage_32c.1) rfl (by decide) wd318 inX5 rfl).to, ?_⟩
  refine List.forall_mem_cons.mpr ⟨(s_aloadn (am_dp pw_X10_takeImage_32 dd_X10_takeImage_32c.2.1) rfl).to, ?_⟩
  refine List.forall_mem_cons.mpr ⟨(s_get (ci := 10) (k := 0) (am_dp pw_X10_takeImage_32 dd_X10_takeImage_32c.2.2.1) rfl (by decide) wd579 inX10 rfl).to, ?_⟩
  refine List.forall_mem_cons.mpr ⟨(s_iloadn (am_dp pw_X10_takeImage_32 dd_X10_takeImage_32c.2.2.2.1) rfl).to, ?_⟩
  refine List.forall_mem_cons.mpr ⟨(s_iald (am_dp pw_X10_takeImage_32 dd_X10_takeImage_32c.2.2.2.2.1)).to, ?_⟩
  refine List.forall_mem_cons.mpr ⟨(s_aald (am_dp pw_X10_takeImage_32 dd_X10_takeImage_32c.2.2.2.2.2)).to, ?_⟩
  refine List.forall_mem_cons.mpr ⟨(s_aloadn (am_dp pw_X10_takeImage_64 dd_X10_takeImage_64a.1) rfl).to, ?_⟩
  refine List.forall_mem_cons.mpr ⟨(s_get (ci := 10) (k := 0) (am_dp pw_X10_takeImage_64 dd_X10_takeImage_64a.2.1) rfl (by decide) wd579 inX10 rfl).to, ?_⟩
  refine List.forall_mem_cons.mpr ⟨(s_iloadn (am_dp pw_X10_takeImage_64 dd_X10_takeImage_64a.2.2.1) rfl).to, ?_⟩
  refine List.forall_mem_cons.mpr ⟨(s_iconst (am_dp pw_X10_takeImage_64 dd_X10_takeImage_64a.2.2.2.1) (by decide)).to, ?_⟩
  refine List.forall_mem_cons.mpr ⟨(s_iadd (am_dp pw_X10_takeImage_64 dd_X10_takeImage_64a.2.2.2.2.1)).to, ?_⟩
  refine List.forall_mem_cons.mpr ⟨(s_iald (am_dp pw_X10_takeImage_64 dd_X10_takeImage_64a.2.2.2.2.2.1)).to, ?_⟩
  refine List.forall_mem_cons.mpr ⟨(s_aloadn (am_dp pw_X10_takeImage_64 dd_X10_takeImage_64a.2.2.2.2.2.2.1) rfl).to, ?_⟩
  refine List.forall_mem_cons.mpr ⟨(s_get (ci := 10) (k := 2) (am_dp pw_X10_takeImage_64 dd_X10_takeImage_64a.2.2.2.2.2.2.2) rfl (by decide) wd581 inX10 rfl).to, ?_⟩
  refine List.forall_mem_cons.mpr ⟨(s_aloadn (am_dp pw_X10_takeImage_64 dd_X10_takeImage_64b.1) rfl).to, ?_⟩
  refine List.forall_mem_cons.mpr ⟨(s_get (ci := 10) (k := 0) (am_dp pw_X10_takeImage_64 dd_X10_takeImage_64b.2.1) rfl (by decide) wd579 inX10 rfl).to, ?_⟩
  refine List.forall_mem_cons.mpr ⟨(s_iloadn (am_dp pw_X10_takeImage_64 dd_X10_takeImage_64b.2.2.1) rfl).to, ?_⟩
  refine List.forall_mem_cons.mpr ⟨(s_iconst (am_dp pw_X10_takeImage_64 dd_X10_takeImage_64b.2.2.2.1) (by decide)).to, ?_⟩
  refine List.forall_mem_cons.mpr ⟨(s_iadd (am_dp pw_X10_takeImage_64 dd_X10_takeImage_64b.2.2.2.2.1)).to, ?_⟩
  refine List.forall_mem_cons.mpr ⟨(s_iald (am_dp pw_X10_takeImage_64 dd_X10_takeImage_64b.2.2.2.2.2.1)).to, ?_⟩
  refine List.forall_mem_cons.mpr ⟨zw_cv57 (am_dp pw_X10_takeImage_64 dd_X10_takeImage_64b.2.2.2.2.2.2.1) wd1315, ?_⟩
  refine List.forall_mem_cons.mpr ⟨(s_aloadn (am_dp pw_X10_takeImage_64 dd_X10_takeImage_64b.2.2.2.2.2.2.2) rfl).to, ?_⟩
  refine List.forall_mem_cons.mpr ⟨(s_get (ci := 10) (k := 0) (am_dp pw_X10_takeImage_64 dd_X10_takeImage_64c.1) rfl (by decide) wd579 inX10 rfl).to, ?_⟩
  refine List.forall_mem_cons.mpr ⟨(s_iloadn (am_dp pw_X10_takeImage_64 dd_X10_takeImage_64c.2.1) rfl).to, ?_⟩
  refine List.forall_mem_cons.mpr ⟨(s_iconst (am_dp pw_X10_takeImage_64 dd_X10_takeImage_64c.2.2.1) (by decide)).to, ?_⟩
  refine List.forall_mem_cons.mpr ⟨(s_iadd (am_dp pw_X10_takeImage_64 dd_X10_takeImage_64c.2.2.2.1)).to, ?_⟩
  refine List.forall_mem_cons.mpr ⟨(s_iald (am_dp pw_X10_takeImage_64 dd_X10_takeImage_64c.2.2.2.2.1)).to, ?_⟩
  refine List.forall_mem_cons.mpr ⟨(s_iconst (am_dp pw_X10_takeImage_64 dd_X10_takeImage_64c.2.2.2.2.2) (by decide)).to, ?_⟩
  exact fun _ h => absurd h List.not_mem_nil
theorem sn_tX10_takeImage_1 : ∀ q ∈ tX10_takeImage_1, am_Snd am_P0 RX10 cX10_takeImage 4 (Option.none : Option FieldType) "takeImage" q.1 q.2 := by
  unfold tX10_takeImage_1
  refine List.forall_mem_cons.mpr ⟨(s_icmp_ne (am_dp pw_X10_takeImage_96 dd_X10_takeImage_96a.1) (by decide)).to, ?_⟩
  refine List.forall_mem_cons.mpr ⟨(s_iconst (am_dp pw_X10_takeImage_96 dd_X10_takeImage_96a.2.1) (by decide)).to, ?_⟩
  refine List.forall_mem_cons.mpr ⟨(s_goto (am_dp pw_X10_takeImage_96 dd_X10_takeImage_96a.2.2.1) (by decide)).to, ?_⟩
  refine List.forall_mem_cons.mpr ⟨(s_iconst (am_dp pw_X10_takeImage_96 dd_X10_takeImage_96a.2.2.2.1) (by decide)).to, ?_⟩
  refine List.forall_mem_cons.mpr ⟨zw_cv66 (am_dp pw_X10_takeImage_96 dd_X10_takeImage_96a.2.2.2.2.1) wd1273, ?_⟩
  refine List.forall_mem_cons.mpr ⟨(s_pop (am_dp pw_X10_takeImage_96 dd_X10_takeImage_96a.2.2.2.2.2.1)).to, ?_⟩
  refine List.forall_mem_cons.mpr ⟨(s_iinc (am_dp pw_X10_takeImage_96 dd_X10_takeImage_96a.2.2.2.2.2.2.1) (by decide) (by decide)).to, ?_⟩
  refine List.forall_mem_cons.mpr ⟨(s_goto (am_dp pw_X10_takeImage_96 dd_X10_takeImage_96a.2.2.2.2.2.2.2) (by decide)).to, ?_⟩
  refine List.forall_mem_cons.mpr ⟨(s_aloadn (am_dp pw_X10_takeImage_96 dd_X10_takeImage_96b.1) rfl).to, ?_⟩
  refine List.forall_mem_cons.mpr ⟨(s_get (ci := 10) (k := 2) (am_dp pw_X10_takeImage_96 dd_X10_takeImage_96b.2.1) rfl (by decide) wd581 inX10 rfl).to, ?_⟩
  refine List.forall_mem_cons.mpr ⟨(s_get (ci := 5) (k := 5) (am_dp pw_X10_takeImage_96 dd_X10_takeImage_96b.2.2.1) rfl (by decide) wd321 inX5 rfl).to, ?_⟩
  refine List.forall_mem_cons.mpr ⟨(s_iconst (am_dp pw_X10_takeImage_96 dd_X10_takeImage_96b.2.2.2.1) (by decide)).to, ?_⟩
  refine List.forall_mem_cons.mpr ⟨(s_put (ci := 7) (k := 0) (am_dp pw_X10_takeImage_96 dd_X10_takeImage_96b.2.2.2.2.1) rfl (by decide) wd178 inX7 tyX7_ok nmX7 rfl rfl).to, ?_⟩
  refine List.forall_mem_cons.mpr ⟨(s_iloadn (am_dp pw_X10_takeImage_96 dd_X10_takeImage_96b.2.2.2.2.2.1) rfl).to, ?_⟩
  refine List.forall_mem_cons.mpr ⟨(s_iconst (am_dp pw_X10_takeImage_96 dd_X10_takeImage_96b.2.2.2.2.2.2.1) (by decide)).to, ?_⟩
  refine List.forall_mem_cons.mpr ⟨(s_iadd (am_dp pw_X10_takeImage_96 dd_X10_takeImage_96b.2.2.2.2.2.2.2)).to, ?_⟩
  refine List.forall_mem_cons.mpr ⟨(s_iconst (am_dp pw_X10_takeImage_128 dd_X10_takeImage_128a.1) (by decide)).to, ?_⟩
  refine List.forall_mem_cons.mpr ⟨(s_aloadn (am_dp pw_X10_takeImage_128 dd_X10_takeImage_128a.2.1) rfl).to, ?_⟩
  refine List.forall_mem_cons.mpr ⟨(s_get (ci := 10) (k := 0) (am_dp pw_X10_takeImage_128 dd_X10_takeImage_128a.2.2.1) rfl (by decide) wd579 inX10 rfl).to, ?_⟩
  refine List.forall_mem_cons.mpr ⟨(s_iloadn (am_dp pw_X10_takeImage_128 dd_X10_takeImage_128a.2.2.2.1) rfl).to, ?_⟩
  refine List.forall_mem_cons.mpr ⟨(s_iald (am_dp pw_X10_takeImage_128 dd_X10_takeImage_128a.2.2.2.2.1)).to, ?_⟩
  refine List.forall_mem_cons.mpr ⟨(s_imul (am_dp pw_X10_takeImage_128 dd_X10_takeImage_128a.2.2.2.2.2.1)).to, ?_⟩
  refine List.forall_mem_cons.mpr ⟨(s_iadd (am_dp pw_X10_takeImage_128 dd_X10_takeImage_128a.2.2.2.2.2.2.1)).to, ?_⟩
  refine List.forall_mem_cons.mpr ⟨(s_istoren (am_dp pw_X10_takeImage_128 dd_X10_takeImage_128a.2.2.2.2.2.2.2) rfl (by decide)).to, ?_⟩
  refine List.forall_mem_cons.mpr ⟨(s_iloadn (am_dp pw_X10_takeImage_128 dd_X10_takeImage_128b.1) rfl).to, ?_⟩
  refine List.forall_mem_cons.mpr ⟨(s_iconst (am_dp pw_X10_takeImage_128 dd_X10_takeImage_128b.2.1) (by decide)).to, ?_⟩
  refine List.forall_mem_cons.mpr ⟨(s_iadd (am_dp pw_X10_takeImage_128 dd_X10_takeImage_128b.2.2.1)).to, ?_⟩
  refine List.forall_mem_cons.mpr ⟨(s_istoren (am_dp pw_X10_takeImage_128 dd_X10_takeImage_128b.2.2.2.1) rfl (by decide)).to, ?_⟩
  refine List.forall_mem_cons.mpr ⟨(s_iloadn (am_dp pw_X10_takeImage_128 dd_X10_takeImage_128b.2.2.2.2.1) rfl).to, ?_⟩
  refine List.forall_mem_cons.mpr ⟨(s_iloadn (am_dp pw_X10_takeImage_128 dd_X10_takeImage_128b.2.2.2.2.2.1) rfl).to, ?_⟩
  refine List.forall_mem_cons.mpr ⟨(s_icmp_ge (am_dp pw_X10_takeImage_128 dd_X10_takeImage_128b.2.2.2.2.2.2.1) (by decide)).to, ?_⟩
  refine List.forall_mem_cons.mpr ⟨(s_aloadn (am_dp pw_X10_takeImage_128 dd_X10_takeImage_128b.2.2.2.2.2.2.2) rfl).to, ?_⟩
  refine List.forall_mem_cons.mpr ⟨(s_get (ci := 10) (k := 2) (am_dp pw_X10_takeImage_128 dd_X10_takeImage_128c.1) rfl (by decide) wd581 inX10 rfl).to, ?_⟩
  refine List.forall_mem_cons.mpr ⟨(s_get (ci := 5) (k := 5) (am_dp pw_X10_takeImage_128 dd_X10_takeImage_128c.2.1) rfl (by decide) wd321 inX5 rfl).to, ?_⟩
  refine List.forall_mem_cons.mpr ⟨(s_aloadn (am_dp pw_X10_takeImage_128 dd_X10_takeImage_128c.2.2.1) rfl).to, ?_⟩
  refine List.forall_mem_cons.mpr ⟨(s_get (ci := 10) (k := 0) (am_dp pw_X10_takeImage_128 dd_X10_takeImage_128c.2.2.2.1) rfl (by decide) wd579 inX10 rfl).to, ?_⟩
  refine List.forall_mem_cons.mpr ⟨(s_iloadn (am_dp pw_X10_takeImage_128 dd_X10_takeImage_128c.2.2.2.2.1) rfl).to, ?_⟩
  refine List.forall_mem_cons.mpr ⟨(s_iald (am_dp pw_X10_takeImage_128 dd_X10_takeImage_128c.2.2.2.2.2)).to, ?_⟩
  refine List.forall_mem_cons.mpr ⟨(s_aloadn (am_dp pw_X10_takeImage_160 dd_X10_takeImage_160a.1) rfl).to, ?_⟩
  refine List.forall_mem_cons.mpr ⟨(s_get (ci := 10) (k := 2) (am_dp pw_X10_takeImage_160 dd_X10_takeImage_160a.2.1) rfl (by decide) wd581 inX10 rfl).to, ?_⟩
  refine List.forall_mem_cons.mpr ⟨(s_aloadn (am_dp pw_X10_takeImage_160 dd_X10_takeImage_160a.2.2.1) rfl).to, ?_⟩
  refine List.forall_mem_cons.mpr ⟨(s_get (ci := 10) (k := 0) (am_dp pw_X10_takeImage_160 dd_X10_takeImage_160a.2.2.2.1) rfl (by decide) wd579 inX10 rfl).to, ?_⟩
  refine List.forall_mem_cons.mpr ⟨(s_iloadn (am_dp pw_X10_takeImage_160 dd_X10_takeImage_160a.2.2.2.2.1) rfl).to, ?_⟩
  refine List.forall_mem_cons.mpr ⟨(s_iconst (am_dp pw_X10_takeImage_160 dd_X10_takeImage_160a.2.2.2.2.2.1) (by decide)).to, ?_⟩
  refine List.forall_mem_cons.mpr ⟨(s_iadd (am_dp pw_X10_takeImage_160 dd_X10_takeImage_160a.2.2.2.2.2.2.1)).to, ?_⟩
  refine List.forall_mem_cons.mpr ⟨(s_iald (am_dp pw_X10_takeImage_160 dd_X10_takeImage_160a.2.2.2.2.2.2.2)).to, ?_⟩
  refine List.forall_mem_cons.mpr ⟨zw_cv57 (am_dp pw_X10_takeImage_160 dd_X10_takeImage_160b.1) wd1315, ?_⟩
  refine List.forall_mem_cons.mpr ⟨(s_aloadn (am_dp pw_X10_takeImage_160 dd_X10_takeImage_160b.2.1) rfl).to, ?_⟩
  refine List.forall_mem_cons.mpr ⟨(s_get (ci := 10) (k := 0) (am_dp pw_X10_takeImage_160 dd_X10_takeImage_160b.2.2.1) rfl (by decide) wd579 inX10 rfl).to, ?_⟩
  refine List.forall_mem_cons.mpr ⟨(s_iloadn (am_dp pw_X10_takeImage_160 dd_X10_takeImage_160b.2.2.2.1) rfl).to, ?_⟩
  refine List.forall_mem_cons.mpr ⟨(s_iconst (am_dp pw_X10_takeImage_160 dd_X10_takeImage_160b.2.2.2.2.1) (by decide)).to, ?_⟩
  refine List.forall_mem_cons.mpr ⟨(s_iadd (am_dp pw_X10_takeImage_160 dd_X10_takeImage_160b.2.2.2.2.2.1)).to, ?_⟩
  refine List.forall_mem_cons.mpr ⟨(s_iald (am_dp pw_X10_takeImage_160 dd_X10_takeImage_160b.2.2.2.2.2.2.1)).to, ?_⟩
  refine List.forall_mem_cons.mpr ⟨zw_cv71 (am_dp pw_X10_takeImage_160 dd_X10_takeImage_160b.2.2.2.2.2.2.2) wd1291, ?_⟩
  refine List.forall_mem_cons.mpr ⟨(s_iinc (am_dp pw_X10_takeImage_160 dd_X10_takeImage_160c.1) (by decide) (by decide)).to, ?_⟩
  refine List.forall_mem_cons.mpr ⟨(s_goto (am_dp pw_X10_takeImage_160 dd_X10_takeImage_160c.2) (by decide)).to, ?_⟩
  refine List.forall_mem_cons.mpr ⟨s_vret (am_dp pw_X10_takeImage_192 dd_X10_takeImage_192a) rfl, ?_⟩
  exact fun _ h => absurd h List.not_mem_nil
theorem sn_tX10_takeImage : ∀ q ∈ tX10_takeImage, am_Snd am_P0 RX10 cX10_takeImage 4 (Option.none : Option FieldType) "takeImage" q.1 q.2 := by
  unfold tX10_takeImage
  exact List.forall_mem_append.mpr ⟨sn_tX10_takeImage_0, sn_tX10_takeImage_1⟩
theorem sn_tX11_init_0 : ∀ q ∈ tX11_init_0, am_Snd am_P0 RX11 cX11_init 2 (Option.none : Option FieldType) "<init>" q.1 q.2 := by
  unfold tX11_init_0
  refine List.forall_mem_cons.mpr ⟨(s_aloadn (am_dp pw_X11_init_0 dd_X11_init_0a.1) rfl).to, ?_⟩
  refine List.forall_mem_cons.mpr ⟨(s_obj (am_dp pw_X11_init_0 dd_X11_init_0a.2.1) wd1332 wd160 wd161).to, ?_⟩
  refine List.forall_mem_cons.mpr ⟨(s_aloadn (am_dp pw_X11_init_0 dd_X11_init_0a.2.2.1) rfl).to, ?_⟩
  refine List.forall_mem_cons.mpr ⟨(s_sipush (am_dp pw_X11_init_0 dd_X11_init_0a.2.2.2.1) (by decide)).to, ?_⟩
  refine List.forall_mem_cons.mpr ⟨(s_newa (kd := 0) (ty := .int) (am_dp pw_X11_init_0 dd_X11_init_0a.2.2.2.2.1) rfl rfl wd195 (by decide) (by decide) (fun _ _ h => h)).to, ?_⟩
  refine List.forall_mem_cons.mpr ⟨(s_putF (ci := 11) (k := 0) (am_dp pw_X11_init_0 dd_X11_init_0a.2.2.2.2.2.1) rfl (by decide) wd1333 inX11 tyX11_ok nmX11 rfl rfl rfl rfl).to, ?_⟩
  refine List.forall_mem_cons.mpr ⟨(s_aloadn (am_dp pw_X11_init_0 dd_X11_init_0a.2.2.2.2.2.2.1) rfl).to, ?_⟩
  refine List.forall_mem_cons.mpr ⟨(s_iconst (am_dp pw_X11_init_0 dd_X11_init_0a.2.2.2.2.2.2.2) (by decide)).to, ?_⟩
  refine List.forall_mem_cons.mpr ⟨(s_put (ci := 11) (k := 1) (am_dp pw_X11_init_0 dd_X11_init_0b.1) rfl (by decide) wd1334 inX11 tyX11_ok nmX11 rfl rfl).to, ?_⟩
  refine List.forall_mem_cons.mpr ⟨(s_aloadn (am_dp pw_X11_init_0 dd_X11_init_0b.2.1) rfl).to, ?_⟩
  refine List.forall_mem_cons.mpr ⟨(s_iconst (am_dp pw_X11_init_0 dd_X11_init_0b.2.2.1) (by decide)).to, ?_⟩
  refine List.forall_mem_cons.mpr ⟨(s_put (ci := 11) (k := 2) (am_dp pw_X11_init_0 dd_X11_init_0b.2.2.2.1) rfl (by decide) wd1335 inX11 tyX11_ok nmX11 rfl rfl).to, ?_⟩
  refine List.forall_mem_cons.mpr ⟨(s_aloadn (am_dp pw_X11_init_0 dd_X11_init_0b.2.2.2.2.1) rfl).to, ?_⟩
  refine List.forall_mem_cons.mpr ⟨(s_iconst (am_dp pw_X11_init_0 dd_X11_init_0b.2.2.2.2.2.1) (by decide)).to, ?_⟩
  refine List.forall_mem_cons.mpr ⟨(s_put (ci := 11) (k := 3) (am_dp pw_X11_init_0 dd_X11_init_0b.2.2.2.2.2.2.1) rfl (by decide) wd1336 inX11 tyX11_ok nmX11 rfl rfl).to, ?_⟩
  refine List.forall_mem_cons.mpr ⟨(s_aloadn (am_dp pw_X11_init_0 dd_X11_init_0b.2.2.2.2.2.2.2) rfl).to, ?_⟩
  refine List.forall_mem_cons.mpr ⟨(s_iconst (am_dp pw_X11_init_0 dd_X11_init_0c.1) (by decide)).to, ?_⟩
  refine List.forall_mem_cons.mpr ⟨(s_put (ci := 11) (k := 4) (am_dp pw_X11_init_0 dd_X11_init_0c.2) rfl (by decide) wd1337 inX11 tyX11_ok nmX11 rfl rfl).to, ?_⟩
  refine List.forall_mem_cons.mpr ⟨(s_aloadn (am_dp pw_X11_init_32 dd_X11_init_32a.1) rfl).to, ?_⟩
  refine List.forall_mem_cons.mpr ⟨(s_iconst (am_dp pw_X11_init_32 dd_X11_init_32a.2.1) (by decide)).to, ?_⟩
  refine List.forall_mem_cons.mpr ⟨(s_put (ci := 11) (k := 5) (am_dp pw_X11_init_32 dd_X11_init_32a.2.2.1) rfl (by decide) wd1338 inX11 tyX11_ok nmX11 rfl rfl).to, ?_⟩
  refine List.forall_mem_cons.mpr ⟨(s_aloadn (am_dp pw_X11_init_32 dd_X11_init_32a.2.2.2.1) rfl).to, ?_⟩
  refine List.forall_mem_cons.mpr ⟨(s_iconst (am_dp pw_X11_init_32 dd_X11_init_32a.2.2.2.2.1) (by decide)).to, ?_⟩
  refine List.forall_mem_cons.mpr ⟨(s_put (ci := 11) (k := 6) (am_dp pw_X11_init_32 dd_X11_init_32a.2.2.2.2.2.1) rfl (by decide) wd1339 inX11 tyX11_ok nmX11 rfl rfl).to, ?_⟩
  refine List.forall_mem_cons.mpr ⟨(s_aloadn (am_dp pw_X11_init_32 dd_X11_init_32a.2.2.2.2.2.2.1) rfl).to, ?_⟩
  refine List.forall_mem_cons.mpr ⟨(s_lconst (am_dp pw_X11_init_32 dd_X11_init_32a.2.2.2.2.2.2.2) (by decide)).to, ?_⟩
  refine List.forall_mem_cons.mpr ⟨(s_put (ci := 11) (k := 7) (am_dp pw_X11_init_32 dd_X11_init_32b.1) rfl (by decide) wd1340 inX11 tyX11_ok nmX11 rfl rfl).to, ?_⟩
  refine List.forall_mem_cons.mpr ⟨(s_aloadn (am_dp pw_X11_init_32 dd_X11_init_32b.2.1) rfl).to, ?_⟩
  refine List.forall_mem_cons.mpr ⟨(s_iconst (am_dp pw_X11_init_32 dd_X11_init_32b.2.2.1) (by decide)).to, ?_⟩
  refine List.forall_mem_cons.mpr ⟨(s_put (ci := 11) (k := 8) (am_dp pw_X11_init_32 dd_X11_init_32b.2.2.2.1) rfl (by decide) wd1341 inX11 tyX11_ok nmX11 rfl rfl).to, ?_⟩
  refine List.forall_mem_cons.mpr ⟨(s_aloadn (am_dp pw_X11_init_32 dd_X11_init_32b.2.2.2.2.1) rfl).to, ?_⟩
  refine List.forall_mem_cons.mpr ⟨(s_iconst (am_dp pw_X11_init_32 dd_X11_init_32b.2.2.2.2.2.1) (by decide)).to, ?_⟩
  refine List.forall_mem_cons.mpr ⟨(s_put (ci := 11) (k := 9) (am_dp pw_X11_init_32 dd_X11_init_32b.2.2.2.2.2.2.1) rfl (by decide) wd1342 inX11 tyX11_ok nmX11 rfl rfl).to, ?_⟩
  refine List.forall_mem_cons.mpr ⟨(s_aloadn (am_dp pw_X11_init_32 dd_X11_init_32b.2.2.2.2.2.2.2) rfl).to, ?_⟩
  refine List.forall_mem_cons.mpr ⟨(s_iconst (am_dp pw_X11_init_32 dd_X11_init_32c.1) (by decide)).to, ?_⟩
  refine List.forall_mem_cons.mpr ⟨(s_put (ci := 11) (k := 10) (am_dp pw_X11_init_32 dd_X11_init_32c.2.1) rfl (by decide) wd1343 inX11 tyX11_ok nmX11 rfl rfl).to, ?_⟩
  refine List.forall_mem_cons.mpr ⟨(s_aloadn (am_dp pw_X11_init_32 dd_X11_init_32c.2.2) rfl).to, ?_⟩
  refine List.forall_mem_cons.mpr ⟨(s_iconst (am_dp pw_X11_init_64 dd_X11_init_64a.1) (by decide)).to, ?_⟩
  refine List.forall_mem_cons.mpr ⟨(s_put (ci := 11) (k := 11) (am_dp pw_X11_init_64 dd_X11_init_64a.2.1) rfl (by decide) wd1344 inX11 tyX11_ok nmX11 rfl rfl).to, ?_⟩
  refine List.forall_mem_cons.mpr ⟨(s_aloadn (am_dp pw_X11_init_64 dd_X11_init_64a.2.2.1) rfl).to, ?_⟩
  refine List.forall_mem_cons.mpr ⟨(s_iconst (am_dp pw_X11_init_64 dd_X11_init_64a.2.2.2.1) (by decide)).to, ?_⟩
  refine List.forall_mem_cons.mpr ⟨(s_put (ci := 11) (k := 12) (am_dp pw_X11_init_64 dd_X11_init_64a.2.2.2.2.1) rfl (by decide) wd1345 inX11 tyX11_ok nmX11 rfl rfl).to, ?_⟩
  refine List.forall_mem_cons.mpr ⟨(s_aloadn (am_dp pw_X11_init_64 dd_X11_init_64a.2.2.2.2.2.1) rfl).to, ?_⟩
  refine List.forall_mem_cons.mpr ⟨(s_iconst (am_dp pw_X11_init_64 dd_X11_init_64a.2.2.2.2.2.2.1) (by decide)).to, ?_⟩
  refine List.forall_mem_cons.mpr ⟨(s_newa (kd := 0) (ty := .int) (am_dp pw_X11_init_64 dd_X11_init_64a.2.2.2.2.2.2.2) rfl rfl wd195 (by decide) (by decide) (fun _ _ h => h)).to, ?_⟩
  refine List.forall_mem_cons.mpr ⟨(s_putF (ci := 11) (k := 13) (am_dp pw_X11_init_64 dd_X11_init_64b.1) rfl (by decide) wd1346 inX11 tyX11_ok nmX11 rfl rfl rfl rfl).to, ?_⟩
  refine List.forall_mem_cons.mpr ⟨(s_aloadn (am_dp pw_X11_init_64 dd_X11_init_64b.2.1) rfl).to, ?_⟩
  refine List.forall_mem_cons.mpr ⟨(s_iconst (am_dp pw_X11_init_64 dd_X11_init_64b.2.2.1) (by decide)).to, ?_⟩
  refine List.forall_mem_cons.mpr ⟨(s_newa (kd := 0) (ty := .int) (am_dp pw_X11_init_64 dd_X11_init_64b.2.2.2.1) rfl rfl wd195 (by decide) (by decide) (fun _ _ h => h)).to, ?_⟩
  refine List.forall_mem_cons.mpr ⟨(s_putF (ci := 11) (k := 14) (am_dp pw_X11_init_64 dd_X11_init_64b.2.2.2.2.1) rfl (by decide) wd1347 inX11 tyX11_ok nmX11 rfl rfl rfl rfl).to, ?_⟩
  refine List.forall_mem_cons.mpr ⟨(s_aloadn (am_dp pw_X11_init_64 dd_X11_init_64b.2.2.2.2.2.1) rfl).to, ?_⟩
  refine List.forall_mem_cons.mpr ⟨(s_bipush (am_dp pw_X11_init_64 dd_X11_init_64b.2.2.2.2.2.2.1) (by decide)).to, ?_⟩
  refine List.forall_mem_cons.mpr ⟨(s_newa (kd := 0) (ty := .int) (am_dp pw_X11_init_64 dd_X11_init_64b.2.2.2.2.2.2.2) rfl rfl wd195 (by decide) (by decide) (fun _ _ h => h)).to, ?_⟩
  refine List.forall_mem_cons.mpr ⟨(s_putF (ci := 11) (k := 15) (am_dp pw_X11_init_64 dd_X11_init_64c.1) rfl (by decide) wd1348 inX11 tyX11_ok nmX11 rfl rfl rfl rfl).to, ?_⟩
  refine List.forall_mem_cons.mpr ⟨(s_aloadn (am_dp pw_X11_init_64 dd_X11_init_64c.2) rfl).to, ?_⟩
  refine List.forall_mem_cons.mpr ⟨(s_bipush (am_dp pw_X11_init_96 dd_X11_init_96a.1) (by decide)).to, ?_⟩
  refine List.forall_mem_cons.mpr ⟨(s_newa (kd := 0) (ty := .int) (am_dp pw_X11_init_96 dd_X11_init_96a.2.1) rfl rfl wd195 (by decide) (by decide) (fun _ _ h => h)).to, ?_⟩
  refine List.forall_mem_cons.mpr ⟨(s_putF (ci := 11) (k := 16) (am_dp pw_X11_init_96 dd_X11_init_96a.2.2.1) rfl (by decide) wd1349 inX11 tyX11_ok nmX11 rfl rfl rfl rfl).to, ?_⟩
  refine List.forall_mem_cons.mpr ⟨(s_aloadn (am_dp pw_X11_init_96 dd_X11_init_96a.2.2.2.1) rfl).to, ?_⟩
  refine List.forall_mem_cons.mpr ⟨(s_bipush (am_dp pw_X11_init_96 dd_X11_init_96a.2.2.2.2.1) (by decide)).to, ?_⟩
  exact fun _ h => absurd h List.not_mem_nil
theorem sn_tX11_init_1 : ∀ q ∈ tX11_init_1, am_Snd am_P0 RX11 cX11_init 2 (Option.none : Option FieldType) "<init>" q.1 q.2 := by
  unfold tX11_init_1
  refine List.forall_mem_cons.mpr ⟨(s_newa (kd := 0) (ty := .int) (am_dp pw_X11_init_96 dd_X11_init_96a.2.2.2.2.2.1) rfl rfl wd195 (by decide) (by decide) (fun _ _ h => h)).to, ?_⟩
  refine List.forall_mem_cons.mpr ⟨(s_putF (ci := 11) (k := 17) (am_dp pw_X11_init_96 dd_X11_init_96a.2.2.2.2.2.2.1) rfl (by decide) wd1350 inX11 tyX11_ok nmX11 rfl rfl rfl rfl).to, ?_⟩
  refine List.forall_mem_cons.mpr ⟨(s_aloadn (am_dp pw_X11_init_96 dd_X11_init_96a.2.2.2.2.2.2.2) rfl).to, ?_⟩
  refine List.forall_mem_cons.mpr ⟨(s_bipush (am_dp pw_X11_init_96 dd_X11_init_96b.1) (by decide)).to, ?_⟩
  refine List.forall_mem_cons.mpr ⟨(s_newa (kd := 0) (ty := .int) (am_dp pw_X11_init_96 dd_X11_init_96b.2.1) rfl rfl wd195 (by decide) (by decide) (fun _ _ h => h)).to, ?_⟩
  refine List.forall_mem_cons.mpr ⟨(s_putF (ci := 11) (k := 18) (am_dp pw_X11_init_96 dd_X11_init_96b.2.2.1) rfl (by decide) wd1351 inX11 tyX11_ok nmX11 rfl rfl rfl rfl).to, ?_⟩
  refine List.forall_mem_cons.mpr ⟨(s_aloadn (am_dp pw_X11_init_96 dd_X11_init_96b.2.2.2.1) rfl).to, ?_⟩
  refine List.forall_mem_cons.mpr ⟨(s_iconst (am_dp pw_X11_init_96 dd_X11_init_96b.2.2.2.2.1) (by decide)).to, ?_⟩
  refine List.forall_mem_cons.mpr ⟨(s_newa (kd := 0) (ty := .int) (am_dp pw_X11_init_96 dd_X11_init_96b.2.2.2.2.2.1) rfl rfl wd195 (by decide) (by decide) (fun _ _ h => h)).to, ?_⟩
  refine List.forall_mem_cons.mpr ⟨(s_putF (ci := 11) (k := 19) (am_dp pw_X11_init_96 dd_X11_init_96b.2.2.2.2.2.2.1) rfl (by decide) wd1352 inX11 tyX11_ok nmX11 rfl rfl rfl rfl).to, ?_⟩
  refine List.forall_mem_cons.mpr ⟨(s_aloadn (am_dp pw_X11_init_96 dd_X11_init_96b.2.2.2.2.2.2.2) rfl).to, ?_⟩
  refine List.forall_mem_cons.mpr ⟨(s_bipush (am_dp pw_X11_init_96 dd_X11_init_96c) (by decide)).to, ?_⟩
  refine List.forall_mem_cons.mpr ⟨(s_newa (kd := 1) (ty := .long) (am_dp pw_X11_init_128 dd_X11_init_128a.1) rfl rfl wd303 (by decide) (by decide) (fun _ _ h => h)).to, ?_⟩
  refine List.forall_mem_cons.mpr ⟨(s_putF (ci := 11) (k := 20) (am_dp pw_X11_init_128 dd_X11_init_128a.2.1) rfl (by decide) wd1353 inX11 tyX11_ok nmX11 rfl rfl rfl rfl).to, ?_⟩
  refine List.forall_mem_cons.mpr ⟨(s_aloadn (am_dp pw_X11_init_128 dd_X11_init_128a.2.2.1) rfl).to, ?_⟩
  refine List.forall_mem_cons.mpr ⟨(s_bipush (am_dp pw_X11_init_128 dd_X11_init_128a.2.2.2.1) (by decide)).to, ?_⟩
  refine List.forall_mem_cons.mpr ⟨(s_newa (kd := 0) (ty := .int) (am_dp pw_X11_init_128 dd_X11_init_128a.2.2.2.2.1) rfl rfl wd195 (by decide) (by decide) (fun _ _ h => h)).to, ?_⟩
  refine List.forall_mem_cons.mpr ⟨(s_putF (ci := 11) (k := 21) (am_dp pw_X11_init_128 dd_X11_init_128a.2.2.2.2.2.1) rfl (by decide) wd1354 inX11 tyX11_ok nmX11 rfl rfl rfl rfl).to, ?_⟩
  refine List.forall_mem_cons.mpr ⟨(s_aloadn (am_dp pw_X11_init_128 dd_X11_init_128a.2.2.2.2.2.2.1) rfl).to, ?_⟩
  refine List.forall_mem_cons.mpr ⟨(s_bipush (am_dp pw_X11_init_128 dd_X11_init_128a.2.2.2.2.2.2.2) (by decide)).to, ?_⟩
  refine List.forall_mem_cons.mpr ⟨(s_newa (kd := 0) (ty := .int) (am_dp pw_X11_init_128 dd_X11_init_128b.1) rfl rfl wd195 (by decide) (by decide) (fun _ _ h => h)).to, ?_⟩
  refine List.forall_mem_cons.mpr ⟨(s_putF (ci := 11) (k := 22) (am_dp pw_X11_init_128 dd_X11_init_128b.2.1) rfl (by decide) wd1355 inX11 tyX11_ok nmX11 rfl rfl rfl rfl).to, ?_⟩
  refine List.forall_mem_cons.mpr ⟨(s_aloadn (am_dp pw_X11_init_128 dd_X11_init_128b.2.2.1) rfl).to, ?_⟩
  refine List.forall_mem_cons.mpr ⟨(s_bipush (am_dp pw_X11_init_128 dd_X11_init_128b.2.2.2.1) (by decide)).to, ?_⟩
  refine List.forall_mem_cons.mpr ⟨(s_newa (kd := 0) (ty := .int) (am_dp pw_X11_init_128 dd_X11_init_128b.2.2.2.2.1) rfl rfl wd195 (by decide) (by decide) (fun _ _ h => h)).to, ?_⟩
  refine List.forall_mem_cons.mpr ⟨(s_putF (ci := 11) (k := 23) (am_dp pw_X11_init_128 dd_X11_init_128b.2.2.2.2.2.1) rfl (by decide) wd1356 inX11 tyX11_ok nmX11 rfl rfl rfl rfl).to, ?_⟩
  refine List.forall_mem_cons.mpr ⟨(s_aloadn (am_dp pw_X11_init_128 dd_X11_init_128b.2.2.2.2.2.2.1) rfl).to, ?_⟩
  refine List.forall_mem_cons.mpr ⟨(s_bipush (am_dp pw_X11_init_128 dd_X11_init_128b.2.2.2.2.2.2.2) (by decide)).to, ?_⟩
  refine List.forall_mem_cons.mpr ⟨(s_newa (kd := 0) (ty := .int) (am_dp pw_X11_init_160 dd_X11_init_160a.1) rfl rfl wd195 (by decide) (by decide) (fun _ _ h => h)).to, ?_⟩
  refine List.forall_mem_cons.mpr ⟨(s_putF (ci := 11) (k := 24) (am_dp pw_X11_init_160 dd_X11_init_160a.2.1) rfl (by decide) wd1357 inX11 tyX11_ok nmX11 rfl rfl rfl rfl).to, ?_⟩
  refine List.forall_mem_cons.mpr ⟨(s_aloadn (am_dp pw_X11_init_160 dd_X11_init_160a.2.2.1) rfl).to, ?_⟩
  refine List.forall_mem_cons.mpr ⟨(s_iconst (am_dp pw_X11_init_160 dd_X11_init_160a.2.2.2.1) (by decide)).to, ?_⟩
  refine List.forall_mem_cons.mpr ⟨(s_newa (kd := 0) (ty := .int) (am_dp pw_X11_init_160 dd_X11_init_160a.2.2.2.2.1) rfl rfl wd195 (by decide) (by decide) (fun _ _ h => h)).to, ?_⟩
  refine List.forall_mem_cons.mpr ⟨(s_putF (ci := 11) (k := 25) (am_dp pw_X11_init_160 dd_X11_init_160a.2.2.2.2.2.1) rfl (by decide) wd1358 inX11 tyX11_ok nmX11 rfl rfl rfl rfl).to, ?_⟩
  refine List.forall_mem_cons.mpr ⟨(s_aloadn (am_dp pw_X11_init_160 dd_X11_init_160a.2.2.2.2.2.2.1) rfl).to, ?_⟩
  refine List.forall_mem_cons.mpr ⟨(s_sipush (am_dp pw_X11_init_160 dd_X11_init_160a.2.2.2.2.2.2.2) (by decide)).to, ?_⟩
  refine List.forall_mem_cons.mpr ⟨(s_newa (kd := 0) (ty := .int) (am_dp pw_X11_init_160 dd_X11_init_160b.1) rfl rfl wd195 (by decide) (by decide) (fun _ _ h => h)).to, ?_⟩
  refine List.forall_mem_cons.mpr ⟨(s_putF (ci := 11) (k := 26) (am_dp pw_X11_init_160 dd_X11_init_160b.2.1) rfl (by decide) wd1359 inX11 tyX11_ok nmX11 rfl rfl rfl rfl).to, ?_⟩
  refine List.forall_mem_cons.mpr ⟨(s_aloadn (am_dp pw_X11_init_160 dd_X11_init_160b.2.2.1) rfl).to, ?_⟩
  refine List.forall_mem_cons.mpr ⟨(s_sipush (am_dp pw_X11_init_160 dd_X11_init_160b.2.2.2.1) (by decide)).to, ?_⟩
  refine List.forall_mem_cons.mpr ⟨(s_newa (kd := 2) (ty := .boolean) (am_dp pw_X11_init_160 dd_X11_init_160b.2.2.2.2.1) rfl rfl wd304 (by decide) (by decide) (fun _ _ h => h)).to, ?_⟩
  refine List.forall_mem_cons.mpr ⟨(s_putF (ci := 11) (k := 27) (am_dp pw_X11_init_160 dd_X11_init_160b.2.2.2.2.2.1) rfl (by decide) wd1360 inX11 tyX11_ok nmX11 rfl rfl rfl rfl).to, ?_⟩
  refine List.forall_mem_cons.mpr ⟨(s_aloadn (am_dp pw_X11_init_160 dd_X11_init_160b.2.2.2.2.2.2) rfl).to, ?_⟩
  refine List.forall_mem_cons.mpr ⟨(s_iconst (am_dp pw_X11_init_192 dd_X11_init_192a.1) (by decide)).to, ?_⟩
  refine List.forall_mem_cons.mpr ⟨(s_newa (kd := 0) (ty := .int) (am_dp pw_X11_init_192 dd_X11_init_192a.2.1) rfl rfl wd195 (by decide) (by decide) (fun _ _ h => h)).to, ?_⟩
  refine List.forall_mem_cons.mpr ⟨(s_putF (ci := 11) (k := 28) (am_dp pw_X11_init_192 dd_X11_init_192a.2.2.1) rfl (by decide) wd1361 inX11 tyX11_ok nmX11 rfl rfl rfl rfl).to, ?_⟩
  refine List.forall_mem_cons.mpr ⟨(s_aloadn (am_dp pw_X11_init_192 dd_X11_init_192a.2.2.2.1) rfl).to, ?_⟩
  refine List.forall_mem_cons.mpr ⟨(s_bipush (am_dp pw_X11_init_192 dd_X11_init_192a.2.2.2.2.1) (by decide)).to, ?_⟩
  refine List.forall_mem_cons.mpr ⟨(s_newa (kd := 0) (ty := .int) (am_dp pw_X11_init_192 dd_X11_init_192a.2.2.2.2.2.1) rfl rfl wd195 (by decide) (by decide) (fun _ _ h => h)).to, ?_⟩
  refine List.forall_mem_cons.mpr ⟨(s_putF (ci := 11) (k := 29) (am_dp pw_X11_init_192 dd_X11_init_192a.2.2.2.2.2.2.1) rfl (by decide) wd1362 inX11 tyX11_ok nmX11 rfl rfl rfl rfl).to, ?_⟩
  refine List.forall_mem_cons.mpr ⟨(s_aloadn (am_dp pw_X11_init_192 dd_X11_init_192a.2.2.2.2.2.2.2) rfl).to, ?_⟩
  refine List.forall_mem_cons.mpr ⟨(s_bipush (am_dp pw_X11_init_192 dd_X11_init_192b.1) (by decide)).to, ?_⟩
  refine List.forall_mem_cons.mpr ⟨(s_newa (kd := 0) (ty := .int) (am_dp pw_X11_init_192 dd_X11_init_192b.2.1) rfl rfl wd195 (by decide) (by decide) (fun _ _ h => h)).to, ?_⟩
  refine List.forall_mem_cons.mpr ⟨(s_putF (ci := 11) (k := 30) (am_dp pw_X11_init_192 dd_X11_init_192b.2.2.1) rfl (by decide) wd1363 inX11 tyX11_ok nmX11 rfl rfl rfl rfl).to, ?_⟩
  refine List.forall_mem_cons.mpr ⟨(s_aloadn (am_dp pw_X11_init_192 dd_X11_init_192b.2.2.2.1) rfl).to, ?_⟩
  refine List.forall_mem_cons.mpr ⟨(s_bipush (am_dp pw_X11_init_192 dd_X11_init_192b.2.2.2.2.1) (by decide)).to, ?_⟩
  refine List.forall_mem_cons.mpr ⟨(s_newa (kd := 0) (ty := .int) (am_dp pw_X11_init_192 dd_X11_init_192b.2.2.2.2.2.1) rfl rfl wd195 (by decide) (by decide) (fun _ _ h => h)).to, ?_⟩
  refine List.forall_mem_cons.mpr ⟨(s_putF (ci := 11) (k := 31) (am_dp pw_X11_init_192 dd_X11_init_192b.2.2.2.2.2.2.1) rfl (by decide) wd1364 inX11 tyX11_ok nmX11 rfl rfl rfl rfl).to, ?_⟩
  refine List.forall_mem_cons.mpr ⟨(s_aloadn (am_dp pw_X11_init_192 dd_X11_init_192b.2.2.2.2.2.2.2) rfl).to, ?_⟩
  refine List.forall_mem_cons.mpr ⟨(s_bipush (am_dp pw_X11_init_192 dd_X11_init_192c) (by decide)).to, ?_⟩
  exact fun _ h => absurd h List.not_mem_nil
theorem sn_tX11_init_2 : ∀ q ∈ tX11_init_2, am_Snd am_P0 RX11 cX11_init 2 (Option.none : Option FieldType) "<init>" q.1 q.2 := by
  unfold tX11_init_2
  refine List.forall_mem_cons.mpr ⟨(s_newa (kd := 0) (ty := .int) (am_dp pw_X11_init_224 dd_X11_init_224a.1) rfl rfl wd195 (by decide) (by decide) (fun _ _ h => h)).to, ?_⟩
  refine List.forall_mem_cons.mpr ⟨(s_putF (ci := 11) (k := 32) (am_dp pw_X11_init_224 dd_X11_init_224a.2.1) rfl (by decide) wd1365 inX11 tyX11_ok nmX11 rfl rfl rfl rfl).to, ?_⟩
  refine List.forall_mem_cons.mpr ⟨(s_aloadn (am_dp pw_X11_init_224 dd_X11_init_224a.2.2.1) rfl).to, ?_⟩
  refine List.forall_mem_cons.mpr ⟨(s_iconst (am_dp pw_X11_init_224 dd_X11_init_224a.2.2.2.1) (by decide)).to, ?_⟩
  refine List.forall_mem_cons.mpr ⟨(s_newa (kd := 0) (ty := .int) (am_dp pw_X11_init_224 dd_X11_init_224a.2.2.2.2.1) rfl rfl wd195 (by decide) (by decide) (fun _ _ h => h)).to, ?_⟩
  refine List.forall_mem_cons.mpr ⟨(s_putF (ci := 11) (k := 33) (am_dp pw_X11_init_224 dd_X11_init_224a.2.2.2.2.2.1) rfl (by decide) wd1366 inX11 tyX11_ok nmX11 rfl rfl rfl rfl).to, ?_⟩
  refine List.forall_mem_cons.mpr ⟨(s_aloadn (am_dp pw_X11_init_224 dd_X11_init_224a.2.2.2.2.2.2.1) rfl).to, ?_⟩
  refine List.forall_mem_cons.mpr ⟨(s_bipush (am_dp pw_X11_init_224 dd_X11_init_224a.2.2.2.2.2.2.2) (by decide)).to, ?_⟩
  refine List.forall_mem_cons.mpr ⟨(s_newa (kd := 0) (ty := .int) (am_dp pw_X11_init_224 dd_X11_init_224b.1) rfl rfl wd195 (by decide) (by decide) (fun _ _ h => h)).to, ?_⟩
  refine List.forall_mem_cons.mpr ⟨(s_putF (ci := 11) (k := 34) (am_dp pw_X11_init_224 dd_X11_init_224b.2.1) rfl (by decide) wd1367 inX11 tyX11_ok nmX11 rfl rfl rfl rfl).to, ?_⟩
  refine List.forall_mem_cons.mpr ⟨(s_aloadn (am_dp pw_X11_init_224 dd_X11_init_224b.2.2.1) rfl).to, ?_⟩
  refine List.forall_mem_cons.mpr ⟨(s_bipush (am_dp pw_X11_init_224 dd_X11_init_224b.2.2.2.1) (by decide)).to, ?_⟩
  refine List.forall_mem_cons.mpr ⟨(s_newa (kd := 0) (ty := .int) (am_dp pw_X11_init_224 dd_X11_init_224b.2.2.2.2.1) rfl rfl wd195 (by decide) (by decide) (fun _ _ h => h)).to, ?_⟩
  refine List.forall_mem_cons.mpr ⟨(s_putF (ci := 11) (k := 35) (am_dp pw_X11_init_224 dd_X11_init_224b.2.2.2.2.2.1) rfl (by decide) wd1368 inX11 tyX11_ok nmX11 rfl rfl rfl rfl).to, ?_⟩
  refine List.forall_mem_cons.mpr ⟨(s_aloadn (am_dp pw_X11_init_224 dd_X11_init_224b.2.2.2.2.2.2.1) rfl).to, ?_⟩
  refine List.forall_mem_cons.mpr ⟨(s_bipush (am_dp pw_X11_init_224 dd_X11_init_224b.2.2.2.2.2.2.2) (by decide)).to, ?_⟩
  refine List.forall_mem_cons.mpr ⟨(s_newa (kd := 0) (ty := .int) (am_dp pw_X11_init_256 dd_X11_init_256a.1) rfl rfl wd195 (by decide) (by decide) (fun _ _ h => h)).to, ?_⟩
  refine List.forall_mem_cons.mpr ⟨(s_putF (ci := 11) (k := 36) (am_dp pw_X11_init_256 dd_X11_init_256a.2.1) rfl (by decide) wd1369 inX11 tyX11_ok nmX11 rfl rfl rfl rfl).to, ?_⟩
  refine List.forall_mem_cons.mpr ⟨(s_aloadn (am_dp pw_X11_init_256 dd_X11_init_256a.2.2.1) rfl).to, ?_⟩
  refine List.forall_mem_cons.mpr ⟨(s_iconst (am_dp pw_X11_init_256 dd_X11_init_256a.2.2.2.1) (by decide)).to, ?_⟩
  refine List.forall_mem_cons.mpr ⟨(s_newa (kd := 0) (ty := .int) (am_dp pw_X11_init_256 dd_X11_init_256a.2.2.2.2.1) rfl rfl wd195 (by decide) (by decide) (fun _ _ h => h)).to, ?_⟩
  refine List.forall_mem_cons.mpr ⟨(s_putF (ci := 11) (k := 37) (am_dp pw_X11_init_256 dd_X11_init_256a.2.2.2.2.2.1) rfl (by decide) wd1370 inX11 tyX11_ok nmX11 rfl rfl rfl rfl).to, ?_⟩
  refine List.forall_mem_cons.mpr ⟨(s_aloadn (am_dp pw_X11_init_256 dd_X11_init_256a.2.2.2.2.2.2.1) rfl).to, ?_⟩
  refine List.forall_mem_cons.mpr ⟨(s_sipush (am_dp pw_X11_init_256 dd_X11_init_256a.2.2.2.2.2.2.2) (by decide)).to, ?_⟩
  refine List.forall_mem_cons.mpr ⟨(s_newa (kd := 0) (ty := .int) (am_dp pw_X11_init_256 dd_X11_init_256b.1) rfl rfl wd195 (by decide) (by decide) (fun _ _ h => h)).to, ?_⟩
  refine List.forall_mem_cons.mpr ⟨(s_putF (ci := 11) (k := 38) (am_dp pw_X11_init_256 dd_X11_init_256b.2.1) rfl (by decide) wd1371 inX11 tyX11_ok nmX11 rfl rfl rfl rfl).to, ?_⟩
  refine List.forall_mem_cons.mpr ⟨(s_aloadn (am_dp pw_X11_init_256 dd_X11_init_256b.2.2.1) rfl).to, ?_⟩
  refine List.forall_mem_cons.mpr ⟨(s_sipush (am_dp pw_X11_init_256 dd_X11_init_256b.2.2.2.1) (by decide)).to, ?_⟩
  refine List.forall_mem_cons.mpr ⟨(s_newa (kd := 0) (ty := .int) (am_dp pw_X11_init_256 dd_X11_init_256b.2.2.2.2.1) rfl rfl wd195 (by decide) (by decide) (fun _ _ h => h)).to, ?_⟩
  refine List.forall_mem_cons.mpr ⟨(s_putF (ci := 11) (k := 39) (am_dp pw_X11_init_256 dd_X11_init_256b.2.2.2.2.2.1) rfl (by decide) wd1372 inX11 tyX11_ok nmX11 rfl rfl rfl rfl).to, ?_⟩
  refine List.forall_mem_cons.mpr ⟨(s_aloadn (am_dp pw_X11_init_256 dd_X11_init_256b.2.2.2.2.2.2.1) rfl).to, ?_⟩
  refine List.forall_mem_cons.mpr ⟨(s_iconst (am_dp pw_X11_init_256 dd_X11_init_256b.2.2.2.2.2.2.2) (by decide)).to, ?_⟩
  refine List.forall_mem_cons.mpr ⟨(s_put (ci := 11) (k := 40) (am_dp pw_X11_init_288 dd_X11_init_288a.1) rfl (by decide) wd1373 inX11 tyX11_ok nmX11 rfl rfl).to, ?_⟩
  refine List.forall_mem_cons.mpr ⟨(s_aloadn (am_dp pw_X11_init_288 dd_X11_init_288a.2.1) rfl).to, ?_⟩
  refine List.forall_mem_cons.mpr ⟨(s_iconst (am_dp pw_X11_init_288 dd_X11_init_288a.2.2.1) (by decide)).to, ?_⟩
  refine List.forall_mem_cons.mpr ⟨(s_put (ci := 11) (k := 41) (am_dp pw_X11_init_288 dd_X11_init_288a.2.2.2.1) rfl (by decide) wd1374 inX11 tyX11_ok nmX11 rfl rfl).to, ?_⟩
  refine List.forall_mem_cons.mpr ⟨(s_aloadn (am_dp pw_X11_init_288 dd_X11_init_288a.2.2.2.2.1) rfl).to, ?_⟩
  refine List.forall_mem_cons.mpr ⟨(s_bipush (am_dp pw_X11_init_288 dd_X11_init_288a.2.2.2.2.2.1) (by decide)).to, ?_⟩
  refine List.forall_mem_cons.mpr ⟨(s_newa (kd := 0) (ty := .int) (am_dp pw_X11_init_288 dd_X11_init_288a.2.2.2.2.2.2.1) rfl rfl wd195 (by decide) (by decide) (fun _ _ h => h)).to, ?_⟩
  refine List.forall_mem_cons.mpr ⟨(s_putF (ci := 11) (k := 42) (am_dp pw_X11_init_288 dd_X11_init_288a.2.2.2.2.2.2.2) rfl (by decide) wd1375 inX11 tyX11_ok nmX11 rfl rfl rfl rfl).to, ?_⟩
  refine List.forall_mem_cons.mpr ⟨(s_aloadn (am_dp pw_X11_init_288 dd_X11_init_288b.1) rfl).to, ?_⟩
  refine List.forall_mem_cons.mpr ⟨(s_bipush (am_dp pw_X11_init_288 dd_X11_init_288b.2.1) (by decide)).to, ?_⟩
  refine List.forall_mem_cons.mpr ⟨(s_newa (kd := 0) (ty := .int) (am_dp pw_X11_init_288 dd_X11_init_288b.2.2.1) rfl rfl wd195 (by decide) (by decide) (fun _ _ h => h)).to, ?_⟩
  refine List.forall_mem_cons.mpr ⟨(s_putF (ci := 11) (k := 43) (am_dp pw_X11_init_288 dd_X11_init_288b.2.2.2.1) rfl (by decide) wd1376 inX11 tyX11_ok nmX11 rfl rfl rfl rfl).to, ?_⟩
  refine List.forall_mem_cons.mpr ⟨(s_aloadn (am_dp pw_X11_init_288 dd_X11_init_288b.2.2.2.2.1) rfl).to, ?_⟩
  refine List.forall_mem_cons.mpr ⟨(s_bipush (am_dp pw_X11_init_288 dd_X11_init_288b.2.2.2.2.2.1) (by decide)).to, ?_⟩
  refine List.forall_mem_cons.mpr ⟨(s_newa (kd := 2) (ty := .boolean) (am_dp pw_X11_init_288 dd_X11_init_288b.2.2.2.2.2.2.1) rfl rfl wd304 (by decide) (by decide) (fun _ _ h => h)).to, ?_⟩
  refine List.forall_mem_cons.mpr ⟨(s_putF (ci := 11) (k := 44) (am_dp pw_X11_init_288 dd_X11_init_288b.2.2.2.2.2.2.2) rfl (by decide) wd1377 inX11 tyX11_ok nmX11 rfl rfl rfl rfl).to, ?_⟩
  refine List.forall_mem_cons.mpr ⟨(s_aloadn (am_dp pw_X11_init_320 dd_X11_init_320a.1) rfl).to, ?_⟩
  refine List.forall_mem_cons.mpr ⟨(s_bipush (am_dp pw_X11_init_320 dd_X11_init_320a.2.1) (by decide)).to, ?_⟩
  refine List.forall_mem_cons.mpr ⟨(s_newa (kd := 0) (ty := .int) (am_dp pw_X11_init_320 dd_X11_init_320a.2.2.1) rfl rfl wd195 (by decide) (by decide) (fun _ _ h => h)).to, ?_⟩
  refine List.forall_mem_cons.mpr ⟨(s_putF (ci := 11) (k := 45) (am_dp pw_X11_init_320 dd_X11_init_320a.2.2.2.1) rfl (by decide) wd1378 inX11 tyX11_ok nmX11 rfl rfl rfl rfl).to, ?_⟩
  refine List.forall_mem_cons.mpr ⟨(s_aloadn (am_dp pw_X11_init_320 dd_X11_init_320a.2.2.2.2.1) rfl).to, ?_⟩
  refine List.forall_mem_cons.mpr ⟨(s_bipush (am_dp pw_X11_init_320 dd_X11_init_320a.2.2.2.2.2.1) (by decide)).to, ?_⟩
  refine List.forall_mem_cons.mpr ⟨(s_newa (kd := 0) (ty := .int) (am_dp pw_X11_init_320 dd_X11_init_320a.2.2.2.2.2.2.1) rfl rfl wd195 (by decide) (by decide) (fun _ _ h => h)).to, ?_⟩
  refine List.forall_mem_cons.mpr ⟨(s_putF (ci := 11) (k := 46) (am_dp pw_X11_init_320 dd_X11_init_320a.2.2.2.2.2.2.2) rfl (by decide) wd1379 inX11 tyX11_ok nmX11 rfl rfl rfl rfl).to, ?_⟩
  refine List.forall_mem_cons.mpr ⟨(s_aloadn (am_dp pw_X11_init_320 dd_X11_init_320b.1) rfl).to, ?_⟩
  refine List.forall_mem_cons.mpr ⟨(s_iconst (am_dp pw_X11_init_320 dd_X11_init_320b.2.1) (by decide)).to, ?_⟩
  refine List.forall_mem_cons.mpr ⟨(s_put (ci := 11) (k := 47) (am_dp pw_X11_init_320 dd_X11_init_320b.2.2.1) rfl (by decide) wd1380 inX11 tyX11_ok nmX11 rfl rfl).to, ?_⟩
  refine List.forall_mem_cons.mpr ⟨(s_aloadn (am_dp pw_X11_init_320 dd_X11_init_320b.2.2.2.1) rfl).to, ?_⟩
  exact fun _ h => absurd h List.not_mem_nil
theorem sn_tX11_init_3 : ∀ q ∈ tX11_init_3, am_Snd am_P0 RX11 cX11_init 2 (Option.none : Option FieldType) "<init>" q.1 q.2 := by
  unfold tX11_init_3
  refine List.forall_mem_cons.mpr ⟨(s_iconst (am_dp pw_X11_init_320 dd_X11_init_320b.2.2.2.2.1) (by decide)).to, ?_⟩
  refine List.forall_mem_cons.mpr ⟨(s_put (ci := 11) (k := 48) (am_dp pw_X11_init_320 dd_X11_init_320b.2.2.2.2.2.1) rfl (by decide) wd1381 inX11 tyX11_ok nmX11 rfl rfl).to, ?_⟩
  refine List.forall_mem_cons.mpr ⟨(s_aloadn (am_dp pw_X11_init_320 dd_X11_init_320b.2.2.2.2.2.2.1) rfl).to, ?_⟩
  refine List.forall_mem_cons.mpr ⟨(s_sipush (am_dp pw_X11_init_320 dd_X11_init_320b.2.2.2.2.2.2.2) (by decide)).to, ?_⟩
  refine List.forall_mem_cons.mpr ⟨(s_newa (kd := 0) (ty := .int) (am_dp pw_X11_init_320 dd_X11_init_320c) rfl rfl wd195 (by decide) (by decide) (fun _ _ h => h)).to, ?_⟩
  refine List.forall_mem_cons.mpr ⟨(s_putF (ci := 11) (k := 49) (am_dp pw_X11_init_352 dd_X11_init_352a.1) rfl (by decide) wd1382 inX11 tyX11_ok nmX11 rfl rfl rfl rfl).to, ?_⟩
  refine List.forall_mem_cons.mpr ⟨(s_aloadn (am_dp pw_X11_init_352 dd_X11_init_352a.2.1) rfl).to, ?_⟩
  refine List.forall_mem_cons.mpr ⟨(s_iconst (am_dp pw_X11_init_352 dd_X11_init_352a.2.2.1) (by decide)).to, ?_⟩
  refine List.forall_mem_cons.mpr ⟨(s_put (ci := 11) (k := 50) (am_dp pw_X11_init_352 dd_X11_init_352a.2.2.2.1) rfl (by decide) wd1383 inX11 tyX11_ok nmX11 rfl rfl).to, ?_⟩
  refine List.forall_mem_cons.mpr ⟨(s_aloadn (am_dp pw_X11_init_352 dd_X11_init_352a.2.2.2.2.1) rfl).to, ?_⟩
  refine List.forall_mem_cons.mpr ⟨(s_iconst (am_dp pw_X11_init_352 dd_X11_init_352a.2.2.2.2.2.1) (by decide)).to, ?_⟩
  refine List.forall_mem_cons.mpr ⟨(s_put (ci := 11) (k := 51) (am_dp pw_X11_init_352 dd_X11_init_352a.2.2.2.2.2.2.1) rfl (by decide) wd1384 inX11 tyX11_ok nmX11 rfl rfl).to, ?_⟩
  refine List.forall_mem_cons.mpr ⟨(s_aloadn (am_dp pw_X11_init_352 dd_X11_init_352a.2.2.2.2.2.2.2) rfl).to, ?_⟩
  refine List.forall_mem_cons.mpr ⟨(s_iconst (am_dp pw_X11_init_352 dd_X11_init_352b.1) (by decide)).to, ?_⟩
  refine List.forall_mem_cons.mpr ⟨(s_newa (kd := 0) (ty := .int) (am_dp pw_X11_init_352 dd_X11_init_352b.2.1) rfl rfl wd195 (by decide) (by decide) (fun _ _ h => h)).to, ?_⟩
  refine List.forall_mem_cons.mpr ⟨(s_putF (ci := 11) (k := 52) (am_dp pw_X11_init_352 dd_X11_init_352b.2.2.1) rfl (by decide) wd1385 inX11 tyX11_ok nmX11 rfl rfl rfl rfl).to, ?_⟩
  refine List.forall_mem_cons.mpr ⟨(s_aloadn (am_dp pw_X11_init_352 dd_X11_init_352b.2.2.2.1) rfl).to, ?_⟩
  refine List.forall_mem_cons.mpr ⟨(s_sipush (am_dp pw_X11_init_352 dd_X11_init_352b.2.2.2.2.1) (by decide)).to, ?_⟩
  refine List.forall_mem_cons.mpr ⟨(s_newa (kd := 1) (ty := .long) (am_dp pw_X11_init_352 dd_X11_init_352b.2.2.2.2.2.1) rfl rfl wd303 (by decide) (by decide) (fun _ _ h => h)).to, ?_⟩
  refine List.forall_mem_cons.mpr ⟨(s_putF (ci := 11) (k := 53) (am_dp pw_X11_init_352 dd_X11_init_352b.2.2.2.2.2.2.1) rfl (by decide) wd1386 inX11 tyX11_ok nmX11 rfl rfl rfl rfl).to, ?_⟩
  refine List.forall_mem_cons.mpr ⟨(s_aloadn (am_dp pw_X11_init_352 dd_X11_init_352b.2.2.2.2.2.2.2) rfl).to, ?_⟩
  refine List.forall_mem_cons.mpr ⟨(s_bipush (am_dp pw_X11_init_352 dd_X11_init_352c) (by decide)).to, ?_⟩
  refine List.forall_mem_cons.mpr ⟨(s_newa (kd := 0) (ty := .int) (am_dp pw_X11_init_384 dd_X11_init_384a.1) rfl rfl wd195 (by decide) (by decide) (fun _ _ h => h)).to, ?_⟩
  refine List.forall_mem_cons.mpr ⟨(s_putF (ci := 11) (k := 54) (am_dp pw_X11_init_384 dd_X11_init_384a.2.1) rfl (by decide) wd1387 inX11 tyX11_ok nmX11 rfl rfl rfl rfl).to, ?_⟩
  refine List.forall_mem_cons.mpr ⟨(s_aloadn (am_dp pw_X11_init_384 dd_X11_init_384a.2.2.1) rfl).to, ?_⟩
  refine List.forall_mem_cons.mpr ⟨(s_sipush (am_dp pw_X11_init_384 dd_X11_init_384a.2.2.2.1) (by decide)).to, ?_⟩
  refine List.forall_mem_cons.mpr ⟨(s_newa (kd := 0) (ty := .int) (am_dp pw_X11_init_384 dd_X11_init_384a.2.2.2.2.1) rfl rfl wd195 (by decide) (by decide) (fun _ _ h => h)).to, ?_⟩
  refine List.forall_mem_cons.mpr ⟨(s_putF (ci := 11) (k := 55) (am_dp pw_X11_init_384 dd_X11_init_384a.2.2.2.2.2.1) rfl (by decide) wd1388 inX11 tyX11_ok nmX11 rfl rfl rfl rfl).to, ?_⟩
  refine List.forall_mem_cons.mpr ⟨(s_aloadn (am_dp pw_X11_init_384 dd_X11_init_384a.2.2.2.2.2.2.1) rfl).to, ?_⟩
  refine List.forall_mem_cons.mpr ⟨(s_sipush (am_dp pw_X11_init_384 dd_X11_init_384a.2.2.2.2.2.2.2) (by decide)).to, ?_⟩
  refine List.forall_mem_cons.mpr ⟨(s_newa (kd := 0) (ty := .int) (am_dp pw_X11_init_384 dd_X11_init_384b.1) rfl rfl wd195 (by decide) (by decide) (fun _ _ h => h)).to, ?_⟩
  refine List.forall_mem_cons.mpr ⟨(s_putF (ci := 11) (k := 56) (am_dp pw_X11_init_384 dd_X11_init_384b.2.1) rfl (by decide) wd1389 inX11 tyX11_ok nmX11 rfl rfl rfl rfl).to, ?_⟩
  refine List.forall_mem_cons.mpr ⟨(s_aloadn (am_dp pw_X11_init_384 dd_X11_init_384b.2.2.1) rfl).to, ?_⟩
  refine List.forall_mem_cons.mpr ⟨(s_sipush (am_dp pw_X11_init_384 dd_X11_init_384b.2.2.2.1) (by decide)).to, ?_⟩
  refine List.forall_mem_cons.mpr ⟨(s_newa (kd := 0) (ty := .int) (am_dp pw_X11_init_384 dd_X11_init_384b.2.2.2.2.1) rfl rfl wd195 (by decide) (by decide) (fun _ _ h => h)).to, ?_⟩
  refine List.forall_mem_cons.mpr ⟨(s_putF (ci := 11) (k := 57) (am_dp pw_X11_init_384 dd_X11_init_384b.2.2.2.2.2) rfl (by decide) wd1390 inX11 tyX11_ok nmX11 rfl rfl rfl rfl).to, ?_⟩
  refine List.forall_mem_cons.mpr ⟨(s_aloadn (am_dp pw_X11_init_416 dd_X11_init_416a.1) rfl).to, ?_⟩
  refine List.forall_mem_cons.mpr ⟨(s_sipush (am_dp pw_X11_init_416 dd_X11_init_416a.2.1) (by decide)).to, ?_⟩
  refine List.forall_mem_cons.mpr ⟨(s_newa (kd := 0) (ty := .int) (am_dp pw_X11_init_416 dd_X11_init_416a.2.2.1) rfl rfl wd195 (by decide) (by decide) (fun _ _ h => h)).to, ?_⟩
  refine List.forall_mem_cons.mpr ⟨(s_putF (ci := 11) (k := 58) (am_dp pw_X11_init_416 dd_X11_init_416a.2.2.2.1) rfl (by decide) wd1391 inX11 tyX11_ok nmX11 rfl rfl rfl rfl).to, ?_⟩
  refine List.forall_mem_cons.mpr ⟨(s_aloadn (am_dp pw_X11_init_416 dd_X11_init_416a.2.2.2.2.1) rfl).to, ?_⟩
  refine List.forall_mem_cons.mpr ⟨(s_iconst (am_dp pw_X11_init_416 dd_X11_init_416a.2.2.2.2.2.1) (by decide)).to, ?_⟩
  refine List.forall_mem_cons.mpr ⟨(s_put (ci := 11) (k := 59) (am_dp pw_X11_init_416 dd_X11_init_416a.2.2.2.2.2.2.1) rfl (by decide) wd1392 inX11 tyX11_ok nmX11 rfl rfl).to, ?_⟩
  refine List.forall_mem_cons.mpr ⟨(s_aloadn (am_dp pw_X11_init_416 dd_X11_init_416a.2.2.2.2.2.2.2) rfl).to, ?_⟩
  refine List.forall_mem_cons.mpr ⟨(s_iconst (am_dp pw_X11_init_416 dd_X11_init_416b.1) (by decide)).to, ?_⟩
  refine List.forall_mem_cons.mpr ⟨(s_put (ci := 11) (k := 60) (am_dp pw_X11_init_416 dd_X11_init_416b.2.1) rfl (by decide) wd1393 inX11 tyX11_ok nmX11 rfl rfl).to, ?_⟩
  refine List.forall_mem_cons.mpr ⟨(s_aloadn (am_dp pw_X11_init_416 dd_X11_init_416b.2.2.1) rfl).to, ?_⟩
  refine List.forall_mem_cons.mpr ⟨(s_bipush (am_dp pw_X11_init_416 dd_X11_init_416b.2.2.2.1) (by decide)).to, ?_⟩
  refine List.forall_mem_cons.mpr ⟨(s_newa (kd := 0) (ty := .int) (am_dp pw_X11_init_416 dd_X11_init_416b.2.2.2.2.1) rfl rfl wd195 (by decide) (by decide) (fun _ _ h => h)).to, ?_⟩
  refine List.forall_mem_cons.mpr ⟨(s_putF (ci := 11) (k := 61) (am_dp pw_X11_init_416 dd_X11_init_416b.2.2.2.2.2.1) rfl (by decide) wd1394 inX11 tyX11_ok nmX11 rfl rfl rfl rfl).to, ?_⟩
  refine List.forall_mem_cons.mpr ⟨(s_aloadn (am_dp pw_X11_init_416 dd_X11_init_416b.2.2.2.2.2.2.1) rfl).to, ?_⟩
  refine List.forall_mem_cons.mpr ⟨(s_bipush (am_dp pw_X11_init_416 dd_X11_init_416b.2.2.2.2.2.2.2) (by decide)).to, ?_⟩
  refine List.forall_mem_cons.mpr ⟨(s_newa (kd := 0) (ty := .int) (am_dp pw_X11_init_416 dd_X11_init_416c) rfl rfl wd195 (by decide) (by decide) (fun _ _ h => h)).to, ?_⟩
  refine List.forall_mem_cons.mpr ⟨(s_putF (ci := 11) (k := 62) (am_dp pw_X11_init_448 dd_X11_init_448a.1) rfl (by decide) wd1395 inX11 tyX11_ok nmX11 rfl rfl rfl rfl).to, ?_⟩
  refine List.forall_mem_cons.mpr ⟨(s_aloadn (am_dp pw_X11_init_448 dd_X11_init_448a.2.1) rfl).to, ?_⟩
  refine List.forall_mem_cons.mpr ⟨(s_bipush (am_dp pw_X11_init_448 dd_X11_init_448a.2.2.1) (by decide)).to, ?_⟩
  refine List.forall_mem_cons.mpr ⟨(s_newa (kd := 0) (ty := .int) (am_dp pw_X11_init_448 dd_X11_init_448a.2.2.2.1) rfl rfl wd195 (by decide) (by decide) (fun _ _ h => h)).to, ?_⟩
  refine List.forall_mem_cons.mpr ⟨(s_putF (ci := 11) (k := 63) (am_dp pw_X11_init_448 dd_X11_init_448a.2.2.2.2.1) rfl (by decide) wd1396 inX11 tyX11_ok nmX11 rfl rfl rfl rfl).to, ?_⟩
  refine List.forall_mem_cons.mpr ⟨(s_aloadn (am_dp pw_X11_init_448 dd_X11_init_448a.2.2.2.2.2.1) rfl).to, ?_⟩
  refine List.forall_mem_cons.mpr ⟨(s_iconst (am_dp pw_X11_init_448 dd_X11_init_448a.2.2.2.2.2.2.1) (by decide)).to, ?_⟩
  exact fun _ h => absurd h List.not_mem_nil
theorem sn_tX11_init_4 : ∀ q ∈ tX11_init_4, am_Snd am_P0 RX11 cX11_init 2 (Option.none : Option FieldType) "<init>" q.1 q.2 := by
  unfold tX11_init_4
  refine List.forall_mem_cons.mpr ⟨(s_put (ci := 11) (k := 64) (am_dp pw_X11_init_448 dd_X11_init_448a.2.2.2.2.2.2.2) rfl (by decide) wd1397 inX11 tyX11_ok nmX11 rfl rfl).to, ?_⟩
  refine List.forall_mem_cons.mpr ⟨(s_aloadn (am_dp pw_X11_init_448 dd_X11_init_448b.1) rfl).to, ?_⟩
  refine List.forall_mem_cons.mpr ⟨(s_iconst (am_dp pw_X11_init_448 dd_X11_init_448b.2.1) (by decide)).to, ?_⟩
  refine List.forall_mem_cons.mpr ⟨(s_put (ci := 11) (k := 65) (am_dp pw_X11_init_448 dd_X11_init_448b.2.2.1) rfl (by decide) wd1398 inX11 tyX11_ok nmX11 rfl rfl).to, ?_⟩
  refine List.forall_mem_cons.mpr ⟨(s_aloadn (am_dp pw_X11_init_448 dd_X11_init_448b.2.2.2.1) rfl).to, ?_⟩
  refine List.forall_mem_cons.mpr ⟨(s_iconst (am_dp pw_X11_init_448 dd_X11_init_448b.2.2.2.2.1) (by decide)).to, ?_⟩
  refine List.forall_mem_cons.mpr ⟨(s_put (ci := 11) (k := 66) (am_dp pw_X11_init_448 dd_X11_init_448b.2.2.2.2.2.1) rfl (by decide) wd1399 inX11 tyX11_ok nmX11 rfl rfl).to, ?_⟩
  refine List.forall_mem_cons.mpr ⟨(s_aloadn (am_dp pw_X11_init_448 dd_X11_init_448b.2.2.2.2.2.2.1) rfl).to, ?_⟩
  refine List.forall_mem_cons.mpr ⟨(s_bipush (am_dp pw_X11_init_448 dd_X11_init_448b.2.2.2.2.2.2.2) (by decide)).to, ?_⟩
  refine List.forall_mem_cons.mpr ⟨(s_newa (kd := 0) (ty := .int) (am_dp pw_X11_init_448 dd_X11_init_448c.1) rfl rfl wd195 (by decide) (by decide) (fun _ _ h => h)).to, ?_⟩
  refine List.forall_mem_cons.mpr ⟨(s_putF (ci := 11) (k := 67) (am_dp pw_X11_init_448 dd_X11_init_448c.2) rfl (by decide) wd1400 inX11 tyX11_ok nmX11 rfl rfl rfl rfl).to, ?_⟩
  refine List.forall_mem_cons.mpr ⟨(s_aloadn (am_dp pw_X11_init_480 dd_X11_init_480a.1) rfl).to, ?_⟩
  refine List.forall_mem_cons.mpr ⟨(s_bipush (am_dp pw_X11_init_480 dd_X11_init_480a.2.1) (by decide)).to, ?_⟩
  refine List.forall_mem_cons.mpr ⟨(s_newa (kd := 2) (ty := .boolean) (am_dp pw_X11_init_480 dd_X11_init_480a.2.2.1) rfl rfl wd304 (by decide) (by decide) (fun _ _ h => h)).to, ?_⟩
  refine List.forall_mem_cons.mpr ⟨(s_putF (ci := 11) (k := 68) (am_dp pw_X11_init_480 dd_X11_init_480a.2.2.2.1) rfl (by decide) wd1401 inX11 tyX11_ok nmX11 rfl rfl rfl rfl).to, ?_⟩
  refine List.forall_mem_cons.mpr ⟨(s_aloadn (am_dp pw_X11_init_480 dd_X11_init_480a.2.2.2.2.1) rfl).to, ?_⟩
  refine List.forall_mem_cons.mpr ⟨(s_bipush (am_dp pw_X11_init_480 dd_X11_init_480a.2.2.2.2.2.1) (by decide)).to, ?_⟩
  refine List.forall_mem_cons.mpr ⟨(s_newa (kd := 2) (ty := .boolean) (am_dp pw_X11_init_480 dd_X11_init_480a.2.2.2.2.2.2.1) rfl rfl wd304 (by decide) (by decide) (fun _ _ h => h)).to, ?_⟩
  refine List.forall_mem_cons.mpr ⟨(s_putF (ci := 11) (k := 69) (am_dp pw_X11_init_480 dd_X11_init_480a.2.2.2.2.2.2.2) rfl (by decide) wd1402 inX11 tyX11_ok nmX11 rfl rfl rfl rfl).to, ?_⟩
  refine List.forall_mem_cons.mpr ⟨(s_aloadn (am_dp pw_X11_init_480 dd_X11_init_480b.1) rfl).to, ?_⟩
  refine List.forall_mem_cons.mpr ⟨(s_sipush (am_dp pw_X11_init_480 dd_X11_init_480b.2.1) (by decide)).to, ?_⟩
  refine List.forall_mem_cons.mpr ⟨(s_newa (kd := 2) (ty := .boolean) (am_dp pw_X11_init_480 dd_X11_init_480b.2.2.1) rfl rfl wd304 (by decide) (by decide) (fun _ _ h => h)).to, ?_⟩
  refine List.forall_mem_cons.mpr ⟨(s_putF (ci := 11) (k := 70) (am_dp pw_X11_init_480 dd_X11_init_480b.2.2.2.1) rfl (by decide) wd1403 inX11 tyX11_ok nmX11 rfl rfl rfl rfl).to, ?_⟩
  refine List.forall_mem_cons.mpr ⟨(s_aloadn (am_dp pw_X11_init_480 dd_X11_init_480b.2.2.2.2.1) rfl).to, ?_⟩
  refine List.forall_mem_cons.mpr ⟨(s_bipush (am_dp pw_X11_init_480 dd_X11_init_480b.2.2.2.2.2.1) (by decide)).to, ?_⟩
  refine List.forall_mem_cons.mpr ⟨(s_newa (kd := 0) (ty := .int) (am_dp pw_X11_init_480 dd_X11_init_480b.2.2.2.2.2.2) rfl rfl wd195 (by decide) (by decide) (fun _ _ h => h)).to, ?_⟩
  refine List.forall_mem_cons.mpr ⟨(s_putF (ci := 11) (k := 71) (am_dp pw_X11_init_512 dd_X11_init_512a.1) rfl (by decide) wd1404 inX11 tyX11_ok nmX11 rfl rfl rfl rfl).to, ?_⟩
  refine List.forall_mem_cons.mpr ⟨(s_aloadn (am_dp pw_X11_init_512 dd_X11_init_512a.2.1) rfl).to, ?_⟩
  refine List.forall_mem_cons.mpr ⟨(s_sipush (am_dp pw_X11_init_512 dd_X11_init_512a.2.2.1) (by decide)).to, ?_⟩
  refine List.forall_mem_cons.mpr ⟨(s_newa (kd := 0) (ty := .int) (am_dp pw_X11_init_512 dd_X11_init_512a.2.2.2.1) rfl rfl wd195 (by decide) (by decide) (fun _ _ h => h)).to, ?_⟩
  refine List.forall_mem_cons.mpr ⟨(s_putF (ci := 11) (k := 72) (am_dp pw_X11_init_512 dd_X11_init_512a.2.2.2.2.1) rfl (by decide) wd1405 inX11 tyX11_ok nmX11 rfl rfl rfl rfl).to, ?_⟩
  refine List.forall_mem_cons.mpr ⟨(s_aloadn (am_dp pw_X11_init_512 dd_X11_init_512a.2.2.2.2.2.1) rfl).to, ?_⟩
  refine List.forall_mem_cons.mpr ⟨(s_iconst (am_dp pw_X11_init_512 dd_X11_init_512a.2.2.2.2.2.2.1) (by decide)).to, ?_⟩
  refine List.forall_mem_cons.mpr ⟨(s_put (ci := 11) (k := 73) (am_dp pw_X11_init_512 dd_X11_init_512a.2.2.2.2.2.2.2) rfl (by decide) wd1406 inX11 tyX11_ok nmX11 rfl rfl).to, ?_⟩
  refine List.forall_mem_cons.mpr ⟨(s_aloadn (am_dp pw_X11_init_512 dd_X11_init_512b.1) rfl).to, ?_⟩
  refine List.forall_mem_cons.mpr ⟨(s_bipush (am_dp pw_X11_init_512 dd_X11_init_512b.2.1) (by decide)).to, ?_⟩
  refine List.forall_mem_cons.mpr ⟨(s_newa (kd := 0) (ty := .int) (am_dp pw_X11_init_512 dd_X11_init_512b.2.2.1) rfl rfl wd195 (by decide) (by decide) (fun _ _ h => h)).to, ?_⟩
  refine List.forall_mem_cons.mpr ⟨(s_putF (ci := 11) (k := 74) (am_dp pw_X11_init_512 dd_X11_init_512b.2.2.2.1) rfl (by decide) wd1407 inX11 tyX11_ok nmX11 rfl rfl rfl rfl).to, ?_⟩
  refine List.forall_mem_cons.mpr ⟨(s_aloadn (am_dp pw_X11_init_512 dd_X11_init_512b.2.2.2.2.1) rfl).to, ?_⟩
  refine List.forall_mem_cons.mpr ⟨(s_bipush (am_dp pw_X11_init_512 dd_X11_init_512b.2.2.2.2.2.1) (by decide)).to, ?_⟩
  refine List.forall_mem_cons.mpr ⟨(s_newa (kd := 0) (ty := .int) (am_dp pw_X11_init_512 dd_X11_init_512b.2.2.2.2.2.2.1) rfl rfl wd195 (by decide) (by decide) (fun _ _ h => h)).to, ?_⟩
  refine List.forall_mem_cons.mpr ⟨(s_putF (ci := 11) (k := 75) (am_dp pw_X11_init_512 dd_X11_init_512b.2.2.2.2.2.2.2) rfl (by decide) wd1408 inX11 tyX11_ok nmX11 rfl rfl rfl rfl).to, ?_⟩
  refine List.forall_mem_cons.mpr ⟨(s_aloadn (am_dp pw_X11_init_544 dd_X11_init_544a.1) rfl).to, ?_⟩
  refine List.forall_mem_cons.mpr ⟨(s_sipush (am_dp pw_X11_init_544 dd_X11_init_544a.2.1) (by decide)).to, ?_⟩
  refine List.forall_mem_cons.mpr ⟨(s_newa (kd := 2) (ty := .boolean) (am_dp pw_X11_init_544 dd_X11_init_544a.2.2.1) rfl rfl wd304 (by decide) (by decide) (fun _ _ h => h)).to, ?_⟩
  refine List.forall_mem_cons.mpr ⟨(s_putF (ci := 11) (k := 76) (am_dp pw_X11_init_544 dd_X11_init_544a.2.2.2.1) rfl (by decide) wd1409 inX11 tyX11_ok nmX11 rfl rfl rfl rfl).to, ?_⟩
  refine List.forall_mem_cons.mpr ⟨(s_aloadn (am_dp pw_X11_init_544 dd_X11_init_544a.2.2.2.2.1) rfl).to, ?_⟩
  refine List.forall_mem_cons.mpr ⟨(s_bipush (am_dp pw_X11_init_544 dd_X11_init_544a.2.2.2.2.2.1) (by decide)).to, ?_⟩
  refine List.forall_mem_cons.mpr ⟨(s_newa (kd := 2) (ty := .boolean) (am_dp pw_X11_init_544 dd_X11_init_544a.2.2.2.2.2.2.1) rfl rfl wd304 (by decide) (by decide) (fun _ _ h => h)).to, ?_⟩
  refine List.forall_mem_cons.mpr ⟨(s_putF (ci := 11) (k := 77) (am_dp pw_X11_init_544 dd_X11_init_544a.2.2.2.2.2.2.2) rfl (by decide) wd1410 inX11 tyX11_ok nmX11 rfl rfl rfl rfl).to, ?_⟩
  refine List.forall_mem_cons.mpr ⟨(s_aloadn (am_dp pw_X11_init_544 dd_X11_init_544b.1) rfl).to, ?_⟩
  refine List.forall_mem_cons.mpr ⟨(s_bipush (am_dp pw_X11_init_544 dd_X11_init_544b.2.1) (by decide)).to, ?_⟩
  refine List.forall_mem_cons.mpr ⟨(s_newa (kd := 0) (ty := .int) (am_dp pw_X11_init_544 dd_X11_init_544b.2.2.1) rfl rfl wd195 (by decide) (by decide) (fun _ _ h => h)).to, ?_⟩
  refine List.forall_mem_cons.mpr ⟨(s_putF (ci := 11) (k := 78) (am_dp pw_X11_init_544 dd_X11_init_544b.2.2.2.1) rfl (by decide) wd1411 inX11 tyX11_ok nmX11 rfl rfl rfl rfl).to, ?_⟩
  refine List.forall_mem_cons.mpr ⟨(s_aloadn (am_dp pw_X11_init_544 dd_X11_init_544b.2.2.2.2.1) rfl).to, ?_⟩
  refine List.forall_mem_cons.mpr ⟨(s_bipush (am_dp pw_X11_init_544 dd_X11_init_544b.2.2.2.2.2.1) (by decide)).to, ?_⟩
  refine List.forall_mem_cons.mpr ⟨(s_newa (kd := 1) (ty := .long) (am_dp pw_X11_init_544 dd_X11_init_544b.2.2.2.2.2.2.1) rfl rfl wd303 (by decide) (by decide) (fun _ _ h => h)).to, ?_⟩
  refine List.forall_mem_cons.mpr ⟨(s_putF (ci := 11) (k := 79) (am_dp pw_X11_init_544 dd_X11_init_544b.2.2.2.2.2.2.2) rfl (by decide) wd1412 inX11 tyX11_ok nmX11 rfl rfl rfl rfl).to, ?_⟩
  refine List.forall_mem_cons.mpr ⟨(s_aloadn (am_dp pw_X11_init_576 dd_X11_init_576a.1) rfl).to, ?_⟩
  refine List.forall_mem_cons.mpr ⟨(s_sipush (am_dp pw_X11_init_576 dd_X11_init_576a.2.1) (by decide)).to, ?_⟩
  exact fun _ h => absurd h List.not_mem_nil
theorem sn_tX11_init_5 : ∀ q ∈ tX11_init_5, am_Snd am_P0 RX11 cX11_init 2 (Option.none : Option FieldType) "<init>" q.1 q.2 := by
  unfold tX11_init_5
  refine List.forall_mem_cons.mpr ⟨(s_newa (kd := 0) (ty := .int) (am_dp pw_X11_init_576 dd_X11_init_576a.2.2.1) rfl rfl wd195 (by decide) (by decide) (fun _ _ h => h)).to, ?_⟩
  refine List.forall_mem_cons.mpr ⟨(s_putF (ci := 11) (k := 80) (am_dp pw_X11_init_576 dd_X11_init_576a.2.2.2.1) rfl (by decide) wd1413 inX11 tyX11_ok nmX11 rfl rfl rfl rfl).to, ?_⟩
  refine List.forall_mem_cons.mpr ⟨(s_aloadn (am_dp pw_X11_init_576 dd_X11_init_576a.2.2.2.2.1) rfl).to, ?_⟩
  refine List.forall_mem_cons.mpr ⟨(s_sipush (am_dp pw_X11_init_576 dd_X11_init_576a.2.2.2.2.2.1) (by decide)).to, ?_⟩
  refine List.forall_mem_cons.mpr ⟨(s_newa (kd := 0) (ty := .int) (am_dp pw_X11_init_576 dd_X11_init_576a.2.2.2.2.2.2.1) rfl rfl wd195 (by decide) (by decide) (fun _ _ h => h)).to, ?_⟩
  refine List.forall_mem_cons.mpr ⟨(s_putF (ci := 11) (k := 81) (am_dp pw_X11_init_576 dd_X11_init_576a.2.2.2.2.2.2.2) rfl (by decide) wd1414 inX11 tyX11_ok nmX11 rfl rfl rfl rfl).to, ?_⟩
  refine List.forall_mem_cons.mpr ⟨(s_aloadn (am_dp pw_X11_init_576 dd_X11_init_576b.1) rfl).to, ?_⟩
  refine List.forall_mem_cons.mpr ⟨(s_iconst (am_dp pw_X11_init_576 dd_X11_init_576b.2.1) (by decide)).to, ?_⟩
  refine List.forall_mem_cons.mpr ⟨(s_put (ci := 11) (k := 82) (am_dp pw_X11_init_576 dd_X11_init_576b.2.2.1) rfl (by decide) wd1415 inX11 tyX11_ok nmX11 rfl rfl).to, ?_⟩
  refine List.forall_mem_cons.mpr ⟨(s_aloadn (am_dp pw_X11_init_576 dd_X11_init_576b.2.2.2.1) rfl).to, ?_⟩
  refine List.forall_mem_cons.mpr ⟨(s_get (ci := 11) (k := 37) (am_dp pw_X11_init_576 dd_X11_init_576b.2.2.2.2.1) rfl (by decide) wd1370 inX11 rfl).to, ?_⟩
  refine List.forall_mem_cons.mpr ⟨(s_iconst (am_dp pw_X11_init_576 dd_X11_init_576b.2.2.2.2.2.1) (by decide)).to, ?_⟩
  refine List.forall_mem_cons.mpr ⟨(s_bipush (am_dp pw_X11_init_576 dd_X11_init_576b.2.2.2.2.2.2) (by decide)).to, ?_⟩
  refine List.forall_mem_cons.mpr ⟨(s_iast (am_dp pw_X11_init_608 dd_X11_init_608a.1)).to, ?_⟩
  refine List.forall_mem_cons.mpr ⟨(s_iconst (am_dp pw_X11_init_608 dd_X11_init_608a.2.1) (by decide)).to, ?_⟩
  refine List.forall_mem_cons.mpr ⟨(s_istoren (am_dp pw_X11_init_608 dd_X11_init_608a.2.2.1) rfl (by decide)).to, ?_⟩
  refine List.forall_mem_cons.mpr ⟨(s_iloadn (am_dp pw_X11_init_608 dd_X11_init_608a.2.2.2.1) rfl).to, ?_⟩
  refine List.forall_mem_cons.mpr ⟨(s_sipush (am_dp pw_X11_init_608 dd_X11_init_608a.2.2.2.2.1) (by decide)).to, ?_⟩
  refine List.forall_mem_cons.mpr ⟨(s_icmp_ge (am_dp pw_X11_init_608 dd_X11_init_608a.2.2.2.2.2.1) (by decide)).to, ?_⟩
  refine List.forall_mem_cons.mpr ⟨(s_aloadn (am_dp pw_X11_init_608 dd_X11_init_608a.2.2.2.2.2.2.1) rfl).to, ?_⟩
  refine List.forall_mem_cons.mpr ⟨(s_get (ci := 11) (k := 26) (am_dp pw_X11_init_608 dd_X11_init_608a.2.2.2.2.2.2.2) rfl (by decide) wd1359 inX11 rfl).to, ?_⟩
  refine List.forall_mem_cons.mpr ⟨(s_iloadn (am_dp pw_X11_init_608 dd_X11_init_608b.1) rfl).to, ?_⟩
  refine List.forall_mem_cons.mpr ⟨(s_iconst (am_dp pw_X11_init_608 dd_X11_init_608b.2.1) (by decide)).to, ?_⟩
  refine List.forall_mem_cons.mpr ⟨(s_iast (am_dp pw_X11_init_608 dd_X11_init_608b.2.2.1)).to, ?_⟩
  refine List.forall_mem_cons.mpr ⟨(s_iinc (am_dp pw_X11_init_608 dd_X11_init_608b.2.2.2.1) (by decide) (by decide)).to, ?_⟩
  refine List.forall_mem_cons.mpr ⟨(s_goto (am_dp pw_X11_init_608 dd_X11_init_608b.2.2.2.2.1) (by decide)).to, ?_⟩
  refine List.forall_mem_cons.mpr ⟨s_vret (am_dp pw_X11_init_608 dd_X11_init_608b.2.2.2.2.2) rfl, ?_⟩
  exact fun _ h => absurd h List.not_mem_nil
theorem sn_tX11_init : ∀ q ∈ tX11_init, am_Snd am_P0 RX11 cX11_init 2 (Option.none : Option FieldType) "<init>" q.1 q.2 := by
  unfold tX11_init
  exact List.forall_mem_append.mpr ⟨List.forall_mem_append.mpr ⟨List.forall_mem_append.mpr ⟨List.forall_mem_append.mpr ⟨List.forall_mem_append.mpr ⟨sn_tX11_init_0, sn_tX11_init_1⟩, sn_tX11_init_2⟩, sn_tX11_init_3⟩, sn_tX11_init_4⟩, sn_tX11_init_5⟩
theorem sn_tX11_is : ∀ q ∈ tX11_is, am_Snd am_P0 RX11 cX11_is 3 (Option.some FieldType.boolean) "is" q.1 q.2 := by
  unfold tX11_is
  refine List.forall_mem_cons.mpr ⟨(s_iloadn (am_dp pw_X11_is_0 dd_X11_is_0a.1) rfl).to, ?_⟩
  refine List.forall_mem_cons.mpr ⟨(s_iloadn (am_dp pw_X11_is_0 dd_X11_is_0a.2.1) rfl).to, ?_⟩
  refine List.forall_mem_cons.mpr ⟨(s_icmp_lt (am_dp pw_X11_is_0 dd_X11_is_0a.2.2.1) (by decide)).to, ?_⟩
  refine List.forall_mem_cons.mpr ⟨(s_iloadn (am_dp pw_X11_is_0 dd_X11_is_0a.2.2.2.1) rfl).to, ?_⟩
  refine List.forall_mem_cons.mpr ⟨(s_iloadn (am_dp pw_X11_is_0 dd_X11_is_0a.2.2.2.2.1) rfl).to, ?_⟩
  refine List.forall_mem_cons.mpr ⟨(s_icmp_gt (am_dp pw_X11_is_0 dd_X11_is_0a.2.2.2.2.2.1) (by decide)).to, ?_⟩
  refine List.forall_mem_cons.mpr ⟨(s_iconst (am_dp pw_X11_is_0 dd_X11_is_0a.2.2.2.2.2.2.1) (by decide)).to, ?_⟩
  refine List.forall_mem_cons.mpr ⟨(s_goto (am_dp pw_X11_is_0 dd_X11_is_0a.2.2.2.2.2.2.2) (by decide)).to, ?_⟩
  refine List.forall_mem_cons.mpr ⟨(s_iconst (am_dp pw_X11_is_0 dd_X11_is_0b.1) (by decide)).to, ?_⟩
  refine List.forall_mem_cons.mpr ⟨s_zret (am_dp pw_X11_is_0 dd_X11_is_0b.2) rfl, ?_⟩
  exact fun _ h => absurd h List.not_mem_nil
theorem sn_tX11_put : ∀ q ∈ tX11_put, am_Snd am_P0 RX11 cX11_put 3 (Option.none : Option FieldType) "put" q.1 q.2 := by
  unfold tX11_put
  refine List.forall_mem_cons.mpr ⟨(s_bipush (am_dp pw_X11_put_0 dd_X11_put_0a.1) (by decide)).to, ?_⟩
  refine List.forall_mem_cons.mpr ⟨(s_istoren (am_dp pw_X11_put_0 dd_X11_put_0a.2.1) rfl (by decide)).to, ?_⟩
  refine List.forall_mem_cons.mpr ⟨(s_iloadn (am_dp pw_X11_put_0 dd_X11_put_0a.2.2.1) rfl).to, ?_⟩
  refine List.forall_mem_cons.mpr ⟨(s_if_lt (am_dp pw_X11_put_0 dd_X11_put_0a.2.2.2.1) (by decide)).to, ?_⟩
  refine List.forall_mem_cons.mpr ⟨(s_aloadn (am_dp pw_X11_put_0 dd_X11_put_0a.2.2.2.2.1) rfl).to, ?_⟩
  refine List.forall_mem_cons.mpr ⟨(s_get (ci := 11) (k := 0) (am_dp pw_X11_put_0 dd_X11_put_0a.2.2.2.2.2.1) rfl (by decide) wd1333 inX11 rfl).to, ?_⟩
  refine List.forall_mem_cons.mpr ⟨(s_aloadn (am_dp pw_X11_put_0 dd_X11_put_0a.2.2.2.2.2.2.1) rfl).to, ?_⟩
  refine List.forall_mem_cons.mpr ⟨(s_get (ci := 11) (k := 1) (am_dp pw_X11_put_0 dd_X11_put_0a.2.2.2.2.2.2.2) rfl (by decide) wd1334 inX11 rfl).to, ?_⟩
  refine List.forall_mem_cons.mpr ⟨(s_iloadn (am_dp pw_X11_put_0 dd_X11_put_0b.1) rfl).to, ?_⟩
  refine List.forall_mem_cons.mpr ⟨(s_iloadn (am_dp pw_X11_put_0 dd_X11_put_0b.2.1) rfl).to, ?_⟩
  refine List.forall_mem_cons.mpr ⟨(s_ishr (am_dp pw_X11_put_0 dd_X11_put_0b.2.2.1)).to, ?_⟩
  refine List.forall_mem_cons.mpr ⟨(s_sipush (am_dp pw_X11_put_0 dd_X11_put_0b.2.2.2.1) (by decide)).to, ?_⟩
  refine List.forall_mem_cons.mpr ⟨(s_iand (am_dp pw_X11_put_0 dd_X11_put_0b.2.2.2.2.1)).to, ?_⟩
  refine List.forall_mem_cons.mpr ⟨(s_iast (am_dp pw_X11_put_0 dd_X11_put_0b.2.2.2.2.2.1)).to, ?_⟩
  refine List.forall_mem_cons.mpr ⟨(s_aloadn (am_dp pw_X11_put_0 dd_X11_put_0b.2.2.2.2.2.2.1) rfl).to, ?_⟩
  refine List.forall_mem_cons.mpr ⟨(s_dup (am_dp pw_X11_put_0 dd_X11_put_0b.2.2.2.2.2.2.2)).to, ?_⟩
  refine List.forall_mem_cons.mpr ⟨(s_get (ci := 11) (k := 1) (am_dp pw_X11_put_0 dd_X11_put_0c.1) rfl (by decide) wd1334 inX11 rfl).to, ?_⟩
  refine List.forall_mem_cons.mpr ⟨(s_iconst (am_dp pw_X11_put_0 dd_X11_put_0c.2.1) (by decide)).to, ?_⟩
  refine List.forall_mem_cons.mpr ⟨(s_iadd (am_dp pw_X11_put_0 dd_X11_put_0c.2.2.1)).to, ?_⟩
  refine List.forall_mem_cons.mpr ⟨(s_put (ci := 11) (k := 1) (am_dp pw_X11_put_0 dd_X11_put_0c.2.2.2) rfl (by decide) wd1334 inX11 tyX11_ok nmX11 rfl rfl).to, ?_⟩
  refine List.forall_mem_cons.mpr ⟨(s_iinc (am_dp pw_X11_put_32 dd_X11_put_32a.1) (by decide) (by decide)).to, ?_⟩
  refine List.forall_mem_cons.mpr ⟨(s_goto (am_dp pw_X11_put_32 dd_X11_put_32a.2.1) (by decide)).to, ?_⟩
  refine List.forall_mem_cons.mpr ⟨s_vret (am_dp pw_X11_put_32 dd_X11_put_32a.2.2) rfl, ?_⟩
  exact fun _ h => absurd h List.not_mem_nil
theorem sn_tX11_feed : ∀ q ∈ tX11_feed, am_Snd am_P0 RX11 cX11_feed 6 (Option.some FieldType.int) "feed" q.1 q.2 := by
  unfold tX11_feed
  refine List.forall_mem_cons.mpr ⟨(s_aloadn (am_dp pw_X11_feed_0 dd_X11_feed_0a.1) rfl).to, ?_⟩
  refine List.forall_mem_cons.mpr ⟨(s_get (ci := 11) (k := 1) (am_dp pw_X11_feed_0 dd_X11_feed_0a.2.1) rfl (by decide) wd1334 inX11 rfl).to, ?_⟩
  refine List.forall_mem_cons.mpr ⟨(s_bipush (am_dp pw_X11_feed_0 dd_X11_feed_0a.2.2.1) (by decide)).to, ?_⟩
  refine List.forall_mem_cons.mpr ⟨(s_iadd (am_dp pw_X11_feed_0 dd_X11_feed_0a.2.2.2.1)).to, ?_⟩
  refine List.forall_mem_cons.mpr ⟨(s_sipush (am_dp pw_X11_feed_0 dd_X11_feed_0a.2.2.2.2.1) (by decide)).to, ?_⟩
  refine List.forall_mem_cons.mpr ⟨(s_icmp_le (am_dp pw_X11_feed_0 dd_X11_feed_0a.2.2.2.2.2.1) (by decide)).to, ?_⟩
  refine List.forall_mem_cons.mpr ⟨(s_aloadn (am_dp pw_X11_feed_0 dd_X11_feed_0a.2.2.2.2.2.2.1) rfl).to, ?_⟩
  refine List.forall_mem_cons.mpr ⟨(s_iconst (am_dp pw_X11_feed_0 dd_X11_feed_0a.2.2.2.2.2.2.2) (by decide)).to, ?_⟩
  refine List.forall_mem_cons.mpr ⟨zw_cv208 (am_dp pw_X11_feed_0 dd_X11_feed_0b.1) wd1587, ?_⟩
  refine List.forall_mem_cons.mpr ⟨s_iret (am_dp pw_X11_feed_0 dd_X11_feed_0b.2.1) rfl, ?_⟩
  refine List.forall_mem_cons.mpr ⟨(s_aloadn (am_dp pw_X11_feed_0 dd_X11_feed_0b.2.2.1) rfl).to, ?_⟩
  refine List.forall_mem_cons.mpr ⟨(s_iloadn (am_dp pw_X11_feed_0 dd_X11_feed_0b.2.2.2.1) rfl).to, ?_⟩
  refine List.forall_mem_cons.mpr ⟨zw_cv168 (am_dp pw_X11_feed_0 dd_X11_feed_0b.2.2.2.2.1) wd1591, ?_⟩
  refine List.forall_mem_cons.mpr ⟨(s_aloadn (am_dp pw_X11_feed_0 dd_X11_feed_0b.2.2.2.2.2.1) rfl).to, ?_⟩
  refine List.forall_mem_cons.mpr ⟨(s_iloadn (am_dp pw_X11_feed_0 dd_X11_feed_0b.2.2.2.2.2.2.1) rfl).to, ?_⟩
  refine List.forall_mem_cons.mpr ⟨zw_cv168 (am_dp pw_X11_feed_0 dd_X11_feed_0b.2.2.2.2.2.2.2) wd1591, ?_⟩
  refine List.forall_mem_cons.mpr ⟨(s_aloadn (am_dp pw_X11_feed_0 dd_X11_feed_0c.1) rfl).to, ?_⟩
  refine List.forall_mem_cons.mpr ⟨(s_iloadn (am_dp pw_X11_feed_0 dd_X11_feed_0c.2.1) rfl).to, ?_⟩
  refine List.forall_mem_cons.mpr ⟨zw_cv168 (am_dp pw_X11_feed_0 dd_X11_feed_0c.2.2) wd1591, ?_⟩
  refine List.forall_mem_cons.mpr ⟨(s_aloadn (am_dp pw_X11_feed_32 dd_X11_feed_32a.1) rfl).to, ?_⟩
  refine List.forall_mem_cons.mpr ⟨(s_iload (am_dp pw_X11_feed_32 dd_X11_feed_32a.2.1)).to, ?_⟩
  refine List.forall_mem_cons.mpr ⟨zw_cv168 (am_dp pw_X11_feed_32 dd_X11_feed_32a.2.2.1) wd1591, ?_⟩
  refine List.forall_mem_cons.mpr ⟨(s_aloadn (am_dp pw_X11_feed_32 dd_X11_feed_32a.2.2.2.1) rfl).to, ?_⟩
  refine List.forall_mem_cons.mpr ⟨(s_iload (am_dp pw_X11_feed_32 dd_X11_feed_32a.2.2.2.2.1)).to, ?_⟩
  refine List.forall_mem_cons.mpr ⟨zw_cv168 (am_dp pw_X11_feed_32 dd_X11_feed_32a.2.2.2.2.2.1) wd1591, ?_⟩
  refine List.forall_mem_cons.mpr ⟨(s_aloadn (am_dp pw_X11_feed_32 dd_X11_feed_32a.2.2.2.2.2.2.1) rfl).to, ?_⟩
  refine List.forall_mem_cons.mpr ⟨(s_get (ci := 11) (k := 1) (am_dp pw_X11_feed_32 dd_X11_feed_32a.2.2.2.2.2.2.2) rfl (by decide) wd1334 inX11 rfl).to, ?_⟩
  refine List.forall_mem_cons.mpr ⟨s_iret (am_dp pw_X11_feed_32 dd_X11_feed_32b) rfl, ?_⟩
  exact fun _ h => absurd h List.not_mem_nil
theorem sn_tX11_end : ∀ q ∈ tX11_end, am_Snd am_P0 RX11 cX11_end 2 (Option.some FieldType.boolean) "end" q.1 q.2 := by
  unfold tX11_end
  refine List.forall_mem_cons.mpr ⟨(s_iloadn (am_dp pw_X11_end_0 dd_X11_end_0a.1) rfl).to, ?_⟩
  refine List.forall_mem_cons.mpr ⟨(s_if_lt (am_dp pw_X11_end_0 dd_X11_end_0a.2.1) (by decide)).to, ?_⟩
  refine List.forall_mem_cons.mpr ⟨(s_iloadn (am_dp pw_X11_end_0 dd_X11_end_0a.2.2.1) rfl).to, ?_⟩
  refine List.forall_mem_cons.mpr ⟨(s_aloadn (am_dp pw_X11_end_0 dd_X11_end_0a.2.2.2.1) rfl).to, ?_⟩
  refine List.forall_mem_cons.mpr ⟨(s_get (ci := 11) (k := 1) (am_dp pw_X11_end_0 dd_X11_end_0a.2.2.2.2.1) rfl (by decide) wd1334 inX11 rfl).to, ?_⟩
  refine List.forall_mem_cons.mpr ⟨(s_icmp_le (am_dp pw_X11_end_0 dd_X11_end_0a.2.2.2.2.2.1) (by decide)).to, ?_⟩
  refine List.forall_mem_cons.mpr ⟨(s_aloadn (am_dp pw_X11_end_0 dd_X11_end_0a.2.2.2.2.2.2.1) rfl).to, ?_⟩
  refine List.forall_mem_cons.mpr ⟨(s_iconst (am_dp pw_X11_end_0 dd_X11_end_0a.2.2.2.2.2.2.2) (by decide)).to, ?_⟩
  refine List.forall_mem_cons.mpr ⟨zw_cv208 (am_dp pw_X11_end_0 dd_X11_end_0b.1) wd1587, ?_⟩
  refine List.forall_mem_cons.mpr ⟨(s_if_lt (am_dp pw_X11_end_0 dd_X11_end_0b.2.1) (by decide)).to, ?_⟩
  refine List.forall_mem_cons.mpr ⟨(s_iconst (am_dp pw_X11_end_0 dd_X11_end_0b.2.2.1) (by decide)).to, ?_⟩
  refine List.forall_mem_cons.mpr ⟨(s_goto (am_dp pw_X11_end_0 dd_X11_end_0b.2.2.2.1) (by decide)).to, ?_⟩
  refine List.forall_mem_cons.mpr ⟨(s_iconst (am_dp pw_X11_end_0 dd_X11_end_0b.2.2.2.2.1) (by decide)).to, ?_⟩
  refine List.forall_mem_cons.mpr ⟨s_zret (am_dp pw_X11_end_0 dd_X11_end_0b.2.2.2.2.2.1) rfl, ?_⟩
  refine List.forall_mem_cons.mpr ⟨(s_aloadn (am_dp pw_X11_end_0 dd_X11_end_0b.2.2.2.2.2.2.1) rfl).to, ?_⟩
  refine List.forall_mem_cons.mpr ⟨(s_iloadn (am_dp pw_X11_end_0 dd_X11_end_0b.2.2.2.2.2.2.2) rfl).to, ?_⟩
  refine List.forall_mem_cons.mpr ⟨(s_put (ci := 11) (k := 1) (am_dp pw_X11_end_0 dd_X11_end_0c.1) rfl (by decide) wd1334 inX11 tyX11_ok nmX11 rfl rfl).to, ?_⟩
  refine List.forall_mem_cons.mpr ⟨(s_iconst (am_dp pw_X11_end_0 dd_X11_end_0c.2) (by decide)).to, ?_⟩
  refine List.forall_mem_cons.mpr ⟨s_zret (am_dp pw_X11_end_32 dd_X11_end_32a) rfl, ?_⟩
  exact fun _ h => absurd h List.not_mem_nil
theorem sn_tX11_blame : ∀ q ∈ tX11_blame, am_Snd am_P0 RX11 cX11_blame 3 (Option.none : Option FieldType) "blame" q.1 q.2 := by
  unfold tX11_blame
  refine List.forall_mem_cons.mpr ⟨(s_aloadn (am_dp pw_X11_blame_0 dd_X11_blame_0a.1) rfl).to, ?_⟩
  refine List.forall_mem_cons.mpr ⟨(s_get (ci := 11) (k := 8) (am_dp pw_X11_blame_0 dd_X11_blame_0a.2.1) rfl (by decide) wd1341 inX11 rfl).to, ?_⟩
  refine List.forall_mem_cons.mpr ⟨(s_if_le (am_dp pw_X11_blame_0 dd_X11_blame_0a.2.2.1) (by decide)).to, ?_⟩
  refine List.forall_mem_cons.mpr ⟨s_vret (am_dp pw_X11_blame_0 dd_X11_blame_0a.2.2.2.1) rfl, ?_⟩
  refine List.forall_mem_cons.mpr ⟨(s_aloadn (am_dp pw_X11_blame_0 dd_X11_blame_0a.2.2.2.2.1) rfl).to, ?_⟩
  refine List.forall_mem_cons.mpr ⟨(s_iloadn (am_dp pw_X11_blame_0 dd_X11_blame_0a.2.2.2.2.2.1) rfl).to, ?_⟩
  refine List.forall_mem_cons.mpr ⟨(s_put (ci := 11) (k := 8) (am_dp pw_X11_blame_0 dd_X11_blame_0a.2.2.2.2.2.2.1) rfl (by decide) wd1341 inX11 tyX11_ok nmX11 rfl rfl).to, ?_⟩
  refine List.forall_mem_cons.mpr ⟨(s_aloadn (am_dp pw_X11_blame_0 dd_X11_blame_0a.2.2.2.2.2.2.2) rfl).to, ?_⟩
  refine List.forall_mem_cons.mpr ⟨(s_iloadn (am_dp pw_X11_blame_0 dd_X11_blame_0b.1) rfl).to, ?_⟩
  refine List.forall_mem_cons.mpr ⟨(s_put (ci := 11) (k := 9) (am_dp pw_X11_blame_0 dd_X11_blame_0b.2.1) rfl (by decide) wd1342 inX11 tyX11_ok nmX11 rfl rfl).to, ?_⟩
  refine List.forall_mem_cons.mpr ⟨s_vret (am_dp pw_X11_blame_0 dd_X11_blame_0b.2.2) rfl, ?_⟩
  exact fun _ h => absurd h List.not_mem_nil
theorem sn_tX11_isLetter : ∀ q ∈ tX11_isLetter, am_Snd am_P0 RX11 cX11_isLetter 1 (Option.some FieldType.boolean) "isLetter" q.1 q.2 := by
  unfold tX11_isLetter
  refine List.forall_mem_cons.mpr ⟨(s_iloadn (am_dp pw_X11_isLetter_0 dd_X11_isLetter_0a.1) rfl).to, ?_⟩
  refine List.forall_mem_cons.mpr ⟨(s_bipush (am_dp pw_X11_isLetter_0 dd_X11_isLetter_0a.2.1) (by decide)).to, ?_⟩
  refine List.forall_mem_cons.mpr ⟨(s_icmp_lt (am_dp pw_X11_isLetter_0 dd_X11_isLetter_0a.2.2.1) (by decide)).to, ?_⟩
  refine List.forall_mem_cons.mpr ⟨(s_iloadn (am_dp pw_X11_isLetter_0 dd_X11_isLetter_0a.2.2.2.1) rfl).to, ?_⟩
  refine List.forall_mem_cons.mpr ⟨(s_bipush (am_dp pw_X11_isLetter_0 dd_X11_isLetter_0a.2.2.2.2.1) (by decide)).to, ?_⟩
  refine List.forall_mem_cons.mpr ⟨(s_icmp_gt (am_dp pw_X11_isLetter_0 dd_X11_isLetter_0a.2.2.2.2.2.1) (by decide)).to, ?_⟩
  refine List.forall_mem_cons.mpr ⟨(s_iconst (am_dp pw_X11_isLetter_0 dd_X11_isLetter_0a.2.2.2.2.2.2.1) (by decide)).to, ?_⟩
  refine List.forall_mem_cons.mpr ⟨(s_goto (am_dp pw_X11_isLetter_0 dd_X11_isLetter_0a.2.2.2.2.2.2.2) (by decide)).to, ?_⟩
  refine List.forall_mem_cons.mpr ⟨(s_iconst (am_dp pw_X11_isLetter_0 dd_X11_isLetter_0b.1) (by decide)).to, ?_⟩
  refine List.forall_mem_cons.mpr ⟨s_zret (am_dp pw_X11_isLetter_0 dd_X11_isLetter_0b.2) rfl, ?_⟩
  exact fun _ h => absurd h List.not_mem_nil
theorem sn_tX11_isDigit : ∀ q ∈ tX11_isDigit, am_Snd am_P0 RX11 cX11_isDigit 1 (Option.some FieldType.boolean) "isDigit" q.1 q.2 := by
  unfold tX11_isDigit
  refine List.forall_mem_cons.mpr ⟨(s_iloadn (am_dp pw_X11_isDigit_0 dd_X11_isDigit_0a.1) rfl).to, ?_⟩
  refine List.forall_mem_cons.mpr ⟨(s_bipush (am_dp pw_X11_isDigit_0 dd_X11_isDigit_0a.2.1) (by decide)).to, ?_⟩
  refine List.forall_mem_cons.mpr ⟨(s_icmp_lt (am_dp pw_X11_isDigit_0 dd_X11_isDigit_0a.2.2.1) (by decide)).to, ?_⟩
  refine List.forall_mem_cons.mpr ⟨(s_iloadn (am_dp pw_X11_isDigit_0 dd_X11_isDigit_0a.2.2.2.1) rfl).to, ?_⟩
  refine List.forall_mem_cons.mpr ⟨(s_bipush (am_dp pw_X11_isDigit_0 dd_X11_isDigit_0a.2.2.2.2.1) (by decide)).to, ?_⟩
  refine List.forall_mem_cons.mpr ⟨(s_icmp_gt (am_dp pw_X11_isDigit_0 dd_X11_isDigit_0a.2.2.2.2.2.1) (by decide)).to, ?_⟩
  refine List.forall_mem_cons.mpr ⟨(s_iconst (am_dp pw_X11_isDigit_0 dd_X11_isDigit_0a.2.2.2.2.2.2.1) (by decide)).to, ?_⟩
  refine List.forall_mem_cons.mpr ⟨(s_goto (am_dp pw_X11_isDigit_0 dd_X11_isDigit_0a.2.2.2.2.2.2.2) (by decide)).to, ?_⟩
  refine List.forall_mem_cons.mpr ⟨(s_iconst (am_dp pw_X11_isDigit_0 dd_X11_isDigit_0b.1) (by decide)).to, ?_⟩
  refine List.forall_mem_cons.mpr ⟨s_zret (am_dp pw_X11_isDigit_0 dd_X11_isDigit_0b.2) rfl, ?_⟩
  exact fun _ h => absurd h List.not_mem_nil
theorem sn_tX11_ahead_0 : ∀ q ∈ tX11_ahead_0, am_Snd am_P0 RX11 cX11_ahead 6 (Option.none : Option FieldType) "ahead" q.1 q.2 := by
  unfold tX11_ahead_0
  refine List.forall_mem_cons.mpr ⟨(s_aloadn (am_dp pw_X11_ahead_0 dd_X11_ahead_0a.1) rfl).to, ?_⟩
  refine List.forall_mem_cons.mpr ⟨(s_get (ci := 11) (k := 5) (am_dp pw_X11_ahead_0 dd_X11_ahead_0a.2.1) rfl (by decide) wd1338 inX11 rfl).to, ?_⟩
  refine List.forall_mem_cons.mpr ⟨(s_istoren (am_dp pw_X11_ahead_0 dd_X11_ahead_0a.2.2.1) rfl (by decide)).to, ?_⟩
  refine List.forall_mem_cons.mpr ⟨(s_iloadn (am_dp pw_X11_ahead_0 dd_X11_ahead_0a.2.2.2.1) rfl).to, ?_⟩
  refine List.forall_mem_cons.mpr ⟨(s_aloadn (am_dp pw_X11_ahead_0 dd_X11_ahead_0a.2.2.2.2.1) rfl).to, ?_⟩
  refine List.forall_mem_cons.mpr ⟨(s_get (ci := 11) (k := 2) (am_dp pw_X11_ahead_0 dd_X11_ahead_0a.2.2.2.2.2.1) rfl (by decide) wd1335 inX11 rfl).to, ?_⟩
  refine List.forall_mem_cons.mpr ⟨(s_icmp_ge (am_dp pw_X11_ahead_0 dd_X11_ahead_0a.2.2.2.2.2.2.1) (by decide)).to, ?_⟩
  refine List.forall_mem_cons.mpr ⟨(s_aloadn (am_dp pw_X11_ahead_0 dd_X11_ahead_0a.2.2.2.2.2.2.2) rfl).to, ?_⟩
  refine List.forall_mem_cons.mpr ⟨(s_get (ci := 11) (k := 0) (am_dp pw_X11_ahead_0 dd_X11_ahead_0b.1) rfl (by decide) wd1333 inX11 rfl).to, ?_⟩
  refine List.forall_mem_cons.mpr ⟨(s_iloadn (am_dp pw_X11_ahead_0 dd_X11_ahead_0b.2.1) rfl).to, ?_⟩
  refine List.forall_mem_cons.mpr ⟨(s_iald (am_dp pw_X11_ahead_0 dd_X11_ahead_0b.2.2.1)).to, ?_⟩
  refine List.forall_mem_cons.mpr ⟨(s_bipush (am_dp pw_X11_ahead_0 dd_X11_ahead_0b.2.2.2.1) (by decide)).to, ?_⟩
  refine List.forall_mem_cons.mpr ⟨(s_icmp_eq (am_dp pw_X11_ahead_0 dd_X11_ahead_0b.2.2.2.2.1) (by decide)).to, ?_⟩
  refine List.forall_mem_cons.mpr ⟨(s_aloadn (am_dp pw_X11_ahead_0 dd_X11_ahead_0b.2.2.2.2.2.1) rfl).to, ?_⟩
  refine List.forall_mem_cons.mpr ⟨(s_get (ci := 11) (k := 0) (am_dp pw_X11_ahead_0 dd_X11_ahead_0b.2.2.2.2.2.2.1) rfl (by decide) wd1333 inX11 rfl).to, ?_⟩
  refine List.forall_mem_cons.mpr ⟨(s_iloadn (am_dp pw_X11_ahead_0 dd_X11_ahead_0b.2.2.2.2.2.2.2) rfl).to, ?_⟩
  refine List.forall_mem_cons.mpr ⟨(s_iald (am_dp pw_X11_ahead_0 dd_X11_ahead_0c.1)).to, ?_⟩
  refine List.forall_mem_cons.mpr ⟨(s_bipush (am_dp pw_X11_ahead_0 dd_X11_ahead_0c.2) (by decide)).to, ?_⟩
  refine List.forall_mem_cons.mpr ⟨(s_icmp_ne (am_dp pw_X11_ahead_32 dd_X11_ahead_32a.1) (by decide)).to, ?_⟩
  refine List.forall_mem_cons.mpr ⟨(s_iinc (am_dp pw_X11_ahead_32 dd_X11_ahead_32a.2.1) (by decide) (by decide)).to, ?_⟩
  refine List.forall_mem_cons.mpr ⟨(s_goto (am_dp pw_X11_ahead_32 dd_X11_ahead_32a.2.2.1) (by decide)).to, ?_⟩
  refine List.forall_mem_cons.mpr ⟨(s_aloadn (am_dp pw_X11_ahead_32 dd_X11_ahead_32a.2.2.2.1) rfl).to, ?_⟩
  refine List.forall_mem_cons.mpr ⟨(s_iloadn (am_dp pw_X11_ahead_32 dd_X11_ahead_32a.2.2.2.2.1) rfl).to, ?_⟩
  refine List.forall_mem_cons.mpr ⟨(s_put (ci := 11) (k := 4) (am_dp pw_X11_ahead_32 dd_X11_ahead_32a.2.2.2.2.2.1) rfl (by decide) wd1337 inX11 tyX11_ok nmX11 rfl rfl).to, ?_⟩
  refine List.forall_mem_cons.mpr ⟨(s_aloadn (am_dp pw_X11_ahead_32 dd_X11_ahead_32a.2.2.2.2.2.2.1) rfl).to, ?_⟩
  refine List.forall_mem_cons.mpr ⟨(s_iloadn (am_dp pw_X11_ahead_32 dd_X11_ahead_32a.2.2.2.2.2.2.2) rfl).to, ?_⟩
  refine List.forall_mem_cons.mpr ⟨(s_put (ci := 11) (k := 5) (am_dp pw_X11_ahead_32 dd_X11_ahead_32b.1) rfl (by decide) wd1338 inX11 tyX11_ok nmX11 rfl rfl).to, ?_⟩
  refine List.forall_mem_cons.mpr ⟨(s_aloadn (am_dp pw_X11_ahead_32 dd_X11_ahead_32b.2.1) rfl).to, ?_⟩
  refine List.forall_mem_cons.mpr ⟨(s_iconst (am_dp pw_X11_ahead_32 dd_X11_ahead_32b.2.2.1) (by decide)).to, ?_⟩
  refine List.forall_mem_cons.mpr ⟨(s_put (ci := 11) (k := 3) (am_dp pw_X11_ahead_32 dd_X11_ahead_32b.2.2.2.1) rfl (by decide) wd1336 inX11 tyX11_ok nmX11 rfl rfl).to, ?_⟩
  refine List.forall_mem_cons.mpr ⟨(s_iloadn (am_dp pw_X11_ahead_32 dd_X11_ahead_32b.2.2.2.2.1) rfl).to, ?_⟩
  refine List.forall_mem_cons.mpr ⟨(s_aloadn (am_dp pw_X11_ahead_32 dd_X11_ahead_32b.2.2.2.2.2.1) rfl).to, ?_⟩
  refine List.forall_mem_cons.mpr ⟨(s_get (ci := 11) (k := 2) (am_dp pw_X11_ahead_32 dd_X11_ahead_32b.2.2.2.2.2.2.1) rfl (by decide) wd1335 inX11 rfl).to, ?_⟩
  refine List.forall_mem_cons.mpr ⟨(s_icmp_lt (am_dp pw_X11_ahead_32 dd_X11_ahead_32b.2.2.2.2.2.2.2) (by decide)).to, ?_⟩
  refine List.forall_mem_cons.mpr ⟨s_vret (am_dp pw_X11_ahead_64 dd_X11_ahead_64a.1) rfl, ?_⟩
  refine List.forall_mem_cons.mpr ⟨(s_aloadn (am_dp pw_X11_ahead_64 dd_X11_ahead_64a.2.1) rfl).to, ?_⟩
  refine List.forall_mem_cons.mpr ⟨(s_get (ci := 11) (k := 0) (am_dp pw_X11_ahead_64 dd_X11_ahead_64a.2.2.1) rfl (by decide) wd1333 inX11 rfl).to, ?_⟩
  refine List.forall_mem_cons.mpr ⟨(s_iloadn (am_dp pw_X11_ahead_64 dd_X11_ahead_64a.2.2.2.1) rfl).to, ?_⟩
  refine List.forall_mem_cons.mpr ⟨(s_iald (am_dp pw_X11_ahead_64 dd_X11_ahead_64a.2.2.2.2.1)).to, ?_⟩
  refine List.forall_mem_cons.mpr ⟨zw_cs172 (am_dp pw_X11_ahead_64 dd_X11_ahead_64a.2.2.2.2.2.1) wd1607, ?_⟩
  refine List.forall_mem_cons.mpr ⟨(s_istoren (am_dp pw_X11_ahead_64 dd_X11_ahead_64a.2.2.2.2.2.2.1) rfl (by decide)).to, ?_⟩
  refine List.forall_mem_cons.mpr ⟨(s_aloadn (am_dp pw_X11_ahead_64 dd_X11_ahead_64a.2.2.2.2.2.2.2) rfl).to, ?_⟩
  refine List.forall_mem_cons.mpr ⟨(s_get (ci := 11) (k := 0) (am_dp pw_X11_ahead_64 dd_X11_ahead_64b.1) rfl (by decide) wd1333 inX11 rfl).to, ?_⟩
  refine List.forall_mem_cons.mpr ⟨(s_iloadn (am_dp pw_X11_ahead_64 dd_X11_ahead_64b.2.1) rfl).to, ?_⟩
  refine List.forall_mem_cons.mpr ⟨(s_iald (am_dp pw_X11_ahead_64 dd_X11_ahead_64b.2.2.1)).to, ?_⟩
  refine List.forall_mem_cons.mpr ⟨zw_cs173 (am_dp pw_X11_ahead_64 dd_X11_ahead_64b.2.2.2.1) wd1610, ?_⟩
  refine List.forall_mem_cons.mpr ⟨(s_istoren (am_dp pw_X11_ahead_64 dd_X11_ahead_64b.2.2.2.2.1) rfl (by decide)).to, ?_⟩
  refine List.forall_mem_cons.mpr ⟨(s_iloadn (am_dp pw_X11_ahead_64 dd_X11_ahead_64b.2.2.2.2.2.1) rfl).to, ?_⟩
  refine List.forall_mem_cons.mpr ⟨(s_if_ne (am_dp pw_X11_ahead_64 dd_X11_ahead_64b.2.2.2.2.2.2.1) (by decide)).to, ?_⟩
  refine List.forall_mem_cons.mpr ⟨(s_iloadn (am_dp pw_X11_ahead_64 dd_X11_ahead_64b.2.2.2.2.2.2.2) rfl).to, ?_⟩
  refine List.forall_mem_cons.mpr ⟨(s_if_eq (am_dp pw_X11_ahead_64 dd_X11_ahead_64c.1) (by decide)).to, ?_⟩
  refine List.forall_mem_cons.mpr ⟨(s_iloadn (am_dp pw_X11_ahead_64 dd_X11_ahead_64c.2.1) rfl).to, ?_⟩
  refine List.forall_mem_cons.mpr ⟨(s_if_le (am_dp pw_X11_ahead_64 dd_X11_ahead_64c.2.2) (by decide)).to, ?_⟩
  refine List.forall_mem_cons.mpr ⟨(s_aloadn (am_dp pw_X11_ahead_96 dd_X11_ahead_96a.1) rfl).to, ?_⟩
  refine List.forall_mem_cons.mpr ⟨(s_get (ci := 11) (k := 0) (am_dp pw_X11_ahead_96 dd_X11_ahead_96a.2.1) rfl (by decide) wd1333 inX11 rfl).to, ?_⟩
  refine List.forall_mem_cons.mpr ⟨(s_iloadn (am_dp pw_X11_ahead_96 dd_X11_ahead_96a.2.2.1) rfl).to, ?_⟩
  refine List.forall_mem_cons.mpr ⟨(s_iconst (am_dp pw_X11_ahead_96 dd_X11_ahead_96a.2.2.2.1) (by decide)).to, ?_⟩
  refine List.forall_mem_cons.mpr ⟨(s_isub (am_dp pw_X11_ahead_96 dd_X11_ahead_96a.2.2.2.2.1)).to, ?_⟩
  refine List.forall_mem_cons.mpr ⟨(s_iald (am_dp pw_X11_ahead_96 dd_X11_ahead_96a.2.2.2.2.2.1)).to, ?_⟩
  refine List.forall_mem_cons.mpr ⟨zw_cs172 (am_dp pw_X11_ahead_96 dd_X11_ahead_96a.2.2.2.2.2.2.1) wd1607, ?_⟩
  exact fun _ h => absurd h List.not_mem_nil
theorem sn_tX11_ahead_1 : ∀ q ∈ tX11_ahead_1, am_Snd am_P0 RX11 cX11_ahead 6 (Option.none : Option FieldType) "ahead" q.1 q.2 := by
  unfold tX11_ahead_1
  refine List.forall_mem_cons.mpr ⟨(s_if_ne (am_dp pw_X11_ahead_96 dd_X11_ahead_96a.2.2.2.2.2.2.2) (by decide)).to, ?_⟩
  refine List.forall_mem_cons.mpr ⟨(s_aloadn (am_dp pw_X11_ahead_96 dd_X11_ahead_96b.1) rfl).to, ?_⟩
  refine List.forall_mem_cons.mpr ⟨(s_get (ci := 11) (k := 0) (am_dp pw_X11_ahead_96 dd_X11_ahead_96b.2.1) rfl (by decide) wd1333 inX11 rfl).to, ?_⟩
  refine List.forall_mem_cons.mpr ⟨(s_iloadn (am_dp pw_X11_ahead_96 dd_X11_ahead_96b.2.2.1) rfl).to, ?_⟩
  refine List.forall_mem_cons.mpr ⟨(s_iconst (am_dp pw_X11_ahead_96 dd_X11_ahead_96b.2.2.2.1) (by decide)).to, ?_⟩
  refine List.forall_mem_cons.mpr ⟨(s_isub (am_dp pw_X11_ahead_96 dd_X11_ahead_96b.2.2.2.2.1)).to, ?_⟩
  refine List.forall_mem_cons.mpr ⟨(s_iald (am_dp pw_X11_ahead_96 dd_X11_ahead_96b.2.2.2.2.2.1)).to, ?_⟩
  refine List.forall_mem_cons.mpr ⟨zw_cs173 (am_dp pw_X11_ahead_96 dd_X11_ahead_96b.2.2.2.2.2.2.1) wd1610, ?_⟩
  refine List.forall_mem_cons.mpr ⟨(s_if_eq (am_dp pw_X11_ahead_96 dd_X11_ahead_96b.2.2.2.2.2.2.2) (by decide)).to, ?_⟩
  refine List.forall_mem_cons.mpr ⟨(s_aloadn (am_dp pw_X11_ahead_96 dd_X11_ahead_96c.1) rfl).to, ?_⟩
  refine List.forall_mem_cons.mpr ⟨(s_iconst (am_dp pw_X11_ahead_96 dd_X11_ahead_96c.2.1) (by decide)).to, ?_⟩
  refine List.forall_mem_cons.mpr ⟨(s_iloadn (am_dp pw_X11_ahead_96 dd_X11_ahead_96c.2.2) rfl).to, ?_⟩
  refine List.forall_mem_cons.mpr ⟨zw_cv171 (am_dp pw_X11_ahead_128 dd_X11_ahead_128a.1) wd1613, ?_⟩
  refine List.forall_mem_cons.mpr ⟨(s_aloadn (am_dp pw_X11_ahead_128 dd_X11_ahead_128a.2.1) rfl).to, ?_⟩
  refine List.forall_mem_cons.mpr ⟨(s_iconst (am_dp pw_X11_ahead_128 dd_X11_ahead_128a.2.2.1) (by decide)).to, ?_⟩
  refine List.forall_mem_cons.mpr ⟨(s_put (ci := 11) (k := 6) (am_dp pw_X11_ahead_128 dd_X11_ahead_128a.2.2.2.1) rfl (by decide) wd1339 inX11 tyX11_ok nmX11 rfl rfl).to, ?_⟩
  refine List.forall_mem_cons.mpr ⟨(s_aloadn (am_dp pw_X11_ahead_128 dd_X11_ahead_128a.2.2.2.2.1) rfl).to, ?_⟩
  refine List.forall_mem_cons.mpr ⟨(s_lconst (am_dp pw_X11_ahead_128 dd_X11_ahead_128a.2.2.2.2.2.1) (by decide)).to, ?_⟩
  refine List.forall_mem_cons.mpr ⟨(s_put (ci := 11) (k := 7) (am_dp pw_X11_ahead_128 dd_X11_ahead_128a.2.2.2.2.2.2.1) rfl (by decide) wd1340 inX11 tyX11_ok nmX11 rfl rfl).to, ?_⟩
  refine List.forall_mem_cons.mpr ⟨(s_aloadn (am_dp pw_X11_ahead_128 dd_X11_ahead_128a.2.2.2.2.2.2.2) rfl).to, ?_⟩
  refine List.forall_mem_cons.mpr ⟨(s_iconst (am_dp pw_X11_ahead_128 dd_X11_ahead_128b.1) (by decide)).to, ?_⟩
  refine List.forall_mem_cons.mpr ⟨(s_put (ci := 11) (k := 3) (am_dp pw_X11_ahead_128 dd_X11_ahead_128b.2.1) rfl (by decide) wd1336 inX11 tyX11_ok nmX11 rfl rfl).to, ?_⟩
  refine List.forall_mem_cons.mpr ⟨(s_aloadn (am_dp pw_X11_ahead_128 dd_X11_ahead_128b.2.2.1) rfl).to, ?_⟩
  refine List.forall_mem_cons.mpr ⟨(s_iloadn (am_dp pw_X11_ahead_128 dd_X11_ahead_128b.2.2.2.1) rfl).to, ?_⟩
  refine List.forall_mem_cons.mpr ⟨(s_iconst (am_dp pw_X11_ahead_128 dd_X11_ahead_128b.2.2.2.2.1) (by decide)).to, ?_⟩
  refine List.forall_mem_cons.mpr ⟨(s_iadd (am_dp pw_X11_ahead_128 dd_X11_ahead_128b.2.2.2.2.2.1)).to, ?_⟩
  refine List.forall_mem_cons.mpr ⟨(s_put (ci := 11) (k := 5) (am_dp pw_X11_ahead_128 dd_X11_ahead_128b.2.2.2.2.2.2.1) rfl (by decide) wd1338 inX11 tyX11_ok nmX11 rfl rfl).to, ?_⟩
  refine List.forall_mem_cons.mpr ⟨(s_iloadn (am_dp pw_X11_ahead_128 dd_X11_ahead_128b.2.2.2.2.2.2.2) rfl).to, ?_⟩
  refine List.forall_mem_cons.mpr ⟨(s_if_ne (am_dp pw_X11_ahead_128 dd_X11_ahead_128c.1) (by decide)).to, ?_⟩
  refine List.forall_mem_cons.mpr ⟨(s_iloadn (am_dp pw_X11_ahead_128 dd_X11_ahead_128c.2.1) rfl).to, ?_⟩
  refine List.forall_mem_cons.mpr ⟨(s_if_ne (am_dp pw_X11_ahead_128 dd_X11_ahead_128c.2.2) (by decide)).to, ?_⟩
  refine List.forall_mem_cons.mpr ⟨(s_aloadn (am_dp pw_X11_ahead_160 dd_X11_ahead_160a.1) rfl).to, ?_⟩
  refine List.forall_mem_cons.mpr ⟨(s_aloadn (am_dp pw_X11_ahead_160 dd_X11_ahead_160a.2.1) rfl).to, ?_⟩
  refine List.forall_mem_cons.mpr ⟨(s_get (ci := 11) (k := 0) (am_dp pw_X11_ahead_160 dd_X11_ahead_160a.2.2.1) rfl (by decide) wd1333 inX11 rfl).to, ?_⟩
  refine List.forall_mem_cons.mpr ⟨(s_iloadn (am_dp pw_X11_ahead_160 dd_X11_ahead_160a.2.2.2.1) rfl).to, ?_⟩
  refine List.forall_mem_cons.mpr ⟨(s_iald (am_dp pw_X11_ahead_160 dd_X11_ahead_160a.2.2.2.2.1)).to, ?_⟩
  refine List.forall_mem_cons.mpr ⟨(s_put (ci := 11) (k := 6) (am_dp pw_X11_ahead_160 dd_X11_ahead_160a.2.2.2.2.2.1) rfl (by decide) wd1339 inX11 tyX11_ok nmX11 rfl rfl).to, ?_⟩
  refine List.forall_mem_cons.mpr ⟨s_vret (am_dp pw_X11_ahead_160 dd_X11_ahead_160a.2.2.2.2.2.2.1) rfl, ?_⟩
  refine List.forall_mem_cons.mpr ⟨(s_aloadn (am_dp pw_X11_ahead_160 dd_X11_ahead_160a.2.2.2.2.2.2.2) rfl).to, ?_⟩
  refine List.forall_mem_cons.mpr ⟨(s_iloadn (am_dp pw_X11_ahead_160 dd_X11_ahead_160b.1) rfl).to, ?_⟩
  refine List.forall_mem_cons.mpr ⟨(s_if_eq (am_dp pw_X11_ahead_160 dd_X11_ahead_160b.2.1) (by decide)).to, ?_⟩
  refine List.forall_mem_cons.mpr ⟨(s_iconst (am_dp pw_X11_ahead_160 dd_X11_ahead_160b.2.2.1) (by decide)).to, ?_⟩
  refine List.forall_mem_cons.mpr ⟨(s_goto (am_dp pw_X11_ahead_160 dd_X11_ahead_160b.2.2.2.1) (by decide)).to, ?_⟩
  refine List.forall_mem_cons.mpr ⟨(s_iconst (am_dp pw_X11_ahead_160 dd_X11_ahead_160b.2.2.2.2.1) (by decide)).to, ?_⟩
  refine List.forall_mem_cons.mpr ⟨(s_put (ci := 11) (k := 3) (am_dp pw_X11_ahead_160 dd_X11_ahead_160b.2.2.2.2.2.1) rfl (by decide) wd1336 inX11 tyX11_ok nmX11 rfl rfl).to, ?_⟩
  refine List.forall_mem_cons.mpr ⟨(s_iloadn (am_dp pw_X11_ahead_160 dd_X11_ahead_160b.2.2.2.2.2.2.1) rfl).to, ?_⟩
  refine List.forall_mem_cons.mpr ⟨(s_if_eq (am_dp pw_X11_ahead_160 dd_X11_ahead_160b.2.2.2.2.2.2.2) (by decide)).to, ?_⟩
  refine List.forall_mem_cons.mpr ⟨(s_bipush (am_dp pw_X11_ahead_160 dd_X11_ahead_160c.1) (by decide)).to, ?_⟩
  refine List.forall_mem_cons.mpr ⟨(s_goto (am_dp pw_X11_ahead_160 dd_X11_ahead_160c.2) (by decide)).to, ?_⟩
  refine List.forall_mem_cons.mpr ⟨(s_iconst (am_dp pw_X11_ahead_192 dd_X11_ahead_192a.1) (by decide)).to, ?_⟩
  refine List.forall_mem_cons.mpr ⟨(s_istore (am_dp pw_X11_ahead_192 dd_X11_ahead_192a.2.1) (by decide)).to, ?_⟩
  refine List.forall_mem_cons.mpr ⟨(s_iconst (am_dp pw_X11_ahead_192 dd_X11_ahead_192a.2.2.1) (by decide)).to, ?_⟩
  refine List.forall_mem_cons.mpr ⟨(s_istore (am_dp pw_X11_ahead_192 dd_X11_ahead_192a.2.2.2.1) (by decide)).to, ?_⟩
  refine List.forall_mem_cons.mpr ⟨(s_iloadn (am_dp pw_X11_ahead_192 dd_X11_ahead_192a.2.2.2.2.1) rfl).to, ?_⟩
  refine List.forall_mem_cons.mpr ⟨(s_aloadn (am_dp pw_X11_ahead_192 dd_X11_ahead_192a.2.2.2.2.2.1) rfl).to, ?_⟩
  refine List.forall_mem_cons.mpr ⟨(s_get (ci := 11) (k := 2) (am_dp pw_X11_ahead_192 dd_X11_ahead_192a.2.2.2.2.2.2.1) rfl (by decide) wd1335 inX11 rfl).to, ?_⟩
  refine List.forall_mem_cons.mpr ⟨(s_icmp_ge (am_dp pw_X11_ahead_192 dd_X11_ahead_192a.2.2.2.2.2.2.2) (by decide)).to, ?_⟩
  refine List.forall_mem_cons.mpr ⟨(s_iloadn (am_dp pw_X11_ahead_192 dd_X11_ahead_192b.1) rfl).to, ?_⟩
  refine List.forall_mem_cons.mpr ⟨(s_if_eq (am_dp pw_X11_ahead_192 dd_X11_ahead_192b.2.1) (by decide)).to, ?_⟩
  refine List.forall_mem_cons.mpr ⟨(s_aloadn (am_dp pw_X11_ahead_192 dd_X11_ahead_192b.2.2.1) rfl).to, ?_⟩
  exact fun _ h => absurd h List.not_mem_nil
theorem sn_tX11_ahead_2 : ∀ q ∈ tX11_ahead_2, am_Snd am_P0 RX11 cX11_ahead 6 (Option.none : Option FieldType) "ahead" q.1 q.2 := by
  unfold tX11_ahead_2
  refine List.forall_mem_cons.mpr ⟨(s_get (ci := 11) (k := 0) (am_dp pw_X11_ahead_192 dd_X11_ahead_192b.2.2.2.1) rfl (by decide) wd1333 inX11 rfl).to, ?_⟩
  refine List.forall_mem_cons.mpr ⟨(s_iloadn (am_dp pw_X11_ahead_192 dd_X11_ahead_192b.2.2.2.2.1) rfl).to, ?_⟩
  refine List.forall_mem_cons.mpr ⟨(s_iald (am_dp pw_X11_ahead_192 dd_X11_ahead_192b.2.2.2.2.2.1)).to, ?_⟩
  refine List.forall_mem_cons.mpr ⟨zw_cs172 (am_dp pw_X11_ahead_192 dd_X11_ahead_192b.2.2.2.2.2.2.1) wd1607, ?_⟩
  refine List.forall_mem_cons.mpr ⟨(s_if_eq (am_dp pw_X11_ahead_192 dd_X11_ahead_192b.2.2.2.2.2.2.2) (by decide)).to, ?_⟩
  refine List.forall_mem_cons.mpr ⟨(s_goto (am_dp pw_X11_ahead_224 dd_X11_ahead_224a.1) (by decide)).to, ?_⟩
  refine List.forall_mem_cons.mpr ⟨(s_aloadn (am_dp pw_X11_ahead_224 dd_X11_ahead_224a.2.1) rfl).to, ?_⟩
  refine List.forall_mem_cons.mpr ⟨(s_get (ci := 11) (k := 0) (am_dp pw_X11_ahead_224 dd_X11_ahead_224a.2.2.1) rfl (by decide) wd1333 inX11 rfl).to, ?_⟩
  refine List.forall_mem_cons.mpr ⟨(s_iloadn (am_dp pw_X11_ahead_224 dd_X11_ahead_224a.2.2.2.1) rfl).to, ?_⟩
  refine List.forall_mem_cons.mpr ⟨(s_iald (am_dp pw_X11_ahead_224 dd_X11_ahead_224a.2.2.2.2.1)).to, ?_⟩
  refine List.forall_mem_cons.mpr ⟨zw_cs173 (am_dp pw_X11_ahead_224 dd_X11_ahead_224a.2.2.2.2.2.1) wd1610, ?_⟩
  refine List.forall_mem_cons.mpr ⟨(s_if_eq (am_dp pw_X11_ahead_224 dd_X11_ahead_224a.2.2.2.2.2.2.1) (by decide)).to, ?_⟩
  refine List.forall_mem_cons.mpr ⟨(s_iload (am_dp pw_X11_ahead_224 dd_X11_ahead_224a.2.2.2.2.2.2.2)).to, ?_⟩
  refine List.forall_mem_cons.mpr ⟨(s_iload (am_dp pw_X11_ahead_224 dd_X11_ahead_224b.1)).to, ?_⟩
  refine List.forall_mem_cons.mpr ⟨(s_icmp_ne (am_dp pw_X11_ahead_224 dd_X11_ahead_224b.2.1) (by decide)).to, ?_⟩
  refine List.forall_mem_cons.mpr ⟨(s_aloadn (am_dp pw_X11_ahead_224 dd_X11_ahead_224b.2.2.1) rfl).to, ?_⟩
  refine List.forall_mem_cons.mpr ⟨(s_iconst (am_dp pw_X11_ahead_224 dd_X11_ahead_224b.2.2.2.1) (by decide)).to, ?_⟩
  refine List.forall_mem_cons.mpr ⟨(s_iloadn (am_dp pw_X11_ahead_224 dd_X11_ahead_224b.2.2.2.2.1) rfl).to, ?_⟩
  refine List.forall_mem_cons.mpr ⟨zw_cv171 (am_dp pw_X11_ahead_224 dd_X11_ahead_224b.2.2.2.2.2.1) wd1613, ?_⟩
  refine List.forall_mem_cons.mpr ⟨(s_iload (am_dp pw_X11_ahead_224 dd_X11_ahead_224b.2.2.2.2.2.2.1)).to, ?_⟩
  refine List.forall_mem_cons.mpr ⟨(s_iload (am_dp pw_X11_ahead_224 dd_X11_ahead_224b.2.2.2.2.2.2.2)).to, ?_⟩
  refine List.forall_mem_cons.mpr ⟨(s_icmp_ge (am_dp pw_X11_ahead_256 dd_X11_ahead_256a.1) (by decide)).to, ?_⟩
  refine List.forall_mem_cons.mpr ⟨(s_iloadn (am_dp pw_X11_ahead_256 dd_X11_ahead_256a.2.1) rfl).to, ?_⟩
  refine List.forall_mem_cons.mpr ⟨(s_if_eq (am_dp pw_X11_ahead_256 dd_X11_ahead_256a.2.2.1) (by decide)).to, ?_⟩
  refine List.forall_mem_cons.mpr ⟨(s_aloadn (am_dp pw_X11_ahead_256 dd_X11_ahead_256a.2.2.2.1) rfl).to, ?_⟩
  refine List.forall_mem_cons.mpr ⟨(s_aloadn (am_dp pw_X11_ahead_256 dd_X11_ahead_256a.2.2.2.2.1) rfl).to, ?_⟩
  refine List.forall_mem_cons.mpr ⟨(s_get (ci := 11) (k := 7) (am_dp pw_X11_ahead_256 dd_X11_ahead_256a.2.2.2.2.2.1) rfl (by decide) wd1340 inX11 rfl).to, ?_⟩
  refine List.forall_mem_cons.mpr ⟨(s_bipush (am_dp pw_X11_ahead_256 dd_X11_ahead_256a.2.2.2.2.2.2.1) (by decide)).to, ?_⟩
  refine List.forall_mem_cons.mpr ⟨(s_lshl (am_dp pw_X11_ahead_256 dd_X11_ahead_256a.2.2.2.2.2.2.2)).to, ?_⟩
  refine List.forall_mem_cons.mpr ⟨(s_aloadn (am_dp pw_X11_ahead_256 dd_X11_ahead_256b.1) rfl).to, ?_⟩
  refine List.forall_mem_cons.mpr ⟨(s_get (ci := 11) (k := 0) (am_dp pw_X11_ahead_256 dd_X11_ahead_256b.2.1) rfl (by decide) wd1333 inX11 rfl).to, ?_⟩
  refine List.forall_mem_cons.mpr ⟨(s_iloadn (am_dp pw_X11_ahead_256 dd_X11_ahead_256b.2.2.1) rfl).to, ?_⟩
  refine List.forall_mem_cons.mpr ⟨(s_iald (am_dp pw_X11_ahead_256 dd_X11_ahead_256b.2.2.2.1)).to, ?_⟩
  refine List.forall_mem_cons.mpr ⟨(s_i2l (am_dp pw_X11_ahead_256 dd_X11_ahead_256b.2.2.2.2.1)).to, ?_⟩
  refine List.forall_mem_cons.mpr ⟨(s_lor (am_dp pw_X11_ahead_256 dd_X11_ahead_256b.2.2.2.2.2.1)).to, ?_⟩
  refine List.forall_mem_cons.mpr ⟨(s_put (ci := 11) (k := 7) (am_dp pw_X11_ahead_256 dd_X11_ahead_256b.2.2.2.2.2.2.1) rfl (by decide) wd1340 inX11 tyX11_ok nmX11 rfl rfl).to, ?_⟩
  refine List.forall_mem_cons.mpr ⟨(s_iload (am_dp pw_X11_ahead_256 dd_X11_ahead_256b.2.2.2.2.2.2.2)).to, ?_⟩
  refine List.forall_mem_cons.mpr ⟨(s_iload (am_dp pw_X11_ahead_256 dd_X11_ahead_256c.1)).to, ?_⟩
  refine List.forall_mem_cons.mpr ⟨(s_icmp_ge (am_dp pw_X11_ahead_256 dd_X11_ahead_256c.2) (by decide)).to, ?_⟩
  refine List.forall_mem_cons.mpr ⟨(s_iloadn (am_dp pw_X11_ahead_288 dd_X11_ahead_288a.1) rfl).to, ?_⟩
  refine List.forall_mem_cons.mpr ⟨(s_if_eq (am_dp pw_X11_ahead_288 dd_X11_ahead_288a.2.1) (by decide)).to, ?_⟩
  refine List.forall_mem_cons.mpr ⟨(s_aloadn (am_dp pw_X11_ahead_288 dd_X11_ahead_288a.2.2.1) rfl).to, ?_⟩
  refine List.forall_mem_cons.mpr ⟨(s_bipush (am_dp pw_X11_ahead_288 dd_X11_ahead_288a.2.2.2.1) (by decide)).to, ?_⟩
  refine List.forall_mem_cons.mpr ⟨(s_aloadn (am_dp pw_X11_ahead_288 dd_X11_ahead_288a.2.2.2.2.1) rfl).to, ?_⟩
  refine List.forall_mem_cons.mpr ⟨(s_get (ci := 11) (k := 6) (am_dp pw_X11_ahead_288 dd_X11_ahead_288a.2.2.2.2.2.1) rfl (by decide) wd1339 inX11 rfl).to, ?_⟩
  refine List.forall_mem_cons.mpr ⟨(s_imul (am_dp pw_X11_ahead_288 dd_X11_ahead_288a.2.2.2.2.2.2.1)).to, ?_⟩
  refine List.forall_mem_cons.mpr ⟨(s_aloadn (am_dp pw_X11_ahead_288 dd_X11_ahead_288a.2.2.2.2.2.2.2) rfl).to, ?_⟩
  refine List.forall_mem_cons.mpr ⟨(s_get (ci := 11) (k := 0) (am_dp pw_X11_ahead_288 dd_X11_ahead_288b.1) rfl (by decide) wd1333 inX11 rfl).to, ?_⟩
  refine List.forall_mem_cons.mpr ⟨(s_iloadn (am_dp pw_X11_ahead_288 dd_X11_ahead_288b.2.1) rfl).to, ?_⟩
  refine List.forall_mem_cons.mpr ⟨(s_iald (am_dp pw_X11_ahead_288 dd_X11_ahead_288b.2.2.1)).to, ?_⟩
  refine List.forall_mem_cons.mpr ⟨(s_iadd (am_dp pw_X11_ahead_288 dd_X11_ahead_288b.2.2.2.1)).to, ?_⟩
  refine List.forall_mem_cons.mpr ⟨(s_bipush (am_dp pw_X11_ahead_288 dd_X11_ahead_288b.2.2.2.2.1) (by decide)).to, ?_⟩
  refine List.forall_mem_cons.mpr ⟨(s_isub (am_dp pw_X11_ahead_288 dd_X11_ahead_288b.2.2.2.2.2.1)).to, ?_⟩
  refine List.forall_mem_cons.mpr ⟨(s_put (ci := 11) (k := 6) (am_dp pw_X11_ahead_288 dd_X11_ahead_288b.2.2.2.2.2.2.1) rfl (by decide) wd1339 inX11 tyX11_ok nmX11 rfl rfl).to, ?_⟩
  refine List.forall_mem_cons.mpr ⟨(s_iinc (am_dp pw_X11_ahead_288 dd_X11_ahead_288b.2.2.2.2.2.2.2) (by decide) (by decide)).to, ?_⟩
  refine List.forall_mem_cons.mpr ⟨(s_iinc (am_dp pw_X11_ahead_288 dd_X11_ahead_288c) (by decide) (by decide)).to, ?_⟩
  refine List.forall_mem_cons.mpr ⟨(s_goto (am_dp pw_X11_ahead_320 dd_X11_ahead_320a.1) (by decide)).to, ?_⟩
  refine List.forall_mem_cons.mpr ⟨(s_aloadn (am_dp pw_X11_ahead_320 dd_X11_ahead_320a.2.1) rfl).to, ?_⟩
  refine List.forall_mem_cons.mpr ⟨(s_iloadn (am_dp pw_X11_ahead_320 dd_X11_ahead_320a.2.2.1) rfl).to, ?_⟩
  refine List.forall_mem_cons.mpr ⟨(s_put (ci := 11) (k := 5) (am_dp pw_X11_ahead_320 dd_X11_ahead_320a.2.2.2.1) rfl (by decide) wd1338 inX11 tyX11_ok nmX11 rfl rfl).to, ?_⟩
  exact fun _ h => absurd h List.not_mem_nil
theorem sn_tX11_ahead_3 : ∀ q ∈ tX11_ahead_3, am_Snd am_P0 RX11 cX11_ahead 6 (Option.none : Option FieldType) "ahead" q.1 q.2 := by
  unfold tX11_ahead_3
  refine List.forall_mem_cons.mpr ⟨s_vret (am_dp pw_X11_ahead_320 dd_X11_ahead_320a.2.2.2.2) rfl, ?_⟩
  exact fun _ h => absurd h List.not_mem_nil
theorem sn_tX11_ahead : ∀ q ∈ tX11_ahead, am_Snd am_P0 RX11 cX11_ahead 6 (Option.none : Option FieldType) "ahead" q.1 q.2 := by
  unfold tX11_ahead
  exact List.forall_mem_append.mpr ⟨List.forall_mem_append.mpr ⟨List.forall_mem_append.mpr ⟨sn_tX11_ahead_0, sn_tX11_ahead_1⟩, sn_tX11_ahead_2⟩, sn_tX11_ahead_3⟩
