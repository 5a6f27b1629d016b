/-! the machine follows each instruction (by program: gen_prog.py) -/
theorem sn_tX10_may : ∀ q ∈ tX10_may, am_Snd am_P0 RX10 cX10_may 6 (Option.some FieldType.int) "may" q.1 q.2 := by
  unfold tX10_may
  refine List.forall_mem_cons.mpr ⟨(s_aloadn (am_dp pw_X10_may_0 dd_X10_may_0a.1) rfl).to, ?_⟩
  refine List.forall_mem_cons.mpr ⟨(s_get (ci := 10) (k := 2) (am_dp pw_X10_may_0 dd_X10_may_0a.2.1) rfl (by decide) wd581 inX10 rfl).to, ?_⟩
  refine List.forall_mem_cons.mpr ⟨(s_iloadn (am_dp pw_X10_may_0 dd_X10_may_0a.2.2.1) rfl).to, ?_⟩
  refine List.forall_mem_cons.mpr ⟨(s_iload (am_dp pw_X10_may_0 dd_X10_may_0a.2.2.2.1)).to, ?_⟩
  refine List.forall_mem_cons.mpr ⟨zw_cv56 (am_dp pw_X10_may_0 dd_X10_may_0a.2.2.2.2.1) wd1024, ?_⟩
  refine List.forall_mem_cons.mpr ⟨(s_istore (am_dp pw_X10_may_0 dd_X10_may_0a.2.2.2.2.2.1) (by decide)).to, ?_⟩
  refine List.forall_mem_cons.mpr ⟨(s_aloadn (am_dp pw_X10_may_0 dd_X10_may_0a.2.2.2.2.2.2.1) rfl).to, ?_⟩
  refine List.forall_mem_cons.mpr ⟨(s_iloadn (am_dp pw_X10_may_0 dd_X10_may_0a.2.2.2.2.2.2.2) rfl).to, ?_⟩
  refine List.forall_mem_cons.mpr ⟨zw_cv150 (am_dp pw_X10_may_0 dd_X10_may_0b.1) wd921, ?_⟩
  refine List.forall_mem_cons.mpr ⟨(s_if_eq (am_dp pw_X10_may_0 dd_X10_may_0b.2.1) (by decide)).to, ?_⟩
  refine List.forall_mem_cons.mpr ⟨(s_iloadn (am_dp pw_X10_may_0 dd_X10_may_0b.2.2.1) rfl).to, ?_⟩
  refine List.forall_mem_cons.mpr ⟨zw_cs149 (am_dp pw_X10_may_0 dd_X10_may_0b.2.2.2.1) wd1028, ?_⟩
  refine List.forall_mem_cons.mpr ⟨(s_if_eq (am_dp pw_X10_may_0 dd_X10_may_0b.2.2.2.2.1) (by decide)).to, ?_⟩
  refine List.forall_mem_cons.mpr ⟨(s_iload (am_dp pw_X10_may_0 dd_X10_may_0b.2.2.2.2.2.1)).to, ?_⟩
  refine List.forall_mem_cons.mpr ⟨(s_iconst (am_dp pw_X10_may_0 dd_X10_may_0b.2.2.2.2.2.2.1) (by decide)).to, ?_⟩
  refine List.forall_mem_cons.mpr ⟨(s_icmp_ne (am_dp pw_X10_may_0 dd_X10_may_0b.2.2.2.2.2.2.2) (by decide)).to, ?_⟩
  refine List.forall_mem_cons.mpr ⟨(s_iconst (am_dp pw_X10_may_32 dd_X10_may_32a.1) (by decide)).to, ?_⟩
  refine List.forall_mem_cons.mpr ⟨s_iret (am_dp pw_X10_may_32 dd_X10_may_32a.2.1) rfl, ?_⟩
  refine List.forall_mem_cons.mpr ⟨(s_aloadn (am_dp pw_X10_may_32 dd_X10_may_32a.2.2.1) rfl).to, ?_⟩
  refine List.forall_mem_cons.mpr ⟨(s_iloadn (am_dp pw_X10_may_32 dd_X10_may_32a.2.2.2.1) rfl).to, ?_⟩
  refine List.forall_mem_cons.mpr ⟨zw_cv154 (am_dp pw_X10_may_32 dd_X10_may_32a.2.2.2.2.1) wd929, ?_⟩
  refine List.forall_mem_cons.mpr ⟨(s_iloadn (am_dp pw_X10_may_32 dd_X10_may_32a.2.2.2.2.2.1) rfl).to, ?_⟩
  refine List.forall_mem_cons.mpr ⟨(s_iload (am_dp pw_X10_may_32 dd_X10_may_32a.2.2.2.2.2.2.1)).to, ?_⟩
  refine List.forall_mem_cons.mpr ⟨zw_cv88 (am_dp pw_X10_may_32 dd_X10_may_32a.2.2.2.2.2.2.2) wd1078, ?_⟩
  refine List.forall_mem_cons.mpr ⟨zw_cs148 (am_dp pw_X10_may_32 dd_X10_may_32b.1) wd1004, ?_⟩
  refine List.forall_mem_cons.mpr ⟨s_iret (am_dp pw_X10_may_32 dd_X10_may_32b.2) rfl, ?_⟩
  exact fun _ h => absurd h List.not_mem_nil
theorem sn_tX10_judge : ∀ q ∈ tX10_judge, am_Snd am_P0 RX10 cX10_judge 3 (Option.some FieldType.int) "judge" q.1 q.2 := by
  unfold tX10_judge
  refine List.forall_mem_cons.mpr ⟨(s_aloadn (am_dp pw_X10_judge_0 dd_X10_judge_0a.1) rfl).to, ?_⟩
  refine List.forall_mem_cons.mpr ⟨(s_iloadn (am_dp pw_X10_judge_0 dd_X10_judge_0a.2.1) rfl).to, ?_⟩
  refine List.forall_mem_cons.mpr ⟨zw_cv150 (am_dp pw_X10_judge_0 dd_X10_judge_0a.2.2.1) wd921, ?_⟩
  refine List.forall_mem_cons.mpr ⟨(s_if_eq (am_dp pw_X10_judge_0 dd_X10_judge_0a.2.2.2.1) (by decide)).to, ?_⟩
  refine List.forall_mem_cons.mpr ⟨(s_iloadn (am_dp pw_X10_judge_0 dd_X10_judge_0a.2.2.2.2.1) rfl).to, ?_⟩
  refine List.forall_mem_cons.mpr ⟨(s_if_lt (am_dp pw_X10_judge_0 dd_X10_judge_0a.2.2.2.2.2.1) (by decide)).to, ?_⟩
  refine List.forall_mem_cons.mpr ⟨(s_iloadn (am_dp pw_X10_judge_0 dd_X10_judge_0a.2.2.2.2.2.2.1) rfl).to, ?_⟩
  refine List.forall_mem_cons.mpr ⟨(s_iconst (am_dp pw_X10_judge_0 dd_X10_judge_0a.2.2.2.2.2.2.2) (by decide)).to, ?_⟩
  refine List.forall_mem_cons.mpr ⟨(s_icmp_lt (am_dp pw_X10_judge_0 dd_X10_judge_0b.1) (by decide)).to, ?_⟩
  refine List.forall_mem_cons.mpr ⟨(s_iconst (am_dp pw_X10_judge_0 dd_X10_judge_0b.2.1) (by decide)).to, ?_⟩
  refine List.forall_mem_cons.mpr ⟨s_iret (am_dp pw_X10_judge_0 dd_X10_judge_0b.2.2.1) rfl, ?_⟩
  refine List.forall_mem_cons.mpr ⟨(s_aloadn (am_dp pw_X10_judge_0 dd_X10_judge_0b.2.2.2.1) rfl).to, ?_⟩
  refine List.forall_mem_cons.mpr ⟨(s_iloadn (am_dp pw_X10_judge_0 dd_X10_judge_0b.2.2.2.2.1) rfl).to, ?_⟩
  refine List.forall_mem_cons.mpr ⟨zw_cv156 (am_dp pw_X10_judge_0 dd_X10_judge_0b.2.2.2.2.2.1) wd1090, ?_⟩
  refine List.forall_mem_cons.mpr ⟨(s_iloadn (am_dp pw_X10_judge_0 dd_X10_judge_0b.2.2.2.2.2.2.1) rfl).to, ?_⟩
  refine List.forall_mem_cons.mpr ⟨(s_ishr (am_dp pw_X10_judge_0 dd_X10_judge_0b.2.2.2.2.2.2.2)).to, ?_⟩
  refine List.forall_mem_cons.mpr ⟨(s_iconst (am_dp pw_X10_judge_0 dd_X10_judge_0c.1) (by decide)).to, ?_⟩
  refine List.forall_mem_cons.mpr ⟨(s_iand (am_dp pw_X10_judge_0 dd_X10_judge_0c.2.1)).to, ?_⟩
  refine List.forall_mem_cons.mpr ⟨s_iret (am_dp pw_X10_judge_0 dd_X10_judge_0c.2.2) rfl, ?_⟩
  exact fun _ h => absurd h List.not_mem_nil
theorem sn_tX10_tale : ∀ q ∈ tX10_tale, am_Snd am_P0 RX10 cX10_tale 6 (Option.some FieldType.int) "tale" q.1 q.2 := by
  unfold tX10_tale
  refine List.forall_mem_cons.mpr ⟨(s_aloadn (am_dp pw_X10_tale_0 dd_X10_tale_0a.1) rfl).to, ?_⟩
  refine List.forall_mem_cons.mpr ⟨(s_iloadn (am_dp pw_X10_tale_0 dd_X10_tale_0a.2.1) rfl).to, ?_⟩
  refine List.forall_mem_cons.mpr ⟨zw_cv150 (am_dp pw_X10_tale_0 dd_X10_tale_0a.2.2.1) wd921, ?_⟩
  refine List.forall_mem_cons.mpr ⟨(s_if_eq (am_dp pw_X10_tale_0 dd_X10_tale_0a.2.2.2.1) (by decide)).to, ?_⟩
  refine List.forall_mem_cons.mpr ⟨(s_iloadn (am_dp pw_X10_tale_0 dd_X10_tale_0a.2.2.2.2.1) rfl).to, ?_⟩
  refine List.forall_mem_cons.mpr ⟨(s_if_ge (am_dp pw_X10_tale_0 dd_X10_tale_0a.2.2.2.2.2.1) (by decide)).to, ?_⟩
  refine List.forall_mem_cons.mpr ⟨(s_iconst (am_dp pw_X10_tale_0 dd_X10_tale_0a.2.2.2.2.2.2.1) (by decide)).to, ?_⟩
  refine List.forall_mem_cons.mpr ⟨s_iret (am_dp pw_X10_tale_0 dd_X10_tale_0a.2.2.2.2.2.2.2) rfl, ?_⟩
  refine List.forall_mem_cons.mpr ⟨(s_aloadn (am_dp pw_X10_tale_0 dd_X10_tale_0b.1) rfl).to, ?_⟩
  refine List.forall_mem_cons.mpr ⟨(s_iloadn (am_dp pw_X10_tale_0 dd_X10_tale_0b.2.1) rfl).to, ?_⟩
  refine List.forall_mem_cons.mpr ⟨zw_cv156 (am_dp pw_X10_tale_0 dd_X10_tale_0b.2.2.1) wd1090, ?_⟩
  refine List.forall_mem_cons.mpr ⟨(s_istoren (am_dp pw_X10_tale_0 dd_X10_tale_0b.2.2.2.1) rfl (by decide)).to, ?_⟩
  refine List.forall_mem_cons.mpr ⟨(s_iloadn (am_dp pw_X10_tale_0 dd_X10_tale_0b.2.2.2.2.1) rfl).to, ?_⟩
  refine List.forall_mem_cons.mpr ⟨(s_istore (am_dp pw_X10_tale_0 dd_X10_tale_0b.2.2.2.2.2.1) (by decide)).to, ?_⟩
  refine List.forall_mem_cons.mpr ⟨(s_iconst (am_dp pw_X10_tale_0 dd_X10_tale_0b.2.2.2.2.2.2.1) (by decide)).to, ?_⟩
  refine List.forall_mem_cons.mpr ⟨(s_istore (am_dp pw_X10_tale_0 dd_X10_tale_0b.2.2.2.2.2.2.2) (by decide)).to, ?_⟩
  refine List.forall_mem_cons.mpr ⟨(s_iload (am_dp pw_X10_tale_0 dd_X10_tale_0c.1)).to, ?_⟩
  refine List.forall_mem_cons.mpr ⟨(s_iconst (am_dp pw_X10_tale_0 dd_X10_tale_0c.2.1) (by decide)).to, ?_⟩
  refine List.forall_mem_cons.mpr ⟨(s_icmp_ge (am_dp pw_X10_tale_0 dd_X10_tale_0c.2.2) (by decide)).to, ?_⟩
  refine List.forall_mem_cons.mpr ⟨(s_iloadn (am_dp pw_X10_tale_32 dd_X10_tale_32a.1) rfl).to, ?_⟩
  refine List.forall_mem_cons.mpr ⟨(s_iload (am_dp pw_X10_tale_32 dd_X10_tale_32a.2.1)).to, ?_⟩
  refine List.forall_mem_cons.mpr ⟨(s_ishr (am_dp pw_X10_tale_32 dd_X10_tale_32a.2.2.1)).to, ?_⟩
  refine List.forall_mem_cons.mpr ⟨(s_iconst (am_dp pw_X10_tale_32 dd_X10_tale_32a.2.2.2.1) (by decide)).to, ?_⟩
  refine List.forall_mem_cons.mpr ⟨(s_iand (am_dp pw_X10_tale_32 dd_X10_tale_32a.2.2.2.2.1)).to, ?_⟩
  refine List.forall_mem_cons.mpr ⟨(s_if_eq (am_dp pw_X10_tale_32 dd_X10_tale_32a.2.2.2.2.2.1) (by decide)).to, ?_⟩
  refine List.forall_mem_cons.mpr ⟨(s_iload (am_dp pw_X10_tale_32 dd_X10_tale_32a.2.2.2.2.2.2.1)).to, ?_⟩
  refine List.forall_mem_cons.mpr ⟨(s_if_ne (am_dp pw_X10_tale_32 dd_X10_tale_32a.2.2.2.2.2.2.2) (by decide)).to, ?_⟩
  refine List.forall_mem_cons.mpr ⟨(s_iload (am_dp pw_X10_tale_32 dd_X10_tale_32b.1)).to, ?_⟩
  refine List.forall_mem_cons.mpr ⟨s_iret (am_dp pw_X10_tale_32 dd_X10_tale_32b.2.1) rfl, ?_⟩
  refine List.forall_mem_cons.mpr ⟨(s_iinc (am_dp pw_X10_tale_32 dd_X10_tale_32b.2.2.1) (by decide) (by decide)).to, ?_⟩
  refine List.forall_mem_cons.mpr ⟨(s_iinc (am_dp pw_X10_tale_32 dd_X10_tale_32b.2.2.2.1) (by decide) (by decide)).to, ?_⟩
  refine List.forall_mem_cons.mpr ⟨(s_goto (am_dp pw_X10_tale_32 dd_X10_tale_32b.2.2.2.2.1) (by decide)).to, ?_⟩
  refine List.forall_mem_cons.mpr ⟨(s_iconst (am_dp pw_X10_tale_32 dd_X10_tale_32b.2.2.2.2.2.1) (by decide)).to, ?_⟩
  refine List.forall_mem_cons.mpr ⟨s_iret (am_dp pw_X10_tale_32 dd_X10_tale_32b.2.2.2.2.2.2) rfl, ?_⟩
  exact fun _ h => absurd h List.not_mem_nil
theorem sn_tX10_bars : ∀ q ∈ tX10_bars, am_Snd am_P0 RX10 cX10_bars 2 (Option.some FieldType.int) "bars" q.1 q.2 := by
  unfold tX10_bars
  refine List.forall_mem_cons.mpr ⟨(s_aloadn (am_dp pw_X10_bars_0 dd_X10_bars_0a.1) rfl).to, ?_⟩
  refine List.forall_mem_cons.mpr ⟨(s_iloadn (am_dp pw_X10_bars_0 dd_X10_bars_0a.2.1) rfl).to, ?_⟩
  refine List.forall_mem_cons.mpr ⟨zw_cv150 (am_dp pw_X10_bars_0 dd_X10_bars_0a.2.2.1) wd921, ?_⟩
  refine List.forall_mem_cons.mpr ⟨(s_if_eq (am_dp pw_X10_bars_0 dd_X10_bars_0a.2.2.2.1) (by decide)).to, ?_⟩
  refine List.forall_mem_cons.mpr ⟨(s_aloadn (am_dp pw_X10_bars_0 dd_X10_bars_0a.2.2.2.2.1) rfl).to, ?_⟩
  refine List.forall_mem_cons.mpr ⟨(s_get (ci := 10) (k := 7) (am_dp pw_X10_bars_0 dd_X10_bars_0a.2.2.2.2.2.1) rfl (by decide) wd586 inX10 rfl).to, ?_⟩
  refine List.forall_mem_cons.mpr ⟨(s_iloadn (am_dp pw_X10_bars_0 dd_X10_bars_0a.2.2.2.2.2.2.1) rfl).to, ?_⟩
  refine List.forall_mem_cons.mpr ⟨(s_aald (am_dp pw_X10_bars_0 dd_X10_bars_0a.2.2.2.2.2.2.2)).to, ?_⟩
  refine List.forall_mem_cons.mpr ⟨zw_cv80 (am_dp pw_X10_bars_0 dd_X10_bars_0b.1) wd1141, ?_⟩
  refine List.forall_mem_cons.mpr ⟨(s_goto (am_dp pw_X10_bars_0 dd_X10_bars_0b.2.1) (by decide)).to, ?_⟩
  refine List.forall_mem_cons.mpr ⟨(s_iconst (am_dp pw_X10_bars_0 dd_X10_bars_0b.2.2.1) (by decide)).to, ?_⟩
  refine List.forall_mem_cons.mpr ⟨s_iret (am_dp pw_X10_bars_0 dd_X10_bars_0b.2.2.2) rfl, ?_⟩
  exact fun _ h => absurd h List.not_mem_nil
theorem sn_tX10_clash_0 : ∀ q ∈ tX10_clash_0, am_Snd am_P0 RX10 cX10_clash 7 (Option.some FieldType.int) "clash" q.1 q.2 := by
  unfold tX10_clash_0
  refine List.forall_mem_cons.mpr ⟨(s_aloadn (am_dp pw_X10_clash_0 dd_X10_clash_0a.1) rfl).to, ?_⟩
  refine List.forall_mem_cons.mpr ⟨(s_iloadn (am_dp pw_X10_clash_0 dd_X10_clash_0a.2.1) rfl).to, ?_⟩
  refine List.forall_mem_cons.mpr ⟨zw_cv150 (am_dp pw_X10_clash_0 dd_X10_clash_0a.2.2.1) wd921, ?_⟩
  refine List.forall_mem_cons.mpr ⟨(s_if_eq (am_dp pw_X10_clash_0 dd_X10_clash_0a.2.2.2.1) (by decide)).to, ?_⟩
  refine List.forall_mem_cons.mpr ⟨(s_iloadn (am_dp pw_X10_clash_0 dd_X10_clash_0a.2.2.2.2.1) rfl).to, ?_⟩
  refine List.forall_mem_cons.mpr ⟨(s_if_lt (am_dp pw_X10_clash_0 dd_X10_clash_0a.2.2.2.2.2.1) (by decide)).to, ?_⟩
  refine List.forall_mem_cons.mpr ⟨(s_iloadn (am_dp pw_X10_clash_0 dd_X10_clash_0a.2.2.2.2.2.2.1) rfl).to, ?_⟩
  refine List.forall_mem_cons.mpr ⟨(s_iconst (am_dp pw_X10_clash_0 dd_X10_clash_0a.2.2.2.2.2.2.2) (by decide)).to, ?_⟩
  refine List.forall_mem_cons.mpr ⟨(s_icmp_le (am_dp pw_X10_clash_0 dd_X10_clash_0b.1) (by decide)).to, ?_⟩
  refine List.forall_mem_cons.mpr ⟨(s_iconst (am_dp pw_X10_clash_0 dd_X10_clash_0b.2.1) (by decide)).to, ?_⟩
  refine List.forall_mem_cons.mpr ⟨s_iret (am_dp pw_X10_clash_0 dd_X10_clash_0b.2.2.1) rfl, ?_⟩
  refine List.forall_mem_cons.mpr ⟨(s_aloadn (am_dp pw_X10_clash_0 dd_X10_clash_0b.2.2.2.1) rfl).to, ?_⟩
  refine List.forall_mem_cons.mpr ⟨(s_iloadn (am_dp pw_X10_clash_0 dd_X10_clash_0b.2.2.2.2.1) rfl).to, ?_⟩
  refine List.forall_mem_cons.mpr ⟨zw_cv154 (am_dp pw_X10_clash_0 dd_X10_clash_0b.2.2.2.2.2.1) wd929, ?_⟩
  refine List.forall_mem_cons.mpr ⟨(s_astoren (am_dp pw_X10_clash_0 dd_X10_clash_0b.2.2.2.2.2.2.1) rfl (by decide)).to, ?_⟩
  refine List.forall_mem_cons.mpr ⟨(s_aloadn (am_dp pw_X10_clash_0 dd_X10_clash_0b.2.2.2.2.2.2.2) rfl).to, ?_⟩
  refine List.forall_mem_cons.mpr ⟨zw_cv91 (am_dp pw_X10_clash_0 dd_X10_clash_0c.1) wd1149, ?_⟩
  refine List.forall_mem_cons.mpr ⟨(s_istore (am_dp pw_X10_clash_0 dd_X10_clash_0c.2.1) (by decide)).to, ?_⟩
  refine List.forall_mem_cons.mpr ⟨(s_aloadn (am_dp pw_X10_clash_0 dd_X10_clash_0c.2.2) rfl).to, ?_⟩
  refine List.forall_mem_cons.mpr ⟨(s_iload (am_dp pw_X10_clash_32 dd_X10_clash_32a.1)).to, ?_⟩
  refine List.forall_mem_cons.mpr ⟨zw_cv92 (am_dp pw_X10_clash_32 dd_X10_clash_32a.2.1) wd1153, ?_⟩
  refine List.forall_mem_cons.mpr ⟨(s_istore (am_dp pw_X10_clash_32 dd_X10_clash_32a.2.2.1) (by decide)).to, ?_⟩
  refine List.forall_mem_cons.mpr ⟨(s_iload (am_dp pw_X10_clash_32 dd_X10_clash_32a.2.2.2.1)).to, ?_⟩
  refine List.forall_mem_cons.mpr ⟨(s_iconst (am_dp pw_X10_clash_32 dd_X10_clash_32a.2.2.2.2.1) (by decide)).to, ?_⟩
  refine List.forall_mem_cons.mpr ⟨(s_icmp_eq (am_dp pw_X10_clash_32 dd_X10_clash_32a.2.2.2.2.2.1) (by decide)).to, ?_⟩
  refine List.forall_mem_cons.mpr ⟨(s_iload (am_dp pw_X10_clash_32 dd_X10_clash_32a.2.2.2.2.2.2.1)).to, ?_⟩
  refine List.forall_mem_cons.mpr ⟨(s_bipush (am_dp pw_X10_clash_32 dd_X10_clash_32a.2.2.2.2.2.2.2) (by decide)).to, ?_⟩
  refine List.forall_mem_cons.mpr ⟨(s_irem (am_dp pw_X10_clash_32 dd_X10_clash_32b.1)).to, ?_⟩
  refine List.forall_mem_cons.mpr ⟨(s_istore (am_dp pw_X10_clash_32 dd_X10_clash_32b.2.1) (by decide)).to, ?_⟩
  refine List.forall_mem_cons.mpr ⟨(s_iloadn (am_dp pw_X10_clash_32 dd_X10_clash_32b.2.2.1) rfl).to, ?_⟩
  refine List.forall_mem_cons.mpr ⟨(s_if_ne (am_dp pw_X10_clash_32 dd_X10_clash_32b.2.2.2.1) (by decide)).to, ?_⟩
  refine List.forall_mem_cons.mpr ⟨(s_iload (am_dp pw_X10_clash_32 dd_X10_clash_32b.2.2.2.2.1)).to, ?_⟩
  refine List.forall_mem_cons.mpr ⟨(s_goto (am_dp pw_X10_clash_32 dd_X10_clash_32b.2.2.2.2.2.1) (by decide)).to, ?_⟩
  refine List.forall_mem_cons.mpr ⟨(s_iloadn (am_dp pw_X10_clash_32 dd_X10_clash_32b.2.2.2.2.2.2.1) rfl).to, ?_⟩
  refine List.forall_mem_cons.mpr ⟨(s_iconst (am_dp pw_X10_clash_32 dd_X10_clash_32b.2.2.2.2.2.2.2) (by decide)).to, ?_⟩
  refine List.forall_mem_cons.mpr ⟨(s_icmp_ne (am_dp pw_X10_clash_32 dd_X10_clash_32c) (by decide)).to, ?_⟩
  refine List.forall_mem_cons.mpr ⟨(s_iload (am_dp pw_X10_clash_64 dd_X10_clash_64a.1)).to, ?_⟩
  refine List.forall_mem_cons.mpr ⟨(s_bipush (am_dp pw_X10_clash_64 dd_X10_clash_64a.2.1) (by decide)).to, ?_⟩
  refine List.forall_mem_cons.mpr ⟨(s_idiv (am_dp pw_X10_clash_64 dd_X10_clash_64a.2.2.1)).to, ?_⟩
  refine List.forall_mem_cons.mpr ⟨(s_goto (am_dp pw_X10_clash_64 dd_X10_clash_64a.2.2.2.1) (by decide)).to, ?_⟩
  refine List.forall_mem_cons.mpr ⟨(s_aloadn (am_dp pw_X10_clash_64 dd_X10_clash_64a.2.2.2.2.1) rfl).to, ?_⟩
  refine List.forall_mem_cons.mpr ⟨(s_get (ci := 8) (k := 0) (am_dp pw_X10_clash_64 dd_X10_clash_64a.2.2.2.2.2.1) rfl (by decide) wd519 inX8 rfl).to, ?_⟩
  refine List.forall_mem_cons.mpr ⟨(s_get (ci := 6) (k := 6) (am_dp pw_X10_clash_64 dd_X10_clash_64a.2.2.2.2.2.2.1) rfl (by decide) wd259 inX6 rfl).to, ?_⟩
  refine List.forall_mem_cons.mpr ⟨(s_iload (am_dp pw_X10_clash_64 dd_X10_clash_64a.2.2.2.2.2.2.2)).to, ?_⟩
  refine List.forall_mem_cons.mpr ⟨(s_iald (am_dp pw_X10_clash_64 dd_X10_clash_64b.1)).to, ?_⟩
  refine List.forall_mem_cons.mpr ⟨s_iret (am_dp pw_X10_clash_64 dd_X10_clash_64b.2.1) rfl, ?_⟩
  refine List.forall_mem_cons.mpr ⟨(s_iload (am_dp pw_X10_clash_64 dd_X10_clash_64b.2.2.1)).to, ?_⟩
  refine List.forall_mem_cons.mpr ⟨(s_iconst (am_dp pw_X10_clash_64 dd_X10_clash_64b.2.2.2.1) (by decide)).to, ?_⟩
  refine List.forall_mem_cons.mpr ⟨(s_icmp_eq (am_dp pw_X10_clash_64 dd_X10_clash_64b.2.2.2.2.1) (by decide)).to, ?_⟩
  refine List.forall_mem_cons.mpr ⟨(s_iloadn (am_dp pw_X10_clash_64 dd_X10_clash_64b.2.2.2.2.2.1) rfl).to, ?_⟩
  refine List.forall_mem_cons.mpr ⟨(s_if_ne (am_dp pw_X10_clash_64 dd_X10_clash_64b.2.2.2.2.2.2.1) (by decide)).to, ?_⟩
  refine List.forall_mem_cons.mpr ⟨(s_iconst (am_dp pw_X10_clash_64 dd_X10_clash_64b.2.2.2.2.2.2.2) (by decide)).to, ?_⟩
  refine List.forall_mem_cons.mpr ⟨s_iret (am_dp pw_X10_clash_96 dd_X10_clash_96a.1) rfl, ?_⟩
  refine List.forall_mem_cons.mpr ⟨(s_iloadn (am_dp pw_X10_clash_96 dd_X10_clash_96a.2.1) rfl).to, ?_⟩
  refine List.forall_mem_cons.mpr ⟨(s_iconst (am_dp pw_X10_clash_96 dd_X10_clash_96a.2.2.1) (by decide)).to, ?_⟩
  refine List.forall_mem_cons.mpr ⟨(s_icmp_ne (am_dp pw_X10_clash_96 dd_X10_clash_96a.2.2.2.1) (by decide)).to, ?_⟩
  refine List.forall_mem_cons.mpr ⟨(s_iload (am_dp pw_X10_clash_96 dd_X10_clash_96a.2.2.2.2.1)).to, ?_⟩
  refine List.forall_mem_cons.mpr ⟨(s_goto (am_dp pw_X10_clash_96 dd_X10_clash_96a.2.2.2.2.2.1) (by decide)).to, ?_⟩
  refine List.forall_mem_cons.mpr ⟨(s_aloadn (am_dp pw_X10_clash_96 dd_X10_clash_96a.2.2.2.2.2.2.1) rfl).to, ?_⟩
  refine List.forall_mem_cons.mpr ⟨(s_get (ci := 8) (k := 0) (am_dp pw_X10_clash_96 dd_X10_clash_96a.2.2.2.2.2.2.2) rfl (by decide) wd519 inX8 rfl).to, ?_⟩
  exact fun _ h => absurd h List.not_mem_nil
theorem sn_tX10_clash_1 : ∀ q ∈ tX10_clash_1, am_Snd am_P0 RX10 cX10_clash 7 (Option.some FieldType.int) "clash" q.1 q.2 := by
  unfold tX10_clash_1
  refine List.forall_mem_cons.mpr ⟨(s_get (ci := 6) (k := 6) (am_dp pw_X10_clash_96 dd_X10_clash_96b.1) rfl (by decide) wd259 inX6 rfl).to, ?_⟩
  refine List.forall_mem_cons.mpr ⟨(s_iload (am_dp pw_X10_clash_96 dd_X10_clash_96b.2.1)).to, ?_⟩
  refine List.forall_mem_cons.mpr ⟨(s_iald (am_dp pw_X10_clash_96 dd_X10_clash_96b.2.2.1)).to, ?_⟩
  refine List.forall_mem_cons.mpr ⟨s_iret (am_dp pw_X10_clash_96 dd_X10_clash_96b.2.2.2) rfl, ?_⟩
  exact fun _ h => absurd h List.not_mem_nil
theorem sn_tX10_clash : ∀ q ∈ tX10_clash, am_Snd am_P0 RX10 cX10_clash 7 (Option.some FieldType.int) "clash" q.1 q.2 := by
  unfold tX10_clash
  exact List.forall_mem_append.mpr ⟨sn_tX10_clash_0, sn_tX10_clash_1⟩
theorem sn_tX10_who : ∀ q ∈ tX10_who, am_Snd am_P0 RX10 cX10_who 2 (Option.some FieldType.int) "who" q.1 q.2 := by
  unfold tX10_who
  refine List.forall_mem_cons.mpr ⟨(s_aloadn (am_dp pw_X10_who_0 dd_X10_who_0a.1) rfl).to, ?_⟩
  refine List.forall_mem_cons.mpr ⟨(s_iloadn (am_dp pw_X10_who_0 dd_X10_who_0a.2.1) rfl).to, ?_⟩
  refine List.forall_mem_cons.mpr ⟨zw_cv150 (am_dp pw_X10_who_0 dd_X10_who_0a.2.2.1) wd921, ?_⟩
  refine List.forall_mem_cons.mpr ⟨(s_if_eq (am_dp pw_X10_who_0 dd_X10_who_0a.2.2.2.1) (by decide)).to, ?_⟩
  refine List.forall_mem_cons.mpr ⟨(s_aloadn (am_dp pw_X10_who_0 dd_X10_who_0a.2.2.2.2.1) rfl).to, ?_⟩
  refine List.forall_mem_cons.mpr ⟨(s_iloadn (am_dp pw_X10_who_0 dd_X10_who_0a.2.2.2.2.2.1) rfl).to, ?_⟩
  refine List.forall_mem_cons.mpr ⟨zw_cv155 (am_dp pw_X10_who_0 dd_X10_who_0a.2.2.2.2.2.2.1) wd1120, ?_⟩
  refine List.forall_mem_cons.mpr ⟨(s_goto (am_dp pw_X10_who_0 dd_X10_who_0a.2.2.2.2.2.2.2) (by decide)).to, ?_⟩
  refine List.forall_mem_cons.mpr ⟨(s_iconst (am_dp pw_X10_who_0 dd_X10_who_0b.1) (by decide)).to, ?_⟩
  refine List.forall_mem_cons.mpr ⟨s_iret (am_dp pw_X10_who_0 dd_X10_who_0b.2) rfl, ?_⟩
  exact fun _ h => absurd h List.not_mem_nil
theorem sn_tX10_swap : ∀ q ∈ tX10_swap, am_Snd am_P0 RX10 cX10_swap 5 (Option.some FieldType.int) "swap" q.1 q.2 := by
  unfold tX10_swap
  refine List.forall_mem_cons.mpr ⟨(s_iloadn (am_dp pw_X10_swap_0 dd_X10_swap_0a.1) rfl).to, ?_⟩
  refine List.forall_mem_cons.mpr ⟨(s_iloadn (am_dp pw_X10_swap_0 dd_X10_swap_0a.2.1) rfl).to, ?_⟩
  refine List.forall_mem_cons.mpr ⟨(s_icmp_eq (am_dp pw_X10_swap_0 dd_X10_swap_0a.2.2.1) (by decide)).to, ?_⟩
  refine List.forall_mem_cons.mpr ⟨(s_aloadn (am_dp pw_X10_swap_0 dd_X10_swap_0a.2.2.2.1) rfl).to, ?_⟩
  refine List.forall_mem_cons.mpr ⟨(s_iloadn (am_dp pw_X10_swap_0 dd_X10_swap_0a.2.2.2.2.1) rfl).to, ?_⟩
  refine List.forall_mem_cons.mpr ⟨zw_cv150 (am_dp pw_X10_swap_0 dd_X10_swap_0a.2.2.2.2.2.1) wd921, ?_⟩
  refine List.forall_mem_cons.mpr ⟨(s_if_eq (am_dp pw_X10_swap_0 dd_X10_swap_0a.2.2.2.2.2.2.1) (by decide)).to, ?_⟩
  refine List.forall_mem_cons.mpr ⟨(s_aloadn (am_dp pw_X10_swap_0 dd_X10_swap_0a.2.2.2.2.2.2.2) rfl).to, ?_⟩
  refine List.forall_mem_cons.mpr ⟨(s_iloadn (am_dp pw_X10_swap_0 dd_X10_swap_0b.1) rfl).to, ?_⟩
  refine List.forall_mem_cons.mpr ⟨zw_cv150 (am_dp pw_X10_swap_0 dd_X10_swap_0b.2.1) wd921, ?_⟩
  refine List.forall_mem_cons.mpr ⟨(s_if_ne (am_dp pw_X10_swap_0 dd_X10_swap_0b.2.2.1) (by decide)).to, ?_⟩
  refine List.forall_mem_cons.mpr ⟨(s_iconst (am_dp pw_X10_swap_0 dd_X10_swap_0b.2.2.2.1) (by decide)).to, ?_⟩
  refine List.forall_mem_cons.mpr ⟨s_iret (am_dp pw_X10_swap_0 dd_X10_swap_0b.2.2.2.2.1) rfl, ?_⟩
  refine List.forall_mem_cons.mpr ⟨(s_aloadn (am_dp pw_X10_swap_0 dd_X10_swap_0b.2.2.2.2.2.1) rfl).to, ?_⟩
  refine List.forall_mem_cons.mpr ⟨(s_get (ci := 10) (k := 2) (am_dp pw_X10_swap_0 dd_X10_swap_0b.2.2.2.2.2.2.1) rfl (by decide) wd581 inX10 rfl).to, ?_⟩
  refine List.forall_mem_cons.mpr ⟨(s_get (ci := 5) (k := 4) (am_dp pw_X10_swap_0 dd_X10_swap_0b.2.2.2.2.2.2.2) rfl (by decide) wd318 inX5 rfl).to, ?_⟩
  refine List.forall_mem_cons.mpr ⟨(s_iloadn (am_dp pw_X10_swap_0 dd_X10_swap_0c.1) rfl).to, ?_⟩
  refine List.forall_mem_cons.mpr ⟨(s_aald (am_dp pw_X10_swap_0 dd_X10_swap_0c.2)).to, ?_⟩
  refine List.forall_mem_cons.mpr ⟨(s_astoren (am_dp pw_X10_swap_32 dd_X10_swap_32a.1) rfl (by decide)).to, ?_⟩
  refine List.forall_mem_cons.mpr ⟨(s_aloadn (am_dp pw_X10_swap_32 dd_X10_swap_32a.2.1) rfl).to, ?_⟩
  refine List.forall_mem_cons.mpr ⟨(s_get (ci := 10) (k := 2) (am_dp pw_X10_swap_32 dd_X10_swap_32a.2.2.1) rfl (by decide) wd581 inX10 rfl).to, ?_⟩
  refine List.forall_mem_cons.mpr ⟨(s_get (ci := 5) (k := 4) (am_dp pw_X10_swap_32 dd_X10_swap_32a.2.2.2.1) rfl (by decide) wd318 inX5 rfl).to, ?_⟩
  refine List.forall_mem_cons.mpr ⟨(s_iloadn (am_dp pw_X10_swap_32 dd_X10_swap_32a.2.2.2.2.1) rfl).to, ?_⟩
  refine List.forall_mem_cons.mpr ⟨(s_aald (am_dp pw_X10_swap_32 dd_X10_swap_32a.2.2.2.2.2.1)).to, ?_⟩
  refine List.forall_mem_cons.mpr ⟨(s_astore (am_dp pw_X10_swap_32 dd_X10_swap_32a.2.2.2.2.2.2.1) (by decide)).to, ?_⟩
  refine List.forall_mem_cons.mpr ⟨(s_aloadn (am_dp pw_X10_swap_32 dd_X10_swap_32a.2.2.2.2.2.2.2) rfl).to, ?_⟩
  refine List.forall_mem_cons.mpr ⟨(s_get (ci := 6) (k := 5) (am_dp pw_X10_swap_32 dd_X10_swap_32b.1) rfl (by decide) wd255 inX6 rfl).to, ?_⟩
  refine List.forall_mem_cons.mpr ⟨(s_if_eq (am_dp pw_X10_swap_32 dd_X10_swap_32b.2.1) (by decide)).to, ?_⟩
  refine List.forall_mem_cons.mpr ⟨(s_aload (am_dp pw_X10_swap_32 dd_X10_swap_32b.2.2.1)).to, ?_⟩
  refine List.forall_mem_cons.mpr ⟨(s_get (ci := 6) (k := 5) (am_dp pw_X10_swap_32 dd_X10_swap_32b.2.2.2.1) rfl (by decide) wd255 inX6 rfl).to, ?_⟩
  refine List.forall_mem_cons.mpr ⟨(s_if_ne (am_dp pw_X10_swap_32 dd_X10_swap_32b.2.2.2.2.1) (by decide)).to, ?_⟩
  refine List.forall_mem_cons.mpr ⟨(s_iconst (am_dp pw_X10_swap_32 dd_X10_swap_32b.2.2.2.2.2.1) (by decide)).to, ?_⟩
  refine List.forall_mem_cons.mpr ⟨s_iret (am_dp pw_X10_swap_32 dd_X10_swap_32b.2.2.2.2.2.2.1) rfl, ?_⟩
  refine List.forall_mem_cons.mpr ⟨(s_aloadn (am_dp pw_X10_swap_32 dd_X10_swap_32b.2.2.2.2.2.2.2) rfl).to, ?_⟩
  refine List.forall_mem_cons.mpr ⟨(s_get (ci := 10) (k := 7) (am_dp pw_X10_swap_32 dd_X10_swap_32c) rfl (by decide) wd586 inX10 rfl).to, ?_⟩
  refine List.forall_mem_cons.mpr ⟨(s_iloadn (am_dp pw_X10_swap_64 dd_X10_swap_64a.1) rfl).to, ?_⟩
  refine List.forall_mem_cons.mpr ⟨(s_aald (am_dp pw_X10_swap_64 dd_X10_swap_64a.2.1)).to, ?_⟩
  refine List.forall_mem_cons.mpr ⟨(s_aload (am_dp pw_X10_swap_64 dd_X10_swap_64a.2.2.1)).to, ?_⟩
  refine List.forall_mem_cons.mpr ⟨(s_iconst (am_dp pw_X10_swap_64 dd_X10_swap_64a.2.2.2.1) (by decide)).to, ?_⟩
  refine List.forall_mem_cons.mpr ⟨(s_iconst (am_dp pw_X10_swap_64 dd_X10_swap_64a.2.2.2.2.1) (by decide)).to, ?_⟩
  refine List.forall_mem_cons.mpr ⟨zw_cv79 (am_dp pw_X10_swap_64 dd_X10_swap_64a.2.2.2.2.2.1) wd1124, ?_⟩
  refine List.forall_mem_cons.mpr ⟨(s_if_eq (am_dp pw_X10_swap_64 dd_X10_swap_64a.2.2.2.2.2.2.1) (by decide)).to, ?_⟩
  refine List.forall_mem_cons.mpr ⟨(s_aloadn (am_dp pw_X10_swap_64 dd_X10_swap_64a.2.2.2.2.2.2.2) rfl).to, ?_⟩
  refine List.forall_mem_cons.mpr ⟨(s_get (ci := 10) (k := 7) (am_dp pw_X10_swap_64 dd_X10_swap_64b.1) rfl (by decide) wd586 inX10 rfl).to, ?_⟩
  refine List.forall_mem_cons.mpr ⟨(s_iloadn (am_dp pw_X10_swap_64 dd_X10_swap_64b.2.1) rfl).to, ?_⟩
  refine List.forall_mem_cons.mpr ⟨(s_aald (am_dp pw_X10_swap_64 dd_X10_swap_64b.2.2.1)).to, ?_⟩
  refine List.forall_mem_cons.mpr ⟨(s_aloadn (am_dp pw_X10_swap_64 dd_X10_swap_64b.2.2.2.1) rfl).to, ?_⟩
  refine List.forall_mem_cons.mpr ⟨(s_iconst (am_dp pw_X10_swap_64 dd_X10_swap_64b.2.2.2.2.1) (by decide)).to, ?_⟩
  refine List.forall_mem_cons.mpr ⟨(s_iconst (am_dp pw_X10_swap_64 dd_X10_swap_64b.2.2.2.2.2.1) (by decide)).to, ?_⟩
  refine List.forall_mem_cons.mpr ⟨zw_cv79 (am_dp pw_X10_swap_64 dd_X10_swap_64b.2.2.2.2.2.2.1) wd1124, ?_⟩
  refine List.forall_mem_cons.mpr ⟨(s_if_eq (am_dp pw_X10_swap_64 dd_X10_swap_64b.2.2.2.2.2.2.2) (by decide)).to, ?_⟩
  refine List.forall_mem_cons.mpr ⟨(s_iconst (am_dp pw_X10_swap_64 dd_X10_swap_64c.1) (by decide)).to, ?_⟩
  refine List.forall_mem_cons.mpr ⟨(s_goto (am_dp pw_X10_swap_64 dd_X10_swap_64c.2) (by decide)).to, ?_⟩
  refine List.forall_mem_cons.mpr ⟨(s_iconst (am_dp pw_X10_swap_96 dd_X10_swap_96a.1) (by decide)).to, ?_⟩
  refine List.forall_mem_cons.mpr ⟨zw_cs148 (am_dp pw_X10_swap_96 dd_X10_swap_96a.2.1) wd1004, ?_⟩
  refine List.forall_mem_cons.mpr ⟨s_iret (am_dp pw_X10_swap_96 dd_X10_swap_96a.2.2) rfl, ?_⟩
  exact fun _ h => absurd h List.not_mem_nil
theorem sn_tX10_kinds : ∀ q ∈ tX10_kinds, am_Snd am_P0 RX10 cX10_kinds 4 (Option.some FieldType.int) "kinds" q.1 q.2 := by
  unfold tX10_kinds
  refine List.forall_mem_cons.mpr ⟨(s_iloadn (am_dp pw_X10_kinds_0 dd_X10_kinds_0a.1) rfl).to, ?_⟩
  refine List.forall_mem_cons.mpr ⟨(s_iconst (am_dp pw_X10_kinds_0 dd_X10_kinds_0a.2.1) (by decide)).to, ?_⟩
  refine List.forall_mem_cons.mpr ⟨(s_icmp_lt (am_dp pw_X10_kinds_0 dd_X10_kinds_0a.2.2.1) (by decide)).to, ?_⟩
  refine List.forall_mem_cons.mpr ⟨(s_iloadn (am_dp pw_X10_kinds_0 dd_X10_kinds_0a.2.2.2.1) rfl).to, ?_⟩
  refine List.forall_mem_cons.mpr ⟨(s_iconst (am_dp pw_X10_kinds_0 dd_X10_kinds_0a.2.2.2.2.1) (by decide)).to, ?_⟩
  refine List.forall_mem_cons.mpr ⟨(s_icmp_lt (am_dp pw_X10_kinds_0 dd_X10_kinds_0a.2.2.2.2.2.1) (by decide)).to, ?_⟩
  refine List.forall_mem_cons.mpr ⟨(s_iconst (am_dp pw_X10_kinds_0 dd_X10_kinds_0a.2.2.2.2.2.2.1) (by decide)).to, ?_⟩
  refine List.forall_mem_cons.mpr ⟨s_iret (am_dp pw_X10_kinds_0 dd_X10_kinds_0a.2.2.2.2.2.2.2) rfl, ?_⟩
  refine List.forall_mem_cons.mpr ⟨(s_iconst (am_dp pw_X10_kinds_0 dd_X10_kinds_0b.1) (by decide)).to, ?_⟩
  refine List.forall_mem_cons.mpr ⟨(s_istoren (am_dp pw_X10_kinds_0 dd_X10_kinds_0b.2.1) rfl (by decide)).to, ?_⟩
  refine List.forall_mem_cons.mpr ⟨(s_iconst (am_dp pw_X10_kinds_0 dd_X10_kinds_0b.2.2.1) (by decide)).to, ?_⟩
  refine List.forall_mem_cons.mpr ⟨(s_istoren (am_dp pw_X10_kinds_0 dd_X10_kinds_0b.2.2.2.1) rfl (by decide)).to, ?_⟩
  refine List.forall_mem_cons.mpr ⟨(s_iloadn (am_dp pw_X10_kinds_0 dd_X10_kinds_0b.2.2.2.2.1) rfl).to, ?_⟩
  refine List.forall_mem_cons.mpr ⟨(s_aloadn (am_dp pw_X10_kinds_0 dd_X10_kinds_0b.2.2.2.2.2.1) rfl).to, ?_⟩
  refine List.forall_mem_cons.mpr ⟨(s_get (ci := 10) (k := 2) (am_dp pw_X10_kinds_0 dd_X10_kinds_0b.2.2.2.2.2.2.1) rfl (by decide) wd581 inX10 rfl).to, ?_⟩
  refine List.forall_mem_cons.mpr ⟨(s_get (ci := 5) (k := 3) (am_dp pw_X10_kinds_0 dd_X10_kinds_0b.2.2.2.2.2.2.2) rfl (by decide) wd315 inX5 rfl).to, ?_⟩
  refine List.forall_mem_cons.mpr ⟨(s_icmp_ge (am_dp pw_X10_kinds_0 dd_X10_kinds_0c.1) (by decide)).to, ?_⟩
  refine List.forall_mem_cons.mpr ⟨(s_aloadn (am_dp pw_X10_kinds_0 dd_X10_kinds_0c.2.1) rfl).to, ?_⟩
  refine List.forall_mem_cons.mpr ⟨(s_get (ci := 10) (k := 2) (am_dp pw_X10_kinds_0 dd_X10_kinds_0c.2.2.1) rfl (by decide) wd581 inX10 rfl).to, ?_⟩
  refine List.forall_mem_cons.mpr ⟨(s_get (ci := 5) (k := 4) (am_dp pw_X10_kinds_0 dd_X10_kinds_0c.2.2.2) rfl (by decide) wd318 inX5 rfl).to, ?_⟩
  refine List.forall_mem_cons.mpr ⟨(s_iloadn (am_dp pw_X10_kinds_32 dd_X10_kinds_32a.1) rfl).to, ?_⟩
  refine List.forall_mem_cons.mpr ⟨(s_aald (am_dp pw_X10_kinds_32 dd_X10_kinds_32a.2.1)).to, ?_⟩
  refine List.forall_mem_cons.mpr ⟨(s_get (ci := 6) (k := 5) (am_dp pw_X10_kinds_32 dd_X10_kinds_32a.2.2.1) rfl (by decide) wd255 inX6 rfl).to, ?_⟩
  refine List.forall_mem_cons.mpr ⟨(s_if_le (am_dp pw_X10_kinds_32 dd_X10_kinds_32a.2.2.2.1) (by decide)).to, ?_⟩
  refine List.forall_mem_cons.mpr ⟨(s_aloadn (am_dp pw_X10_kinds_32 dd_X10_kinds_32a.2.2.2.2.1) rfl).to, ?_⟩
  refine List.forall_mem_cons.mpr ⟨(s_iloadn (am_dp pw_X10_kinds_32 dd_X10_kinds_32a.2.2.2.2.2.1) rfl).to, ?_⟩
  refine List.forall_mem_cons.mpr ⟨zw_cv156 (am_dp pw_X10_kinds_32 dd_X10_kinds_32a.2.2.2.2.2.2.1) wd1090, ?_⟩
  refine List.forall_mem_cons.mpr ⟨zw_cs157 (am_dp pw_X10_kinds_32 dd_X10_kinds_32a.2.2.2.2.2.2.2) wd1170, ?_⟩
  refine List.forall_mem_cons.mpr ⟨(s_iloadn (am_dp pw_X10_kinds_32 dd_X10_kinds_32b.1) rfl).to, ?_⟩
  refine List.forall_mem_cons.mpr ⟨(s_icmp_ne (am_dp pw_X10_kinds_32 dd_X10_kinds_32b.2.1) (by decide)).to, ?_⟩
  refine List.forall_mem_cons.mpr ⟨(s_iinc (am_dp pw_X10_kinds_32 dd_X10_kinds_32b.2.2.1) (by decide) (by decide)).to, ?_⟩
  refine List.forall_mem_cons.mpr ⟨(s_iinc (am_dp pw_X10_kinds_32 dd_X10_kinds_32b.2.2.2.1) (by decide) (by decide)).to, ?_⟩
  refine List.forall_mem_cons.mpr ⟨(s_goto (am_dp pw_X10_kinds_32 dd_X10_kinds_32b.2.2.2.2.1) (by decide)).to, ?_⟩
  refine List.forall_mem_cons.mpr ⟨(s_iloadn (am_dp pw_X10_kinds_32 dd_X10_kinds_32b.2.2.2.2.2) rfl).to, ?_⟩
  refine List.forall_mem_cons.mpr ⟨s_iret (am_dp pw_X10_kinds_64 dd_X10_kinds_64a) rfl, ?_⟩
  exact fun _ h => absurd h List.not_mem_nil
theorem sn_tX10_lies : ∀ q ∈ tX10_lies, am_Snd am_P0 RX10 cX10_lies 3 (Option.some FieldType.int) "lies" q.1 q.2 := by
  unfold tX10_lies
  refine List.forall_mem_cons.mpr ⟨(s_iconst (am_dp pw_X10_lies_0 dd_X10_lies_0a.1) (by decide)).to, ?_⟩
  refine List.forall_mem_cons.mpr ⟨(s_istoren (am_dp pw_X10_lies_0 dd_X10_lies_0a.2.1) rfl (by decide)).to, ?_⟩
  refine List.forall_mem_cons.mpr ⟨(s_iconst (am_dp pw_X10_lies_0 dd_X10_lies_0a.2.2.1) (by decide)).to, ?_⟩
  refine List.forall_mem_cons.mpr ⟨(s_istoren (am_dp pw_X10_lies_0 dd_X10_lies_0a.2.2.2.1) rfl (by decide)).to, ?_⟩
  refine List.forall_mem_cons.mpr ⟨(s_iloadn (am_dp pw_X10_lies_0 dd_X10_lies_0a.2.2.2.2.1) rfl).to, ?_⟩
  refine List.forall_mem_cons.mpr ⟨(s_aloadn (am_dp pw_X10_lies_0 dd_X10_lies_0a.2.2.2.2.2.1) rfl).to, ?_⟩
  refine List.forall_mem_cons.mpr ⟨(s_get (ci := 10) (k := 2) (am_dp pw_X10_lies_0 dd_X10_lies_0a.2.2.2.2.2.2.1) rfl (by decide) wd581 inX10 rfl).to, ?_⟩
  refine List.forall_mem_cons.mpr ⟨(s_get (ci := 5) (k := 3) (am_dp pw_X10_lies_0 dd_X10_lies_0a.2.2.2.2.2.2.2) rfl (by decide) wd315 inX5 rfl).to, ?_⟩
  refine List.forall_mem_cons.mpr ⟨(s_icmp_ge (am_dp pw_X10_lies_0 dd_X10_lies_0b.1) (by decide)).to, ?_⟩
  refine List.forall_mem_cons.mpr ⟨(s_iloadn (am_dp pw_X10_lies_0 dd_X10_lies_0b.2.1) rfl).to, ?_⟩
  refine List.forall_mem_cons.mpr ⟨(s_aloadn (am_dp pw_X10_lies_0 dd_X10_lies_0b.2.2.1) rfl).to, ?_⟩
  refine List.forall_mem_cons.mpr ⟨(s_get (ci := 10) (k := 2) (am_dp pw_X10_lies_0 dd_X10_lies_0b.2.2.2.1) rfl (by decide) wd581 inX10 rfl).to, ?_⟩
  refine List.forall_mem_cons.mpr ⟨(s_get (ci := 5) (k := 4) (am_dp pw_X10_lies_0 dd_X10_lies_0b.2.2.2.2.1) rfl (by decide) wd318 inX5 rfl).to, ?_⟩
  refine List.forall_mem_cons.mpr ⟨(s_iloadn (am_dp pw_X10_lies_0 dd_X10_lies_0b.2.2.2.2.2.1) rfl).to, ?_⟩
  refine List.forall_mem_cons.mpr ⟨(s_aald (am_dp pw_X10_lies_0 dd_X10_lies_0b.2.2.2.2.2.2.1)).to, ?_⟩
  refine List.forall_mem_cons.mpr ⟨(s_get (ci := 6) (k := 5) (am_dp pw_X10_lies_0 dd_X10_lies_0b.2.2.2.2.2.2.2) rfl (by decide) wd255 inX6 rfl).to, ?_⟩
  refine List.forall_mem_cons.mpr ⟨(s_aloadn (am_dp pw_X10_lies_0 dd_X10_lies_0c.1) rfl).to, ?_⟩
  refine List.forall_mem_cons.mpr ⟨(s_iloadn (am_dp pw_X10_lies_0 dd_X10_lies_0c.2.1) rfl).to, ?_⟩
  refine List.forall_mem_cons.mpr ⟨zw_cv154 (am_dp pw_X10_lies_0 dd_X10_lies_0c.2.2) wd929, ?_⟩
  refine List.forall_mem_cons.mpr ⟨(s_get (ci := 8) (k := 11) (am_dp pw_X10_lies_32 dd_X10_lies_32a.1) rfl (by decide) wd534 inX8 rfl).to, ?_⟩
  refine List.forall_mem_cons.mpr ⟨(s_isub (am_dp pw_X10_lies_32 dd_X10_lies_32a.2.1)).to, ?_⟩
  refine List.forall_mem_cons.mpr ⟨(s_iadd (am_dp pw_X10_lies_32 dd_X10_lies_32a.2.2.1)).to, ?_⟩
  refine List.forall_mem_cons.mpr ⟨(s_istoren (am_dp pw_X10_lies_32 dd_X10_lies_32a.2.2.2.1) rfl (by decide)).to, ?_⟩
  refine List.forall_mem_cons.mpr ⟨(s_iinc (am_dp pw_X10_lies_32 dd_X10_lies_32a.2.2.2.2.1) (by decide) (by decide)).to, ?_⟩
  refine List.forall_mem_cons.mpr ⟨(s_goto (am_dp pw_X10_lies_32 dd_X10_lies_32a.2.2.2.2.2.1) (by decide)).to, ?_⟩
  refine List.forall_mem_cons.mpr ⟨(s_iloadn (am_dp pw_X10_lies_32 dd_X10_lies_32a.2.2.2.2.2.2.1) rfl).to, ?_⟩
  refine List.forall_mem_cons.mpr ⟨s_iret (am_dp pw_X10_lies_32 dd_X10_lies_32a.2.2.2.2.2.2.2) rfl, ?_⟩
  exact fun _ h => absurd h List.not_mem_nil
theorem sn_tX10_met_0 : ∀ q ∈ tX10_met_0, am_Snd am_P0 RX10 cX10_met 13 (Option.some FieldType.int) "met" q.1 q.2 := by
  unfold tX10_met_0
  refine List.forall_mem_cons.mpr ⟨(s_iloadn (am_dp pw_X10_met_0 dd_X10_met_0a.1) rfl).to, ?_⟩
  refine List.forall_mem_cons.mpr ⟨(s_iloadn (am_dp pw_X10_met_0 dd_X10_met_0a.2.1) rfl).to, ?_⟩
  refine List.forall_mem_cons.mpr ⟨(s_icmp_eq (am_dp pw_X10_met_0 dd_X10_met_0a.2.2.1) (by decide)).to, ?_⟩
  refine List.forall_mem_cons.mpr ⟨(s_aloadn (am_dp pw_X10_met_0 dd_X10_met_0a.2.2.2.1) rfl).to, ?_⟩
  refine List.forall_mem_cons.mpr ⟨(s_iloadn (am_dp pw_X10_met_0 dd_X10_met_0a.2.2.2.2.1) rfl).to, ?_⟩
  refine List.forall_mem_cons.mpr ⟨zw_cv150 (am_dp pw_X10_met_0 dd_X10_met_0a.2.2.2.2.2.1) wd921, ?_⟩
  refine List.forall_mem_cons.mpr ⟨(s_if_eq (am_dp pw_X10_met_0 dd_X10_met_0a.2.2.2.2.2.2.1) (by decide)).to, ?_⟩
  refine List.forall_mem_cons.mpr ⟨(s_aloadn (am_dp pw_X10_met_0 dd_X10_met_0a.2.2.2.2.2.2.2) rfl).to, ?_⟩
  refine List.forall_mem_cons.mpr ⟨(s_iloadn (am_dp pw_X10_met_0 dd_X10_met_0b.1) rfl).to, ?_⟩
  refine List.forall_mem_cons.mpr ⟨zw_cv150 (am_dp pw_X10_met_0 dd_X10_met_0b.2.1) wd921, ?_⟩
  refine List.forall_mem_cons.mpr ⟨(s_if_eq (am_dp pw_X10_met_0 dd_X10_met_0b.2.2.1) (by decide)).to, ?_⟩
  refine List.forall_mem_cons.mpr ⟨(s_iloadn (am_dp pw_X10_met_0 dd_X10_met_0b.2.2.2.1) rfl).to, ?_⟩
  refine List.forall_mem_cons.mpr ⟨(s_if_lt (am_dp pw_X10_met_0 dd_X10_met_0b.2.2.2.2.1) (by decide)).to, ?_⟩
  refine List.forall_mem_cons.mpr ⟨(s_iloadn (am_dp pw_X10_met_0 dd_X10_met_0b.2.2.2.2.2.1) rfl).to, ?_⟩
  refine List.forall_mem_cons.mpr ⟨(s_iconst (am_dp pw_X10_met_0 dd_X10_met_0b.2.2.2.2.2.2.1) (by decide)).to, ?_⟩
  refine List.forall_mem_cons.mpr ⟨(s_icmp_le (am_dp pw_X10_met_0 dd_X10_met_0b.2.2.2.2.2.2.2) (by decide)).to, ?_⟩
  refine List.forall_mem_cons.mpr ⟨(s_iconst (am_dp pw_X10_met_0 dd_X10_met_0c.1) (by decide)).to, ?_⟩
  refine List.forall_mem_cons.mpr ⟨s_iret (am_dp pw_X10_met_0 dd_X10_met_0c.2) rfl, ?_⟩
  refine List.forall_mem_cons.mpr ⟨(s_aloadn (am_dp pw_X10_met_32 dd_X10_met_32a.1) rfl).to, ?_⟩
  refine List.forall_mem_cons.mpr ⟨(s_iloadn (am_dp pw_X10_met_32 dd_X10_met_32a.2.1) rfl).to, ?_⟩
  refine List.forall_mem_cons.mpr ⟨zw_cv154 (am_dp pw_X10_met_32 dd_X10_met_32a.2.2.1) wd929, ?_⟩
  refine List.forall_mem_cons.mpr ⟨(s_astore (am_dp pw_X10_met_32 dd_X10_met_32a.2.2.2.1) (by decide)).to, ?_⟩
  refine List.forall_mem_cons.mpr ⟨(s_aloadn (am_dp pw_X10_met_32 dd_X10_met_32a.2.2.2.2.1) rfl).to, ?_⟩
  refine List.forall_mem_cons.mpr ⟨(s_iloadn (am_dp pw_X10_met_32 dd_X10_met_32a.2.2.2.2.2.1) rfl).to, ?_⟩
  refine List.forall_mem_cons.mpr ⟨zw_cv154 (am_dp pw_X10_met_32 dd_X10_met_32a.2.2.2.2.2.2.1) wd929, ?_⟩
  refine List.forall_mem_cons.mpr ⟨(s_astore (am_dp pw_X10_met_32 dd_X10_met_32a.2.2.2.2.2.2.2) (by decide)).to, ?_⟩
  refine List.forall_mem_cons.mpr ⟨(s_aload (am_dp pw_X10_met_32 dd_X10_met_32b.1)).to, ?_⟩
  refine List.forall_mem_cons.mpr ⟨(s_iconst (am_dp pw_X10_met_32 dd_X10_met_32b.2.1) (by decide)).to, ?_⟩
  refine List.forall_mem_cons.mpr ⟨zw_cv100 (am_dp pw_X10_met_32 dd_X10_met_32b.2.2.1) wd1181, ?_⟩
  refine List.forall_mem_cons.mpr ⟨(s_aload (am_dp pw_X10_met_32 dd_X10_met_32b.2.2.2.1)).to, ?_⟩
  refine List.forall_mem_cons.mpr ⟨(s_iconst (am_dp pw_X10_met_32 dd_X10_met_32b.2.2.2.2.1) (by decide)).to, ?_⟩
  refine List.forall_mem_cons.mpr ⟨zw_cv100 (am_dp pw_X10_met_32 dd_X10_met_32b.2.2.2.2.2.1) wd1181, ?_⟩
  refine List.forall_mem_cons.mpr ⟨(s_land (am_dp pw_X10_met_32 dd_X10_met_32b.2.2.2.2.2.2.1)).to, ?_⟩
  refine List.forall_mem_cons.mpr ⟨(s_lstore (am_dp pw_X10_met_32 dd_X10_met_32b.2.2.2.2.2.2.2) (by decide)).to, ?_⟩
  refine List.forall_mem_cons.mpr ⟨(s_iconst (am_dp pw_X10_met_32 dd_X10_met_32c.1) (by decide)).to, ?_⟩
  refine List.forall_mem_cons.mpr ⟨(s_istore (am_dp pw_X10_met_32 dd_X10_met_32c.2) (by decide)).to, ?_⟩
  refine List.forall_mem_cons.mpr ⟨(s_iconst (am_dp pw_X10_met_64 dd_X10_met_64a.1) (by decide)).to, ?_⟩
  refine List.forall_mem_cons.mpr ⟨(s_istore (am_dp pw_X10_met_64 dd_X10_met_64a.2.1) (by decide)).to, ?_⟩
  refine List.forall_mem_cons.mpr ⟨(s_iconst (am_dp pw_X10_met_64 dd_X10_met_64a.2.2.1) (by decide)).to, ?_⟩
  refine List.forall_mem_cons.mpr ⟨(s_istore (am_dp pw_X10_met_64 dd_X10_met_64a.2.2.2.1) (by decide)).to, ?_⟩
  refine List.forall_mem_cons.mpr ⟨(s_iconst (am_dp pw_X10_met_64 dd_X10_met_64a.2.2.2.2.1) (by decide)).to, ?_⟩
  refine List.forall_mem_cons.mpr ⟨(s_istore (am_dp pw_X10_met_64 dd_X10_met_64a.2.2.2.2.2.1) (by decide)).to, ?_⟩
  refine List.forall_mem_cons.mpr ⟨(s_iload (am_dp pw_X10_met_64 dd_X10_met_64a.2.2.2.2.2.2.1)).to, ?_⟩
  refine List.forall_mem_cons.mpr ⟨(s_bipush (am_dp pw_X10_met_64 dd_X10_met_64a.2.2.2.2.2.2.2) (by decide)).to, ?_⟩
  refine List.forall_mem_cons.mpr ⟨(s_icmp_ge (am_dp pw_X10_met_64 dd_X10_met_64b.1) (by decide)).to, ?_⟩
  refine List.forall_mem_cons.mpr ⟨(s_lload (am_dp pw_X10_met_64 dd_X10_met_64b.2.1)).to, ?_⟩
  refine List.forall_mem_cons.mpr ⟨(s_iload (am_dp pw_X10_met_64 dd_X10_met_64b.2.2.1)).to, ?_⟩
  refine List.forall_mem_cons.mpr ⟨(s_lushr (am_dp pw_X10_met_64 dd_X10_met_64b.2.2.2.1)).to, ?_⟩
  refine List.forall_mem_cons.mpr ⟨(s_lconst (am_dp pw_X10_met_64 dd_X10_met_64b.2.2.2.2.1) (by decide)).to, ?_⟩
  refine List.forall_mem_cons.mpr ⟨(s_land (am_dp pw_X10_met_64 dd_X10_met_64b.2.2.2.2.2.1)).to, ?_⟩
  refine List.forall_mem_cons.mpr ⟨(s_lconst (am_dp pw_X10_met_64 dd_X10_met_64b.2.2.2.2.2.2.1) (by decide)).to, ?_⟩
  refine List.forall_mem_cons.mpr ⟨(s_lcmp (am_dp pw_X10_met_64 dd_X10_met_64b.2.2.2.2.2.2.2)).to, ?_⟩
  refine List.forall_mem_cons.mpr ⟨(s_if_ne (am_dp pw_X10_met_64 dd_X10_met_64c.1) (by decide)).to, ?_⟩
  refine List.forall_mem_cons.mpr ⟨(s_iconst (am_dp pw_X10_met_64 dd_X10_met_64c.2.1) (by decide)).to, ?_⟩
  refine List.forall_mem_cons.mpr ⟨(s_goto (am_dp pw_X10_met_64 dd_X10_met_64c.2.2) (by decide)).to, ?_⟩
  refine List.forall_mem_cons.mpr ⟨(s_aload (am_dp pw_X10_met_96 dd_X10_met_96a.1)).to, ?_⟩
  refine List.forall_mem_cons.mpr ⟨(s_aload (am_dp pw_X10_met_96 dd_X10_met_96a.2.1)).to, ?_⟩
  refine List.forall_mem_cons.mpr ⟨(s_iload (am_dp pw_X10_met_96 dd_X10_met_96a.2.2.1)).to, ?_⟩
  refine List.forall_mem_cons.mpr ⟨zw_cv90 (am_dp pw_X10_met_96 dd_X10_met_96a.2.2.2.1) wd1185, ?_⟩
  refine List.forall_mem_cons.mpr ⟨(s_istore (am_dp pw_X10_met_96 dd_X10_met_96a.2.2.2.2.1) (by decide)).to, ?_⟩
  exact fun _ h => absurd h List.not_mem_nil
theorem sn_tX10_met_1 : ∀ q ∈ tX10_met_1, am_Snd am_P0 RX10 cX10_met 13 (Option.some FieldType.int) "met" q.1 q.2 := by
  unfold tX10_met_1
  refine List.forall_mem_cons.mpr ⟨(s_iload (am_dp pw_X10_met_96 dd_X10_met_96a.2.2.2.2.2.1)).to, ?_⟩
  refine List.forall_mem_cons.mpr ⟨(s_if_le (am_dp pw_X10_met_96 dd_X10_met_96a.2.2.2.2.2.2.1) (by decide)).to, ?_⟩
  refine List.forall_mem_cons.mpr ⟨(s_iinc (am_dp pw_X10_met_96 dd_X10_met_96a.2.2.2.2.2.2.2) (by decide) (by decide)).to, ?_⟩
  refine List.forall_mem_cons.mpr ⟨(s_iload (am_dp pw_X10_met_96 dd_X10_met_96b.1)).to, ?_⟩
  refine List.forall_mem_cons.mpr ⟨(s_iload (am_dp pw_X10_met_96 dd_X10_met_96b.2.1)).to, ?_⟩
  refine List.forall_mem_cons.mpr ⟨(s_iadd (am_dp pw_X10_met_96 dd_X10_met_96b.2.2.1)).to, ?_⟩
  refine List.forall_mem_cons.mpr ⟨(s_istore (am_dp pw_X10_met_96 dd_X10_met_96b.2.2.2.1) (by decide)).to, ?_⟩
  refine List.forall_mem_cons.mpr ⟨(s_iload (am_dp pw_X10_met_96 dd_X10_met_96b.2.2.2.2.1)).to, ?_⟩
  refine List.forall_mem_cons.mpr ⟨(s_iconst (am_dp pw_X10_met_96 dd_X10_met_96b.2.2.2.2.2.1) (by decide)).to, ?_⟩
  refine List.forall_mem_cons.mpr ⟨(s_icmp_ne (am_dp pw_X10_met_96 dd_X10_met_96b.2.2.2.2.2.2) (by decide)).to, ?_⟩
  refine List.forall_mem_cons.mpr ⟨(s_iload (am_dp pw_X10_met_128 dd_X10_met_128a.1)).to, ?_⟩
  refine List.forall_mem_cons.mpr ⟨(s_goto (am_dp pw_X10_met_128 dd_X10_met_128a.2.1) (by decide)).to, ?_⟩
  refine List.forall_mem_cons.mpr ⟨(s_iload (am_dp pw_X10_met_128 dd_X10_met_128a.2.2.1)).to, ?_⟩
  refine List.forall_mem_cons.mpr ⟨(s_istore (am_dp pw_X10_met_128 dd_X10_met_128a.2.2.2.1) (by decide)).to, ?_⟩
  refine List.forall_mem_cons.mpr ⟨(s_iinc (am_dp pw_X10_met_128 dd_X10_met_128a.2.2.2.2.1) (by decide) (by decide)).to, ?_⟩
  refine List.forall_mem_cons.mpr ⟨(s_goto (am_dp pw_X10_met_128 dd_X10_met_128a.2.2.2.2.2.1) (by decide)).to, ?_⟩
  refine List.forall_mem_cons.mpr ⟨(s_iloadn (am_dp pw_X10_met_128 dd_X10_met_128a.2.2.2.2.2.2.1) rfl).to, ?_⟩
  refine List.forall_mem_cons.mpr ⟨(s_if_ne (am_dp pw_X10_met_128 dd_X10_met_128a.2.2.2.2.2.2.2) (by decide)).to, ?_⟩
  refine List.forall_mem_cons.mpr ⟨(s_iload (am_dp pw_X10_met_128 dd_X10_met_128b.1)).to, ?_⟩
  refine List.forall_mem_cons.mpr ⟨(s_goto (am_dp pw_X10_met_128 dd_X10_met_128b.2.1) (by decide)).to, ?_⟩
  refine List.forall_mem_cons.mpr ⟨(s_iloadn (am_dp pw_X10_met_128 dd_X10_met_128b.2.2.1) rfl).to, ?_⟩
  refine List.forall_mem_cons.mpr ⟨(s_iconst (am_dp pw_X10_met_128 dd_X10_met_128b.2.2.2.1) (by decide)).to, ?_⟩
  refine List.forall_mem_cons.mpr ⟨(s_icmp_ne (am_dp pw_X10_met_128 dd_X10_met_128b.2.2.2.2.1) (by decide)).to, ?_⟩
  refine List.forall_mem_cons.mpr ⟨(s_iload (am_dp pw_X10_met_128 dd_X10_met_128b.2.2.2.2.2.1)).to, ?_⟩
  refine List.forall_mem_cons.mpr ⟨(s_goto (am_dp pw_X10_met_128 dd_X10_met_128b.2.2.2.2.2.2) (by decide)).to, ?_⟩
  refine List.forall_mem_cons.mpr ⟨(s_iload (am_dp pw_X10_met_160 dd_X10_met_160a.1)).to, ?_⟩
  refine List.forall_mem_cons.mpr ⟨s_iret (am_dp pw_X10_met_160 dd_X10_met_160a.2) rfl, ?_⟩
  exact fun _ h => absurd h List.not_mem_nil
theorem sn_tX10_met : ∀ q ∈ tX10_met, am_Snd am_P0 RX10 cX10_met 13 (Option.some FieldType.int) "met" q.1 q.2 := by
  unfold tX10_met
  exact List.forall_mem_append.mpr ⟨sn_tX10_met_0, sn_tX10_met_1⟩
theorem sn_tX10_sighting : ∀ q ∈ tX10_sighting, am_Snd am_P0 RX10 cX10_sighting 3 (Option.some FieldType.int) "sighting" q.1 q.2 := by
  unfold tX10_sighting
  refine List.forall_mem_cons.mpr ⟨(s_iloadn (am_dp pw_X10_sighting_0 dd_X10_sighting_0a.1) rfl).to, ?_⟩
  refine List.forall_mem_cons.mpr ⟨(s_if_lt (am_dp pw_X10_sighting_0 dd_X10_sighting_0a.2.1) (by decide)).to, ?_⟩
  refine List.forall_mem_cons.mpr ⟨(s_iloadn (am_dp pw_X10_sighting_0 dd_X10_sighting_0a.2.2.1) rfl).to, ?_⟩
  refine List.forall_mem_cons.mpr ⟨(s_aloadn (am_dp pw_X10_sighting_0 dd_X10_sighting_0a.2.2.2.1) rfl).to, ?_⟩
  refine List.forall_mem_cons.mpr ⟨(s_get (ci := 10) (k := 2) (am_dp pw_X10_sighting_0 dd_X10_sighting_0a.2.2.2.2.1) rfl (by decide) wd581 inX10 rfl).to, ?_⟩
  refine List.forall_mem_cons.mpr ⟨(s_get (ci := 5) (k := 5) (am_dp pw_X10_sighting_0 dd_X10_sighting_0a.2.2.2.2.2.1) rfl (by decide) wd321 inX5 rfl).to, ?_⟩
  refine List.forall_mem_cons.mpr ⟨(s_get (ci := 7) (k := 0) (am_dp pw_X10_sighting_0 dd_X10_sighting_0a.2.2.2.2.2.2.1) rfl (by decide) wd178 inX7 rfl).to, ?_⟩
  refine List.forall_mem_cons.mpr ⟨(s_icmp_lt (am_dp pw_X10_sighting_0 dd_X10_sighting_0a.2.2.2.2.2.2.2) (by decide)).to, ?_⟩
  refine List.forall_mem_cons.mpr ⟨(s_iconst (am_dp pw_X10_sighting_0 dd_X10_sighting_0b.1) (by decide)).to, ?_⟩
  refine List.forall_mem_cons.mpr ⟨s_iret (am_dp pw_X10_sighting_0 dd_X10_sighting_0b.2.1) rfl, ?_⟩
  refine List.forall_mem_cons.mpr ⟨(s_iloadn (am_dp pw_X10_sighting_0 dd_X10_sighting_0b.2.2) rfl).to, ?_⟩
  refine List.forall_mem_cons.mpr ⟨(s_table (by decide +kernel : decode cX10_sighting 21 = .ok (.tableswitch 83 0 3 #[31, 44, 64, 77], 31)) (by decide) (by decide) (by decide) (by decide)).to, ?_⟩
  refine List.forall_mem_cons.mpr ⟨(s_aloadn (am_dp pw_X10_sighting_32 dd_X10_sighting_32a.1) rfl).to, ?_⟩
  refine List.forall_mem_cons.mpr ⟨(s_get (ci := 10) (k := 2) (am_dp pw_X10_sighting_32 dd_X10_sighting_32a.2.1) rfl (by decide) wd581 inX10 rfl).to, ?_⟩
  refine List.forall_mem_cons.mpr ⟨(s_get (ci := 5) (k := 5) (am_dp pw_X10_sighting_32 dd_X10_sighting_32a.2.2.1) rfl (by decide) wd321 inX5 rfl).to, ?_⟩
  refine List.forall_mem_cons.mpr ⟨(s_get (ci := 7) (k := 1) (am_dp pw_X10_sighting_32 dd_X10_sighting_32a.2.2.2.1) rfl (by decide) wd181 inX7 rfl).to, ?_⟩
  refine List.forall_mem_cons.mpr ⟨(s_iloadn (am_dp pw_X10_sighting_32 dd_X10_sighting_32a.2.2.2.2.1) rfl).to, ?_⟩
  refine List.forall_mem_cons.mpr ⟨(s_iald (am_dp pw_X10_sighting_32 dd_X10_sighting_32a.2.2.2.2.2)).to, ?_⟩
  refine List.forall_mem_cons.mpr ⟨s_iret (am_dp pw_X10_sighting_64 dd_X10_sighting_64a.1) rfl, ?_⟩
  refine List.forall_mem_cons.mpr ⟨(s_aloadn (am_dp pw_X10_sighting_64 dd_X10_sighting_64a.2.1) rfl).to, ?_⟩
  refine List.forall_mem_cons.mpr ⟨(s_get (ci := 10) (k := 2) (am_dp pw_X10_sighting_64 dd_X10_sighting_64a.2.2.1) rfl (by decide) wd581 inX10 rfl).to, ?_⟩
  refine List.forall_mem_cons.mpr ⟨(s_aloadn (am_dp pw_X10_sighting_64 dd_X10_sighting_64a.2.2.2.1) rfl).to, ?_⟩
  refine List.forall_mem_cons.mpr ⟨(s_get (ci := 10) (k := 2) (am_dp pw_X10_sighting_64 dd_X10_sighting_64a.2.2.2.2.1) rfl (by decide) wd581 inX10 rfl).to, ?_⟩
  refine List.forall_mem_cons.mpr ⟨(s_get (ci := 5) (k := 5) (am_dp pw_X10_sighting_64 dd_X10_sighting_64a.2.2.2.2.2.1) rfl (by decide) wd321 inX5 rfl).to, ?_⟩
  refine List.forall_mem_cons.mpr ⟨(s_get (ci := 7) (k := 2) (am_dp pw_X10_sighting_64 dd_X10_sighting_64a.2.2.2.2.2.2.1) rfl (by decide) wd183 inX7 rfl).to, ?_⟩
  refine List.forall_mem_cons.mpr ⟨(s_iloadn (am_dp pw_X10_sighting_64 dd_X10_sighting_64a.2.2.2.2.2.2.2) rfl).to, ?_⟩
  refine List.forall_mem_cons.mpr ⟨(s_iald (am_dp pw_X10_sighting_64 dd_X10_sighting_64b.1)).to, ?_⟩
  refine List.forall_mem_cons.mpr ⟨zw_cv58 (am_dp pw_X10_sighting_64 dd_X10_sighting_64b.2.1) wd1015, ?_⟩
  refine List.forall_mem_cons.mpr ⟨s_iret (am_dp pw_X10_sighting_64 dd_X10_sighting_64b.2.2.1) rfl, ?_⟩
  refine List.forall_mem_cons.mpr ⟨(s_aloadn (am_dp pw_X10_sighting_64 dd_X10_sighting_64b.2.2.2.1) rfl).to, ?_⟩
  refine List.forall_mem_cons.mpr ⟨(s_get (ci := 10) (k := 2) (am_dp pw_X10_sighting_64 dd_X10_sighting_64b.2.2.2.2.1) rfl (by decide) wd581 inX10 rfl).to, ?_⟩
  refine List.forall_mem_cons.mpr ⟨(s_get (ci := 5) (k := 5) (am_dp pw_X10_sighting_64 dd_X10_sighting_64b.2.2.2.2.2.1) rfl (by decide) wd321 inX5 rfl).to, ?_⟩
  refine List.forall_mem_cons.mpr ⟨(s_get (ci := 7) (k := 3) (am_dp pw_X10_sighting_64 dd_X10_sighting_64b.2.2.2.2.2.2.1) rfl (by decide) wd185 inX7 rfl).to, ?_⟩
  refine List.forall_mem_cons.mpr ⟨(s_iloadn (am_dp pw_X10_sighting_64 dd_X10_sighting_64b.2.2.2.2.2.2.2) rfl).to, ?_⟩
  refine List.forall_mem_cons.mpr ⟨(s_iald (am_dp pw_X10_sighting_96 dd_X10_sighting_96a.1)).to, ?_⟩
  refine List.forall_mem_cons.mpr ⟨s_iret (am_dp pw_X10_sighting_96 dd_X10_sighting_96a.2.1) rfl, ?_⟩
  refine List.forall_mem_cons.mpr ⟨(s_aloadn (am_dp pw_X10_sighting_96 dd_X10_sighting_96a.2.2.1) rfl).to, ?_⟩
  refine List.forall_mem_cons.mpr ⟨(s_iloadn (am_dp pw_X10_sighting_96 dd_X10_sighting_96a.2.2.2.1) rfl).to, ?_⟩
  refine List.forall_mem_cons.mpr ⟨zw_cv158 (am_dp pw_X10_sighting_96 dd_X10_sighting_96a.2.2.2.2.1) wd1190, ?_⟩
  refine List.forall_mem_cons.mpr ⟨s_iret (am_dp pw_X10_sighting_96 dd_X10_sighting_96a.2.2.2.2.2.1) rfl, ?_⟩
  refine List.forall_mem_cons.mpr ⟨(s_iconst (am_dp pw_X10_sighting_96 dd_X10_sighting_96a.2.2.2.2.2.2.1) (by decide)).to, ?_⟩
  refine List.forall_mem_cons.mpr ⟨s_iret (am_dp pw_X10_sighting_96 dd_X10_sighting_96a.2.2.2.2.2.2.2) rfl, ?_⟩
  exact fun _ h => absurd h List.not_mem_nil
theorem sn_tX10_strange : ∀ q ∈ tX10_strange, am_Snd am_P0 RX10 cX10_strange 3 (Option.some FieldType.int) "strange" q.1 q.2 := by
  unfold tX10_strange
  refine List.forall_mem_cons.mpr ⟨(s_iconst (am_dp pw_X10_strange_0 dd_X10_strange_0a.1) (by decide)).to, ?_⟩
  refine List.forall_mem_cons.mpr ⟨(s_istoren (am_dp pw_X10_strange_0 dd_X10_strange_0a.2.1) rfl (by decide)).to, ?_⟩
  refine List.forall_mem_cons.mpr ⟨(s_iconst (am_dp pw_X10_strange_0 dd_X10_strange_0a.2.2.1) (by decide)).to, ?_⟩
  refine List.forall_mem_cons.mpr ⟨(s_istoren (am_dp pw_X10_strange_0 dd_X10_strange_0a.2.2.2.1) rfl (by decide)).to, ?_⟩
  refine List.forall_mem_cons.mpr ⟨(s_iloadn (am_dp pw_X10_strange_0 dd_X10_strange_0a.2.2.2.2.1) rfl).to, ?_⟩
  refine List.forall_mem_cons.mpr ⟨(s_aloadn (am_dp pw_X10_strange_0 dd_X10_strange_0a.2.2.2.2.2.1) rfl).to, ?_⟩
  refine List.forall_mem_cons.mpr ⟨(s_get (ci := 10) (k := 2) (am_dp pw_X10_strange_0 dd_X10_strange_0a.2.2.2.2.2.2.1) rfl (by decide) wd581 inX10 rfl).to, ?_⟩
  refine List.forall_mem_cons.mpr ⟨(s_get (ci := 5) (k := 5) (am_dp pw_X10_strange_0 dd_X10_strange_0a.2.2.2.2.2.2.2) rfl (by decide) wd321 inX5 rfl).to, ?_⟩
  refine List.forall_mem_cons.mpr ⟨(s_get (ci := 7) (k := 0) (am_dp pw_X10_strange_0 dd_X10_strange_0b.1) rfl (by decide) wd178 inX7 rfl).to, ?_⟩
  refine List.forall_mem_cons.mpr ⟨(s_icmp_ge (am_dp pw_X10_strange_0 dd_X10_strange_0b.2.1) (by decide)).to, ?_⟩
  refine List.forall_mem_cons.mpr ⟨(s_aloadn (am_dp pw_X10_strange_0 dd_X10_strange_0b.2.2.1) rfl).to, ?_⟩
  refine List.forall_mem_cons.mpr ⟨(s_iloadn (am_dp pw_X10_strange_0 dd_X10_strange_0b.2.2.2.1) rfl).to, ?_⟩
  refine List.forall_mem_cons.mpr ⟨zw_cv158 (am_dp pw_X10_strange_0 dd_X10_strange_0b.2.2.2.2.1) wd1190, ?_⟩
  refine List.forall_mem_cons.mpr ⟨(s_if_ne (am_dp pw_X10_strange_0 dd_X10_strange_0b.2.2.2.2.2.1) (by decide)).to, ?_⟩
  refine List.forall_mem_cons.mpr ⟨(s_iinc (am_dp pw_X10_strange_0 dd_X10_strange_0b.2.2.2.2.2.2.1) (by decide) (by decide)).to, ?_⟩
  refine List.forall_mem_cons.mpr ⟨(s_iinc (am_dp pw_X10_strange_0 dd_X10_strange_0b.2.2.2.2.2.2.2) (by decide) (by decide)).to, ?_⟩
  refine List.forall_mem_cons.mpr ⟨(s_goto (am_dp pw_X10_strange_32 dd_X10_strange_32a.1) (by decide)).to, ?_⟩
  refine List.forall_mem_cons.mpr ⟨(s_iloadn (am_dp pw_X10_strange_32 dd_X10_strange_32a.2.1) rfl).to, ?_⟩
  refine List.forall_mem_cons.mpr ⟨s_iret (am_dp pw_X10_strange_32 dd_X10_strange_32a.2.2) rfl, ?_⟩
  exact fun _ h => absurd h List.not_mem_nil
theorem sn_tX10_doubted_0 : ∀ q ∈ tX10_doubted_0, am_Snd am_P0 RX10 cX10_doubted 4 (Option.some FieldType.int) "doubted" q.1 q.2 := by
  unfold tX10_doubted_0
  refine List.forall_mem_cons.mpr ⟨(s_iconst (am_dp pw_X10_doubted_0 dd_X10_doubted_0a.1) (by decide)).to, ?_⟩
  refine List.forall_mem_cons.mpr ⟨(s_istoren (am_dp pw_X10_doubted_0 dd_X10_doubted_0a.2.1) rfl (by decide)).to, ?_⟩
  refine List.forall_mem_cons.mpr ⟨(s_iconst (am_dp pw_X10_doubted_0 dd_X10_doubted_0a.2.2.1) (by decide)).to, ?_⟩
  refine List.forall_mem_cons.mpr ⟨(s_istoren (am_dp pw_X10_doubted_0 dd_X10_doubted_0a.2.2.2.1) rfl (by decide)).to, ?_⟩
  refine List.forall_mem_cons.mpr ⟨(s_iloadn (am_dp pw_X10_doubted_0 dd_X10_doubted_0a.2.2.2.2.1) rfl).to, ?_⟩
  refine List.forall_mem_cons.mpr ⟨(s_aloadn (am_dp pw_X10_doubted_0 dd_X10_doubted_0a.2.2.2.2.2.1) rfl).to, ?_⟩
  refine List.forall_mem_cons.mpr ⟨(s_get (ci := 10) (k := 2) (am_dp pw_X10_doubted_0 dd_X10_doubted_0a.2.2.2.2.2.2.1) rfl (by decide) wd581 inX10 rfl).to, ?_⟩
  refine List.forall_mem_cons.mpr ⟨(s_get (ci := 5) (k := 5) (am_dp pw_X10_doubted_0 dd_X10_doubted_0a.2.2.2.2.2.2.2) rfl (by decide) wd321 inX5 rfl).to, ?_⟩
  refine List.forall_mem_cons.mpr ⟨(s_get (ci := 7) (k := 0) (am_dp pw_X10_doubted_0 dd_X10_doubted_0b.1) rfl (by decide) wd178 inX7 rfl).to, ?_⟩
  refine List.forall_mem_cons.mpr ⟨(s_icmp_ge (am_dp pw_X10_doubted_0 dd_X10_doubted_0b.2.1) (by decide)).to, ?_⟩
  refine List.forall_mem_cons.mpr ⟨(s_aloadn (am_dp pw_X10_doubted_0 dd_X10_doubted_0b.2.2.1) rfl).to, ?_⟩
  refine List.forall_mem_cons.mpr ⟨(s_iloadn (am_dp pw_X10_doubted_0 dd_X10_doubted_0b.2.2.2.1) rfl).to, ?_⟩
  refine List.forall_mem_cons.mpr ⟨zw_cv158 (am_dp pw_X10_doubted_0 dd_X10_doubted_0b.2.2.2.2.1) wd1190, ?_⟩
  refine List.forall_mem_cons.mpr ⟨(s_if_ne (am_dp pw_X10_doubted_0 dd_X10_doubted_0b.2.2.2.2.2.1) (by decide)).to, ?_⟩
  refine List.forall_mem_cons.mpr ⟨(s_iloadn (am_dp pw_X10_doubted_0 dd_X10_doubted_0b.2.2.2.2.2.2.1) rfl).to, ?_⟩
  refine List.forall_mem_cons.mpr ⟨(s_iconst (am_dp pw_X10_doubted_0 dd_X10_doubted_0b.2.2.2.2.2.2.2) (by decide)).to, ?_⟩
  refine List.forall_mem_cons.mpr ⟨(s_aloadn (am_dp pw_X10_doubted_0 dd_X10_doubted_0c.1) rfl).to, ?_⟩
  refine List.forall_mem_cons.mpr ⟨(s_get (ci := 10) (k := 2) (am_dp pw_X10_doubted_0 dd_X10_doubted_0c.2) rfl (by decide) wd581 inX10 rfl).to, ?_⟩
  refine List.forall_mem_cons.mpr ⟨(s_get (ci := 5) (k := 5) (am_dp pw_X10_doubted_32 dd_X10_doubted_32a.1) rfl (by decide) wd321 inX5 rfl).to, ?_⟩
  refine List.forall_mem_cons.mpr ⟨(s_get (ci := 7) (k := 1) (am_dp pw_X10_doubted_32 dd_X10_doubted_32a.2.1) rfl (by decide) wd181 inX7 rfl).to, ?_⟩
  refine List.forall_mem_cons.mpr ⟨(s_iloadn (am_dp pw_X10_doubted_32 dd_X10_doubted_32a.2.2.1) rfl).to, ?_⟩
  refine List.forall_mem_cons.mpr ⟨(s_iald (am_dp pw_X10_doubted_32 dd_X10_doubted_32a.2.2.2.1)).to, ?_⟩
  refine List.forall_mem_cons.mpr ⟨(s_ishl (am_dp pw_X10_doubted_32 dd_X10_doubted_32a.2.2.2.2.1)).to, ?_⟩
  refine List.forall_mem_cons.mpr ⟨(s_ior (am_dp pw_X10_doubted_32 dd_X10_doubted_32a.2.2.2.2.2.1)).to, ?_⟩
  refine List.forall_mem_cons.mpr ⟨(s_istoren (am_dp pw_X10_doubted_32 dd_X10_doubted_32a.2.2.2.2.2.2.1) rfl (by decide)).to, ?_⟩
  refine List.forall_mem_cons.mpr ⟨(s_iinc (am_dp pw_X10_doubted_32 dd_X10_doubted_32a.2.2.2.2.2.2.2) (by decide) (by decide)).to, ?_⟩
  refine List.forall_mem_cons.mpr ⟨(s_goto (am_dp pw_X10_doubted_32 dd_X10_doubted_32b.1) (by decide)).to, ?_⟩
  refine List.forall_mem_cons.mpr ⟨(s_iconst (am_dp pw_X10_doubted_32 dd_X10_doubted_32b.2.1) (by decide)).to, ?_⟩
  refine List.forall_mem_cons.mpr ⟨(s_istoren (am_dp pw_X10_doubted_32 dd_X10_doubted_32b.2.2.1) rfl (by decide)).to, ?_⟩
  refine List.forall_mem_cons.mpr ⟨(s_iconst (am_dp pw_X10_doubted_32 dd_X10_doubted_32b.2.2.2.1) (by decide)).to, ?_⟩
  refine List.forall_mem_cons.mpr ⟨(s_istoren (am_dp pw_X10_doubted_32 dd_X10_doubted_32b.2.2.2.2.1) rfl (by decide)).to, ?_⟩
  refine List.forall_mem_cons.mpr ⟨(s_iloadn (am_dp pw_X10_doubted_32 dd_X10_doubted_32b.2.2.2.2.2.1) rfl).to, ?_⟩
  refine List.forall_mem_cons.mpr ⟨(s_aloadn (am_dp pw_X10_doubted_32 dd_X10_doubted_32b.2.2.2.2.2.2.1) rfl).to, ?_⟩
  refine List.forall_mem_cons.mpr ⟨(s_get (ci := 10) (k := 2) (am_dp pw_X10_doubted_32 dd_X10_doubted_32b.2.2.2.2.2.2.2) rfl (by decide) wd581 inX10 rfl).to, ?_⟩
  refine List.forall_mem_cons.mpr ⟨(s_get (ci := 5) (k := 3) (am_dp pw_X10_doubted_32 dd_X10_doubted_32c.1) rfl (by decide) wd315 inX5 rfl).to, ?_⟩
  refine List.forall_mem_cons.mpr ⟨(s_icmp_ge (am_dp pw_X10_doubted_32 dd_X10_doubted_32c.2) (by decide)).to, ?_⟩
  refine List.forall_mem_cons.mpr ⟨(s_iloadn (am_dp pw_X10_doubted_64 dd_X10_doubted_64a.1) rfl).to, ?_⟩
  refine List.forall_mem_cons.mpr ⟨(s_aloadn (am_dp pw_X10_doubted_64 dd_X10_doubted_64a.2.1) rfl).to, ?_⟩
  refine List.forall_mem_cons.mpr ⟨(s_get (ci := 10) (k := 2) (am_dp pw_X10_doubted_64 dd_X10_doubted_64a.2.2.1) rfl (by decide) wd581 inX10 rfl).to, ?_⟩
  refine List.forall_mem_cons.mpr ⟨(s_get (ci := 5) (k := 4) (am_dp pw_X10_doubted_64 dd_X10_doubted_64a.2.2.2.1) rfl (by decide) wd318 inX5 rfl).to, ?_⟩
  refine List.forall_mem_cons.mpr ⟨(s_iloadn (am_dp pw_X10_doubted_64 dd_X10_doubted_64a.2.2.2.2.1) rfl).to, ?_⟩
  refine List.forall_mem_cons.mpr ⟨(s_aald (am_dp pw_X10_doubted_64 dd_X10_doubted_64a.2.2.2.2.2.1)).to, ?_⟩
  refine List.forall_mem_cons.mpr ⟨(s_get (ci := 6) (k := 1) (am_dp pw_X10_doubted_64 dd_X10_doubted_64a.2.2.2.2.2.2.1) rfl (by decide) wd241 inX6 rfl).to, ?_⟩
  refine List.forall_mem_cons.mpr ⟨(s_ishr (am_dp pw_X10_doubted_64 dd_X10_doubted_64a.2.2.2.2.2.2.2)).to, ?_⟩
  refine List.forall_mem_cons.mpr ⟨(s_iconst (am_dp pw_X10_doubted_64 dd_X10_doubted_64b.1) (by decide)).to, ?_⟩
  refine List.forall_mem_cons.mpr ⟨(s_iand (am_dp pw_X10_doubted_64 dd_X10_doubted_64b.2.1)).to, ?_⟩
  refine List.forall_mem_cons.mpr ⟨(s_if_eq (am_dp pw_X10_doubted_64 dd_X10_doubted_64b.2.2.1) (by decide)).to, ?_⟩
  refine List.forall_mem_cons.mpr ⟨(s_aloadn (am_dp pw_X10_doubted_64 dd_X10_doubted_64b.2.2.2.1) rfl).to, ?_⟩
  refine List.forall_mem_cons.mpr ⟨(s_iloadn (am_dp pw_X10_doubted_64 dd_X10_doubted_64b.2.2.2.2.1) rfl).to, ?_⟩
  refine List.forall_mem_cons.mpr ⟨zw_cv156 (am_dp pw_X10_doubted_64 dd_X10_doubted_64b.2.2.2.2.2.1) wd1090, ?_⟩
  refine List.forall_mem_cons.mpr ⟨(s_iconst (am_dp pw_X10_doubted_64 dd_X10_doubted_64b.2.2.2.2.2.2.1) (by decide)).to, ?_⟩
  refine List.forall_mem_cons.mpr ⟨(s_ishr (am_dp pw_X10_doubted_64 dd_X10_doubted_64b.2.2.2.2.2.2.2)).to, ?_⟩
  refine List.forall_mem_cons.mpr ⟨(s_iconst (am_dp pw_X10_doubted_64 dd_X10_doubted_64c.1) (by decide)).to, ?_⟩
  refine List.forall_mem_cons.mpr ⟨(s_iand (am_dp pw_X10_doubted_64 dd_X10_doubted_64c.2.1)).to, ?_⟩
  refine List.forall_mem_cons.mpr ⟨(s_if_eq (am_dp pw_X10_doubted_64 dd_X10_doubted_64c.2.2.1) (by decide)).to, ?_⟩
  refine List.forall_mem_cons.mpr ⟨(s_iloadn (am_dp pw_X10_doubted_64 dd_X10_doubted_64c.2.2.2) rfl).to, ?_⟩
  refine List.forall_mem_cons.mpr ⟨(s_iconst (am_dp pw_X10_doubted_96 dd_X10_doubted_96a.1) (by decide)).to, ?_⟩
  refine List.forall_mem_cons.mpr ⟨(s_iloadn (am_dp pw_X10_doubted_96 dd_X10_doubted_96a.2.1) rfl).to, ?_⟩
  refine List.forall_mem_cons.mpr ⟨(s_ishl (am_dp pw_X10_doubted_96 dd_X10_doubted_96a.2.2.1)).to, ?_⟩
  refine List.forall_mem_cons.mpr ⟨(s_ior (am_dp pw_X10_doubted_96 dd_X10_doubted_96a.2.2.2.1)).to, ?_⟩
  exact fun _ h => absurd h List.not_mem_nil
theorem sn_tX10_doubted_1 : ∀ q ∈ tX10_doubted_1, am_Snd am_P0 RX10 cX10_doubted 4 (Option.some FieldType.int) "doubted" q.1 q.2 := by
  unfold tX10_doubted_1
  refine List.forall_mem_cons.mpr ⟨(s_istoren (am_dp pw_X10_doubted_96 dd_X10_doubted_96a.2.2.2.2.1) rfl (by decide)).to, ?_⟩
  refine List.forall_mem_cons.mpr ⟨(s_iinc (am_dp pw_X10_doubted_96 dd_X10_doubted_96a.2.2.2.2.2.1) (by decide) (by decide)).to, ?_⟩
  refine List.forall_mem_cons.mpr ⟨(s_goto (am_dp pw_X10_doubted_96 dd_X10_doubted_96a.2.2.2.2.2.2.1) (by decide)).to, ?_⟩
  refine List.forall_mem_cons.mpr ⟨(s_iloadn (am_dp pw_X10_doubted_96 dd_X10_doubted_96a.2.2.2.2.2.2.2) rfl).to, ?_⟩
  refine List.forall_mem_cons.mpr ⟨s_iret (am_dp pw_X10_doubted_96 dd_X10_doubted_96b) rfl, ?_⟩
  exact fun _ h => absurd h List.not_mem_nil
theorem sn_tX10_doubted : ∀ q ∈ tX10_doubted, am_Snd am_P0 RX10 cX10_doubted 4 (Option.some FieldType.int) "doubted" q.1 q.2 := by
  unfold tX10_doubted
  exact List.forall_mem_append.mpr ⟨sn_tX10_doubted_0, sn_tX10_doubted_1⟩
theorem sn_tX10_gaps : ∀ q ∈ tX10_gaps, am_Snd am_P0 RX10 cX10_gaps 4 (Option.some FieldType.int) "gaps" q.1 q.2 := by
  unfold tX10_gaps
  refine List.forall_mem_cons.mpr ⟨(s_aloadn (am_dp pw_X10_gaps_0 dd_X10_gaps_0a.1) rfl).to, ?_⟩
  refine List.forall_mem_cons.mpr ⟨(s_iloadn (am_dp pw_X10_gaps_0 dd_X10_gaps_0a.2.1) rfl).to, ?_⟩
  refine List.forall_mem_cons.mpr ⟨zw_cv150 (am_dp pw_X10_gaps_0 dd_X10_gaps_0a.2.2.1) wd921, ?_⟩
  refine List.forall_mem_cons.mpr ⟨(s_if_eq (am_dp pw_X10_gaps_0 dd_X10_gaps_0a.2.2.2.1) (by decide)).to, ?_⟩
  refine List.forall_mem_cons.mpr ⟨(s_iloadn (am_dp pw_X10_gaps_0 dd_X10_gaps_0a.2.2.2.2.1) rfl).to, ?_⟩
  refine List.forall_mem_cons.mpr ⟨(s_if_lt (am_dp pw_X10_gaps_0 dd_X10_gaps_0a.2.2.2.2.2.1) (by decide)).to, ?_⟩
  refine List.forall_mem_cons.mpr ⟨(s_iloadn (am_dp pw_X10_gaps_0 dd_X10_gaps_0a.2.2.2.2.2.2.1) rfl).to, ?_⟩
  refine List.forall_mem_cons.mpr ⟨(s_iconst (am_dp pw_X10_gaps_0 dd_X10_gaps_0a.2.2.2.2.2.2.2) (by decide)).to, ?_⟩
  refine List.forall_mem_cons.mpr ⟨(s_icmp_le (am_dp pw_X10_gaps_0 dd_X10_gaps_0b.1) (by decide)).to, ?_⟩
  refine List.forall_mem_cons.mpr ⟨(s_iconst (am_dp pw_X10_gaps_0 dd_X10_gaps_0b.2.1) (by decide)).to, ?_⟩
  refine List.forall_mem_cons.mpr ⟨s_iret (am_dp pw_X10_gaps_0 dd_X10_gaps_0b.2.2.1) rfl, ?_⟩
  refine List.forall_mem_cons.mpr ⟨(s_aloadn (am_dp pw_X10_gaps_0 dd_X10_gaps_0b.2.2.2.1) rfl).to, ?_⟩
  refine List.forall_mem_cons.mpr ⟨(s_get (ci := 10) (k := 7) (am_dp pw_X10_gaps_0 dd_X10_gaps_0b.2.2.2.2.1) rfl (by decide) wd586 inX10 rfl).to, ?_⟩
  refine List.forall_mem_cons.mpr ⟨(s_iloadn (am_dp pw_X10_gaps_0 dd_X10_gaps_0b.2.2.2.2.2.1) rfl).to, ?_⟩
  refine List.forall_mem_cons.mpr ⟨(s_aald (am_dp pw_X10_gaps_0 dd_X10_gaps_0b.2.2.2.2.2.2.1)).to, ?_⟩
  refine List.forall_mem_cons.mpr ⟨(s_astoren (am_dp pw_X10_gaps_0 dd_X10_gaps_0b.2.2.2.2.2.2.2) rfl (by decide)).to, ?_⟩
  refine List.forall_mem_cons.mpr ⟨(s_aloadn (am_dp pw_X10_gaps_0 dd_X10_gaps_0c.1) rfl).to, ?_⟩
  refine List.forall_mem_cons.mpr ⟨zw_cv98 (am_dp pw_X10_gaps_0 dd_X10_gaps_0c.2.1) wd1094, ?_⟩
  refine List.forall_mem_cons.mpr ⟨(s_iloadn (am_dp pw_X10_gaps_0 dd_X10_gaps_0c.2.2.1) rfl).to, ?_⟩
  refine List.forall_mem_cons.mpr ⟨(s_if_ne (am_dp pw_X10_gaps_0 dd_X10_gaps_0c.2.2.2) (by decide)).to, ?_⟩
  refine List.forall_mem_cons.mpr ⟨(s_aloadn (am_dp pw_X10_gaps_32 dd_X10_gaps_32a.1) rfl).to, ?_⟩
  refine List.forall_mem_cons.mpr ⟨(s_get (ci := 8) (k := 13) (am_dp pw_X10_gaps_32 dd_X10_gaps_32a.2.1) rfl (by decide) wd539 inX8 rfl).to, ?_⟩
  refine List.forall_mem_cons.mpr ⟨(s_goto (am_dp pw_X10_gaps_32 dd_X10_gaps_32a.2.2.1) (by decide)).to, ?_⟩
  refine List.forall_mem_cons.mpr ⟨(s_aloadn (am_dp pw_X10_gaps_32 dd_X10_gaps_32a.2.2.2.1) rfl).to, ?_⟩
  refine List.forall_mem_cons.mpr ⟨(s_get (ci := 8) (k := 14) (am_dp pw_X10_gaps_32 dd_X10_gaps_32a.2.2.2.2.1) rfl (by decide) wd541 inX8 rfl).to, ?_⟩
  refine List.forall_mem_cons.mpr ⟨s_iret (am_dp pw_X10_gaps_32 dd_X10_gaps_32a.2.2.2.2.2) rfl, ?_⟩
  exact fun _ h => absurd h List.not_mem_nil
theorem sn_tX10_chance : ∀ q ∈ tX10_chance, am_Snd am_P0 RX10 cX10_chance 2 (Option.some FieldType.long) "chance" q.1 q.2 := by
  unfold tX10_chance
  refine List.forall_mem_cons.mpr ⟨(s_aloadn (am_dp pw_X10_chance_0 dd_X10_chance_0a.1) rfl).to, ?_⟩
  refine List.forall_mem_cons.mpr ⟨(s_iloadn (am_dp pw_X10_chance_0 dd_X10_chance_0a.2.1) rfl).to, ?_⟩
  refine List.forall_mem_cons.mpr ⟨zw_cv150 (am_dp pw_X10_chance_0 dd_X10_chance_0a.2.2.1) wd921, ?_⟩
  refine List.forall_mem_cons.mpr ⟨(s_if_eq (am_dp pw_X10_chance_0 dd_X10_chance_0a.2.2.2.1) (by decide)).to, ?_⟩
  refine List.forall_mem_cons.mpr ⟨(s_aloadn (am_dp pw_X10_chance_0 dd_X10_chance_0a.2.2.2.2.1) rfl).to, ?_⟩
  refine List.forall_mem_cons.mpr ⟨(s_iloadn (am_dp pw_X10_chance_0 dd_X10_chance_0a.2.2.2.2.2.1) rfl).to, ?_⟩
  refine List.forall_mem_cons.mpr ⟨zw_cv159 (am_dp pw_X10_chance_0 dd_X10_chance_0a.2.2.2.2.2.2.1) wd1210, ?_⟩
  refine List.forall_mem_cons.mpr ⟨(s_goto (am_dp pw_X10_chance_0 dd_X10_chance_0a.2.2.2.2.2.2.2) (by decide)).to, ?_⟩
  refine List.forall_mem_cons.mpr ⟨(s_ldc2 (am_dp pw_X10_chance_0 dd_X10_chance_0b.1) wd1222).to, ?_⟩
  refine List.forall_mem_cons.mpr ⟨s_lret (am_dp pw_X10_chance_0 dd_X10_chance_0b.2) rfl, ?_⟩
  exact fun _ h => absurd h List.not_mem_nil
theorem sn_tX10_beyond : ∀ q ∈ tX10_beyond, am_Snd am_P0 RX10 cX10_beyond 5 (Option.some FieldType.int) "beyond" q.1 q.2 := by
  unfold tX10_beyond
  refine List.forall_mem_cons.mpr ⟨(s_iconst (am_dp pw_X10_beyond_0 dd_X10_beyond_0a.1) (by decide)).to, ?_⟩
  refine List.forall_mem_cons.mpr ⟨(s_istoren (am_dp pw_X10_beyond_0 dd_X10_beyond_0a.2.1) rfl (by decide)).to, ?_⟩
  refine List.forall_mem_cons.mpr ⟨(s_iconst (am_dp pw_X10_beyond_0 dd_X10_beyond_0a.2.2.1) (by decide)).to, ?_⟩
  refine List.forall_mem_cons.mpr ⟨(s_istoren (am_dp pw_X10_beyond_0 dd_X10_beyond_0a.2.2.2.1) rfl (by decide)).to, ?_⟩
  refine List.forall_mem_cons.mpr ⟨(s_iloadn (am_dp pw_X10_beyond_0 dd_X10_beyond_0a.2.2.2.2.1) rfl).to, ?_⟩
  refine List.forall_mem_cons.mpr ⟨(s_aloadn (am_dp pw_X10_beyond_0 dd_X10_beyond_0a.2.2.2.2.2.1) rfl).to, ?_⟩
  refine List.forall_mem_cons.mpr ⟨(s_get (ci := 10) (k := 2) (am_dp pw_X10_beyond_0 dd_X10_beyond_0a.2.2.2.2.2.2.1) rfl (by decide) wd581 inX10 rfl).to, ?_⟩
  refine List.forall_mem_cons.mpr ⟨(s_get (ci := 5) (k := 3) (am_dp pw_X10_beyond_0 dd_X10_beyond_0a.2.2.2.2.2.2.2) rfl (by decide) wd315 inX5 rfl).to, ?_⟩
  refine List.forall_mem_cons.mpr ⟨(s_icmp_ge (am_dp pw_X10_beyond_0 dd_X10_beyond_0b.1) (by decide)).to, ?_⟩
  refine List.forall_mem_cons.mpr ⟨(s_aloadn (am_dp pw_X10_beyond_0 dd_X10_beyond_0b.2.1) rfl).to, ?_⟩
  refine List.forall_mem_cons.mpr ⟨(s_iloadn (am_dp pw_X10_beyond_0 dd_X10_beyond_0b.2.2.1) rfl).to, ?_⟩
  refine List.forall_mem_cons.mpr ⟨zw_cv159 (am_dp pw_X10_beyond_0 dd_X10_beyond_0b.2.2.2.1) wd1210, ?_⟩
  refine List.forall_mem_cons.mpr ⟨(s_lstoren (am_dp pw_X10_beyond_0 dd_X10_beyond_0b.2.2.2.2.1) rfl (by decide)).to, ?_⟩
  refine List.forall_mem_cons.mpr ⟨(s_aloadn (am_dp pw_X10_beyond_0 dd_X10_beyond_0b.2.2.2.2.2.1) rfl).to, ?_⟩
  refine List.forall_mem_cons.mpr ⟨(s_get (ci := 10) (k := 7) (am_dp pw_X10_beyond_0 dd_X10_beyond_0b.2.2.2.2.2.2.1) rfl (by decide) wd586 inX10 rfl).to, ?_⟩
  refine List.forall_mem_cons.mpr ⟨(s_iloadn (am_dp pw_X10_beyond_0 dd_X10_beyond_0b.2.2.2.2.2.2.2) rfl).to, ?_⟩
  refine List.forall_mem_cons.mpr ⟨(s_aald (am_dp pw_X10_beyond_0 dd_X10_beyond_0c.1)).to, ?_⟩
  refine List.forall_mem_cons.mpr ⟨(s_get (ci := 8) (k := 14) (am_dp pw_X10_beyond_0 dd_X10_beyond_0c.2.1) rfl (by decide) wd541 inX8 rfl).to, ?_⟩
  refine List.forall_mem_cons.mpr ⟨(s_if_le (am_dp pw_X10_beyond_0 dd_X10_beyond_0c.2.2) (by decide)).to, ?_⟩
  refine List.forall_mem_cons.mpr ⟨(s_lloadn (am_dp pw_X10_beyond_32 dd_X10_beyond_32a.1) rfl).to, ?_⟩
  refine List.forall_mem_cons.mpr ⟨(s_aloadn (am_dp pw_X10_beyond_32 dd_X10_beyond_32a.2.1) rfl).to, ?_⟩
  refine List.forall_mem_cons.mpr ⟨(s_get (ci := 10) (k := 2) (am_dp pw_X10_beyond_32 dd_X10_beyond_32a.2.2.1) rfl (by decide) wd581 inX10 rfl).to, ?_⟩
  refine List.forall_mem_cons.mpr ⟨(s_get (ci := 5) (k := 3) (am_dp pw_X10_beyond_32 dd_X10_beyond_32a.2.2.2.1) rfl (by decide) wd315 inX5 rfl).to, ?_⟩
  refine List.forall_mem_cons.mpr ⟨(s_i2l (am_dp pw_X10_beyond_32 dd_X10_beyond_32a.2.2.2.2.1)).to, ?_⟩
  refine List.forall_mem_cons.mpr ⟨(s_lmul (am_dp pw_X10_beyond_32 dd_X10_beyond_32a.2.2.2.2.2.1)).to, ?_⟩
  refine List.forall_mem_cons.mpr ⟨(s_ldc2 (am_dp pw_X10_beyond_32 dd_X10_beyond_32a.2.2.2.2.2.2.1) wd1227).to, ?_⟩
  refine List.forall_mem_cons.mpr ⟨(s_lcmp (am_dp pw_X10_beyond_32 dd_X10_beyond_32a.2.2.2.2.2.2.2)).to, ?_⟩
  refine List.forall_mem_cons.mpr ⟨(s_if_ge (am_dp pw_X10_beyond_32 dd_X10_beyond_32b.1) (by decide)).to, ?_⟩
  refine List.forall_mem_cons.mpr ⟨(s_iloadn (am_dp pw_X10_beyond_32 dd_X10_beyond_32b.2.1) rfl).to, ?_⟩
  refine List.forall_mem_cons.mpr ⟨(s_iconst (am_dp pw_X10_beyond_32 dd_X10_beyond_32b.2.2.1) (by decide)).to, ?_⟩
  refine List.forall_mem_cons.mpr ⟨(s_iloadn (am_dp pw_X10_beyond_32 dd_X10_beyond_32b.2.2.2.1) rfl).to, ?_⟩
  refine List.forall_mem_cons.mpr ⟨(s_ishl (am_dp pw_X10_beyond_32 dd_X10_beyond_32b.2.2.2.2.1)).to, ?_⟩
  refine List.forall_mem_cons.mpr ⟨(s_ior (am_dp pw_X10_beyond_32 dd_X10_beyond_32b.2.2.2.2.2.1)).to, ?_⟩
  refine List.forall_mem_cons.mpr ⟨(s_istoren (am_dp pw_X10_beyond_32 dd_X10_beyond_32b.2.2.2.2.2.2.1) rfl (by decide)).to, ?_⟩
  refine List.forall_mem_cons.mpr ⟨(s_iinc (am_dp pw_X10_beyond_32 dd_X10_beyond_32b.2.2.2.2.2.2.2) (by decide) (by decide)).to, ?_⟩
  refine List.forall_mem_cons.mpr ⟨(s_goto (am_dp pw_X10_beyond_32 dd_X10_beyond_32c.1) (by decide)).to, ?_⟩
  refine List.forall_mem_cons.mpr ⟨(s_iloadn (am_dp pw_X10_beyond_32 dd_X10_beyond_32c.2.1) rfl).to, ?_⟩
  refine List.forall_mem_cons.mpr ⟨s_iret (am_dp pw_X10_beyond_32 dd_X10_beyond_32c.2.2) rfl, ?_⟩
  exact fun _ h => absurd h List.not_mem_nil
theorem sn_tX10_settles : ∀ q ∈ tX10_settles, am_Snd am_P0 RX10 cX10_settles 8 (Option.some FieldType.int) "settles" q.1 q.2 := by
  unfold tX10_settles
  refine List.forall_mem_cons.mpr ⟨(s_aloadn (am_dp pw_X10_settles_0 dd_X10_settles_0a.1) rfl).to, ?_⟩
  refine List.forall_mem_cons.mpr ⟨(s_get (ci := 10) (k := 2) (am_dp pw_X10_settles_0 dd_X10_settles_0a.2.1) rfl (by decide) wd581 inX10 rfl).to, ?_⟩
  refine List.forall_mem_cons.mpr ⟨(s_iloadn (am_dp pw_X10_settles_0 dd_X10_settles_0a.2.2.1) rfl).to, ?_⟩
  refine List.forall_mem_cons.mpr ⟨(s_iloadn (am_dp pw_X10_settles_0 dd_X10_settles_0a.2.2.2.1) rfl).to, ?_⟩
  refine List.forall_mem_cons.mpr ⟨zw_cv56 (am_dp pw_X10_settles_0 dd_X10_settles_0a.2.2.2.2.1) wd1024, ?_⟩
  refine List.forall_mem_cons.mpr ⟨(s_istore (am_dp pw_X10_settles_0 dd_X10_settles_0a.2.2.2.2.2.1) (by decide)).to, ?_⟩
  refine List.forall_mem_cons.mpr ⟨(s_iload (am_dp pw_X10_settles_0 dd_X10_settles_0a.2.2.2.2.2.2.1)).to, ?_⟩
  refine List.forall_mem_cons.mpr ⟨(s_iconst (am_dp pw_X10_settles_0 dd_X10_settles_0a.2.2.2.2.2.2.2) (by decide)).to, ?_⟩
  refine List.forall_mem_cons.mpr ⟨(s_icmp_eq (am_dp pw_X10_settles_0 dd_X10_settles_0b.1) (by decide)).to, ?_⟩
  refine List.forall_mem_cons.mpr ⟨(s_iloadn (am_dp pw_X10_settles_0 dd_X10_settles_0b.2.1) rfl).to, ?_⟩
  refine List.forall_mem_cons.mpr ⟨zw_cs149 (am_dp pw_X10_settles_0 dd_X10_settles_0b.2.2.1) wd1028, ?_⟩
  refine List.forall_mem_cons.mpr ⟨(s_if_ne (am_dp pw_X10_settles_0 dd_X10_settles_0b.2.2.2.1) (by decide)).to, ?_⟩
  refine List.forall_mem_cons.mpr ⟨(s_iconst (am_dp pw_X10_settles_0 dd_X10_settles_0b.2.2.2.2.1) (by decide)).to, ?_⟩
  refine List.forall_mem_cons.mpr ⟨s_iret (am_dp pw_X10_settles_0 dd_X10_settles_0b.2.2.2.2.2.1) rfl, ?_⟩
  refine List.forall_mem_cons.mpr ⟨(s_iconst (am_dp pw_X10_settles_0 dd_X10_settles_0b.2.2.2.2.2.2.1) (by decide)).to, ?_⟩
  refine List.forall_mem_cons.mpr ⟨(s_istore (am_dp pw_X10_settles_0 dd_X10_settles_0b.2.2.2.2.2.2.2) (by decide)).to, ?_⟩
  refine List.forall_mem_cons.mpr ⟨(s_iconst (am_dp pw_X10_settles_0 dd_X10_settles_0c.1) (by decide)).to, ?_⟩
  refine List.forall_mem_cons.mpr ⟨(s_istore (am_dp pw_X10_settles_0 dd_X10_settles_0c.2) (by decide)).to, ?_⟩
  refine List.forall_mem_cons.mpr ⟨(s_iload (am_dp pw_X10_settles_32 dd_X10_settles_32a.1)).to, ?_⟩
  refine List.forall_mem_cons.mpr ⟨(s_aloadn (am_dp pw_X10_settles_32 dd_X10_settles_32a.2.1) rfl).to, ?_⟩
  refine List.forall_mem_cons.mpr ⟨(s_get (ci := 10) (k := 2) (am_dp pw_X10_settles_32 dd_X10_settles_32a.2.2.1) rfl (by decide) wd581 inX10 rfl).to, ?_⟩
  refine List.forall_mem_cons.mpr ⟨(s_get (ci := 5) (k := 3) (am_dp pw_X10_settles_32 dd_X10_settles_32a.2.2.2.1) rfl (by decide) wd315 inX5 rfl).to, ?_⟩
  refine List.forall_mem_cons.mpr ⟨(s_icmp_ge (am_dp pw_X10_settles_32 dd_X10_settles_32a.2.2.2.2.1) (by decide)).to, ?_⟩
  refine List.forall_mem_cons.mpr ⟨(s_aloadn (am_dp pw_X10_settles_32 dd_X10_settles_32a.2.2.2.2.2.1) rfl).to, ?_⟩
  refine List.forall_mem_cons.mpr ⟨(s_iload (am_dp pw_X10_settles_32 dd_X10_settles_32a.2.2.2.2.2.2.1)).to, ?_⟩
  refine List.forall_mem_cons.mpr ⟨zw_cv154 (am_dp pw_X10_settles_32 dd_X10_settles_32a.2.2.2.2.2.2.2) wd929, ?_⟩
  refine List.forall_mem_cons.mpr ⟨(s_astore (am_dp pw_X10_settles_32 dd_X10_settles_32b.1) (by decide)).to, ?_⟩
  refine List.forall_mem_cons.mpr ⟨(s_aloadn (am_dp pw_X10_settles_32 dd_X10_settles_32b.2.1) rfl).to, ?_⟩
  refine List.forall_mem_cons.mpr ⟨(s_get (ci := 10) (k := 2) (am_dp pw_X10_settles_32 dd_X10_settles_32b.2.2.1) rfl (by decide) wd581 inX10 rfl).to, ?_⟩
  refine List.forall_mem_cons.mpr ⟨(s_get (ci := 5) (k := 4) (am_dp pw_X10_settles_32 dd_X10_settles_32b.2.2.2.1) rfl (by decide) wd318 inX5 rfl).to, ?_⟩
  refine List.forall_mem_cons.mpr ⟨(s_iload (am_dp pw_X10_settles_32 dd_X10_settles_32b.2.2.2.2.1)).to, ?_⟩
  refine List.forall_mem_cons.mpr ⟨(s_aald (am_dp pw_X10_settles_32 dd_X10_settles_32b.2.2.2.2.2.1)).to, ?_⟩
  refine List.forall_mem_cons.mpr ⟨(s_get (ci := 6) (k := 5) (am_dp pw_X10_settles_32 dd_X10_settles_32b.2.2.2.2.2.2) rfl (by decide) wd255 inX6 rfl).to, ?_⟩
  refine List.forall_mem_cons.mpr ⟨(s_if_le (am_dp pw_X10_settles_64 dd_X10_settles_64a.1) (by decide)).to, ?_⟩
  refine List.forall_mem_cons.mpr ⟨(s_aload (am_dp pw_X10_settles_64 dd_X10_settles_64a.2.1)).to, ?_⟩
  refine List.forall_mem_cons.mpr ⟨(s_iloadn (am_dp pw_X10_settles_64 dd_X10_settles_64a.2.2.1) rfl).to, ?_⟩
  refine List.forall_mem_cons.mpr ⟨(s_iload (am_dp pw_X10_settles_64 dd_X10_settles_64a.2.2.2.1)).to, ?_⟩
  refine List.forall_mem_cons.mpr ⟨zw_cv88 (am_dp pw_X10_settles_64 dd_X10_settles_64a.2.2.2.2.1) wd1078, ?_⟩
  refine List.forall_mem_cons.mpr ⟨(s_if_eq (am_dp pw_X10_settles_64 dd_X10_settles_64a.2.2.2.2.2.1) (by decide)).to, ?_⟩
  refine List.forall_mem_cons.mpr ⟨(s_aload (am_dp pw_X10_settles_64 dd_X10_settles_64a.2.2.2.2.2.2.1)).to, ?_⟩
  refine List.forall_mem_cons.mpr ⟨(s_iloadn (am_dp pw_X10_settles_64 dd_X10_settles_64a.2.2.2.2.2.2.2) rfl).to, ?_⟩
  refine List.forall_mem_cons.mpr ⟨zw_cv89 (am_dp pw_X10_settles_64 dd_X10_settles_64b.1) wd1064, ?_⟩
  refine List.forall_mem_cons.mpr ⟨(s_iconst (am_dp pw_X10_settles_64 dd_X10_settles_64b.2.1) (by decide)).to, ?_⟩
  refine List.forall_mem_cons.mpr ⟨(s_icmp_le (am_dp pw_X10_settles_64 dd_X10_settles_64b.2.2.1) (by decide)).to, ?_⟩
  refine List.forall_mem_cons.mpr ⟨(s_iinc (am_dp pw_X10_settles_64 dd_X10_settles_64b.2.2.2.1) (by decide) (by decide)).to, ?_⟩
  refine List.forall_mem_cons.mpr ⟨(s_iinc (am_dp pw_X10_settles_64 dd_X10_settles_64b.2.2.2.2.1) (by decide) (by decide)).to, ?_⟩
  refine List.forall_mem_cons.mpr ⟨(s_goto (am_dp pw_X10_settles_64 dd_X10_settles_64b.2.2.2.2.2) (by decide)).to, ?_⟩
  refine List.forall_mem_cons.mpr ⟨(s_iload (am_dp pw_X10_settles_96 dd_X10_settles_96a.1)).to, ?_⟩
  refine List.forall_mem_cons.mpr ⟨s_iret (am_dp pw_X10_settles_96 dd_X10_settles_96a.2) rfl, ?_⟩
  exact fun _ h => absurd h List.not_mem_nil
theorem sn_tX10_next : ∀ q ∈ tX10_next, am_Snd am_P0 RX10 cX10_next 2 (Option.some FieldType.int) "next" q.1 q.2 := by
  unfold tX10_next
  refine List.forall_mem_cons.mpr ⟨(s_iloadn (am_dp pw_X10_next_0 dd_X10_next_0a.1) rfl).to, ?_⟩
  refine List.forall_mem_cons.mpr ⟨(s_if_lt (am_dp pw_X10_next_0 dd_X10_next_0a.2.1) (by decide)).to, ?_⟩
  refine List.forall_mem_cons.mpr ⟨(s_iloadn (am_dp pw_X10_next_0 dd_X10_next_0a.2.2.1) rfl).to, ?_⟩
  refine List.forall_mem_cons.mpr ⟨(s_iconst (am_dp pw_X10_next_0 dd_X10_next_0a.2.2.2.1) (by decide)).to, ?_⟩
  refine List.forall_mem_cons.mpr ⟨(s_icmp_le (am_dp pw_X10_next_0 dd_X10_next_0a.2.2.2.2.1) (by decide)).to, ?_⟩
  refine List.forall_mem_cons.mpr ⟨(s_iconst (am_dp pw_X10_next_0 dd_X10_next_0a.2.2.2.2.2.1) (by decide)).to, ?_⟩
  refine List.forall_mem_cons.mpr ⟨s_iret (am_dp pw_X10_next_0 dd_X10_next_0a.2.2.2.2.2.2.1) rfl, ?_⟩
  refine List.forall_mem_cons.mpr ⟨(s_aloadn (am_dp pw_X10_next_0 dd_X10_next_0a.2.2.2.2.2.2.2) rfl).to, ?_⟩
  refine List.forall_mem_cons.mpr ⟨(s_get (ci := 10) (k := 13) (am_dp pw_X10_next_0 dd_X10_next_0b.1) rfl (by decide) wd592 inX10 rfl).to, ?_⟩
  refine List.forall_mem_cons.mpr ⟨(s_if_ne (am_dp pw_X10_next_0 dd_X10_next_0b.2.1) (by decide)).to, ?_⟩
  refine List.forall_mem_cons.mpr ⟨(s_aloadn (am_dp pw_X10_next_0 dd_X10_next_0b.2.2.1) rfl).to, ?_⟩
  refine List.forall_mem_cons.mpr ⟨zw_cv160 (am_dp pw_X10_next_0 dd_X10_next_0b.2.2.2.1) wd1236, ?_⟩
  refine List.forall_mem_cons.mpr ⟨(s_aloadn (am_dp pw_X10_next_0 dd_X10_next_0b.2.2.2.2.1) rfl).to, ?_⟩
  refine List.forall_mem_cons.mpr ⟨(s_iconst (am_dp pw_X10_next_0 dd_X10_next_0b.2.2.2.2.2.1) (by decide)).to, ?_⟩
  refine List.forall_mem_cons.mpr ⟨(s_put (ci := 10) (k := 13) (am_dp pw_X10_next_0 dd_X10_next_0b.2.2.2.2.2.2.1) rfl (by decide) wd592 inX10 tyX10_ok nmX10 rfl rfl).to, ?_⟩
  refine List.forall_mem_cons.mpr ⟨(s_aloadn (am_dp pw_X10_next_0 dd_X10_next_0b.2.2.2.2.2.2.2) rfl).to, ?_⟩
  refine List.forall_mem_cons.mpr ⟨(s_get (ci := 10) (k := 16) (am_dp pw_X10_next_0 dd_X10_next_0c.1) rfl (by decide) wd595 inX10 rfl).to, ?_⟩
  refine List.forall_mem_cons.mpr ⟨(s_if_ne (am_dp pw_X10_next_0 dd_X10_next_0c.2) (by decide)).to, ?_⟩
  refine List.forall_mem_cons.mpr ⟨(s_iconst (am_dp pw_X10_next_32 dd_X10_next_32a.1) (by decide)).to, ?_⟩
  refine List.forall_mem_cons.mpr ⟨s_iret (am_dp pw_X10_next_32 dd_X10_next_32a.2.1) rfl, ?_⟩
  refine List.forall_mem_cons.mpr ⟨(s_iloadn (am_dp pw_X10_next_32 dd_X10_next_32a.2.2.1) rfl).to, ?_⟩
  refine List.forall_mem_cons.mpr ⟨(s_if_ne (am_dp pw_X10_next_32 dd_X10_next_32a.2.2.2.1) (by decide)).to, ?_⟩
  refine List.forall_mem_cons.mpr ⟨(s_aloadn (am_dp pw_X10_next_32 dd_X10_next_32a.2.2.2.2.1) rfl).to, ?_⟩
  refine List.forall_mem_cons.mpr ⟨(s_get (ci := 10) (k := 14) (am_dp pw_X10_next_32 dd_X10_next_32a.2.2.2.2.2.1) rfl (by decide) wd593 inX10 rfl).to, ?_⟩
  refine List.forall_mem_cons.mpr ⟨(s_goto (am_dp pw_X10_next_32 dd_X10_next_32a.2.2.2.2.2.2.1) (by decide)).to, ?_⟩
  refine List.forall_mem_cons.mpr ⟨(s_iloadn (am_dp pw_X10_next_32 dd_X10_next_32a.2.2.2.2.2.2.2) rfl).to, ?_⟩
  refine List.forall_mem_cons.mpr ⟨(s_iconst (am_dp pw_X10_next_32 dd_X10_next_32b.1) (by decide)).to, ?_⟩
  refine List.forall_mem_cons.mpr ⟨(s_icmp_ne (am_dp pw_X10_next_32 dd_X10_next_32b.2.1) (by decide)).to, ?_⟩
  refine List.forall_mem_cons.mpr ⟨(s_aloadn (am_dp pw_X10_next_32 dd_X10_next_32b.2.2.1) rfl).to, ?_⟩
  refine List.forall_mem_cons.mpr ⟨(s_get (ci := 10) (k := 2) (am_dp pw_X10_next_32 dd_X10_next_32b.2.2.2.1) rfl (by decide) wd581 inX10 rfl).to, ?_⟩
  refine List.forall_mem_cons.mpr ⟨(s_aloadn (am_dp pw_X10_next_32 dd_X10_next_32b.2.2.2.2.1) rfl).to, ?_⟩
  refine List.forall_mem_cons.mpr ⟨(s_get (ci := 10) (k := 15) (am_dp pw_X10_next_32 dd_X10_next_32b.2.2.2.2.2.1) rfl (by decide) wd594 inX10 rfl).to, ?_⟩
  refine List.forall_mem_cons.mpr ⟨zw_cv58 (am_dp pw_X10_next_32 dd_X10_next_32b.2.2.2.2.2.2.1) wd1015, ?_⟩
  refine List.forall_mem_cons.mpr ⟨(s_goto (am_dp pw_X10_next_32 dd_X10_next_32b.2.2.2.2.2.2.2) (by decide)).to, ?_⟩
  refine List.forall_mem_cons.mpr ⟨(s_aloadn (am_dp pw_X10_next_64 dd_X10_next_64a.1) rfl).to, ?_⟩
  refine List.forall_mem_cons.mpr ⟨(s_get (ci := 10) (k := 16) (am_dp pw_X10_next_64 dd_X10_next_64a.2.1) rfl (by decide) wd595 inX10 rfl).to, ?_⟩
  refine List.forall_mem_cons.mpr ⟨s_iret (am_dp pw_X10_next_64 dd_X10_next_64a.2.2) rfl, ?_⟩
  exact fun _ h => absurd h List.not_mem_nil
theorem sn_tX10_off : ∀ q ∈ tX10_off, am_Snd am_P0 RX10 cX10_off 2 (Option.some FieldType.int) "off" q.1 q.2 := by
  unfold tX10_off
  refine List.forall_mem_cons.mpr ⟨(s_aloadn (am_dp pw_X10_off_0 dd_X10_off_0a.1) rfl).to, ?_⟩
  refine List.forall_mem_cons.mpr ⟨(s_iloadn (am_dp pw_X10_off_0 dd_X10_off_0a.2.1) rfl).to, ?_⟩
  refine List.forall_mem_cons.mpr ⟨zw_cv150 (am_dp pw_X10_off_0 dd_X10_off_0a.2.2.1) wd921, ?_⟩
  refine List.forall_mem_cons.mpr ⟨(s_if_eq (am_dp pw_X10_off_0 dd_X10_off_0a.2.2.2.1) (by decide)).to, ?_⟩
  refine List.forall_mem_cons.mpr ⟨(s_aloadn (am_dp pw_X10_off_0 dd_X10_off_0a.2.2.2.2.1) rfl).to, ?_⟩
  refine List.forall_mem_cons.mpr ⟨(s_get (ci := 10) (k := 7) (am_dp pw_X10_off_0 dd_X10_off_0a.2.2.2.2.2.1) rfl (by decide) wd586 inX10 rfl).to, ?_⟩
  refine List.forall_mem_cons.mpr ⟨(s_iloadn (am_dp pw_X10_off_0 dd_X10_off_0a.2.2.2.2.2.2.1) rfl).to, ?_⟩
  refine List.forall_mem_cons.mpr ⟨(s_aald (am_dp pw_X10_off_0 dd_X10_off_0a.2.2.2.2.2.2.2)).to, ?_⟩
  refine List.forall_mem_cons.mpr ⟨zw_cv81 (am_dp pw_X10_off_0 dd_X10_off_0b.1) wd1255, ?_⟩
  refine List.forall_mem_cons.mpr ⟨(s_goto (am_dp pw_X10_off_0 dd_X10_off_0b.2.1) (by decide)).to, ?_⟩
  refine List.forall_mem_cons.mpr ⟨(s_bipush (am_dp pw_X10_off_0 dd_X10_off_0b.2.2.1) (by decide)).to, ?_⟩
  refine List.forall_mem_cons.mpr ⟨s_iret (am_dp pw_X10_off_0 dd_X10_off_0b.2.2.2) rfl, ?_⟩
  exact fun _ h => absurd h List.not_mem_nil
theorem sn_tX10_whose : ∀ q ∈ tX10_whose, am_Snd am_P0 RX10 cX10_whose 4 (Option.some FieldType.int) "whose" q.1 q.2 := by
  unfold tX10_whose
  refine List.forall_mem_cons.mpr ⟨(s_iconst (am_dp pw_X10_whose_0 dd_X10_whose_0a.1) (by decide)).to, ?_⟩
  refine List.forall_mem_cons.mpr ⟨(s_istoren (am_dp pw_X10_whose_0 dd_X10_whose_0a.2.1) rfl (by decide)).to, ?_⟩
  refine List.forall_mem_cons.mpr ⟨(s_iconst (am_dp pw_X10_whose_0 dd_X10_whose_0a.2.2.1) (by decide)).to, ?_⟩
  refine List.forall_mem_cons.mpr ⟨(s_istoren (am_dp pw_X10_whose_0 dd_X10_whose_0a.2.2.2.1) rfl (by decide)).to, ?_⟩
  refine List.forall_mem_cons.mpr ⟨(s_iloadn (am_dp pw_X10_whose_0 dd_X10_whose_0a.2.2.2.2.1) rfl).to, ?_⟩
  refine List.forall_mem_cons.mpr ⟨(s_aloadn (am_dp pw_X10_whose_0 dd_X10_whose_0a.2.2.2.2.2.1) rfl).to, ?_⟩
  refine List.forall_mem_cons.mpr ⟨(s_get (ci := 10) (k := 2) (am_dp pw_X10_whose_0 dd_X10_whose_0a.2.2.2.2.2.2.1) rfl (by decide) wd581 inX10 rfl).to, ?_⟩
  refine List.forall_mem_cons.mpr ⟨(s_get (ci := 5) (k := 3) (am_dp pw_X10_whose_0 dd_X10_whose_0a.2.2.2.2.2.2.2) rfl (by decide) wd315 inX5 rfl).to, ?_⟩
  refine List.forall_mem_cons.mpr ⟨(s_icmp_ge (am_dp pw_X10_whose_0 dd_X10_whose_0b.1) (by decide)).to, ?_⟩
  refine List.forall_mem_cons.mpr ⟨(s_aloadn (am_dp pw_X10_whose_0 dd_X10_whose_0b.2.1) rfl).to, ?_⟩
  refine List.forall_mem_cons.mpr ⟨(s_iloadn (am_dp pw_X10_whose_0 dd_X10_whose_0b.2.2.1) rfl).to, ?_⟩
  refine List.forall_mem_cons.mpr ⟨zw_cv154 (am_dp pw_X10_whose_0 dd_X10_whose_0b.2.2.2.1) wd929, ?_⟩
  refine List.forall_mem_cons.mpr ⟨(s_get (ci := 8) (k := 11) (am_dp pw_X10_whose_0 dd_X10_whose_0b.2.2.2.2.1) rfl (by decide) wd534 inX8 rfl).to, ?_⟩
  refine List.forall_mem_cons.mpr ⟨(s_aloadn (am_dp pw_X10_whose_0 dd_X10_whose_0b.2.2.2.2.2.1) rfl).to, ?_⟩
  refine List.forall_mem_cons.mpr ⟨(s_get (ci := 10) (k := 2) (am_dp pw_X10_whose_0 dd_X10_whose_0b.2.2.2.2.2.2.1) rfl (by decide) wd581 inX10 rfl).to, ?_⟩
  refine List.forall_mem_cons.mpr ⟨(s_get (ci := 5) (k := 4) (am_dp pw_X10_whose_0 dd_X10_whose_0b.2.2.2.2.2.2.2) rfl (by decide) wd318 inX5 rfl).to, ?_⟩
  refine List.forall_mem_cons.mpr ⟨(s_iloadn (am_dp pw_X10_whose_0 dd_X10_whose_0c.1) rfl).to, ?_⟩
  refine List.forall_mem_cons.mpr ⟨(s_aald (am_dp pw_X10_whose_0 dd_X10_whose_0c.2)).to, ?_⟩
  refine List.forall_mem_cons.mpr ⟨(s_get (ci := 6) (k := 5) (am_dp pw_X10_whose_32 dd_X10_whose_32a.1) rfl (by decide) wd255 inX6 rfl).to, ?_⟩
  refine List.forall_mem_cons.mpr ⟨(s_icmp_ge (am_dp pw_X10_whose_32 dd_X10_whose_32a.2.1) (by decide)).to, ?_⟩
  refine List.forall_mem_cons.mpr ⟨(s_aloadn (am_dp pw_X10_whose_32 dd_X10_whose_32a.2.2.1) rfl).to, ?_⟩
  refine List.forall_mem_cons.mpr ⟨(s_get (ci := 10) (k := 7) (am_dp pw_X10_whose_32 dd_X10_whose_32a.2.2.2.1) rfl (by decide) wd586 inX10 rfl).to, ?_⟩
  refine List.forall_mem_cons.mpr ⟨(s_iloadn (am_dp pw_X10_whose_32 dd_X10_whose_32a.2.2.2.2.1) rfl).to, ?_⟩
  refine List.forall_mem_cons.mpr ⟨(s_aald (am_dp pw_X10_whose_32 dd_X10_whose_32a.2.2.2.2.2.1)).to, ?_⟩
  refine List.forall_mem_cons.mpr ⟨zw_cv81 (am_dp pw_X10_whose_32 dd_X10_whose_32a.2.2.2.2.2.2.1) wd1255, ?_⟩
  refine List.forall_mem_cons.mpr ⟨(s_istoren (am_dp pw_X10_whose_32 dd_X10_whose_32a.2.2.2.2.2.2.2) rfl (by decide)).to, ?_⟩
  refine List.forall_mem_cons.mpr ⟨(s_iloadn (am_dp pw_X10_whose_32 dd_X10_whose_32b.1) rfl).to, ?_⟩
  refine List.forall_mem_cons.mpr ⟨(s_bipush (am_dp pw_X10_whose_32 dd_X10_whose_32b.2.1) (by decide)).to, ?_⟩
  refine List.forall_mem_cons.mpr ⟨(s_icmp_eq (am_dp pw_X10_whose_32 dd_X10_whose_32b.2.2.1) (by decide)).to, ?_⟩
  refine List.forall_mem_cons.mpr ⟨(s_iloadn (am_dp pw_X10_whose_32 dd_X10_whose_32b.2.2.2.1) rfl).to, ?_⟩
  refine List.forall_mem_cons.mpr ⟨(s_if_eq (am_dp pw_X10_whose_32 dd_X10_whose_32b.2.2.2.2.1) (by decide)).to, ?_⟩
  refine List.forall_mem_cons.mpr ⟨(s_iloadn (am_dp pw_X10_whose_32 dd_X10_whose_32b.2.2.2.2.2.1) rfl).to, ?_⟩
  refine List.forall_mem_cons.mpr ⟨(s_iconst (am_dp pw_X10_whose_32 dd_X10_whose_32b.2.2.2.2.2.2.1) (by decide)).to, ?_⟩
  refine List.forall_mem_cons.mpr ⟨(s_iloadn (am_dp pw_X10_whose_32 dd_X10_whose_32b.2.2.2.2.2.2.2) rfl).to, ?_⟩
  refine List.forall_mem_cons.mpr ⟨(s_ishl (am_dp pw_X10_whose_32 dd_X10_whose_32c.1)).to, ?_⟩
  refine List.forall_mem_cons.mpr ⟨(s_ior (am_dp pw_X10_whose_32 dd_X10_whose_32c.2.1)).to, ?_⟩
  refine List.forall_mem_cons.mpr ⟨(s_istoren (am_dp pw_X10_whose_32 dd_X10_whose_32c.2.2) rfl (by decide)).to, ?_⟩
  refine List.forall_mem_cons.mpr ⟨(s_iinc (am_dp pw_X10_whose_64 dd_X10_whose_64a.1) (by decide) (by decide)).to, ?_⟩
  refine List.forall_mem_cons.mpr ⟨(s_goto (am_dp pw_X10_whose_64 dd_X10_whose_64a.2.1) (by decide)).to, ?_⟩
  refine List.forall_mem_cons.mpr ⟨(s_iloadn (am_dp pw_X10_whose_64 dd_X10_whose_64a.2.2.1) rfl).to, ?_⟩
  refine List.forall_mem_cons.mpr ⟨s_iret (am_dp pw_X10_whose_64 dd_X10_whose_64a.2.2.2) rfl, ?_⟩
  exact fun _ h => absurd h List.not_mem_nil
theorem sn_tX10_add : ∀ q ∈ tX10_add, am_Snd am_P0 RX10 cX10_add 8 (Option.some FieldType.int) "add" q.1 q.2 := by
  unfold tX10_add
  refine List.forall_mem_cons.mpr ⟨(s_aloadn (am_dp pw_X10_add_0 dd_X10_add_0a.1) rfl).to, ?_⟩
  refine List.forall_mem_cons.mpr ⟨(s_get (ci := 10) (k := 2) (am_dp pw_X10_add_0 dd_X10_add_0a.2.1) rfl (by decide) wd581 inX10 rfl).to, ?_⟩
  refine List.forall_mem_cons.mpr ⟨(s_iloadn (am_dp pw_X10_add_0 dd_X10_add_0a.2.2.1) rfl).to, ?_⟩
  refine List.forall_mem_cons.mpr ⟨(s_iload (am_dp pw_X10_add_0 dd_X10_add_0a.2.2.2.1)).to, ?_⟩
  refine List.forall_mem_cons.mpr ⟨zw_cv56 (am_dp pw_X10_add_0 dd_X10_add_0a.2.2.2.2.1) wd1024, ?_⟩
  refine List.forall_mem_cons.mpr ⟨(s_istore (am_dp pw_X10_add_0 dd_X10_add_0a.2.2.2.2.2.1) (by decide)).to, ?_⟩
  refine List.forall_mem_cons.mpr ⟨(s_aloadn (am_dp pw_X10_add_0 dd_X10_add_0a.2.2.2.2.2.2.1) rfl).to, ?_⟩
  refine List.forall_mem_cons.mpr ⟨(s_iloadn (am_dp pw_X10_add_0 dd_X10_add_0a.2.2.2.2.2.2.2) rfl).to, ?_⟩
  refine List.forall_mem_cons.mpr ⟨zw_cv150 (am_dp pw_X10_add_0 dd_X10_add_0b.1) wd921, ?_⟩
  refine List.forall_mem_cons.mpr ⟨(s_if_eq (am_dp pw_X10_add_0 dd_X10_add_0b.2.1) (by decide)).to, ?_⟩
  refine List.forall_mem_cons.mpr ⟨(s_iloadn (am_dp pw_X10_add_0 dd_X10_add_0b.2.2.1) rfl).to, ?_⟩
  refine List.forall_mem_cons.mpr ⟨zw_cs149 (am_dp pw_X10_add_0 dd_X10_add_0b.2.2.2.1) wd1028, ?_⟩
  refine List.forall_mem_cons.mpr ⟨(s_if_eq (am_dp pw_X10_add_0 dd_X10_add_0b.2.2.2.2.1) (by decide)).to, ?_⟩
  refine List.forall_mem_cons.mpr ⟨(s_iload (am_dp pw_X10_add_0 dd_X10_add_0b.2.2.2.2.2.1)).to, ?_⟩
  refine List.forall_mem_cons.mpr ⟨(s_iconst (am_dp pw_X10_add_0 dd_X10_add_0b.2.2.2.2.2.2.1) (by decide)).to, ?_⟩
  refine List.forall_mem_cons.mpr ⟨(s_icmp_eq (am_dp pw_X10_add_0 dd_X10_add_0b.2.2.2.2.2.2.2) (by decide)).to, ?_⟩
  refine List.forall_mem_cons.mpr ⟨(s_aloadn (am_dp pw_X10_add_32 dd_X10_add_32a.1) rfl).to, ?_⟩
  refine List.forall_mem_cons.mpr ⟨(s_get (ci := 10) (k := 2) (am_dp pw_X10_add_32 dd_X10_add_32a.2.1) rfl (by decide) wd581 inX10 rfl).to, ?_⟩
  refine List.forall_mem_cons.mpr ⟨(s_get (ci := 5) (k := 4) (am_dp pw_X10_add_32 dd_X10_add_32a.2.2.1) rfl (by decide) wd318 inX5 rfl).to, ?_⟩
  refine List.forall_mem_cons.mpr ⟨(s_iloadn (am_dp pw_X10_add_32 dd_X10_add_32a.2.2.2.1) rfl).to, ?_⟩
  refine List.forall_mem_cons.mpr ⟨(s_aald (am_dp pw_X10_add_32 dd_X10_add_32a.2.2.2.2.1)).to, ?_⟩
  refine List.forall_mem_cons.mpr ⟨(s_iloadn (am_dp pw_X10_add_32 dd_X10_add_32a.2.2.2.2.2.1) rfl).to, ?_⟩
  refine List.forall_mem_cons.mpr ⟨zw_cv65 (am_dp pw_X10_add_32 dd_X10_add_32a.2.2.2.2.2.2.1) wd1272, ?_⟩
  refine List.forall_mem_cons.mpr ⟨(s_if_ne (am_dp pw_X10_add_32 dd_X10_add_32a.2.2.2.2.2.2.2) (by decide)).to, ?_⟩
  refine List.forall_mem_cons.mpr ⟨(s_aloadn (am_dp pw_X10_add_32 dd_X10_add_32b.1) rfl).to, ?_⟩
  refine List.forall_mem_cons.mpr ⟨(s_get (ci := 10) (k := 2) (am_dp pw_X10_add_32 dd_X10_add_32b.2.1) rfl (by decide) wd581 inX10 rfl).to, ?_⟩
  refine List.forall_mem_cons.mpr ⟨zw_cv59 (am_dp pw_X10_add_32 dd_X10_add_32b.2.2.1) wd911, ?_⟩
  refine List.forall_mem_cons.mpr ⟨(s_bipush (am_dp pw_X10_add_32 dd_X10_add_32b.2.2.2.1) (by decide)).to, ?_⟩
  refine List.forall_mem_cons.mpr ⟨(s_icmp_lt (am_dp pw_X10_add_32 dd_X10_add_32b.2.2.2.2.1) (by decide)).to, ?_⟩
  refine List.forall_mem_cons.mpr ⟨(s_aloadn (am_dp pw_X10_add_32 dd_X10_add_32b.2.2.2.2.2.1) rfl).to, ?_⟩
  refine List.forall_mem_cons.mpr ⟨(s_get (ci := 10) (k := 8) (am_dp pw_X10_add_32 dd_X10_add_32b.2.2.2.2.2.2) rfl (by decide) wd587 inX10 rfl).to, ?_⟩
  refine List.forall_mem_cons.mpr ⟨(s_iconst (am_dp pw_X10_add_64 dd_X10_add_64a.1) (by decide)).to, ?_⟩
  refine List.forall_mem_cons.mpr ⟨(s_dup2 (am_dp pw_X10_add_64 dd_X10_add_64a.2.1)).to, ?_⟩
  refine List.forall_mem_cons.mpr ⟨(s_iald (am_dp pw_X10_add_64 dd_X10_add_64a.2.2.1)).to, ?_⟩
  refine List.forall_mem_cons.mpr ⟨(s_iconst (am_dp pw_X10_add_64 dd_X10_add_64a.2.2.2.1) (by decide)).to, ?_⟩
  refine List.forall_mem_cons.mpr ⟨(s_iadd (am_dp pw_X10_add_64 dd_X10_add_64a.2.2.2.2.1)).to, ?_⟩
  refine List.forall_mem_cons.mpr ⟨(s_iast (am_dp pw_X10_add_64 dd_X10_add_64a.2.2.2.2.2.1)).to, ?_⟩
  refine List.forall_mem_cons.mpr ⟨(s_iconst (am_dp pw_X10_add_64 dd_X10_add_64a.2.2.2.2.2.2.1) (by decide)).to, ?_⟩
  refine List.forall_mem_cons.mpr ⟨s_iret (am_dp pw_X10_add_64 dd_X10_add_64a.2.2.2.2.2.2.2) rfl, ?_⟩
  refine List.forall_mem_cons.mpr ⟨(s_aloadn (am_dp pw_X10_add_64 dd_X10_add_64b.1) rfl).to, ?_⟩
  refine List.forall_mem_cons.mpr ⟨(s_get (ci := 10) (k := 2) (am_dp pw_X10_add_64 dd_X10_add_64b.2.1) rfl (by decide) wd581 inX10 rfl).to, ?_⟩
  refine List.forall_mem_cons.mpr ⟨(s_get (ci := 5) (k := 4) (am_dp pw_X10_add_64 dd_X10_add_64b.2.2.1) rfl (by decide) wd318 inX5 rfl).to, ?_⟩
  refine List.forall_mem_cons.mpr ⟨(s_iloadn (am_dp pw_X10_add_64 dd_X10_add_64b.2.2.2.1) rfl).to, ?_⟩
  refine List.forall_mem_cons.mpr ⟨(s_aald (am_dp pw_X10_add_64 dd_X10_add_64b.2.2.2.2.1)).to, ?_⟩
  refine List.forall_mem_cons.mpr ⟨(s_iloadn (am_dp pw_X10_add_64 dd_X10_add_64b.2.2.2.2.2.1) rfl).to, ?_⟩
  refine List.forall_mem_cons.mpr ⟨(s_iload (am_dp pw_X10_add_64 dd_X10_add_64b.2.2.2.2.2.2.1)).to, ?_⟩
  refine List.forall_mem_cons.mpr ⟨(s_iload (am_dp pw_X10_add_64 dd_X10_add_64b.2.2.2.2.2.2.2)).to, ?_⟩
  refine List.forall_mem_cons.mpr ⟨zw_cv66 (am_dp pw_X10_add_64 dd_X10_add_64c.1) wd1273, ?_⟩
  refine List.forall_mem_cons.mpr ⟨(s_istore (am_dp pw_X10_add_64 dd_X10_add_64c.2.1) (by decide)).to, ?_⟩
  refine List.forall_mem_cons.mpr ⟨(s_aloadn (am_dp pw_X10_add_64 dd_X10_add_64c.2.2.1) rfl).to, ?_⟩
  refine List.forall_mem_cons.mpr ⟨(s_iloadn (am_dp pw_X10_add_64 dd_X10_add_64c.2.2.2.1) rfl).to, ?_⟩
  refine List.forall_mem_cons.mpr ⟨zw_cv153 (am_dp pw_X10_add_64 dd_X10_add_64c.2.2.2.2) wd1274, ?_⟩
  refine List.forall_mem_cons.mpr ⟨(s_iload (am_dp pw_X10_add_96 dd_X10_add_96a.1)).to, ?_⟩
  refine List.forall_mem_cons.mpr ⟨s_iret (am_dp pw_X10_add_96 dd_X10_add_96a.2) rfl, ?_⟩
  exact fun _ h => absurd h List.not_mem_nil
theorem sn_tX10_drop : ∀ q ∈ tX10_drop, am_Snd am_P0 RX10 cX10_drop 3 (Option.some FieldType.int) "drop" q.1 q.2 := by
  unfold tX10_drop
  refine List.forall_mem_cons.mpr ⟨(s_aloadn (am_dp pw_X10_drop_0 dd_X10_drop_0a.1) rfl).to, ?_⟩
  refine List.forall_mem_cons.mpr ⟨(s_iloadn (am_dp pw_X10_drop_0 dd_X10_drop_0a.2.1) rfl).to, ?_⟩
  refine List.forall_mem_cons.mpr ⟨(s_iloadn (am_dp pw_X10_drop_0 dd_X10_drop_0a.2.2.1) rfl).to, ?_⟩
  refine List.forall_mem_cons.mpr ⟨zw_cv151 (am_dp pw_X10_drop_0 dd_X10_drop_0a.2.2.2.1) wd1011, ?_⟩
  refine List.forall_mem_cons.mpr ⟨(s_if_ne (am_dp pw_X10_drop_0 dd_X10_drop_0a.2.2.2.2.1) (by decide)).to, ?_⟩
  refine List.forall_mem_cons.mpr ⟨(s_aloadn (am_dp pw_X10_drop_0 dd_X10_drop_0a.2.2.2.2.2.1) rfl).to, ?_⟩
  refine List.forall_mem_cons.mpr ⟨(s_get (ci := 10) (k := 8) (am_dp pw_X10_drop_0 dd_X10_drop_0a.2.2.2.2.2.2.1) rfl (by decide) wd587 inX10 rfl).to, ?_⟩
  refine List.forall_mem_cons.mpr ⟨(s_iconst (am_dp pw_X10_drop_0 dd_X10_drop_0a.2.2.2.2.2.2.2) (by decide)).to, ?_⟩
  refine List.forall_mem_cons.mpr ⟨(s_dup2 (am_dp pw_X10_drop_0 dd_X10_drop_0b.1)).to, ?_⟩
  refine List.forall_mem_cons.mpr ⟨(s_iald (am_dp pw_X10_drop_0 dd_X10_drop_0b.2.1)).to, ?_⟩
  refine List.forall_mem_cons.mpr ⟨(s_iconst (am_dp pw_X10_drop_0 dd_X10_drop_0b.2.2.1) (by decide)).to, ?_⟩
  refine List.forall_mem_cons.mpr ⟨(s_iadd (am_dp pw_X10_drop_0 dd_X10_drop_0b.2.2.2.1)).to, ?_⟩
  refine List.forall_mem_cons.mpr ⟨(s_iast (am_dp pw_X10_drop_0 dd_X10_drop_0b.2.2.2.2.1)).to, ?_⟩
  refine List.forall_mem_cons.mpr ⟨(s_iconst (am_dp pw_X10_drop_0 dd_X10_drop_0b.2.2.2.2.2.1) (by decide)).to, ?_⟩
  refine List.forall_mem_cons.mpr ⟨s_iret (am_dp pw_X10_drop_0 dd_X10_drop_0b.2.2.2.2.2.2.1) rfl, ?_⟩
  refine List.forall_mem_cons.mpr ⟨(s_aloadn (am_dp pw_X10_drop_0 dd_X10_drop_0b.2.2.2.2.2.2.2) rfl).to, ?_⟩
  refine List.forall_mem_cons.mpr ⟨(s_get (ci := 10) (k := 2) (am_dp pw_X10_drop_0 dd_X10_drop_0c.1) rfl (by decide) wd581 inX10 rfl).to, ?_⟩
  refine List.forall_mem_cons.mpr ⟨(s_get (ci := 5) (k := 4) (am_dp pw_X10_drop_0 dd_X10_drop_0c.2.1) rfl (by decide) wd318 inX5 rfl).to, ?_⟩
  refine List.forall_mem_cons.mpr ⟨(s_iloadn (am_dp pw_X10_drop_0 dd_X10_drop_0c.2.2.1) rfl).to, ?_⟩
  refine List.forall_mem_cons.mpr ⟨(s_aald (am_dp pw_X10_drop_0 dd_X10_drop_0c.2.2.2.1)).to, ?_⟩
  refine List.forall_mem_cons.mpr ⟨(s_iloadn (am_dp pw_X10_drop_0 dd_X10_drop_0c.2.2.2.2.1) rfl).to, ?_⟩
  refine List.forall_mem_cons.mpr ⟨zw_cv67 (am_dp pw_X10_drop_0 dd_X10_drop_0c.2.2.2.2.2) wd1283, ?_⟩
  refine List.forall_mem_cons.mpr ⟨(s_aloadn (am_dp pw_X10_drop_32 dd_X10_drop_32a.1) rfl).to, ?_⟩
  refine List.forall_mem_cons.mpr ⟨(s_iloadn (am_dp pw_X10_drop_32 dd_X10_drop_32a.2.1) rfl).to, ?_⟩
  refine List.forall_mem_cons.mpr ⟨zw_cv153 (am_dp pw_X10_drop_32 dd_X10_drop_32a.2.2.1) wd1274, ?_⟩
  refine List.forall_mem_cons.mpr ⟨(s_aloadn (am_dp pw_X10_drop_32 dd_X10_drop_32a.2.2.2.1) rfl).to, ?_⟩
  refine List.forall_mem_cons.mpr ⟨(s_get (ci := 10) (k := 2) (am_dp pw_X10_drop_32 dd_X10_drop_32a.2.2.2.2.1) rfl (by decide) wd581 inX10 rfl).to, ?_⟩
  refine List.forall_mem_cons.mpr ⟨(s_get (ci := 5) (k := 4) (am_dp pw_X10_drop_32 dd_X10_drop_32a.2.2.2.2.2.1) rfl (by decide) wd318 inX5 rfl).to, ?_⟩
  refine List.forall_mem_cons.mpr ⟨(s_iloadn (am_dp pw_X10_drop_32 dd_X10_drop_32a.2.2.2.2.2.2.1) rfl).to, ?_⟩
  refine List.forall_mem_cons.mpr ⟨(s_aald (am_dp pw_X10_drop_32 dd_X10_drop_32a.2.2.2.2.2.2.2)).to, ?_⟩
  refine List.forall_mem_cons.mpr ⟨(s_get (ci := 6) (k := 5) (am_dp pw_X10_drop_32 dd_X10_drop_32b.1) rfl (by decide) wd255 inX6 rfl).to, ?_⟩
  refine List.forall_mem_cons.mpr ⟨s_iret (am_dp pw_X10_drop_32 dd_X10_drop_32b.2) rfl, ?_⟩
  exact fun _ h => absurd h List.not_mem_nil
theorem sn_tX10_spot : ∀ q ∈ tX10_spot, am_Snd am_P0 RX10 cX10_spot 6 (Option.some FieldType.int) "spot" q.1 q.2 := by
  unfold tX10_spot
  refine List.forall_mem_cons.mpr ⟨(s_aloadn (am_dp pw_X10_spot_0 dd_X10_spot_0a.1) rfl).to, ?_⟩
  refine List.forall_mem_cons.mpr ⟨(s_get (ci := 10) (k := 2) (am_dp pw_X10_spot_0 dd_X10_spot_0a.2.1) rfl (by decide) wd581 inX10 rfl).to, ?_⟩
  refine List.forall_mem_cons.mpr ⟨(s_iloadn (am_dp pw_X10_spot_0 dd_X10_spot_0a.2.2.1) rfl).to, ?_⟩
  refine List.forall_mem_cons.mpr ⟨(s_iloadn (am_dp pw_X10_spot_0 dd_X10_spot_0a.2.2.2.1) rfl).to, ?_⟩
  refine List.forall_mem_cons.mpr ⟨zw_cv56 (am_dp pw_X10_spot_0 dd_X10_spot_0a.2.2.2.2.1) wd1024, ?_⟩
  refine List.forall_mem_cons.mpr ⟨(s_istore (am_dp pw_X10_spot_0 dd_X10_spot_0a.2.2.2.2.2.1) (by decide)).to, ?_⟩
  refine List.forall_mem_cons.mpr ⟨(s_iloadn (am_dp pw_X10_spot_0 dd_X10_spot_0a.2.2.2.2.2.2.1) rfl).to, ?_⟩
  refine List.forall_mem_cons.mpr ⟨(s_if_lt (am_dp pw_X10_spot_0 dd_X10_spot_0a.2.2.2.2.2.2.2) (by decide)).to, ?_⟩
  refine List.forall_mem_cons.mpr ⟨(s_iloadn (am_dp pw_X10_spot_0 dd_X10_spot_0b.1) rfl).to, ?_⟩
  refine List.forall_mem_cons.mpr ⟨(s_iconst (am_dp pw_X10_spot_0 dd_X10_spot_0b.2.1) (by decide)).to, ?_⟩
  refine List.forall_mem_cons.mpr ⟨(s_icmp_ge (am_dp pw_X10_spot_0 dd_X10_spot_0b.2.2.1) (by decide)).to, ?_⟩
  refine List.forall_mem_cons.mpr ⟨(s_iload (am_dp pw_X10_spot_0 dd_X10_spot_0b.2.2.2.1)).to, ?_⟩
  refine List.forall_mem_cons.mpr ⟨(s_iconst (am_dp pw_X10_spot_0 dd_X10_spot_0b.2.2.2.2.1) (by decide)).to, ?_⟩
  refine List.forall_mem_cons.mpr ⟨(s_icmp_eq (am_dp pw_X10_spot_0 dd_X10_spot_0b.2.2.2.2.2.1) (by decide)).to, ?_⟩
  refine List.forall_mem_cons.mpr ⟨(s_iload (am_dp pw_X10_spot_0 dd_X10_spot_0b.2.2.2.2.2.2.1)).to, ?_⟩
  refine List.forall_mem_cons.mpr ⟨zw_cs149 (am_dp pw_X10_spot_0 dd_X10_spot_0b.2.2.2.2.2.2.2) wd1028, ?_⟩
  refine List.forall_mem_cons.mpr ⟨(s_if_eq (am_dp pw_X10_spot_0 dd_X10_spot_0c) (by decide)).to, ?_⟩
  refine List.forall_mem_cons.mpr ⟨(s_aloadn (am_dp pw_X10_spot_32 dd_X10_spot_32a.1) rfl).to, ?_⟩
  refine List.forall_mem_cons.mpr ⟨(s_get (ci := 10) (k := 2) (am_dp pw_X10_spot_32 dd_X10_spot_32a.2.1) rfl (by decide) wd581 inX10 rfl).to, ?_⟩
  refine List.forall_mem_cons.mpr ⟨(s_get (ci := 5) (k := 5) (am_dp pw_X10_spot_32 dd_X10_spot_32a.2.2.1) rfl (by decide) wd321 inX5 rfl).to, ?_⟩
  refine List.forall_mem_cons.mpr ⟨(s_get (ci := 7) (k := 0) (am_dp pw_X10_spot_32 dd_X10_spot_32a.2.2.2.1) rfl (by decide) wd178 inX7 rfl).to, ?_⟩
  refine List.forall_mem_cons.mpr ⟨(s_bipush (am_dp pw_X10_spot_32 dd_X10_spot_32a.2.2.2.2.1) (by decide)).to, ?_⟩
  refine List.forall_mem_cons.mpr ⟨(s_icmp_lt (am_dp pw_X10_spot_32 dd_X10_spot_32a.2.2.2.2.2.1) (by decide)).to, ?_⟩
  refine List.forall_mem_cons.mpr ⟨(s_aloadn (am_dp pw_X10_spot_32 dd_X10_spot_32a.2.2.2.2.2.2.1) rfl).to, ?_⟩
  refine List.forall_mem_cons.mpr ⟨(s_get (ci := 10) (k := 8) (am_dp pw_X10_spot_32 dd_X10_spot_32a.2.2.2.2.2.2.2) rfl (by decide) wd587 inX10 rfl).to, ?_⟩
  refine List.forall_mem_cons.mpr ⟨(s_iconst (am_dp pw_X10_spot_32 dd_X10_spot_32b.1) (by decide)).to, ?_⟩
  refine List.forall_mem_cons.mpr ⟨(s_dup2 (am_dp pw_X10_spot_32 dd_X10_spot_32b.2.1)).to, ?_⟩
  refine List.forall_mem_cons.mpr ⟨(s_iald (am_dp pw_X10_spot_32 dd_X10_spot_32b.2.2.1)).to, ?_⟩
  refine List.forall_mem_cons.mpr ⟨(s_iconst (am_dp pw_X10_spot_32 dd_X10_spot_32b.2.2.2.1) (by decide)).to, ?_⟩
  refine List.forall_mem_cons.mpr ⟨(s_iadd (am_dp pw_X10_spot_32 dd_X10_spot_32b.2.2.2.2.1)).to, ?_⟩
  refine List.forall_mem_cons.mpr ⟨(s_iast (am_dp pw_X10_spot_32 dd_X10_spot_32b.2.2.2.2.2.1)).to, ?_⟩
  refine List.forall_mem_cons.mpr ⟨(s_iconst (am_dp pw_X10_spot_32 dd_X10_spot_32b.2.2.2.2.2.2.1) (by decide)).to, ?_⟩
  refine List.forall_mem_cons.mpr ⟨s_iret (am_dp pw_X10_spot_32 dd_X10_spot_32b.2.2.2.2.2.2.2) rfl, ?_⟩
  refine List.forall_mem_cons.mpr ⟨(s_aloadn (am_dp pw_X10_spot_32 dd_X10_spot_32c.1) rfl).to, ?_⟩
  refine List.forall_mem_cons.mpr ⟨(s_get (ci := 10) (k := 2) (am_dp pw_X10_spot_32 dd_X10_spot_32c.2) rfl (by decide) wd581 inX10 rfl).to, ?_⟩
  refine List.forall_mem_cons.mpr ⟨(s_get (ci := 5) (k := 5) (am_dp pw_X10_spot_64 dd_X10_spot_64a.1) rfl (by decide) wd321 inX5 rfl).to, ?_⟩
  refine List.forall_mem_cons.mpr ⟨(s_iloadn (am_dp pw_X10_spot_64 dd_X10_spot_64a.2.1) rfl).to, ?_⟩
  refine List.forall_mem_cons.mpr ⟨(s_iload (am_dp pw_X10_spot_64 dd_X10_spot_64a.2.2.1)).to, ?_⟩
  refine List.forall_mem_cons.mpr ⟨(s_iload (am_dp pw_X10_spot_64 dd_X10_spot_64a.2.2.2.1)).to, ?_⟩
  refine List.forall_mem_cons.mpr ⟨zw_cv71 (am_dp pw_X10_spot_64 dd_X10_spot_64a.2.2.2.2.1) wd1291, ?_⟩
  refine List.forall_mem_cons.mpr ⟨(s_aloadn (am_dp pw_X10_spot_64 dd_X10_spot_64a.2.2.2.2.2.1) rfl).to, ?_⟩
  refine List.forall_mem_cons.mpr ⟨(s_get (ci := 10) (k := 2) (am_dp pw_X10_spot_64 dd_X10_spot_64a.2.2.2.2.2.2.1) rfl (by decide) wd581 inX10 rfl).to, ?_⟩
  refine List.forall_mem_cons.mpr ⟨(s_get (ci := 5) (k := 5) (am_dp pw_X10_spot_64 dd_X10_spot_64a.2.2.2.2.2.2.2) rfl (by decide) wd321 inX5 rfl).to, ?_⟩
  refine List.forall_mem_cons.mpr ⟨(s_get (ci := 7) (k := 0) (am_dp pw_X10_spot_64 dd_X10_spot_64b.1) rfl (by decide) wd178 inX7 rfl).to, ?_⟩
  refine List.forall_mem_cons.mpr ⟨s_iret (am_dp pw_X10_spot_64 dd_X10_spot_64b.2) rfl, ?_⟩
  exact fun _ h => absurd h List.not_mem_nil
theorem sn_tX10_image_0 : ∀ q ∈ tX10_image_0, am_Snd am_P0 RX10 cX10_image 4 (Option.some FieldType.int) "image" q.1 q.2 := by
  unfold tX10_image_0
  refine List.forall_mem_cons.mpr ⟨(s_aloadn (am_dp pw_X10_image_0 dd_X10_image_0a.1) rfl).to, ?_⟩
  refine List.forall_mem_cons.mpr ⟨(s_iconst (am_dp pw_X10_image_0 dd_X10_image_0a.2.1) (by decide)).to, ?_⟩
  refine List.forall_mem_cons.mpr ⟨(s_put (ci := 10) (k := 10) (am_dp pw_X10_image_0 dd_X10_image_0a.2.2.1) rfl (by decide) wd589 inX10 tyX10_ok nmX10 rfl rfl).to, ?_⟩
  refine List.forall_mem_cons.mpr ⟨(s_aloadn (am_dp pw_X10_image_0 dd_X10_image_0a.2.2.2.1) rfl).to, ?_⟩
  refine List.forall_mem_cons.mpr ⟨(s_aloadn (am_dp pw_X10_image_0 dd_X10_image_0a.2.2.2.2.1) rfl).to, ?_⟩
  refine List.forall_mem_cons.mpr ⟨(s_get (ci := 10) (k := 2) (am_dp pw_X10_image_0 dd_X10_image_0a.2.2.2.2.2.1) rfl (by decide) wd581 inX10 rfl).to, ?_⟩
  refine List.forall_mem_cons.mpr ⟨zw_cv59 (am_dp pw_X10_image_0 dd_X10_image_0a.2.2.2.2.2.2.1) wd911, ?_⟩
  refine List.forall_mem_cons.mpr ⟨zw_cv162 (am_dp pw_X10_image_0 dd_X10_image_0a.2.2.2.2.2.2.2) wd1296, ?_⟩
  refine List.forall_mem_cons.mpr ⟨(s_iconst (am_dp pw_X10_image_0 dd_X10_image_0b.1) (by decide)).to, ?_⟩
  refine List.forall_mem_cons.mpr ⟨(s_istoren (am_dp pw_X10_image_0 dd_X10_image_0b.2.1) rfl (by decide)).to, ?_⟩
  refine List.forall_mem_cons.mpr ⟨(s_iloadn (am_dp pw_X10_image_0 dd_X10_image_0b.2.2.1) rfl).to, ?_⟩
  refine List.forall_mem_cons.mpr ⟨(s_aloadn (am_dp pw_X10_image_0 dd_X10_image_0b.2.2.2.1) rfl).to, ?_⟩
  refine List.forall_mem_cons.mpr ⟨(s_get (ci := 10) (k := 2) (am_dp pw_X10_image_0 dd_X10_image_0b.2.2.2.2.1) rfl (by decide) wd581 inX10 rfl).to, ?_⟩
  refine List.forall_mem_cons.mpr ⟨(s_get (ci := 5) (k := 3) (am_dp pw_X10_image_0 dd_X10_image_0b.2.2.2.2.2.1) rfl (by decide) wd315 inX5 rfl).to, ?_⟩
  refine List.forall_mem_cons.mpr ⟨(s_icmp_ge (am_dp pw_X10_image_0 dd_X10_image_0b.2.2.2.2.2.2.1) (by decide)).to, ?_⟩
  refine List.forall_mem_cons.mpr ⟨(s_aloadn (am_dp pw_X10_image_0 dd_X10_image_0b.2.2.2.2.2.2.2) rfl).to, ?_⟩
  refine List.forall_mem_cons.mpr ⟨(s_get (ci := 10) (k := 2) (am_dp pw_X10_image_0 dd_X10_image_0c) rfl (by decide) wd581 inX10 rfl).to, ?_⟩
  refine List.forall_mem_cons.mpr ⟨(s_get (ci := 5) (k := 4) (am_dp pw_X10_image_32 dd_X10_image_32a.1) rfl (by decide) wd318 inX5 rfl).to, ?_⟩
  refine List.forall_mem_cons.mpr ⟨(s_iloadn (am_dp pw_X10_image_32 dd_X10_image_32a.2.1) rfl).to, ?_⟩
  refine List.forall_mem_cons.mpr ⟨(s_aald (am_dp pw_X10_image_32 dd_X10_image_32a.2.2.1)).to, ?_⟩
  refine List.forall_mem_cons.mpr ⟨(s_astoren (am_dp pw_X10_image_32 dd_X10_image_32a.2.2.2.1) rfl (by decide)).to, ?_⟩
  refine List.forall_mem_cons.mpr ⟨(s_iconst (am_dp pw_X10_image_32 dd_X10_image_32a.2.2.2.2.1) (by decide)).to, ?_⟩
  refine List.forall_mem_cons.mpr ⟨(s_istoren (am_dp pw_X10_image_32 dd_X10_image_32a.2.2.2.2.2.1) rfl (by decide)).to, ?_⟩
  refine List.forall_mem_cons.mpr ⟨(s_iloadn (am_dp pw_X10_image_32 dd_X10_image_32a.2.2.2.2.2.2.1) rfl).to, ?_⟩
  refine List.forall_mem_cons.mpr ⟨(s_aloadn (am_dp pw_X10_image_32 dd_X10_image_32a.2.2.2.2.2.2.2) rfl).to, ?_⟩
  refine List.forall_mem_cons.mpr ⟨(s_get (ci := 6) (k := 5) (am_dp pw_X10_image_32 dd_X10_image_32b.1) rfl (by decide) wd255 inX6 rfl).to, ?_⟩
  refine List.forall_mem_cons.mpr ⟨(s_icmp_ge (am_dp pw_X10_image_32 dd_X10_image_32b.2.1) (by decide)).to, ?_⟩
  refine List.forall_mem_cons.mpr ⟨(s_aloadn (am_dp pw_X10_image_32 dd_X10_image_32b.2.2.1) rfl).to, ?_⟩
  refine List.forall_mem_cons.mpr ⟨(s_iloadn (am_dp pw_X10_image_32 dd_X10_image_32b.2.2.2.1) rfl).to, ?_⟩
  refine List.forall_mem_cons.mpr ⟨zw_cv162 (am_dp pw_X10_image_32 dd_X10_image_32b.2.2.2.2.1) wd1296, ?_⟩
  refine List.forall_mem_cons.mpr ⟨(s_aloadn (am_dp pw_X10_image_32 dd_X10_image_32b.2.2.2.2.2.1) rfl).to, ?_⟩
  refine List.forall_mem_cons.mpr ⟨(s_aloadn (am_dp pw_X10_image_32 dd_X10_image_32b.2.2.2.2.2.2.1) rfl).to, ?_⟩
  refine List.forall_mem_cons.mpr ⟨(s_get (ci := 6) (k := 6) (am_dp pw_X10_image_32 dd_X10_image_32b.2.2.2.2.2.2.2) rfl (by decide) wd259 inX6 rfl).to, ?_⟩
  refine List.forall_mem_cons.mpr ⟨(s_iloadn (am_dp pw_X10_image_32 dd_X10_image_32c.1) rfl).to, ?_⟩
  refine List.forall_mem_cons.mpr ⟨(s_iald (am_dp pw_X10_image_32 dd_X10_image_32c.2.1)).to, ?_⟩
  refine List.forall_mem_cons.mpr ⟨zw_cv162 (am_dp pw_X10_image_32 dd_X10_image_32c.2.2) wd1296, ?_⟩
  refine List.forall_mem_cons.mpr ⟨(s_aloadn (am_dp pw_X10_image_64 dd_X10_image_64a.1) rfl).to, ?_⟩
  refine List.forall_mem_cons.mpr ⟨(s_aloadn (am_dp pw_X10_image_64 dd_X10_image_64a.2.1) rfl).to, ?_⟩
  refine List.forall_mem_cons.mpr ⟨(s_get (ci := 10) (k := 2) (am_dp pw_X10_image_64 dd_X10_image_64a.2.2.1) rfl (by decide) wd581 inX10 rfl).to, ?_⟩
  refine List.forall_mem_cons.mpr ⟨(s_aloadn (am_dp pw_X10_image_64 dd_X10_image_64a.2.2.2.1) rfl).to, ?_⟩
  refine List.forall_mem_cons.mpr ⟨(s_get (ci := 6) (k := 7) (am_dp pw_X10_image_64 dd_X10_image_64a.2.2.2.2.1) rfl (by decide) wd262 inX6 rfl).to, ?_⟩
  refine List.forall_mem_cons.mpr ⟨(s_iloadn (am_dp pw_X10_image_64 dd_X10_image_64a.2.2.2.2.2.1) rfl).to, ?_⟩
  refine List.forall_mem_cons.mpr ⟨(s_iald (am_dp pw_X10_image_64 dd_X10_image_64a.2.2.2.2.2.2.1)).to, ?_⟩
  refine List.forall_mem_cons.mpr ⟨zw_cv58 (am_dp pw_X10_image_64 dd_X10_image_64a.2.2.2.2.2.2.2) wd1015, ?_⟩
  refine List.forall_mem_cons.mpr ⟨zw_cv162 (am_dp pw_X10_image_64 dd_X10_image_64b.1) wd1296, ?_⟩
  refine List.forall_mem_cons.mpr ⟨(s_aloadn (am_dp pw_X10_image_64 dd_X10_image_64b.2.1) rfl).to, ?_⟩
  refine List.forall_mem_cons.mpr ⟨(s_aloadn (am_dp pw_X10_image_64 dd_X10_image_64b.2.2.1) rfl).to, ?_⟩
  refine List.forall_mem_cons.mpr ⟨(s_get (ci := 6) (k := 8) (am_dp pw_X10_image_64 dd_X10_image_64b.2.2.2.1) rfl (by decide) wd265 inX6 rfl).to, ?_⟩
  refine List.forall_mem_cons.mpr ⟨(s_iloadn (am_dp pw_X10_image_64 dd_X10_image_64b.2.2.2.2.1) rfl).to, ?_⟩
  refine List.forall_mem_cons.mpr ⟨(s_zald (am_dp pw_X10_image_64 dd_X10_image_64b.2.2.2.2.2.1)).to, ?_⟩
  refine List.forall_mem_cons.mpr ⟨zw_cs148 (am_dp pw_X10_image_64 dd_X10_image_64b.2.2.2.2.2.2.1) wd1004, ?_⟩
  refine List.forall_mem_cons.mpr ⟨zw_cv162 (am_dp pw_X10_image_64 dd_X10_image_64b.2.2.2.2.2.2.2) wd1296, ?_⟩
  refine List.forall_mem_cons.mpr ⟨(s_iinc (am_dp pw_X10_image_64 dd_X10_image_64c) (by decide) (by decide)).to, ?_⟩
  refine List.forall_mem_cons.mpr ⟨(s_goto (am_dp pw_X10_image_96 dd_X10_image_96a.1) (by decide)).to, ?_⟩
  refine List.forall_mem_cons.mpr ⟨(s_iinc (am_dp pw_X10_image_96 dd_X10_image_96a.2.1) (by decide) (by decide)).to, ?_⟩
  refine List.forall_mem_cons.mpr ⟨(s_goto (am_dp pw_X10_image_96 dd_X10_image_96a.2.2.1) (by decide)).to, ?_⟩
  refine List.forall_mem_cons.mpr ⟨(s_aloadn (am_dp pw_X10_image_96 dd_X10_image_96a.2.2.2.1) rfl).to, ?_⟩
  refine List.forall_mem_cons.mpr ⟨(s_aloadn (am_dp pw_X10_image_96 dd_X10_image_96a.2.2.2.2.1) rfl).to, ?_⟩
  refine List.forall_mem_cons.mpr ⟨(s_get (ci := 10) (k := 2) (am_dp pw_X10_image_96 dd_X10_image_96a.2.2.2.2.2.1) rfl (by decide) wd581 inX10 rfl).to, ?_⟩
  refine List.forall_mem_cons.mpr ⟨(s_get (ci := 5) (k := 5) (am_dp pw_X10_image_96 dd_X10_image_96a.2.2.2.2.2.2.1) rfl (by decide) wd321 inX5 rfl).to, ?_⟩
  exact fun _ h => absurd h List.not_mem_nil
theorem sn_tX10_image_1 : ∀ q ∈ tX10_image_1, am_Snd am_P0 RX10 cX10_image 4 (Option.some FieldType.int) "image" q.1 q.2 := by
  unfold tX10_image_1
  refine List.forall_mem_cons.mpr ⟨(s_get (ci := 7) (k := 0) (am_dp pw_X10_image_96 dd_X10_image_96a.2.2.2.2.2.2.2) rfl (by decide) wd178 inX7 rfl).to, ?_⟩
  refine List.forall_mem_cons.mpr ⟨zw_cv162 (am_dp pw_X10_image_96 dd_X10_image_96b.1) wd1296, ?_⟩
  refine List.forall_mem_cons.mpr ⟨(s_iconst (am_dp pw_X10_image_96 dd_X10_image_96b.2.1) (by decide)).to, ?_⟩
  refine List.forall_mem_cons.mpr ⟨(s_istoren (am_dp pw_X10_image_96 dd_X10_image_96b.2.2.1) rfl (by decide)).to, ?_⟩
  refine List.forall_mem_cons.mpr ⟨(s_iloadn (am_dp pw_X10_image_96 dd_X10_image_96b.2.2.2.1) rfl).to, ?_⟩
  refine List.forall_mem_cons.mpr ⟨(s_aloadn (am_dp pw_X10_image_96 dd_X10_image_96b.2.2.2.2.1) rfl).to, ?_⟩
  refine List.forall_mem_cons.mpr ⟨(s_get (ci := 10) (k := 2) (am_dp pw_X10_image_96 dd_X10_image_96b.2.2.2.2.2.1) rfl (by decide) wd581 inX10 rfl).to, ?_⟩
  refine List.forall_mem_cons.mpr ⟨(s_get (ci := 5) (k := 5) (am_dp pw_X10_image_96 dd_X10_image_96b.2.2.2.2.2.2) rfl (by decide) wd321 inX5 rfl).to, ?_⟩
  refine List.forall_mem_cons.mpr ⟨(s_get (ci := 7) (k := 0) (am_dp pw_X10_image_128 dd_X10_image_128a.1) rfl (by decide) wd178 inX7 rfl).to, ?_⟩
  refine List.forall_mem_cons.mpr ⟨(s_icmp_ge (am_dp pw_X10_image_128 dd_X10_image_128a.2.1) (by decide)).to, ?_⟩
  refine List.forall_mem_cons.mpr ⟨(s_aloadn (am_dp pw_X10_image_128 dd_X10_image_128a.2.2.1) rfl).to, ?_⟩
  refine List.forall_mem_cons.mpr ⟨(s_aloadn (am_dp pw_X10_image_128 dd_X10_image_128a.2.2.2.1) rfl).to, ?_⟩
  refine List.forall_mem_cons.mpr ⟨(s_get (ci := 10) (k := 2) (am_dp pw_X10_image_128 dd_X10_image_128a.2.2.2.2.1) rfl (by decide) wd581 inX10 rfl).to, ?_⟩
  refine List.forall_mem_cons.mpr ⟨(s_get (ci := 5) (k := 5) (am_dp pw_X10_image_128 dd_X10_image_128a.2.2.2.2.2.1) rfl (by decide) wd321 inX5 rfl).to, ?_⟩
  refine List.forall_mem_cons.mpr ⟨(s_get (ci := 7) (k := 1) (am_dp pw_X10_image_128 dd_X10_image_128a.2.2.2.2.2.2.1) rfl (by decide) wd181 inX7 rfl).to, ?_⟩
  refine List.forall_mem_cons.mpr ⟨(s_iloadn (am_dp pw_X10_image_128 dd_X10_image_128a.2.2.2.2.2.2.2) rfl).to, ?_⟩
  refine List.forall_mem_cons.mpr ⟨(s_iald (am_dp pw_X10_image_128 dd_X10_image_128b.1)).to, ?_⟩
  refine List.forall_mem_cons.mpr ⟨zw_cv162 (am_dp pw_X10_image_128 dd_X10_image_128b.2.1) wd1296, ?_⟩
  refine List.forall_mem_cons.mpr ⟨(s_aloadn (am_dp pw_X10_image_128 dd_X10_image_128b.2.2.1) rfl).to, ?_⟩
  refine List.forall_mem_cons.mpr ⟨(s_aloadn (am_dp pw_X10_image_128 dd_X10_image_128b.2.2.2.1) rfl).to, ?_⟩
  refine List.forall_mem_cons.mpr ⟨(s_get (ci := 10) (k := 2) (am_dp pw_X10_image_128 dd_X10_image_128b.2.2.2.2.1) rfl (by decide) wd581 inX10 rfl).to, ?_⟩
  refine List.forall_mem_cons.mpr ⟨(s_aloadn (am_dp pw_X10_image_128 dd_X10_image_128b.2.2.2.2.2.1) rfl).to, ?_⟩
  refine List.forall_mem_cons.mpr ⟨(s_get (ci := 10) (k := 2) (am_dp pw_X10_image_128 dd_X10_image_128b.2.2.2.2.2.2) rfl (by decide) wd581 inX10 rfl).to, ?_⟩
  refine List.forall_mem_cons.mpr ⟨(s_get (ci := 5) (k := 5) (am_dp pw_X10_image_160 dd_X10_image_160a.1) rfl (by decide) wd321 inX5 rfl).to, ?_⟩
  refine List.forall_mem_cons.mpr ⟨(s_get (ci := 7) (k := 2) (am_dp pw_X10_image_160 dd_X10_image_160a.2.1) rfl (by decide) wd183 inX7 rfl).to, ?_⟩
  refine List.forall_mem_cons.mpr ⟨(s_iloadn (am_dp pw_X10_image_160 dd_X10_image_160a.2.2.1) rfl).to, ?_⟩
  refine List.forall_mem_cons.mpr ⟨(s_iald (am_dp pw_X10_image_160 dd_X10_image_160a.2.2.2.1)).to, ?_⟩
  refine List.forall_mem_cons.mpr ⟨zw_cv58 (am_dp pw_X10_image_160 dd_X10_image_160a.2.2.2.2.1) wd1015, ?_⟩
  refine List.forall_mem_cons.mpr ⟨zw_cv162 (am_dp pw_X10_image_160 dd_X10_image_160a.2.2.2.2.2.1) wd1296, ?_⟩
  refine List.forall_mem_cons.mpr ⟨(s_aloadn (am_dp pw_X10_image_160 dd_X10_image_160a.2.2.2.2.2.2.1) rfl).to, ?_⟩
  refine List.forall_mem_cons.mpr ⟨(s_aloadn (am_dp pw_X10_image_160 dd_X10_image_160a.2.2.2.2.2.2.2) rfl).to, ?_⟩
  refine List.forall_mem_cons.mpr ⟨(s_get (ci := 10) (k := 2) (am_dp pw_X10_image_160 dd_X10_image_160b.1) rfl (by decide) wd581 inX10 rfl).to, ?_⟩
  refine List.forall_mem_cons.mpr ⟨(s_get (ci := 5) (k := 5) (am_dp pw_X10_image_160 dd_X10_image_160b.2.1) rfl (by decide) wd321 inX5 rfl).to, ?_⟩
  refine List.forall_mem_cons.mpr ⟨(s_get (ci := 7) (k := 3) (am_dp pw_X10_image_160 dd_X10_image_160b.2.2.1) rfl (by decide) wd185 inX7 rfl).to, ?_⟩
  refine List.forall_mem_cons.mpr ⟨(s_iloadn (am_dp pw_X10_image_160 dd_X10_image_160b.2.2.2.1) rfl).to, ?_⟩
  refine List.forall_mem_cons.mpr ⟨(s_iald (am_dp pw_X10_image_160 dd_X10_image_160b.2.2.2.2.1)).to, ?_⟩
  refine List.forall_mem_cons.mpr ⟨zw_cv162 (am_dp pw_X10_image_160 dd_X10_image_160b.2.2.2.2.2.1) wd1296, ?_⟩
  refine List.forall_mem_cons.mpr ⟨(s_iinc (am_dp pw_X10_image_160 dd_X10_image_160b.2.2.2.2.2.2) (by decide) (by decide)).to, ?_⟩
  refine List.forall_mem_cons.mpr ⟨(s_goto (am_dp pw_X10_image_192 dd_X10_image_192a.1) (by decide)).to, ?_⟩
  refine List.forall_mem_cons.mpr ⟨(s_aloadn (am_dp pw_X10_image_192 dd_X10_image_192a.2.1) rfl).to, ?_⟩
  refine List.forall_mem_cons.mpr ⟨(s_aloadn (am_dp pw_X10_image_192 dd_X10_image_192a.2.2.1) rfl).to, ?_⟩
  refine List.forall_mem_cons.mpr ⟨(s_get (ci := 10) (k := 9) (am_dp pw_X10_image_192 dd_X10_image_192a.2.2.2.1) rfl (by decide) wd588 inX10 rfl).to, ?_⟩
  refine List.forall_mem_cons.mpr ⟨(s_aloadn (am_dp pw_X10_image_192 dd_X10_image_192a.2.2.2.2.1) rfl).to, ?_⟩
  refine List.forall_mem_cons.mpr ⟨(s_get (ci := 10) (k := 10) (am_dp pw_X10_image_192 dd_X10_image_192a.2.2.2.2.2.1) rfl (by decide) wd589 inX10 rfl).to, ?_⟩
  refine List.forall_mem_cons.mpr ⟨zw_cs163 (am_dp pw_X10_image_192 dd_X10_image_192a.2.2.2.2.2.2.1) wd1300, ?_⟩
  refine List.forall_mem_cons.mpr ⟨zw_cv162 (am_dp pw_X10_image_192 dd_X10_image_192a.2.2.2.2.2.2.2) wd1296, ?_⟩
  refine List.forall_mem_cons.mpr ⟨(s_aloadn (am_dp pw_X10_image_192 dd_X10_image_192b.1) rfl).to, ?_⟩
  refine List.forall_mem_cons.mpr ⟨(s_get (ci := 10) (k := 10) (am_dp pw_X10_image_192 dd_X10_image_192b.2.1) rfl (by decide) wd589 inX10 rfl).to, ?_⟩
  refine List.forall_mem_cons.mpr ⟨s_iret (am_dp pw_X10_image_192 dd_X10_image_192b.2.2) rfl, ?_⟩
  exact fun _ h => absurd h List.not_mem_nil
theorem sn_tX10_image : ∀ q ∈ tX10_image, am_Snd am_P0 RX10 cX10_image 4 (Option.some FieldType.int) "image" q.1 q.2 := by
  unfold tX10_image
  exact List.forall_mem_append.mpr ⟨sn_tX10_image_0, sn_tX10_image_1⟩
theorem sn_tX10_octet : ∀ q ∈ tX10_octet, am_Snd am_P0 RX10 cX10_octet 2 (Option.some FieldType.int) "octet" q.1 q.2 := by
  unfold tX10_octet
  refine List.forall_mem_cons.mpr ⟨(s_iloadn (am_dp pw_X10_octet_0 dd_X10_octet_0a.1) rfl).to, ?_⟩
  refine List.forall_mem_cons.mpr ⟨(s_if_lt (am_dp pw_X10_octet_0 dd_X10_octet_0a.2.1) (by decide)).to, ?_⟩
  refine List.forall_mem_cons.mpr ⟨(s_iloadn (am_dp pw_X10_octet_0 dd_X10_octet_0a.2.2.1) rfl).to, ?_⟩
  refine List.forall_mem_cons.mpr ⟨(s_aloadn (am_dp pw_X10_octet_0 dd_X10_octet_0a.2.2.2.1) rfl).to, ?_⟩
  refine List.forall_mem_cons.mpr ⟨(s_get (ci := 10) (k := 10) (am_dp pw_X10_octet_0 dd_X10_octet_0a.2.2.2.2.1) rfl (by decide) wd589 inX10 rfl).to, ?_⟩
  refine List.forall_mem_cons.mpr ⟨(s_icmp_lt (am_dp pw_X10_octet_0 dd_X10_octet_0a.2.2.2.2.2.1) (by decide)).to, ?_⟩
  refine List.forall_mem_cons.mpr ⟨(s_iconst (am_dp pw_X10_octet_0 dd_X10_octet_0a.2.2.2.2.2.2.1) (by decide)).to, ?_⟩
  refine List.forall_mem_cons.mpr ⟨(s_goto (am_dp pw_X10_octet_0 dd_X10_octet_0a.2.2.2.2.2.2.2) (by decide)).to, ?_⟩
  refine List.forall_mem_cons.mpr ⟨(s_aloadn (am_dp pw_X10_octet_0 dd_X10_octet_0b.1) rfl).to, ?_⟩
  refine List.forall_mem_cons.mpr ⟨(s_get (ci := 10) (k := 9) (am_dp pw_X10_octet_0 dd_X10_octet_0b.2.1) rfl (by decide) wd588 inX10 rfl).to, ?_⟩
  refine List.forall_mem_cons.mpr ⟨(s_iloadn (am_dp pw_X10_octet_0 dd_X10_octet_0b.2.2.1) rfl).to, ?_⟩
  refine List.forall_mem_cons.mpr ⟨(s_iald (am_dp pw_X10_octet_0 dd_X10_octet_0b.2.2.2.1)).to, ?_⟩
  refine List.forall_mem_cons.mpr ⟨s_iret (am_dp pw_X10_octet_0 dd_X10_octet_0b.2.2.2.2) rfl, ?_⟩
  exact fun _ h => absurd h List.not_mem_nil
theorem sn_tX10_on : ∀ q ∈ tX10_on, am_Snd am_P0 RX10 cX10_on 3 (Option.some FieldType.boolean) "on" q.1 q.2 := by
  unfold tX10_on
  refine List.forall_mem_cons.mpr ⟨(s_aloadn (am_dp pw_X10_on_0 dd_X10_on_0a.1) rfl).to, ?_⟩
  refine List.forall_mem_cons.mpr ⟨(s_get (ci := 10) (k := 1) (am_dp pw_X10_on_0 dd_X10_on_0a.2.1) rfl (by decide) wd580 inX10 rfl).to, ?_⟩
  refine List.forall_mem_cons.mpr ⟨(s_istoren (am_dp pw_X10_on_0 dd_X10_on_0a.2.2.1) rfl (by decide)).to, ?_⟩
  refine List.forall_mem_cons.mpr ⟨(s_aloadn (am_dp pw_X10_on_0 dd_X10_on_0a.2.2.2.1) rfl).to, ?_⟩
  refine List.forall_mem_cons.mpr ⟨(s_iconst (am_dp pw_X10_on_0 dd_X10_on_0a.2.2.2.2.1) (by decide)).to, ?_⟩
  refine List.forall_mem_cons.mpr ⟨(s_put (ci := 10) (k := 1) (am_dp pw_X10_on_0 dd_X10_on_0a.2.2.2.2.2.1) rfl (by decide) wd580 inX10 tyX10_ok nmX10 rfl rfl).to, ?_⟩
  refine List.forall_mem_cons.mpr ⟨(s_aloadn (am_dp pw_X10_on_0 dd_X10_on_0a.2.2.2.2.2.2.1) rfl).to, ?_⟩
  refine List.forall_mem_cons.mpr ⟨(s_iloadn (am_dp pw_X10_on_0 dd_X10_on_0a.2.2.2.2.2.2.2) rfl).to, ?_⟩
  refine List.forall_mem_cons.mpr ⟨zw_cv164 (am_dp pw_X10_on_0 dd_X10_on_0b.1) wd1311, ?_⟩
  refine List.forall_mem_cons.mpr ⟨(s_if_ne (am_dp pw_X10_on_0 dd_X10_on_0b.2.1) (by decide)).to, ?_⟩
  refine List.forall_mem_cons.mpr ⟨(s_aloadn (am_dp pw_X10_on_0 dd_X10_on_0b.2.2.1) rfl).to, ?_⟩
  refine List.forall_mem_cons.mpr ⟨(s_get (ci := 10) (k := 8) (am_dp pw_X10_on_0 dd_X10_on_0b.2.2.2.1) rfl (by decide) wd587 inX10 rfl).to, ?_⟩
  refine List.forall_mem_cons.mpr ⟨(s_iconst (am_dp pw_X10_on_0 dd_X10_on_0b.2.2.2.2.1) (by decide)).to, ?_⟩
  refine List.forall_mem_cons.mpr ⟨(s_dup2 (am_dp pw_X10_on_0 dd_X10_on_0b.2.2.2.2.2.1)).to, ?_⟩
  refine List.forall_mem_cons.mpr ⟨(s_iald (am_dp pw_X10_on_0 dd_X10_on_0b.2.2.2.2.2.2.1)).to, ?_⟩
  refine List.forall_mem_cons.mpr ⟨(s_iconst (am_dp pw_X10_on_0 dd_X10_on_0b.2.2.2.2.2.2.2) (by decide)).to, ?_⟩
  refine List.forall_mem_cons.mpr ⟨(s_iadd (am_dp pw_X10_on_0 dd_X10_on_0c.1)).to, ?_⟩
  refine List.forall_mem_cons.mpr ⟨(s_iast (am_dp pw_X10_on_0 dd_X10_on_0c.2.1)).to, ?_⟩
  refine List.forall_mem_cons.mpr ⟨(s_iconst (am_dp pw_X10_on_0 dd_X10_on_0c.2.2.1) (by decide)).to, ?_⟩
  refine List.forall_mem_cons.mpr ⟨s_zret (am_dp pw_X10_on_0 dd_X10_on_0c.2.2.2.1) rfl, ?_⟩
  refine List.forall_mem_cons.mpr ⟨(s_aloadn (am_dp pw_X10_on_0 dd_X10_on_0c.2.2.2.2.1) rfl).to, ?_⟩
  refine List.forall_mem_cons.mpr ⟨zw_cv165 (am_dp pw_X10_on_0 dd_X10_on_0c.2.2.2.2.2) wd1319, ?_⟩
  refine List.forall_mem_cons.mpr ⟨(s_iconst (am_dp pw_X10_on_32 dd_X10_on_32a.1) (by decide)).to, ?_⟩
  refine List.forall_mem_cons.mpr ⟨(s_istoren (am_dp pw_X10_on_32 dd_X10_on_32a.2.1) rfl (by decide)).to, ?_⟩
  refine List.forall_mem_cons.mpr ⟨(s_iloadn (am_dp pw_X10_on_32 dd_X10_on_32a.2.2.1) rfl).to, ?_⟩
  refine List.forall_mem_cons.mpr ⟨(s_aloadn (am_dp pw_X10_on_32 dd_X10_on_32a.2.2.2.1) rfl).to, ?_⟩
  refine List.forall_mem_cons.mpr ⟨(s_get (ci := 10) (k := 2) (am_dp pw_X10_on_32 dd_X10_on_32a.2.2.2.2.1) rfl (by decide) wd581 inX10 rfl).to, ?_⟩
  refine List.forall_mem_cons.mpr ⟨(s_get (ci := 5) (k := 3) (am_dp pw_X10_on_32 dd_X10_on_32a.2.2.2.2.2.1) rfl (by decide) wd315 inX5 rfl).to, ?_⟩
  refine List.forall_mem_cons.mpr ⟨(s_icmp_ge (am_dp pw_X10_on_32 dd_X10_on_32a.2.2.2.2.2.2.1) (by decide)).to, ?_⟩
  refine List.forall_mem_cons.mpr ⟨(s_aloadn (am_dp pw_X10_on_32 dd_X10_on_32a.2.2.2.2.2.2.2) rfl).to, ?_⟩
  refine List.forall_mem_cons.mpr ⟨(s_iloadn (am_dp pw_X10_on_32 dd_X10_on_32b.1) rfl).to, ?_⟩
  refine List.forall_mem_cons.mpr ⟨zw_cv153 (am_dp pw_X10_on_32 dd_X10_on_32b.2.1) wd1274, ?_⟩
  refine List.forall_mem_cons.mpr ⟨(s_iinc (am_dp pw_X10_on_32 dd_X10_on_32b.2.2.1) (by decide) (by decide)).to, ?_⟩
  refine List.forall_mem_cons.mpr ⟨(s_goto (am_dp pw_X10_on_32 dd_X10_on_32b.2.2.2.1) (by decide)).to, ?_⟩
  refine List.forall_mem_cons.mpr ⟨(s_iconst (am_dp pw_X10_on_32 dd_X10_on_32b.2.2.2.2.1) (by decide)).to, ?_⟩
  refine List.forall_mem_cons.mpr ⟨s_zret (am_dp pw_X10_on_32 dd_X10_on_32b.2.2.2.2.2) rfl, ?_⟩
  exact fun _ h => absurd h List.not_mem_nil
theorem sn_tX10_status : ∀ q ∈ tX10_status, am_Snd am_P0 RX10 cX10_status 2 (Option.some FieldType.int) "status" q.1 q.2 := by
  unfold tX10_status
  refine List.forall_mem_cons.mpr ⟨(s_iloadn (am_dp pw_X10_status_0 dd_X10_status_0a.1) rfl).to, ?_⟩
  refine List.forall_mem_cons.mpr ⟨(s_if_lt (am_dp pw_X10_status_0 dd_X10_status_0a.2.1) (by decide)).to, ?_⟩
  refine List.forall_mem_cons.mpr ⟨(s_iloadn (am_dp pw_X10_status_0 dd_X10_status_0a.2.2.1) rfl).to, ?_⟩
  refine List.forall_mem_cons.mpr ⟨(s_aloadn (am_dp pw_X10_status_0 dd_X10_status_0a.2.2.2.1) rfl).to, ?_⟩
  refine List.forall_mem_cons.mpr ⟨(s_get (ci := 10) (k := 8) (am_dp pw_X10_status_0 dd_X10_status_0a.2.2.2.2.1) rfl (by decide) wd587 inX10 rfl).to, ?_⟩
  refine List.forall_mem_cons.mpr ⟨(s_len (am_dp pw_X10_status_0 dd_X10_status_0a.2.2.2.2.2.1)).to, ?_⟩
  refine List.forall_mem_cons.mpr ⟨(s_icmp_lt (am_dp pw_X10_status_0 dd_X10_status_0a.2.2.2.2.2.2.1) (by decide)).to, ?_⟩
  refine List.forall_mem_cons.mpr ⟨(s_iconst (am_dp pw_X10_status_0 dd_X10_status_0a.2.2.2.2.2.2.2) (by decide)).to, ?_⟩
  refine List.forall_mem_cons.mpr ⟨(s_goto (am_dp pw_X10_status_0 dd_X10_status_0b.1) (by decide)).to, ?_⟩
  refine List.forall_mem_cons.mpr ⟨(s_aloadn (am_dp pw_X10_status_0 dd_X10_status_0b.2.1) rfl).to, ?_⟩
  refine List.forall_mem_cons.mpr ⟨(s_get (ci := 10) (k := 8) (am_dp pw_X10_status_0 dd_X10_status_0b.2.2.1) rfl (by decide) wd587 inX10 rfl).to, ?_⟩
  refine List.forall_mem_cons.mpr ⟨(s_iloadn (am_dp pw_X10_status_0 dd_X10_status_0b.2.2.2.1) rfl).to, ?_⟩
  refine List.forall_mem_cons.mpr ⟨(s_iald (am_dp pw_X10_status_0 dd_X10_status_0b.2.2.2.2.1)).to, ?_⟩
  refine List.forall_mem_cons.mpr ⟨s_iret (am_dp pw_X10_status_0 dd_X10_status_0b.2.2.2.2.2) rfl, ?_⟩
  exact fun _ h => absurd h List.not_mem_nil
theorem sn_tX10_bit : ∀ q ∈ tX10_bit, am_Snd am_P0 RX10 cX10_bit 1 (Option.some FieldType.int) "bit" q.1 q.2 := by
  unfold tX10_bit
  refine List.forall_mem_cons.mpr ⟨(s_iloadn (am_dp pw_X10_bit_0 dd_X10_bit_0a.1) rfl).to, ?_⟩
  refine List.forall_mem_cons.mpr ⟨(s_if_eq (am_dp pw_X10_bit_0 dd_X10_bit_0a.2.1) (by decide)).to, ?_⟩
  refine List.forall_mem_cons.mpr ⟨(s_iconst (am_dp pw_X10_bit_0 dd_X10_bit_0a.2.2.1) (by decide)).to, ?_⟩
  refine List.forall_mem_cons.mpr ⟨(s_goto (am_dp pw_X10_bit_0 dd_X10_bit_0a.2.2.2.1) (by decide)).to, ?_⟩
  refine List.forall_mem_cons.mpr ⟨(s_iconst (am_dp pw_X10_bit_0 dd_X10_bit_0a.2.2.2.2.1) (by decide)).to, ?_⟩
  refine List.forall_mem_cons.mpr ⟨s_iret (am_dp pw_X10_bit_0 dd_X10_bit_0a.2.2.2.2.2) rfl, ?_⟩
  exact fun _ h => absurd h List.not_mem_nil
theorem sn_tX10_isHour : ∀ q ∈ tX10_isHour, am_Snd am_P0 RX10 cX10_isHour 1 (Option.some FieldType.boolean) "isHour" q.1 q.2 := by
  unfold tX10_isHour
  refine List.forall_mem_cons.mpr ⟨(s_iloadn (am_dp pw_X10_isHour_0 dd_X10_isHour_0a.1) rfl).to, ?_⟩
  refine List.forall_mem_cons.mpr ⟨(s_if_lt (am_dp pw_X10_isHour_0 dd_X10_isHour_0a.2.1) (by decide)).to, ?_⟩
  refine List.forall_mem_cons.mpr ⟨(s_iloadn (am_dp pw_X10_isHour_0 dd_X10_isHour_0a.2.2.1) rfl).to, ?_⟩
  refine List.forall_mem_cons.mpr ⟨(s_bipush (am_dp pw_X10_isHour_0 dd_X10_isHour_0a.2.2.2.1) (by decide)).to, ?_⟩
  refine List.forall_mem_cons.mpr ⟨(s_icmp_ge (am_dp pw_X10_isHour_0 dd_X10_isHour_0a.2.2.2.2.1) (by decide)).to, ?_⟩
  refine List.forall_mem_cons.mpr ⟨(s_iconst (am_dp pw_X10_isHour_0 dd_X10_isHour_0a.2.2.2.2.2.1) (by decide)).to, ?_⟩
  refine List.forall_mem_cons.mpr ⟨(s_goto (am_dp pw_X10_isHour_0 dd_X10_isHour_0a.2.2.2.2.2.2.1) (by decide)).to, ?_⟩
  refine List.forall_mem_cons.mpr ⟨(s_iconst (am_dp pw_X10_isHour_0 dd_X10_isHour_0a.2.2.2.2.2.2.2) (by decide)).to, ?_⟩
  refine List.forall_mem_cons.mpr ⟨s_zret (am_dp pw_X10_isHour_0 dd_X10_isHour_0b) rfl, ?_⟩
  exact fun _ h => absurd h List.not_mem_nil
theorem sn_tX10_isShip : ∀ q ∈ tX10_isShip, am_Snd am_P0 RX10 cX10_isShip 2 (Option.some FieldType.boolean) "isShip" q.1 q.2 := by
  unfold tX10_isShip
  refine List.forall_mem_cons.mpr ⟨(s_iloadn (am_dp pw_X10_isShip_0 dd_X10_isShip_0a.1) rfl).to, ?_⟩
  refine List.forall_mem_cons.mpr ⟨(s_if_lt (am_dp pw_X10_isShip_0 dd_X10_isShip_0a.2.1) (by decide)).to, ?_⟩
  refine List.forall_mem_cons.mpr ⟨(s_iloadn (am_dp pw_X10_isShip_0 dd_X10_isShip_0a.2.2.1) rfl).to, ?_⟩
  refine List.forall_mem_cons.mpr ⟨(s_aloadn (am_dp pw_X10_isShip_0 dd_X10_isShip_0a.2.2.2.1) rfl).to, ?_⟩
  refine List.forall_mem_cons.mpr ⟨(s_get (ci := 10) (k := 2) (am_dp pw_X10_isShip_0 dd_X10_isShip_0a.2.2.2.2.1) rfl (by decide) wd581 inX10 rfl).to, ?_⟩
  refine List.forall_mem_cons.mpr ⟨(s_get (ci := 5) (k := 3) (am_dp pw_X10_isShip_0 dd_X10_isShip_0a.2.2.2.2.2.1) rfl (by decide) wd315 inX5 rfl).to, ?_⟩
  refine List.forall_mem_cons.mpr ⟨(s_icmp_ge (am_dp pw_X10_isShip_0 dd_X10_isShip_0a.2.2.2.2.2.2.1) (by decide)).to, ?_⟩
  refine List.forall_mem_cons.mpr ⟨(s_iconst (am_dp pw_X10_isShip_0 dd_X10_isShip_0a.2.2.2.2.2.2.2) (by decide)).to, ?_⟩
  refine List.forall_mem_cons.mpr ⟨(s_goto (am_dp pw_X10_isShip_0 dd_X10_isShip_0b.1) (by decide)).to, ?_⟩
  refine List.forall_mem_cons.mpr ⟨(s_iconst (am_dp pw_X10_isShip_0 dd_X10_isShip_0b.2.1) (by decide)).to, ?_⟩
  refine List.forall_mem_cons.mpr ⟨s_zret (am_dp pw_X10_isShip_0 dd_X10_isShip_0b.2.2) rfl, ?_⟩
  exact fun _ h => absurd h List.not_mem_nil
theorem sn_tX10_isSaying : ∀ q ∈ tX10_isSaying, am_Snd am_P0 RX10 cX10_isSaying 3 (Option.some FieldType.boolean) "isSaying" q.1 q.2 := by
  unfold tX10_isSaying
  refine List.forall_mem_cons.mpr ⟨(s_aloadn (am_dp pw_X10_isSaying_0 dd_X10_isSaying_0a.1) rfl).to, ?_⟩
  refine List.forall_mem_cons.mpr ⟨(s_iloadn (am_dp pw_X10_isSaying_0 dd_X10_isSaying_0a.2.1) rfl).to, ?_⟩
  refine List.forall_mem_cons.mpr ⟨zw_cv150 (am_dp pw_X10_isSaying_0 dd_X10_isSaying_0a.2.2.1) wd921, ?_⟩
  refine List.forall_mem_cons.mpr ⟨(s_if_eq (am_dp pw_X10_isSaying_0 dd_X10_isSaying_0a.2.2.2.1) (by decide)).to, ?_⟩
  refine List.forall_mem_cons.mpr ⟨(s_iloadn (am_dp pw_X10_isSaying_0 dd_X10_isSaying_0a.2.2.2.2.1) rfl).to, ?_⟩
  refine List.forall_mem_cons.mpr ⟨(s_if_lt (am_dp pw_X10_isSaying_0 dd_X10_isSaying_0a.2.2.2.2.2.1) (by decide)).to, ?_⟩
  refine List.forall_mem_cons.mpr ⟨(s_iloadn (am_dp pw_X10_isSaying_0 dd_X10_isSaying_0a.2.2.2.2.2.2.1) rfl).to, ?_⟩
  refine List.forall_mem_cons.mpr ⟨(s_aloadn (am_dp pw_X10_isSaying_0 dd_X10_isSaying_0a.2.2.2.2.2.2.2) rfl).to, ?_⟩
  refine List.forall_mem_cons.mpr ⟨(s_get (ci := 10) (k := 2) (am_dp pw_X10_isSaying_0 dd_X10_isSaying_0b.1) rfl (by decide) wd581 inX10 rfl).to, ?_⟩
  refine List.forall_mem_cons.mpr ⟨(s_get (ci := 5) (k := 4) (am_dp pw_X10_isSaying_0 dd_X10_isSaying_0b.2.1) rfl (by decide) wd318 inX5 rfl).to, ?_⟩
  refine List.forall_mem_cons.mpr ⟨(s_iloadn (am_dp pw_X10_isSaying_0 dd_X10_isSaying_0b.2.2.1) rfl).to, ?_⟩
  refine List.forall_mem_cons.mpr ⟨(s_aald (am_dp pw_X10_isSaying_0 dd_X10_isSaying_0b.2.2.2.1)).to, ?_⟩
  refine List.forall_mem_cons.mpr ⟨(s_get (ci := 6) (k := 5) (am_dp pw_X10_isSaying_0 dd_X10_isSaying_0b.2.2.2.2.1) rfl (by decide) wd255 inX6 rfl).to, ?_⟩
  refine List.forall_mem_cons.mpr ⟨(s_icmp_ge (am_dp pw_X10_isSaying_0 dd_X10_isSaying_0b.2.2.2.2.2.1) (by decide)).to, ?_⟩
  refine List.forall_mem_cons.mpr ⟨(s_iconst (am_dp pw_X10_isSaying_0 dd_X10_isSaying_0b.2.2.2.2.2.2.1) (by decide)).to, ?_⟩
  refine List.forall_mem_cons.mpr ⟨(s_goto (am_dp pw_X10_isSaying_0 dd_X10_isSaying_0b.2.2.2.2.2.2.2) (by decide)).to, ?_⟩
  refine List.forall_mem_cons.mpr ⟨(s_iconst (am_dp pw_X10_isSaying_32 dd_X10_isSaying_32a.1) (by decide)).to, ?_⟩
  refine List.forall_mem_cons.mpr ⟨s_zret (am_dp pw_X10_isSaying_32 dd_X10_isSaying_32a.2) rfl, ?_⟩
  exact fun _ h => absurd h List.not_mem_nil
theorem sn_tX10_putFour : ∀ q ∈ tX10_putFour, am_Snd am_P0 RX10 cX10_putFour 3 (Option.none : Option FieldType) "putFour" q.1 q.2 := by
  unfold tX10_putFour
  refine List.forall_mem_cons.mpr ⟨(s_bipush (am_dp pw_X10_putFour_0 dd_X10_putFour_0a.1) (by decide)).to, ?_⟩
  refine List.forall_mem_cons.mpr ⟨(s_istoren (am_dp pw_X10_putFour_0 dd_X10_putFour_0a.2.1) rfl (by decide)).to, ?_⟩
  refine List.forall_mem_cons.mpr ⟨(s_iloadn (am_dp pw_X10_putFour_0 dd_X10_putFour_0a.2.2.1) rfl).to, ?_⟩
  refine List.forall_mem_cons.mpr ⟨(s_if_lt (am_dp pw_X10_putFour_0 dd_X10_putFour_0a.2.2.2.1) (by decide)).to, ?_⟩
  refine List.forall_mem_cons.mpr ⟨(s_aloadn (am_dp pw_X10_putFour_0 dd_X10_putFour_0a.2.2.2.2.1) rfl).to, ?_⟩
  refine List.forall_mem_cons.mpr ⟨(s_get (ci := 10) (k := 0) (am_dp pw_X10_putFour_0 dd_X10_putFour_0a.2.2.2.2.2.1) rfl (by decide) wd579 inX10 rfl).to, ?_⟩
  refine List.forall_mem_cons.mpr ⟨(s_aloadn (am_dp pw_X10_putFour_0 dd_X10_putFour_0a.2.2.2.2.2.2.1) rfl).to, ?_⟩
  refine List.forall_mem_cons.mpr ⟨(s_get (ci := 10) (k := 1) (am_dp pw_X10_putFour_0 dd_X10_putFour_0a.2.2.2.2.2.2.2) rfl (by decide) wd580 inX10 rfl).to, ?_⟩
  refine List.forall_mem_cons.mpr ⟨(s_iloadn (am_dp pw_X10_putFour_0 dd_X10_putFour_0b.1) rfl).to, ?_⟩
  refine List.forall_mem_cons.mpr ⟨(s_iloadn (am_dp pw_X10_putFour_0 dd_X10_putFour_0b.2.1) rfl).to, ?_⟩
  refine List.forall_mem_cons.mpr ⟨(s_iushr (am_dp pw_X10_putFour_0 dd_X10_putFour_0b.2.2.1)).to, ?_⟩
  refine List.forall_mem_cons.mpr ⟨(s_sipush (am_dp pw_X10_putFour_0 dd_X10_putFour_0b.2.2.2.1) (by decide)).to, ?_⟩
  refine List.forall_mem_cons.mpr ⟨(s_iand (am_dp pw_X10_putFour_0 dd_X10_putFour_0b.2.2.2.2.1)).to, ?_⟩
  refine List.forall_mem_cons.mpr ⟨(s_iast (am_dp pw_X10_putFour_0 dd_X10_putFour_0b.2.2.2.2.2.1)).to, ?_⟩
  refine List.forall_mem_cons.mpr ⟨(s_aloadn (am_dp pw_X10_putFour_0 dd_X10_putFour_0b.2.2.2.2.2.2.1) rfl).to, ?_⟩
  refine List.forall_mem_cons.mpr ⟨(s_dup (am_dp pw_X10_putFour_0 dd_X10_putFour_0b.2.2.2.2.2.2.2)).to, ?_⟩
  refine List.forall_mem_cons.mpr ⟨(s_get (ci := 10) (k := 1) (am_dp pw_X10_putFour_0 dd_X10_putFour_0c.1) rfl (by decide) wd580 inX10 rfl).to, ?_⟩
  refine List.forall_mem_cons.mpr ⟨(s_iconst (am_dp pw_X10_putFour_0 dd_X10_putFour_0c.2.1) (by decide)).to, ?_⟩
  refine List.forall_mem_cons.mpr ⟨(s_iadd (am_dp pw_X10_putFour_0 dd_X10_putFour_0c.2.2.1)).to, ?_⟩
  refine List.forall_mem_cons.mpr ⟨(s_put (ci := 10) (k := 1) (am_dp pw_X10_putFour_0 dd_X10_putFour_0c.2.2.2) rfl (by decide) wd580 inX10 tyX10_ok nmX10 rfl rfl).to, ?_⟩
  refine List.forall_mem_cons.mpr ⟨(s_iinc (am_dp pw_X10_putFour_32 dd_X10_putFour_32a.1) (by decide) (by decide)).to, ?_⟩
  refine List.forall_mem_cons.mpr ⟨(s_goto (am_dp pw_X10_putFour_32 dd_X10_putFour_32a.2.1) (by decide)).to, ?_⟩
  refine List.forall_mem_cons.mpr ⟨s_vret (am_dp pw_X10_putFour_32 dd_X10_putFour_32a.2.2) rfl, ?_⟩
  exact fun _ h => absurd h List.not_mem_nil
theorem sn_tX10_forget : ∀ q ∈ tX10_forget, am_Snd am_P0 RX10 cX10_forget 3 (Option.none : Option FieldType) "forget" q.1 q.2 := by
  unfold tX10_forget
  refine List.forall_mem_cons.mpr ⟨(s_aloadn (am_dp pw_X10_forget_0 dd_X10_forget_0a.1) rfl).to, ?_⟩
  refine List.forall_mem_cons.mpr ⟨(s_get (ci := 10) (k := 7) (am_dp pw_X10_forget_0 dd_X10_forget_0a.2.1) rfl (by decide) wd586 inX10 rfl).to, ?_⟩
  refine List.forall_mem_cons.mpr ⟨(s_iloadn (am_dp pw_X10_forget_0 dd_X10_forget_0a.2.2.1) rfl).to, ?_⟩
  refine List.forall_mem_cons.mpr ⟨(s_aald (am_dp pw_X10_forget_0 dd_X10_forget_0a.2.2.2.1)).to, ?_⟩
  refine List.forall_mem_cons.mpr ⟨zw_cv74 (am_dp pw_X10_forget_0 dd_X10_forget_0a.2.2.2.2.1) wd1278, ?_⟩
  refine List.forall_mem_cons.mpr ⟨(s_iconst (am_dp pw_X10_forget_0 dd_X10_forget_0a.2.2.2.2.2.1) (by decide)).to, ?_⟩
  refine List.forall_mem_cons.mpr ⟨(s_istoren (am_dp pw_X10_forget_0 dd_X10_forget_0a.2.2.2.2.2.2.1) rfl (by decide)).to, ?_⟩
  refine List.forall_mem_cons.mpr ⟨(s_iloadn (am_dp pw_X10_forget_0 dd_X10_forget_0a.2.2.2.2.2.2.2) rfl).to, ?_⟩
  refine List.forall_mem_cons.mpr ⟨(s_aloadn (am_dp pw_X10_forget_0 dd_X10_forget_0b.1) rfl).to, ?_⟩
  refine List.forall_mem_cons.mpr ⟨(s_get (ci := 10) (k := 2) (am_dp pw_X10_forget_0 dd_X10_forget_0b.2.1) rfl (by decide) wd581 inX10 rfl).to, ?_⟩
  refine List.forall_mem_cons.mpr ⟨(s_get (ci := 5) (k := 3) (am_dp pw_X10_forget_0 dd_X10_forget_0b.2.2.1) rfl (by decide) wd315 inX5 rfl).to, ?_⟩
  refine List.forall_mem_cons.mpr ⟨(s_icmp_ge (am_dp pw_X10_forget_0 dd_X10_forget_0b.2.2.2.1) (by decide)).to, ?_⟩
  refine List.forall_mem_cons.mpr ⟨(s_aloadn (am_dp pw_X10_forget_0 dd_X10_forget_0b.2.2.2.2.1) rfl).to, ?_⟩
  refine List.forall_mem_cons.mpr ⟨(s_get (ci := 10) (k := 7) (am_dp pw_X10_forget_0 dd_X10_forget_0b.2.2.2.2.2.1) rfl (by decide) wd586 inX10 rfl).to, ?_⟩
  refine List.forall_mem_cons.mpr ⟨(s_iloadn (am_dp pw_X10_forget_0 dd_X10_forget_0b.2.2.2.2.2.2.1) rfl).to, ?_⟩
  refine List.forall_mem_cons.mpr ⟨(s_aald (am_dp pw_X10_forget_0 dd_X10_forget_0b.2.2.2.2.2.2.2)).to, ?_⟩
  refine List.forall_mem_cons.mpr ⟨(s_iconst (am_dp pw_X10_forget_0 dd_X10_forget_0c.1) (by decide)).to, ?_⟩
  refine List.forall_mem_cons.mpr ⟨(s_put (ci := 8) (k := 6) (am_dp pw_X10_forget_0 dd_X10_forget_0c.2) rfl (by decide) wd527 inX8 tyX8_ok nmX8 rfl rfl).to, ?_⟩
  refine List.forall_mem_cons.mpr ⟨(s_iinc (am_dp pw_X10_forget_32 dd_X10_forget_32a.1) (by decide) (by decide)).to, ?_⟩
  refine List.forall_mem_cons.mpr ⟨(s_goto (am_dp pw_X10_forget_32 dd_X10_forget_32a.2.1) (by decide)).to, ?_⟩
  refine List.forall_mem_cons.mpr ⟨(s_aloadn (am_dp pw_X10_forget_32 dd_X10_forget_32a.2.2.1) rfl).to, ?_⟩
  refine List.forall_mem_cons.mpr ⟨(s_iconst (am_dp pw_X10_forget_32 dd_X10_forget_32a.2.2.2.1) (by decide)).to, ?_⟩
  refine List.forall_mem_cons.mpr ⟨(s_put (ci := 10) (k := 13) (am_dp pw_X10_forget_32 dd_X10_forget_32a.2.2.2.2.1) rfl (by decide) wd592 inX10 tyX10_ok nmX10 rfl rfl).to, ?_⟩
  refine List.forall_mem_cons.mpr ⟨s_vret (am_dp pw_X10_forget_32 dd_X10_forget_32a.2.2.2.2.2) rfl, ?_⟩
  exact fun _ h => absurd h List.not_mem_nil
theorem sn_tX10_settled : ∀ q ∈ tX10_settled, am_Snd am_P0 RX10 cX10_settled 2 (Option.some (FieldType.object "ToldTracks$Track")) "settled" q.1 q.2 := by
  unfold tX10_settled
  refine List.forall_mem_cons.mpr ⟨(s_aloadn (am_dp pw_X10_settled_0 dd_X10_settled_0a.1) rfl).to, ?_⟩
  refine List.forall_mem_cons.mpr ⟨(s_get (ci := 10) (k := 7) (am_dp pw_X10_settled_0 dd_X10_settled_0a.2.1) rfl (by decide) wd586 inX10 rfl).to, ?_⟩
  refine List.forall_mem_cons.mpr ⟨(s_iloadn (am_dp pw_X10_settled_0 dd_X10_settled_0a.2.2.1) rfl).to, ?_⟩
  refine List.forall_mem_cons.mpr ⟨(s_aald (am_dp pw_X10_settled_0 dd_X10_settled_0a.2.2.2.1)).to, ?_⟩
  refine List.forall_mem_cons.mpr ⟨zw_cv83 (am_dp pw_X10_settled_0 dd_X10_settled_0a.2.2.2.2.1) wd933, ?_⟩
  refine List.forall_mem_cons.mpr ⟨(s_aloadn (am_dp pw_X10_settled_0 dd_X10_settled_0a.2.2.2.2.2.1) rfl).to, ?_⟩
  refine List.forall_mem_cons.mpr ⟨(s_get (ci := 10) (k := 7) (am_dp pw_X10_settled_0 dd_X10_settled_0a.2.2.2.2.2.2.1) rfl (by decide) wd586 inX10 rfl).to, ?_⟩
  refine List.forall_mem_cons.mpr ⟨(s_iloadn (am_dp pw_X10_settled_0 dd_X10_settled_0a.2.2.2.2.2.2.2) rfl).to, ?_⟩
  refine List.forall_mem_cons.mpr ⟨(s_aald (am_dp pw_X10_settled_0 dd_X10_settled_0b.1)).to, ?_⟩
  refine List.forall_mem_cons.mpr ⟨s_aret (am_dp pw_X10_settled_0 dd_X10_settled_0b.2) rfl (Or.inl ⟨_, rfl⟩), ?_⟩
  exact fun _ h => absurd h List.not_mem_nil
theorem sn_tX10_sayersOf : ∀ q ∈ tX10_sayersOf, am_Snd am_P0 RX10 cX10_sayersOf 5 (Option.some FieldType.int) "sayersOf" q.1 q.2 := by
  unfold tX10_sayersOf
  refine List.forall_mem_cons.mpr ⟨(s_aloadn (am_dp pw_X10_sayersOf_0 dd_X10_sayersOf_0a.1) rfl).to, ?_⟩
  refine List.forall_mem_cons.mpr ⟨(s_get (ci := 10) (k := 2) (am_dp pw_X10_sayersOf_0 dd_X10_sayersOf_0a.2.1) rfl (by decide) wd581 inX10 rfl).to, ?_⟩
  refine List.forall_mem_cons.mpr ⟨(s_get (ci := 5) (k := 4) (am_dp pw_X10_sayersOf_0 dd_X10_sayersOf_0a.2.2.1) rfl (by decide) wd318 inX5 rfl).to, ?_⟩
  refine List.forall_mem_cons.mpr ⟨(s_iloadn (am_dp pw_X10_sayersOf_0 dd_X10_sayersOf_0a.2.2.2.1) rfl).to, ?_⟩
  refine List.forall_mem_cons.mpr ⟨(s_aald (am_dp pw_X10_sayersOf_0 dd_X10_sayersOf_0a.2.2.2.2.1)).to, ?_⟩
  refine List.forall_mem_cons.mpr ⟨(s_astoren (am_dp pw_X10_sayersOf_0 dd_X10_sayersOf_0a.2.2.2.2.2.1) rfl (by decide)).to, ?_⟩
  refine List.forall_mem_cons.mpr ⟨(s_iconst (am_dp pw_X10_sayersOf_0 dd_X10_sayersOf_0a.2.2.2.2.2.2.1) (by decide)).to, ?_⟩
  refine List.forall_mem_cons.mpr ⟨(s_istoren (am_dp pw_X10_sayersOf_0 dd_X10_sayersOf_0a.2.2.2.2.2.2.2) rfl (by decide)).to, ?_⟩
  refine List.forall_mem_cons.mpr ⟨(s_iconst (am_dp pw_X10_sayersOf_0 dd_X10_sayersOf_0b.1) (by decide)).to, ?_⟩
  refine List.forall_mem_cons.mpr ⟨(s_istore (am_dp pw_X10_sayersOf_0 dd_X10_sayersOf_0b.2.1) (by decide)).to, ?_⟩
  refine List.forall_mem_cons.mpr ⟨(s_iload (am_dp pw_X10_sayersOf_0 dd_X10_sayersOf_0b.2.2.1)).to, ?_⟩
  refine List.forall_mem_cons.mpr ⟨(s_aloadn (am_dp pw_X10_sayersOf_0 dd_X10_sayersOf_0b.2.2.2.1) rfl).to, ?_⟩
  refine List.forall_mem_cons.mpr ⟨(s_get (ci := 10) (k := 2) (am_dp pw_X10_sayersOf_0 dd_X10_sayersOf_0b.2.2.2.2.1) rfl (by decide) wd581 inX10 rfl).to, ?_⟩
  refine List.forall_mem_cons.mpr ⟨(s_get (ci := 5) (k := 3) (am_dp pw_X10_sayersOf_0 dd_X10_sayersOf_0b.2.2.2.2.2.1) rfl (by decide) wd315 inX5 rfl).to, ?_⟩
  refine List.forall_mem_cons.mpr ⟨(s_icmp_ge (am_dp pw_X10_sayersOf_0 dd_X10_sayersOf_0b.2.2.2.2.2.2.1) (by decide)).to, ?_⟩
  refine List.forall_mem_cons.mpr ⟨(s_iload (am_dp pw_X10_sayersOf_0 dd_X10_sayersOf_0b.2.2.2.2.2.2.2)).to, ?_⟩
  refine List.forall_mem_cons.mpr ⟨(s_iloadn (am_dp pw_X10_sayersOf_0 dd_X10_sayersOf_0c.1) rfl).to, ?_⟩
  refine List.forall_mem_cons.mpr ⟨(s_icmp_eq (am_dp pw_X10_sayersOf_0 dd_X10_sayersOf_0c.2) (by decide)).to, ?_⟩
  refine List.forall_mem_cons.mpr ⟨(s_aloadn (am_dp pw_X10_sayersOf_32 dd_X10_sayersOf_32a.1) rfl).to, ?_⟩
  refine List.forall_mem_cons.mpr ⟨(s_get (ci := 6) (k := 5) (am_dp pw_X10_sayersOf_32 dd_X10_sayersOf_32a.2.1) rfl (by decide) wd255 inX6 rfl).to, ?_⟩
  refine List.forall_mem_cons.mpr ⟨(s_if_le (am_dp pw_X10_sayersOf_32 dd_X10_sayersOf_32a.2.2.1) (by decide)).to, ?_⟩
  refine List.forall_mem_cons.mpr ⟨(s_aloadn (am_dp pw_X10_sayersOf_32 dd_X10_sayersOf_32a.2.2.2.1) rfl).to, ?_⟩
  refine List.forall_mem_cons.mpr ⟨(s_get (ci := 10) (k := 7) (am_dp pw_X10_sayersOf_32 dd_X10_sayersOf_32a.2.2.2.2.1) rfl (by decide) wd586 inX10 rfl).to, ?_⟩
  refine List.forall_mem_cons.mpr ⟨(s_iload (am_dp pw_X10_sayersOf_32 dd_X10_sayersOf_32a.2.2.2.2.2.1)).to, ?_⟩
  refine List.forall_mem_cons.mpr ⟨(s_aald (am_dp pw_X10_sayersOf_32 dd_X10_sayersOf_32a.2.2.2.2.2.2.1)).to, ?_⟩
  refine List.forall_mem_cons.mpr ⟨(s_aloadn (am_dp pw_X10_sayersOf_32 dd_X10_sayersOf_32a.2.2.2.2.2.2.2) rfl).to, ?_⟩
  refine List.forall_mem_cons.mpr ⟨(s_iconst (am_dp pw_X10_sayersOf_32 dd_X10_sayersOf_32b.1) (by decide)).to, ?_⟩
  refine List.forall_mem_cons.mpr ⟨(s_iconst (am_dp pw_X10_sayersOf_32 dd_X10_sayersOf_32b.2.1) (by decide)).to, ?_⟩
  refine List.forall_mem_cons.mpr ⟨zw_cv79 (am_dp pw_X10_sayersOf_32 dd_X10_sayersOf_32b.2.2.1) wd1124, ?_⟩
  refine List.forall_mem_cons.mpr ⟨(s_if_eq (am_dp pw_X10_sayersOf_32 dd_X10_sayersOf_32b.2.2.2.1) (by decide)).to, ?_⟩
  refine List.forall_mem_cons.mpr ⟨(s_iloadn (am_dp pw_X10_sayersOf_32 dd_X10_sayersOf_32b.2.2.2.2.1) rfl).to, ?_⟩
  refine List.forall_mem_cons.mpr ⟨(s_iconst (am_dp pw_X10_sayersOf_32 dd_X10_sayersOf_32b.2.2.2.2.2.1) (by decide)).to, ?_⟩
  refine List.forall_mem_cons.mpr ⟨(s_iload (am_dp pw_X10_sayersOf_32 dd_X10_sayersOf_32b.2.2.2.2.2.2.1)).to, ?_⟩
  refine List.forall_mem_cons.mpr ⟨(s_ishl (am_dp pw_X10_sayersOf_32 dd_X10_sayersOf_32b.2.2.2.2.2.2.2)).to, ?_⟩
  refine List.forall_mem_cons.mpr ⟨(s_ior (am_dp pw_X10_sayersOf_32 dd_X10_sayersOf_32c.1)).to, ?_⟩
  refine List.forall_mem_cons.mpr ⟨(s_istoren (am_dp pw_X10_sayersOf_32 dd_X10_sayersOf_32c.2.1) rfl (by decide)).to, ?_⟩
  refine List.forall_mem_cons.mpr ⟨(s_iinc (am_dp pw_X10_sayersOf_32 dd_X10_sayersOf_32c.2.2) (by decide) (by decide)).to, ?_⟩
  refine List.forall_mem_cons.mpr ⟨(s_goto (am_dp pw_X10_sayersOf_64 dd_X10_sayersOf_64a.1) (by decide)).to, ?_⟩
  refine List.forall_mem_cons.mpr ⟨(s_iloadn (am_dp pw_X10_sayersOf_64 dd_X10_sayersOf_64a.2.1) rfl).to, ?_⟩
  refine List.forall_mem_cons.mpr ⟨s_iret (am_dp pw_X10_sayersOf_64 dd_X10_sayersOf_64a.2.2) rfl, ?_⟩
  exact fun _ h => absurd h List.not_mem_nil
theorem sn_tX10_kindsOf : ∀ q ∈ tX10_kindsOf, am_Snd am_P0 RX10 cX10_kindsOf 3 (Option.some FieldType.int) "kindsOf" q.1 q.2 := by
  unfold tX10_kindsOf
  refine List.forall_mem_cons.mpr ⟨(s_aloadn (am_dp pw_X10_kindsOf_0 dd_X10_kindsOf_0a.1) rfl).to, ?_⟩
  refine List.forall_mem_cons.mpr ⟨(s_get (ci := 10) (k := 7) (am_dp pw_X10_kindsOf_0 dd_X10_kindsOf_0a.2.1) rfl (by decide) wd586 inX10 rfl).to, ?_⟩
  refine List.forall_mem_cons.mpr ⟨(s_iloadn (am_dp pw_X10_kindsOf_0 dd_X10_kindsOf_0a.2.2.1) rfl).to, ?_⟩
  refine List.forall_mem_cons.mpr ⟨(s_aald (am_dp pw_X10_kindsOf_0 dd_X10_kindsOf_0a.2.2.2.1)).to, ?_⟩
  refine List.forall_mem_cons.mpr ⟨(s_astoren (am_dp pw_X10_kindsOf_0 dd_X10_kindsOf_0a.2.2.2.2.1) rfl (by decide)).to, ?_⟩
  refine List.forall_mem_cons.mpr ⟨(s_aloadn (am_dp pw_X10_kindsOf_0 dd_X10_kindsOf_0a.2.2.2.2.2.1) rfl).to, ?_⟩
  refine List.forall_mem_cons.mpr ⟨(s_get (ci := 8) (k := 6) (am_dp pw_X10_kindsOf_0 dd_X10_kindsOf_0a.2.2.2.2.2.2.1) rfl (by decide) wd527 inX8 rfl).to, ?_⟩
  refine List.forall_mem_cons.mpr ⟨(s_if_ne (am_dp pw_X10_kindsOf_0 dd_X10_kindsOf_0a.2.2.2.2.2.2.2) (by decide)).to, ?_⟩
  refine List.forall_mem_cons.mpr ⟨(s_aloadn (am_dp pw_X10_kindsOf_0 dd_X10_kindsOf_0b.1) rfl).to, ?_⟩
  refine List.forall_mem_cons.mpr ⟨zw_cv98 (am_dp pw_X10_kindsOf_0 dd_X10_kindsOf_0b.2.1) wd1094, ?_⟩
  refine List.forall_mem_cons.mpr ⟨(s_aloadn (am_dp pw_X10_kindsOf_0 dd_X10_kindsOf_0b.2.2.1) rfl).to, ?_⟩
  refine List.forall_mem_cons.mpr ⟨(s_aloadn (am_dp pw_X10_kindsOf_0 dd_X10_kindsOf_0b.2.2.2.1) rfl).to, ?_⟩
  refine List.forall_mem_cons.mpr ⟨zw_cv93 (am_dp pw_X10_kindsOf_0 dd_X10_kindsOf_0b.2.2.2.2.1) wd1104, ?_⟩
  refine List.forall_mem_cons.mpr ⟨(s_aloadn (am_dp pw_X10_kindsOf_0 dd_X10_kindsOf_0b.2.2.2.2.2.1) rfl).to, ?_⟩
  refine List.forall_mem_cons.mpr ⟨(s_iloadn (am_dp pw_X10_kindsOf_0 dd_X10_kindsOf_0b.2.2.2.2.2.2.1) rfl).to, ?_⟩
  refine List.forall_mem_cons.mpr ⟨zw_cv155 (am_dp pw_X10_kindsOf_0 dd_X10_kindsOf_0b.2.2.2.2.2.2.2) wd1120, ?_⟩
  refine List.forall_mem_cons.mpr ⟨(s_if_eq (am_dp pw_X10_kindsOf_0 dd_X10_kindsOf_0c.1) (by decide)).to, ?_⟩
  refine List.forall_mem_cons.mpr ⟨(s_iconst (am_dp pw_X10_kindsOf_0 dd_X10_kindsOf_0c.2) (by decide)).to, ?_⟩
  refine List.forall_mem_cons.mpr ⟨(s_goto (am_dp pw_X10_kindsOf_32 dd_X10_kindsOf_32a.1) (by decide)).to, ?_⟩
  refine List.forall_mem_cons.mpr ⟨(s_iconst (am_dp pw_X10_kindsOf_32 dd_X10_kindsOf_32a.2.1) (by decide)).to, ?_⟩
  refine List.forall_mem_cons.mpr ⟨zw_cs148 (am_dp pw_X10_kindsOf_32 dd_X10_kindsOf_32a.2.2.1) wd1004, ?_⟩
  refine List.forall_mem_cons.mpr ⟨(s_iconst (am_dp pw_X10_kindsOf_32 dd_X10_kindsOf_32a.2.2.2.1) (by decide)).to, ?_⟩
  refine List.forall_mem_cons.mpr ⟨(s_ishl (am_dp pw_X10_kindsOf_32 dd_X10_kindsOf_32a.2.2.2.2.1)).to, ?_⟩
  refine List.forall_mem_cons.mpr ⟨(s_ior (am_dp pw_X10_kindsOf_32 dd_X10_kindsOf_32a.2.2.2.2.2.1)).to, ?_⟩
  refine List.forall_mem_cons.mpr ⟨(s_put (ci := 8) (k := 7) (am_dp pw_X10_kindsOf_32 dd_X10_kindsOf_32a.2.2.2.2.2.2.1) rfl (by decide) wd528 inX8 tyX8_ok nmX8 rfl rfl).to, ?_⟩
  refine List.forall_mem_cons.mpr ⟨(s_aloadn (am_dp pw_X10_kindsOf_32 dd_X10_kindsOf_32a.2.2.2.2.2.2.2) rfl).to, ?_⟩
  refine List.forall_mem_cons.mpr ⟨(s_iconst (am_dp pw_X10_kindsOf_32 dd_X10_kindsOf_32b.1) (by decide)).to, ?_⟩
  refine List.forall_mem_cons.mpr ⟨(s_put (ci := 8) (k := 6) (am_dp pw_X10_kindsOf_32 dd_X10_kindsOf_32b.2.1) rfl (by decide) wd527 inX8 tyX8_ok nmX8 rfl rfl).to, ?_⟩
  refine List.forall_mem_cons.mpr ⟨(s_aloadn (am_dp pw_X10_kindsOf_32 dd_X10_kindsOf_32b.2.2.1) rfl).to, ?_⟩
  refine List.forall_mem_cons.mpr ⟨(s_get (ci := 8) (k := 7) (am_dp pw_X10_kindsOf_32 dd_X10_kindsOf_32b.2.2.2.1) rfl (by decide) wd528 inX8 rfl).to, ?_⟩
  refine List.forall_mem_cons.mpr ⟨s_iret (am_dp pw_X10_kindsOf_32 dd_X10_kindsOf_32b.2.2.2.2) rfl, ?_⟩
  exact fun _ h => absurd h List.not_mem_nil
theorem sn_tX10_plainestOf : ∀ q ∈ tX10_plainestOf, am_Snd am_P0 RX10 cX10_plainestOf 2 (Option.some FieldType.int) "plainestOf" q.1 q.2 := by
  unfold tX10_plainestOf
  refine List.forall_mem_cons.mpr ⟨(s_iconst (am_dp pw_X10_plainestOf_0 dd_X10_plainestOf_0a.1) (by decide)).to, ?_⟩
  refine List.forall_mem_cons.mpr ⟨(s_istoren (am_dp pw_X10_plainestOf_0 dd_X10_plainestOf_0a.2.1) rfl (by decide)).to, ?_⟩
  refine List.forall_mem_cons.mpr ⟨(s_iloadn (am_dp pw_X10_plainestOf_0 dd_X10_plainestOf_0a.2.2.1) rfl).to, ?_⟩
  refine List.forall_mem_cons.mpr ⟨(s_iconst (am_dp pw_X10_plainestOf_0 dd_X10_plainestOf_0a.2.2.2.1) (by decide)).to, ?_⟩
  refine List.forall_mem_cons.mpr ⟨(s_icmp_ge (am_dp pw_X10_plainestOf_0 dd_X10_plainestOf_0a.2.2.2.2.1) (by decide)).to, ?_⟩
  refine List.forall_mem_cons.mpr ⟨(s_iloadn (am_dp pw_X10_plainestOf_0 dd_X10_plainestOf_0a.2.2.2.2.2.1) rfl).to, ?_⟩
  refine List.forall_mem_cons.mpr ⟨(s_iloadn (am_dp pw_X10_plainestOf_0 dd_X10_plainestOf_0a.2.2.2.2.2.2.1) rfl).to, ?_⟩
  refine List.forall_mem_cons.mpr ⟨(s_ishr (am_dp pw_X10_plainestOf_0 dd_X10_plainestOf_0a.2.2.2.2.2.2.2)).to, ?_⟩
  refine List.forall_mem_cons.mpr ⟨(s_iconst (am_dp pw_X10_plainestOf_0 dd_X10_plainestOf_0b.1) (by decide)).to, ?_⟩
  refine List.forall_mem_cons.mpr ⟨(s_iand (am_dp pw_X10_plainestOf_0 dd_X10_plainestOf_0b.2.1)).to, ?_⟩
  refine List.forall_mem_cons.mpr ⟨(s_if_eq (am_dp pw_X10_plainestOf_0 dd_X10_plainestOf_0b.2.2.1) (by decide)).to, ?_⟩
  refine List.forall_mem_cons.mpr ⟨(s_iloadn (am_dp pw_X10_plainestOf_0 dd_X10_plainestOf_0b.2.2.2.1) rfl).to, ?_⟩
  refine List.forall_mem_cons.mpr ⟨s_iret (am_dp pw_X10_plainestOf_0 dd_X10_plainestOf_0b.2.2.2.2.1) rfl, ?_⟩
  refine List.forall_mem_cons.mpr ⟨(s_iinc (am_dp pw_X10_plainestOf_0 dd_X10_plainestOf_0b.2.2.2.2.2.1) (by decide) (by decide)).to, ?_⟩
  refine List.forall_mem_cons.mpr ⟨(s_goto (am_dp pw_X10_plainestOf_0 dd_X10_plainestOf_0b.2.2.2.2.2.2.1) (by decide)).to, ?_⟩
  refine List.forall_mem_cons.mpr ⟨(s_iconst (am_dp pw_X10_plainestOf_0 dd_X10_plainestOf_0b.2.2.2.2.2.2.2) (by decide)).to, ?_⟩
  refine List.forall_mem_cons.mpr ⟨s_iret (am_dp pw_X10_plainestOf_0 dd_X10_plainestOf_0c) rfl, ?_⟩
  exact fun _ h => absurd h List.not_mem_nil
