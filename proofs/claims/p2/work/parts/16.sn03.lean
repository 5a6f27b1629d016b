/-! the machine follows each instruction (by program: gen_prog.py) -/
theorem sn_tX8_pushApart_0 : ∀ q ∈ tX8_pushApart_0, am_Snd am_P0 RX8 cX8_pushApart 8 (Option.some FieldType.int) "pushApart" q.1 q.2 := by
  unfold tX8_pushApart_0
  refine List.forall_mem_cons.mpr ⟨(s_iloadn (am_dp pw_X8_pushApart_0 dd_X8_pushApart_0a.1) rfl).to, ?_⟩
  refine List.forall_mem_cons.mpr ⟨(s_istoren (am_dp pw_X8_pushApart_0 dd_X8_pushApart_0a.2.1) rfl (by decide)).to, ?_⟩
  refine List.forall_mem_cons.mpr ⟨(s_iloadn (am_dp pw_X8_pushApart_0 dd_X8_pushApart_0a.2.2.1) rfl).to, ?_⟩
  refine List.forall_mem_cons.mpr ⟨(s_istore (am_dp pw_X8_pushApart_0 dd_X8_pushApart_0a.2.2.2.1) (by decide)).to, ?_⟩
  refine List.forall_mem_cons.mpr ⟨(s_iload (am_dp pw_X8_pushApart_0 dd_X8_pushApart_0a.2.2.2.2.1)).to, ?_⟩
  refine List.forall_mem_cons.mpr ⟨(s_iloadn (am_dp pw_X8_pushApart_0 dd_X8_pushApart_0a.2.2.2.2.2.1) rfl).to, ?_⟩
  refine List.forall_mem_cons.mpr ⟨(s_icmp_ge (am_dp pw_X8_pushApart_0 dd_X8_pushApart_0a.2.2.2.2.2.2.1) (by decide)).to, ?_⟩
  refine List.forall_mem_cons.mpr ⟨(s_iload (am_dp pw_X8_pushApart_0 dd_X8_pushApart_0a.2.2.2.2.2.2.2)).to, ?_⟩
  refine List.forall_mem_cons.mpr ⟨(s_bipush (am_dp pw_X8_pushApart_0 dd_X8_pushApart_0b.1) (by decide)).to, ?_⟩
  refine List.forall_mem_cons.mpr ⟨(s_icmp_ge (am_dp pw_X8_pushApart_0 dd_X8_pushApart_0b.2.1) (by decide)).to, ?_⟩
  refine List.forall_mem_cons.mpr ⟨(s_aloadn (am_dp pw_X8_pushApart_0 dd_X8_pushApart_0b.2.2.1) rfl).to, ?_⟩
  refine List.forall_mem_cons.mpr ⟨(s_get (ci := 8) (k := 16) (am_dp pw_X8_pushApart_0 dd_X8_pushApart_0b.2.2.2.1) rfl (by decide) wd543 inX8 rfl).to, ?_⟩
  refine List.forall_mem_cons.mpr ⟨(s_iload (am_dp pw_X8_pushApart_0 dd_X8_pushApart_0b.2.2.2.2.1)).to, ?_⟩
  refine List.forall_mem_cons.mpr ⟨(s_iald (am_dp pw_X8_pushApart_0 dd_X8_pushApart_0b.2.2.2.2.2.1)).to, ?_⟩
  refine List.forall_mem_cons.mpr ⟨(s_istore (am_dp pw_X8_pushApart_0 dd_X8_pushApart_0b.2.2.2.2.2.2.1) (by decide)).to, ?_⟩
  refine List.forall_mem_cons.mpr ⟨(s_iconst (am_dp pw_X8_pushApart_0 dd_X8_pushApart_0b.2.2.2.2.2.2.2) (by decide)).to, ?_⟩
  refine List.forall_mem_cons.mpr ⟨(s_istore (am_dp pw_X8_pushApart_0 dd_X8_pushApart_0c.1) (by decide)).to, ?_⟩
  refine List.forall_mem_cons.mpr ⟨(s_iload (am_dp pw_X8_pushApart_0 dd_X8_pushApart_0c.2)).to, ?_⟩
  refine List.forall_mem_cons.mpr ⟨(s_aloadn (am_dp pw_X8_pushApart_32 dd_X8_pushApart_32a.1) rfl).to, ?_⟩
  refine List.forall_mem_cons.mpr ⟨(s_get (ci := 8) (k := 0) (am_dp pw_X8_pushApart_32 dd_X8_pushApart_32a.2.1) rfl (by decide) wd518 inX8 rfl).to, ?_⟩
  refine List.forall_mem_cons.mpr ⟨(s_get (ci := 6) (k := 5) (am_dp pw_X8_pushApart_32 dd_X8_pushApart_32a.2.2.1) rfl (by decide) wd254 inX6 rfl).to, ?_⟩
  refine List.forall_mem_cons.mpr ⟨(s_icmp_ge (am_dp pw_X8_pushApart_32 dd_X8_pushApart_32a.2.2.2.1) (by decide)).to, ?_⟩
  refine List.forall_mem_cons.mpr ⟨(s_aloadn (am_dp pw_X8_pushApart_32 dd_X8_pushApart_32a.2.2.2.2.1) rfl).to, ?_⟩
  refine List.forall_mem_cons.mpr ⟨(s_get (ci := 8) (k := 0) (am_dp pw_X8_pushApart_32 dd_X8_pushApart_32a.2.2.2.2.2.1) rfl (by decide) wd518 inX8 rfl).to, ?_⟩
  refine List.forall_mem_cons.mpr ⟨(s_get (ci := 6) (k := 6) (am_dp pw_X8_pushApart_32 dd_X8_pushApart_32a.2.2.2.2.2.2.1) rfl (by decide) wd258 inX6 rfl).to, ?_⟩
  refine List.forall_mem_cons.mpr ⟨(s_iload (am_dp pw_X8_pushApart_32 dd_X8_pushApart_32a.2.2.2.2.2.2.2)).to, ?_⟩
  refine List.forall_mem_cons.mpr ⟨(s_iald (am_dp pw_X8_pushApart_32 dd_X8_pushApart_32b.1)).to, ?_⟩
  refine List.forall_mem_cons.mpr ⟨(s_aloadn (am_dp pw_X8_pushApart_32 dd_X8_pushApart_32b.2.1) rfl).to, ?_⟩
  refine List.forall_mem_cons.mpr ⟨(s_get (ci := 8) (k := 0) (am_dp pw_X8_pushApart_32 dd_X8_pushApart_32b.2.2.1) rfl (by decide) wd518 inX8 rfl).to, ?_⟩
  refine List.forall_mem_cons.mpr ⟨(s_get (ci := 6) (k := 6) (am_dp pw_X8_pushApart_32 dd_X8_pushApart_32b.2.2.2.1) rfl (by decide) wd258 inX6 rfl).to, ?_⟩
  refine List.forall_mem_cons.mpr ⟨(s_iload (am_dp pw_X8_pushApart_32 dd_X8_pushApart_32b.2.2.2.2.1)).to, ?_⟩
  refine List.forall_mem_cons.mpr ⟨(s_iald (am_dp pw_X8_pushApart_32 dd_X8_pushApart_32b.2.2.2.2.2.1)).to, ?_⟩
  refine List.forall_mem_cons.mpr ⟨(s_isub (am_dp pw_X8_pushApart_32 dd_X8_pushApart_32b.2.2.2.2.2.2.1)).to, ?_⟩
  refine List.forall_mem_cons.mpr ⟨zw_cs306 (am_dp pw_X8_pushApart_32 dd_X8_pushApart_32b.2.2.2.2.2.2.2) wd1057, ?_⟩
  refine List.forall_mem_cons.mpr ⟨(s_istore (am_dp pw_X8_pushApart_64 dd_X8_pushApart_64a.1) (by decide)).to, ?_⟩
  refine List.forall_mem_cons.mpr ⟨(s_iload (am_dp pw_X8_pushApart_64 dd_X8_pushApart_64a.2.1)).to, ?_⟩
  refine List.forall_mem_cons.mpr ⟨(s_iload (am_dp pw_X8_pushApart_64 dd_X8_pushApart_64a.2.2.1)).to, ?_⟩
  refine List.forall_mem_cons.mpr ⟨(s_icmp_eq (am_dp pw_X8_pushApart_64 dd_X8_pushApart_64a.2.2.2.1) (by decide)).to, ?_⟩
  refine List.forall_mem_cons.mpr ⟨(s_aloadn (am_dp pw_X8_pushApart_64 dd_X8_pushApart_64a.2.2.2.2.1) rfl).to, ?_⟩
  refine List.forall_mem_cons.mpr ⟨(s_get (ci := 8) (k := 2) (am_dp pw_X8_pushApart_64 dd_X8_pushApart_64a.2.2.2.2.2.1) rfl (by decide) wd521 inX8 rfl).to, ?_⟩
  refine List.forall_mem_cons.mpr ⟨(s_aloadn (am_dp pw_X8_pushApart_64 dd_X8_pushApart_64a.2.2.2.2.2.2.1) rfl).to, ?_⟩
  refine List.forall_mem_cons.mpr ⟨(s_get (ci := 8) (k := 0) (am_dp pw_X8_pushApart_64 dd_X8_pushApart_64a.2.2.2.2.2.2.2) rfl (by decide) wd518 inX8 rfl).to, ?_⟩
  refine List.forall_mem_cons.mpr ⟨(s_get (ci := 6) (k := 7) (am_dp pw_X8_pushApart_64 dd_X8_pushApart_64b.1) rfl (by decide) wd261 inX6 rfl).to, ?_⟩
  refine List.forall_mem_cons.mpr ⟨(s_iload (am_dp pw_X8_pushApart_64 dd_X8_pushApart_64b.2.1)).to, ?_⟩
  refine List.forall_mem_cons.mpr ⟨(s_iald (am_dp pw_X8_pushApart_64 dd_X8_pushApart_64b.2.2.1)).to, ?_⟩
  refine List.forall_mem_cons.mpr ⟨(s_aloadn (am_dp pw_X8_pushApart_64 dd_X8_pushApart_64b.2.2.2.1) rfl).to, ?_⟩
  refine List.forall_mem_cons.mpr ⟨(s_get (ci := 8) (k := 0) (am_dp pw_X8_pushApart_64 dd_X8_pushApart_64b.2.2.2.2.1) rfl (by decide) wd518 inX8 rfl).to, ?_⟩
  refine List.forall_mem_cons.mpr ⟨(s_get (ci := 6) (k := 7) (am_dp pw_X8_pushApart_64 dd_X8_pushApart_64b.2.2.2.2.2) rfl (by decide) wd261 inX6 rfl).to, ?_⟩
  refine List.forall_mem_cons.mpr ⟨(s_iload (am_dp pw_X8_pushApart_96 dd_X8_pushApart_96a.1)).to, ?_⟩
  refine List.forall_mem_cons.mpr ⟨(s_iald (am_dp pw_X8_pushApart_96 dd_X8_pushApart_96a.2.1)).to, ?_⟩
  refine List.forall_mem_cons.mpr ⟨(s_iload (am_dp pw_X8_pushApart_96 dd_X8_pushApart_96a.2.2.1)).to, ?_⟩
  refine List.forall_mem_cons.mpr ⟨zw_cv104 (am_dp pw_X8_pushApart_96 dd_X8_pushApart_96a.2.2.2.1) wd987, ?_⟩
  refine List.forall_mem_cons.mpr ⟨(s_if_eq (am_dp pw_X8_pushApart_96 dd_X8_pushApart_96a.2.2.2.2.1) (by decide)).to, ?_⟩
  refine List.forall_mem_cons.mpr ⟨(s_goto (am_dp pw_X8_pushApart_96 dd_X8_pushApart_96a.2.2.2.2.2.1) (by decide)).to, ?_⟩
  refine List.forall_mem_cons.mpr ⟨(s_aloadn (am_dp pw_X8_pushApart_96 dd_X8_pushApart_96a.2.2.2.2.2.2.1) rfl).to, ?_⟩
  refine List.forall_mem_cons.mpr ⟨(s_get (ci := 8) (k := 15) (am_dp pw_X8_pushApart_96 dd_X8_pushApart_96a.2.2.2.2.2.2.2) rfl (by decide) wd542 inX8 rfl).to, ?_⟩
  refine List.forall_mem_cons.mpr ⟨(s_iload (am_dp pw_X8_pushApart_96 dd_X8_pushApart_96b.1)).to, ?_⟩
  refine List.forall_mem_cons.mpr ⟨(s_iald (am_dp pw_X8_pushApart_96 dd_X8_pushApart_96b.2.1)).to, ?_⟩
  refine List.forall_mem_cons.mpr ⟨(s_aloadn (am_dp pw_X8_pushApart_96 dd_X8_pushApart_96b.2.2.1) rfl).to, ?_⟩
  refine List.forall_mem_cons.mpr ⟨(s_get (ci := 8) (k := 15) (am_dp pw_X8_pushApart_96 dd_X8_pushApart_96b.2.2.2.1) rfl (by decide) wd542 inX8 rfl).to, ?_⟩
  exact fun _ h => absurd h List.not_mem_nil
theorem sn_tX8_pushApart_1 : ∀ q ∈ tX8_pushApart_1, am_Snd am_P0 RX8 cX8_pushApart 8 (Option.some FieldType.int) "pushApart" q.1 q.2 := by
  unfold tX8_pushApart_1
  refine List.forall_mem_cons.mpr ⟨(s_iload (am_dp pw_X8_pushApart_96 dd_X8_pushApart_96b.2.2.2.2.1)).to, ?_⟩
  refine List.forall_mem_cons.mpr ⟨(s_iald (am_dp pw_X8_pushApart_96 dd_X8_pushApart_96b.2.2.2.2.2.1)).to, ?_⟩
  refine List.forall_mem_cons.mpr ⟨(s_icmp_ne (am_dp pw_X8_pushApart_96 dd_X8_pushApart_96b.2.2.2.2.2.2.1) (by decide)).to, ?_⟩
  refine List.forall_mem_cons.mpr ⟨(s_iconst (am_dp pw_X8_pushApart_96 dd_X8_pushApart_96b.2.2.2.2.2.2.2) (by decide)).to, ?_⟩
  refine List.forall_mem_cons.mpr ⟨s_iret (am_dp pw_X8_pushApart_128 dd_X8_pushApart_128a.1) rfl, ?_⟩
  refine List.forall_mem_cons.mpr ⟨(s_aloadn (am_dp pw_X8_pushApart_128 dd_X8_pushApart_128a.2.1) rfl).to, ?_⟩
  refine List.forall_mem_cons.mpr ⟨(s_get (ci := 8) (k := 15) (am_dp pw_X8_pushApart_128 dd_X8_pushApart_128a.2.2.1) rfl (by decide) wd542 inX8 rfl).to, ?_⟩
  refine List.forall_mem_cons.mpr ⟨(s_iload (am_dp pw_X8_pushApart_128 dd_X8_pushApart_128a.2.2.2.1)).to, ?_⟩
  refine List.forall_mem_cons.mpr ⟨(s_iald (am_dp pw_X8_pushApart_128 dd_X8_pushApart_128a.2.2.2.2.1)).to, ?_⟩
  refine List.forall_mem_cons.mpr ⟨(s_if_ne (am_dp pw_X8_pushApart_128 dd_X8_pushApart_128a.2.2.2.2.2.1) (by decide)).to, ?_⟩
  refine List.forall_mem_cons.mpr ⟨(s_iloadn (am_dp pw_X8_pushApart_128 dd_X8_pushApart_128a.2.2.2.2.2.2.1) rfl).to, ?_⟩
  refine List.forall_mem_cons.mpr ⟨(s_bipush (am_dp pw_X8_pushApart_128 dd_X8_pushApart_128a.2.2.2.2.2.2.2) (by decide)).to, ?_⟩
  refine List.forall_mem_cons.mpr ⟨(s_icmp_ge (am_dp pw_X8_pushApart_128 dd_X8_pushApart_128b.1) (by decide)).to, ?_⟩
  refine List.forall_mem_cons.mpr ⟨(s_aloadn (am_dp pw_X8_pushApart_128 dd_X8_pushApart_128b.2.1) rfl).to, ?_⟩
  refine List.forall_mem_cons.mpr ⟨(s_get (ci := 8) (k := 15) (am_dp pw_X8_pushApart_128 dd_X8_pushApart_128b.2.2.1) rfl (by decide) wd542 inX8 rfl).to, ?_⟩
  refine List.forall_mem_cons.mpr ⟨(s_iload (am_dp pw_X8_pushApart_128 dd_X8_pushApart_128b.2.2.2.1)).to, ?_⟩
  refine List.forall_mem_cons.mpr ⟨(s_iconst (am_dp pw_X8_pushApart_128 dd_X8_pushApart_128b.2.2.2.2.1) (by decide)).to, ?_⟩
  refine List.forall_mem_cons.mpr ⟨(s_aloadn (am_dp pw_X8_pushApart_128 dd_X8_pushApart_128b.2.2.2.2.2.1) rfl).to, ?_⟩
  refine List.forall_mem_cons.mpr ⟨(s_get (ci := 8) (k := 15) (am_dp pw_X8_pushApart_128 dd_X8_pushApart_128b.2.2.2.2.2.2.1) rfl (by decide) wd542 inX8 rfl).to, ?_⟩
  refine List.forall_mem_cons.mpr ⟨(s_iload (am_dp pw_X8_pushApart_128 dd_X8_pushApart_128b.2.2.2.2.2.2.2)).to, ?_⟩
  refine List.forall_mem_cons.mpr ⟨(s_iald (am_dp pw_X8_pushApart_128 dd_X8_pushApart_128c.1)).to, ?_⟩
  refine List.forall_mem_cons.mpr ⟨(s_isub (am_dp pw_X8_pushApart_128 dd_X8_pushApart_128c.2)).to, ?_⟩
  refine List.forall_mem_cons.mpr ⟨(s_iast (am_dp pw_X8_pushApart_160 dd_X8_pushApart_160a.1)).to, ?_⟩
  refine List.forall_mem_cons.mpr ⟨(s_aloadn (am_dp pw_X8_pushApart_160 dd_X8_pushApart_160a.2.1) rfl).to, ?_⟩
  refine List.forall_mem_cons.mpr ⟨(s_get (ci := 8) (k := 16) (am_dp pw_X8_pushApart_160 dd_X8_pushApart_160a.2.2.1) rfl (by decide) wd543 inX8 rfl).to, ?_⟩
  refine List.forall_mem_cons.mpr ⟨(s_iloadn (am_dp pw_X8_pushApart_160 dd_X8_pushApart_160a.2.2.2.1) rfl).to, ?_⟩
  refine List.forall_mem_cons.mpr ⟨(s_iload (am_dp pw_X8_pushApart_160 dd_X8_pushApart_160a.2.2.2.2.1)).to, ?_⟩
  refine List.forall_mem_cons.mpr ⟨(s_iast (am_dp pw_X8_pushApart_160 dd_X8_pushApart_160a.2.2.2.2.2.1)).to, ?_⟩
  refine List.forall_mem_cons.mpr ⟨(s_iinc (am_dp pw_X8_pushApart_160 dd_X8_pushApart_160a.2.2.2.2.2.2.1) (by decide) (by decide)).to, ?_⟩
  refine List.forall_mem_cons.mpr ⟨(s_iinc (am_dp pw_X8_pushApart_160 dd_X8_pushApart_160a.2.2.2.2.2.2.2) (by decide) (by decide)).to, ?_⟩
  refine List.forall_mem_cons.mpr ⟨(s_goto (am_dp pw_X8_pushApart_160 dd_X8_pushApart_160b.1) (by decide)).to, ?_⟩
  refine List.forall_mem_cons.mpr ⟨(s_iinc (am_dp pw_X8_pushApart_160 dd_X8_pushApart_160b.2.1) (by decide) (by decide)).to, ?_⟩
  refine List.forall_mem_cons.mpr ⟨(s_goto (am_dp pw_X8_pushApart_160 dd_X8_pushApart_160b.2.2.1) (by decide)).to, ?_⟩
  refine List.forall_mem_cons.mpr ⟨(s_iloadn (am_dp pw_X8_pushApart_160 dd_X8_pushApart_160b.2.2.2.1) rfl).to, ?_⟩
  refine List.forall_mem_cons.mpr ⟨s_iret (am_dp pw_X8_pushApart_160 dd_X8_pushApart_160b.2.2.2.2) rfl, ?_⟩
  exact fun _ h => absurd h List.not_mem_nil
theorem sn_tX8_pushApart : ∀ q ∈ tX8_pushApart, am_Snd am_P0 RX8 cX8_pushApart 8 (Option.some FieldType.int) "pushApart" q.1 q.2 := by
  unfold tX8_pushApart
  exact List.forall_mem_append.mpr ⟨sn_tX8_pushApart_0, sn_tX8_pushApart_1⟩
theorem sn_tX8_isMarked : ∀ q ∈ tX8_isMarked, am_Snd am_P0 RX8 cX8_isMarked 3 (Option.some FieldType.boolean) "isMarked" q.1 q.2 := by
  unfold tX8_isMarked
  refine List.forall_mem_cons.mpr ⟨(s_iconst (am_dp pw_X8_isMarked_0 dd_X8_isMarked_0a.1) (by decide)).to, ?_⟩
  refine List.forall_mem_cons.mpr ⟨(s_istoren (am_dp pw_X8_isMarked_0 dd_X8_isMarked_0a.2.1) rfl (by decide)).to, ?_⟩
  refine List.forall_mem_cons.mpr ⟨(s_iloadn (am_dp pw_X8_isMarked_0 dd_X8_isMarked_0a.2.2.1) rfl).to, ?_⟩
  refine List.forall_mem_cons.mpr ⟨(s_aloadn (am_dp pw_X8_isMarked_0 dd_X8_isMarked_0a.2.2.2.1) rfl).to, ?_⟩
  refine List.forall_mem_cons.mpr ⟨(s_get (ci := 8) (k := 0) (am_dp pw_X8_isMarked_0 dd_X8_isMarked_0a.2.2.2.2.1) rfl (by decide) wd518 inX8 rfl).to, ?_⟩
  refine List.forall_mem_cons.mpr ⟨(s_get (ci := 6) (k := 5) (am_dp pw_X8_isMarked_0 dd_X8_isMarked_0a.2.2.2.2.2.1) rfl (by decide) wd254 inX6 rfl).to, ?_⟩
  refine List.forall_mem_cons.mpr ⟨(s_icmp_ge (am_dp pw_X8_isMarked_0 dd_X8_isMarked_0a.2.2.2.2.2.2.1) (by decide)).to, ?_⟩
  refine List.forall_mem_cons.mpr ⟨(s_aloadn (am_dp pw_X8_isMarked_0 dd_X8_isMarked_0a.2.2.2.2.2.2.2) rfl).to, ?_⟩
  refine List.forall_mem_cons.mpr ⟨(s_get (ci := 8) (k := 15) (am_dp pw_X8_isMarked_0 dd_X8_isMarked_0b.1) rfl (by decide) wd542 inX8 rfl).to, ?_⟩
  refine List.forall_mem_cons.mpr ⟨(s_iloadn (am_dp pw_X8_isMarked_0 dd_X8_isMarked_0b.2.1) rfl).to, ?_⟩
  refine List.forall_mem_cons.mpr ⟨(s_iald (am_dp pw_X8_isMarked_0 dd_X8_isMarked_0b.2.2.1)).to, ?_⟩
  refine List.forall_mem_cons.mpr ⟨(s_iloadn (am_dp pw_X8_isMarked_0 dd_X8_isMarked_0b.2.2.2.1) rfl).to, ?_⟩
  refine List.forall_mem_cons.mpr ⟨(s_icmp_ne (am_dp pw_X8_isMarked_0 dd_X8_isMarked_0b.2.2.2.2.1) (by decide)).to, ?_⟩
  refine List.forall_mem_cons.mpr ⟨(s_iconst (am_dp pw_X8_isMarked_0 dd_X8_isMarked_0b.2.2.2.2.2.1) (by decide)).to, ?_⟩
  refine List.forall_mem_cons.mpr ⟨s_zret (am_dp pw_X8_isMarked_0 dd_X8_isMarked_0b.2.2.2.2.2.2.1) rfl, ?_⟩
  refine List.forall_mem_cons.mpr ⟨(s_iinc (am_dp pw_X8_isMarked_0 dd_X8_isMarked_0b.2.2.2.2.2.2.2) (by decide) (by decide)).to, ?_⟩
  refine List.forall_mem_cons.mpr ⟨(s_goto (am_dp pw_X8_isMarked_0 dd_X8_isMarked_0c.1) (by decide)).to, ?_⟩
  refine List.forall_mem_cons.mpr ⟨(s_iconst (am_dp pw_X8_isMarked_0 dd_X8_isMarked_0c.2) (by decide)).to, ?_⟩
  refine List.forall_mem_cons.mpr ⟨s_zret (am_dp pw_X8_isMarked_32 dd_X8_isMarked_32a) rfl, ?_⟩
  exact fun _ h => absurd h List.not_mem_nil
theorem sn_tX8_hoursBetweenEnds : ∀ q ∈ tX8_hoursBetweenEnds, am_Snd am_P0 RX8 cX8_hoursBetweenEnds 1 (Option.some FieldType.int) "hoursBetweenEnds" q.1 q.2 := by
  unfold tX8_hoursBetweenEnds
  refine List.forall_mem_cons.mpr ⟨(s_aloadn (am_dp pw_X8_hoursBetweenEnds_0 dd_X8_hoursBetweenEnds_0a.1) rfl).to, ?_⟩
  refine List.forall_mem_cons.mpr ⟨(s_get (ci := 8) (k := 0) (am_dp pw_X8_hoursBetweenEnds_0 dd_X8_hoursBetweenEnds_0a.2.1) rfl (by decide) wd518 inX8 rfl).to, ?_⟩
  refine List.forall_mem_cons.mpr ⟨(s_get (ci := 6) (k := 5) (am_dp pw_X8_hoursBetweenEnds_0 dd_X8_hoursBetweenEnds_0a.2.2.1) rfl (by decide) wd254 inX6 rfl).to, ?_⟩
  refine List.forall_mem_cons.mpr ⟨(s_iconst (am_dp pw_X8_hoursBetweenEnds_0 dd_X8_hoursBetweenEnds_0a.2.2.2.1) (by decide)).to, ?_⟩
  refine List.forall_mem_cons.mpr ⟨(s_icmp_ge (am_dp pw_X8_hoursBetweenEnds_0 dd_X8_hoursBetweenEnds_0a.2.2.2.2.1) (by decide)).to, ?_⟩
  refine List.forall_mem_cons.mpr ⟨(s_iconst (am_dp pw_X8_hoursBetweenEnds_0 dd_X8_hoursBetweenEnds_0a.2.2.2.2.2.1) (by decide)).to, ?_⟩
  refine List.forall_mem_cons.mpr ⟨(s_goto (am_dp pw_X8_hoursBetweenEnds_0 dd_X8_hoursBetweenEnds_0a.2.2.2.2.2.2.1) (by decide)).to, ?_⟩
  refine List.forall_mem_cons.mpr ⟨(s_aloadn (am_dp pw_X8_hoursBetweenEnds_0 dd_X8_hoursBetweenEnds_0a.2.2.2.2.2.2.2) rfl).to, ?_⟩
  refine List.forall_mem_cons.mpr ⟨(s_get (ci := 8) (k := 0) (am_dp pw_X8_hoursBetweenEnds_0 dd_X8_hoursBetweenEnds_0b.1) rfl (by decide) wd518 inX8 rfl).to, ?_⟩
  refine List.forall_mem_cons.mpr ⟨(s_get (ci := 6) (k := 6) (am_dp pw_X8_hoursBetweenEnds_0 dd_X8_hoursBetweenEnds_0b.2.1) rfl (by decide) wd258 inX6 rfl).to, ?_⟩
  refine List.forall_mem_cons.mpr ⟨(s_aloadn (am_dp pw_X8_hoursBetweenEnds_0 dd_X8_hoursBetweenEnds_0b.2.2.1) rfl).to, ?_⟩
  refine List.forall_mem_cons.mpr ⟨(s_get (ci := 8) (k := 0) (am_dp pw_X8_hoursBetweenEnds_0 dd_X8_hoursBetweenEnds_0b.2.2.2.1) rfl (by decide) wd518 inX8 rfl).to, ?_⟩
  refine List.forall_mem_cons.mpr ⟨(s_get (ci := 6) (k := 5) (am_dp pw_X8_hoursBetweenEnds_0 dd_X8_hoursBetweenEnds_0b.2.2.2.2.1) rfl (by decide) wd254 inX6 rfl).to, ?_⟩
  refine List.forall_mem_cons.mpr ⟨(s_iconst (am_dp pw_X8_hoursBetweenEnds_0 dd_X8_hoursBetweenEnds_0b.2.2.2.2.2.1) (by decide)).to, ?_⟩
  refine List.forall_mem_cons.mpr ⟨(s_isub (am_dp pw_X8_hoursBetweenEnds_0 dd_X8_hoursBetweenEnds_0b.2.2.2.2.2.2.1)).to, ?_⟩
  refine List.forall_mem_cons.mpr ⟨(s_iald (am_dp pw_X8_hoursBetweenEnds_0 dd_X8_hoursBetweenEnds_0b.2.2.2.2.2.2.2)).to, ?_⟩
  refine List.forall_mem_cons.mpr ⟨(s_aloadn (am_dp pw_X8_hoursBetweenEnds_32 dd_X8_hoursBetweenEnds_32a.1) rfl).to, ?_⟩
  refine List.forall_mem_cons.mpr ⟨(s_get (ci := 8) (k := 0) (am_dp pw_X8_hoursBetweenEnds_32 dd_X8_hoursBetweenEnds_32a.2.1) rfl (by decide) wd518 inX8 rfl).to, ?_⟩
  refine List.forall_mem_cons.mpr ⟨(s_get (ci := 6) (k := 6) (am_dp pw_X8_hoursBetweenEnds_32 dd_X8_hoursBetweenEnds_32a.2.2.1) rfl (by decide) wd258 inX6 rfl).to, ?_⟩
  refine List.forall_mem_cons.mpr ⟨(s_iconst (am_dp pw_X8_hoursBetweenEnds_32 dd_X8_hoursBetweenEnds_32a.2.2.2.1) (by decide)).to, ?_⟩
  refine List.forall_mem_cons.mpr ⟨(s_iald (am_dp pw_X8_hoursBetweenEnds_32 dd_X8_hoursBetweenEnds_32a.2.2.2.2.1)).to, ?_⟩
  refine List.forall_mem_cons.mpr ⟨(s_isub (am_dp pw_X8_hoursBetweenEnds_32 dd_X8_hoursBetweenEnds_32a.2.2.2.2.2.1)).to, ?_⟩
  refine List.forall_mem_cons.mpr ⟨(s_iconst (am_dp pw_X8_hoursBetweenEnds_32 dd_X8_hoursBetweenEnds_32a.2.2.2.2.2.2.1) (by decide)).to, ?_⟩
  refine List.forall_mem_cons.mpr ⟨(s_isub (am_dp pw_X8_hoursBetweenEnds_32 dd_X8_hoursBetweenEnds_32a.2.2.2.2.2.2.2)).to, ?_⟩
  refine List.forall_mem_cons.mpr ⟨s_iret (am_dp pw_X8_hoursBetweenEnds_32 dd_X8_hoursBetweenEnds_32b) rfl, ?_⟩
  exact fun _ h => absurd h List.not_mem_nil
theorem sn_tX8_countGaps_0 : ∀ q ∈ tX8_countGaps_0, am_Snd am_P0 RX8 cX8_countGaps 3 (Option.none : Option FieldType) "countGaps" q.1 q.2 := by
  unfold tX8_countGaps_0
  refine List.forall_mem_cons.mpr ⟨(s_aloadn (am_dp pw_X8_countGaps_0 dd_X8_countGaps_0a.1) rfl).to, ?_⟩
  refine List.forall_mem_cons.mpr ⟨(s_get (ci := 8) (k := 5) (am_dp pw_X8_countGaps_0 dd_X8_countGaps_0a.2.1) rfl (by decide) wd525 inX8 rfl).to, ?_⟩
  refine List.forall_mem_cons.mpr ⟨(s_if_eq (am_dp pw_X8_countGaps_0 dd_X8_countGaps_0a.2.2.1) (by decide)).to, ?_⟩
  refine List.forall_mem_cons.mpr ⟨s_vret (am_dp pw_X8_countGaps_0 dd_X8_countGaps_0a.2.2.2.1) rfl, ?_⟩
  refine List.forall_mem_cons.mpr ⟨(s_aloadn (am_dp pw_X8_countGaps_0 dd_X8_countGaps_0a.2.2.2.2.1) rfl).to, ?_⟩
  refine List.forall_mem_cons.mpr ⟨(s_iconst (am_dp pw_X8_countGaps_0 dd_X8_countGaps_0a.2.2.2.2.2.1) (by decide)).to, ?_⟩
  refine List.forall_mem_cons.mpr ⟨(s_put (ci := 8) (k := 5) (am_dp pw_X8_countGaps_0 dd_X8_countGaps_0a.2.2.2.2.2.2.1) rfl (by decide) wd525 inX8 tyX8_ok nmX8 rfl rfl).to, ?_⟩
  refine List.forall_mem_cons.mpr ⟨(s_aloadn (am_dp pw_X8_countGaps_0 dd_X8_countGaps_0a.2.2.2.2.2.2.2) rfl).to, ?_⟩
  refine List.forall_mem_cons.mpr ⟨zw_cv83 (am_dp pw_X8_countGaps_0 dd_X8_countGaps_0b.1) wd1098, ?_⟩
  refine List.forall_mem_cons.mpr ⟨(s_aloadn (am_dp pw_X8_countGaps_0 dd_X8_countGaps_0b.2.1) rfl).to, ?_⟩
  refine List.forall_mem_cons.mpr ⟨(s_iconst (am_dp pw_X8_countGaps_0 dd_X8_countGaps_0b.2.2.1) (by decide)).to, ?_⟩
  refine List.forall_mem_cons.mpr ⟨(s_put (ci := 8) (k := 13) (am_dp pw_X8_countGaps_0 dd_X8_countGaps_0b.2.2.2.1) rfl (by decide) wd538 inX8 tyX8_ok nmX8 rfl rfl).to, ?_⟩
  refine List.forall_mem_cons.mpr ⟨(s_aloadn (am_dp pw_X8_countGaps_0 dd_X8_countGaps_0b.2.2.2.2.1) rfl).to, ?_⟩
  refine List.forall_mem_cons.mpr ⟨(s_iconst (am_dp pw_X8_countGaps_0 dd_X8_countGaps_0b.2.2.2.2.2.1) (by decide)).to, ?_⟩
  refine List.forall_mem_cons.mpr ⟨(s_put (ci := 8) (k := 14) (am_dp pw_X8_countGaps_0 dd_X8_countGaps_0b.2.2.2.2.2.2.1) rfl (by decide) wd540 inX8 tyX8_ok nmX8 rfl rfl).to, ?_⟩
  refine List.forall_mem_cons.mpr ⟨(s_iconst (am_dp pw_X8_countGaps_0 dd_X8_countGaps_0b.2.2.2.2.2.2.2) (by decide)).to, ?_⟩
  refine List.forall_mem_cons.mpr ⟨(s_istoren (am_dp pw_X8_countGaps_0 dd_X8_countGaps_0c.1) rfl (by decide)).to, ?_⟩
  refine List.forall_mem_cons.mpr ⟨(s_iloadn (am_dp pw_X8_countGaps_0 dd_X8_countGaps_0c.2.1) rfl).to, ?_⟩
  refine List.forall_mem_cons.mpr ⟨(s_iconst (am_dp pw_X8_countGaps_0 dd_X8_countGaps_0c.2.2.1) (by decide)).to, ?_⟩
  refine List.forall_mem_cons.mpr ⟨(s_iadd (am_dp pw_X8_countGaps_0 dd_X8_countGaps_0c.2.2.2)).to, ?_⟩
  refine List.forall_mem_cons.mpr ⟨(s_aloadn (am_dp pw_X8_countGaps_32 dd_X8_countGaps_32a.1) rfl).to, ?_⟩
  refine List.forall_mem_cons.mpr ⟨(s_get (ci := 8) (k := 0) (am_dp pw_X8_countGaps_32 dd_X8_countGaps_32a.2.1) rfl (by decide) wd518 inX8 rfl).to, ?_⟩
  refine List.forall_mem_cons.mpr ⟨(s_get (ci := 6) (k := 5) (am_dp pw_X8_countGaps_32 dd_X8_countGaps_32a.2.2.1) rfl (by decide) wd254 inX6 rfl).to, ?_⟩
  refine List.forall_mem_cons.mpr ⟨(s_icmp_ge (am_dp pw_X8_countGaps_32 dd_X8_countGaps_32a.2.2.2.1) (by decide)).to, ?_⟩
  refine List.forall_mem_cons.mpr ⟨(s_aloadn (am_dp pw_X8_countGaps_32 dd_X8_countGaps_32a.2.2.2.2.1) rfl).to, ?_⟩
  refine List.forall_mem_cons.mpr ⟨(s_get (ci := 8) (k := 0) (am_dp pw_X8_countGaps_32 dd_X8_countGaps_32a.2.2.2.2.2.1) rfl (by decide) wd518 inX8 rfl).to, ?_⟩
  refine List.forall_mem_cons.mpr ⟨(s_get (ci := 6) (k := 6) (am_dp pw_X8_countGaps_32 dd_X8_countGaps_32a.2.2.2.2.2.2.1) rfl (by decide) wd258 inX6 rfl).to, ?_⟩
  refine List.forall_mem_cons.mpr ⟨(s_iloadn (am_dp pw_X8_countGaps_32 dd_X8_countGaps_32a.2.2.2.2.2.2.2) rfl).to, ?_⟩
  refine List.forall_mem_cons.mpr ⟨(s_iald (am_dp pw_X8_countGaps_32 dd_X8_countGaps_32b.1)).to, ?_⟩
  refine List.forall_mem_cons.mpr ⟨(s_iconst (am_dp pw_X8_countGaps_32 dd_X8_countGaps_32b.2.1) (by decide)).to, ?_⟩
  refine List.forall_mem_cons.mpr ⟨(s_iadd (am_dp pw_X8_countGaps_32 dd_X8_countGaps_32b.2.2.1)).to, ?_⟩
  refine List.forall_mem_cons.mpr ⟨(s_istoren (am_dp pw_X8_countGaps_32 dd_X8_countGaps_32b.2.2.2.1) rfl (by decide)).to, ?_⟩
  refine List.forall_mem_cons.mpr ⟨(s_iloadn (am_dp pw_X8_countGaps_32 dd_X8_countGaps_32b.2.2.2.2.1) rfl).to, ?_⟩
  refine List.forall_mem_cons.mpr ⟨(s_aloadn (am_dp pw_X8_countGaps_32 dd_X8_countGaps_32b.2.2.2.2.2.1) rfl).to, ?_⟩
  refine List.forall_mem_cons.mpr ⟨(s_get (ci := 8) (k := 0) (am_dp pw_X8_countGaps_32 dd_X8_countGaps_32b.2.2.2.2.2.2.1) rfl (by decide) wd518 inX8 rfl).to, ?_⟩
  refine List.forall_mem_cons.mpr ⟨(s_get (ci := 6) (k := 6) (am_dp pw_X8_countGaps_32 dd_X8_countGaps_32b.2.2.2.2.2.2.2) rfl (by decide) wd258 inX6 rfl).to, ?_⟩
  refine List.forall_mem_cons.mpr ⟨(s_iloadn (am_dp pw_X8_countGaps_32 dd_X8_countGaps_32c.1) rfl).to, ?_⟩
  refine List.forall_mem_cons.mpr ⟨(s_iconst (am_dp pw_X8_countGaps_32 dd_X8_countGaps_32c.2) (by decide)).to, ?_⟩
  refine List.forall_mem_cons.mpr ⟨(s_iadd (am_dp pw_X8_countGaps_64 dd_X8_countGaps_64a.1)).to, ?_⟩
  refine List.forall_mem_cons.mpr ⟨(s_iald (am_dp pw_X8_countGaps_64 dd_X8_countGaps_64a.2.1)).to, ?_⟩
  refine List.forall_mem_cons.mpr ⟨(s_icmp_ge (am_dp pw_X8_countGaps_64 dd_X8_countGaps_64a.2.2.1) (by decide)).to, ?_⟩
  refine List.forall_mem_cons.mpr ⟨(s_aloadn (am_dp pw_X8_countGaps_64 dd_X8_countGaps_64a.2.2.2.1) rfl).to, ?_⟩
  refine List.forall_mem_cons.mpr ⟨(s_dup (am_dp pw_X8_countGaps_64 dd_X8_countGaps_64a.2.2.2.2.1)).to, ?_⟩
  refine List.forall_mem_cons.mpr ⟨(s_get (ci := 8) (k := 13) (am_dp pw_X8_countGaps_64 dd_X8_countGaps_64a.2.2.2.2.2.1) rfl (by decide) wd538 inX8 rfl).to, ?_⟩
  refine List.forall_mem_cons.mpr ⟨(s_iconst (am_dp pw_X8_countGaps_64 dd_X8_countGaps_64a.2.2.2.2.2.2.1) (by decide)).to, ?_⟩
  refine List.forall_mem_cons.mpr ⟨(s_iadd (am_dp pw_X8_countGaps_64 dd_X8_countGaps_64a.2.2.2.2.2.2.2)).to, ?_⟩
  refine List.forall_mem_cons.mpr ⟨(s_put (ci := 8) (k := 13) (am_dp pw_X8_countGaps_64 dd_X8_countGaps_64b.1) rfl (by decide) wd538 inX8 tyX8_ok nmX8 rfl rfl).to, ?_⟩
  refine List.forall_mem_cons.mpr ⟨(s_aloadn (am_dp pw_X8_countGaps_64 dd_X8_countGaps_64b.2.1) rfl).to, ?_⟩
  refine List.forall_mem_cons.mpr ⟨(s_dup (am_dp pw_X8_countGaps_64 dd_X8_countGaps_64b.2.2.1)).to, ?_⟩
  refine List.forall_mem_cons.mpr ⟨(s_get (ci := 8) (k := 14) (am_dp pw_X8_countGaps_64 dd_X8_countGaps_64b.2.2.2.1) rfl (by decide) wd540 inX8 rfl).to, ?_⟩
  refine List.forall_mem_cons.mpr ⟨(s_aloadn (am_dp pw_X8_countGaps_64 dd_X8_countGaps_64b.2.2.2.2.1) rfl).to, ?_⟩
  refine List.forall_mem_cons.mpr ⟨(s_iloadn (am_dp pw_X8_countGaps_64 dd_X8_countGaps_64b.2.2.2.2.2.1) rfl).to, ?_⟩
  refine List.forall_mem_cons.mpr ⟨zw_cv99 (am_dp pw_X8_countGaps_64 dd_X8_countGaps_64b.2.2.2.2.2.2.1) wd1099, ?_⟩
  refine List.forall_mem_cons.mpr ⟨(s_if_eq (am_dp pw_X8_countGaps_64 dd_X8_countGaps_64b.2.2.2.2.2.2.2) (by decide)).to, ?_⟩
  refine List.forall_mem_cons.mpr ⟨(s_iconst (am_dp pw_X8_countGaps_64 dd_X8_countGaps_64c.1) (by decide)).to, ?_⟩
  refine List.forall_mem_cons.mpr ⟨(s_goto (am_dp pw_X8_countGaps_64 dd_X8_countGaps_64c.2) (by decide)).to, ?_⟩
  refine List.forall_mem_cons.mpr ⟨(s_iconst (am_dp pw_X8_countGaps_96 dd_X8_countGaps_96a.1) (by decide)).to, ?_⟩
  refine List.forall_mem_cons.mpr ⟨(s_iadd (am_dp pw_X8_countGaps_96 dd_X8_countGaps_96a.2.1)).to, ?_⟩
  refine List.forall_mem_cons.mpr ⟨(s_put (ci := 8) (k := 14) (am_dp pw_X8_countGaps_96 dd_X8_countGaps_96a.2.2.1) rfl (by decide) wd540 inX8 tyX8_ok nmX8 rfl rfl).to, ?_⟩
  refine List.forall_mem_cons.mpr ⟨(s_iinc (am_dp pw_X8_countGaps_96 dd_X8_countGaps_96a.2.2.2.1) (by decide) (by decide)).to, ?_⟩
  exact fun _ h => absurd h List.not_mem_nil
theorem sn_tX8_countGaps_1 : ∀ q ∈ tX8_countGaps_1, am_Snd am_P0 RX8 cX8_countGaps 3 (Option.none : Option FieldType) "countGaps" q.1 q.2 := by
  unfold tX8_countGaps_1
  refine List.forall_mem_cons.mpr ⟨(s_goto (am_dp pw_X8_countGaps_96 dd_X8_countGaps_96a.2.2.2.2.1) (by decide)).to, ?_⟩
  refine List.forall_mem_cons.mpr ⟨(s_iinc (am_dp pw_X8_countGaps_96 dd_X8_countGaps_96a.2.2.2.2.2.1) (by decide) (by decide)).to, ?_⟩
  refine List.forall_mem_cons.mpr ⟨(s_goto (am_dp pw_X8_countGaps_96 dd_X8_countGaps_96a.2.2.2.2.2.2.1) (by decide)).to, ?_⟩
  refine List.forall_mem_cons.mpr ⟨s_vret (am_dp pw_X8_countGaps_96 dd_X8_countGaps_96a.2.2.2.2.2.2.2) rfl, ?_⟩
  exact fun _ h => absurd h List.not_mem_nil
theorem sn_tX8_countGaps : ∀ q ∈ tX8_countGaps, am_Snd am_P0 RX8 cX8_countGaps 3 (Option.none : Option FieldType) "countGaps" q.1 q.2 := by
  unfold tX8_countGaps
  exact List.forall_mem_append.mpr ⟨sn_tX8_countGaps_0, sn_tX8_countGaps_1⟩
theorem sn_tX8_isHonest : ∀ q ∈ tX8_isHonest, am_Snd am_P0 RX8 cX8_isHonest 6 (Option.some FieldType.boolean) "isHonest" q.1 q.2 := by
  unfold tX8_isHonest
  refine List.forall_mem_cons.mpr ⟨(s_iconst (am_dp pw_X8_isHonest_0 dd_X8_isHonest_0a.1) (by decide)).to, ?_⟩
  refine List.forall_mem_cons.mpr ⟨(s_istoren (am_dp pw_X8_isHonest_0 dd_X8_isHonest_0a.2.1) rfl (by decide)).to, ?_⟩
  refine List.forall_mem_cons.mpr ⟨(s_iloadn (am_dp pw_X8_isHonest_0 dd_X8_isHonest_0a.2.2.1) rfl).to, ?_⟩
  refine List.forall_mem_cons.mpr ⟨(s_iconst (am_dp pw_X8_isHonest_0 dd_X8_isHonest_0a.2.2.2.1) (by decide)).to, ?_⟩
  refine List.forall_mem_cons.mpr ⟨(s_icmp_ge (am_dp pw_X8_isHonest_0 dd_X8_isHonest_0a.2.2.2.2.1) (by decide)).to, ?_⟩
  refine List.forall_mem_cons.mpr ⟨(s_aloadn (am_dp pw_X8_isHonest_0 dd_X8_isHonest_0a.2.2.2.2.2.1) rfl).to, ?_⟩
  refine List.forall_mem_cons.mpr ⟨(s_get (ci := 8) (k := 12) (am_dp pw_X8_isHonest_0 dd_X8_isHonest_0a.2.2.2.2.2.2.1) rfl (by decide) wd536 inX8 rfl).to, ?_⟩
  refine List.forall_mem_cons.mpr ⟨(s_iloadn (am_dp pw_X8_isHonest_0 dd_X8_isHonest_0a.2.2.2.2.2.2.2) rfl).to, ?_⟩
  refine List.forall_mem_cons.mpr ⟨(s_iconst (am_dp pw_X8_isHonest_0 dd_X8_isHonest_0b.1) (by decide)).to, ?_⟩
  refine List.forall_mem_cons.mpr ⟨(s_imul (am_dp pw_X8_isHonest_0 dd_X8_isHonest_0b.2.1)).to, ?_⟩
  refine List.forall_mem_cons.mpr ⟨(s_iloadn (am_dp pw_X8_isHonest_0 dd_X8_isHonest_0b.2.2.1) rfl).to, ?_⟩
  refine List.forall_mem_cons.mpr ⟨(s_iadd (am_dp pw_X8_isHonest_0 dd_X8_isHonest_0b.2.2.2.1)).to, ?_⟩
  refine List.forall_mem_cons.mpr ⟨(s_lald (am_dp pw_X8_isHonest_0 dd_X8_isHonest_0b.2.2.2.2.1)).to, ?_⟩
  refine List.forall_mem_cons.mpr ⟨(s_lstoren (am_dp pw_X8_isHonest_0 dd_X8_isHonest_0b.2.2.2.2.2.1) rfl (by decide)).to, ?_⟩
  refine List.forall_mem_cons.mpr ⟨(s_iloadn (am_dp pw_X8_isHonest_0 dd_X8_isHonest_0b.2.2.2.2.2.2.1) rfl).to, ?_⟩
  refine List.forall_mem_cons.mpr ⟨(s_bipush (am_dp pw_X8_isHonest_0 dd_X8_isHonest_0b.2.2.2.2.2.2.2) (by decide)).to, ?_⟩
  refine List.forall_mem_cons.mpr ⟨(s_imul (am_dp pw_X8_isHonest_0 dd_X8_isHonest_0c.1)).to, ?_⟩
  refine List.forall_mem_cons.mpr ⟨(s_istore (am_dp pw_X8_isHonest_0 dd_X8_isHonest_0c.2.1) (by decide)).to, ?_⟩
  refine List.forall_mem_cons.mpr ⟨(s_lloadn (am_dp pw_X8_isHonest_0 dd_X8_isHonest_0c.2.2.1) rfl).to, ?_⟩
  refine List.forall_mem_cons.mpr ⟨(s_lconst (am_dp pw_X8_isHonest_0 dd_X8_isHonest_0c.2.2.2.1) (by decide)).to, ?_⟩
  refine List.forall_mem_cons.mpr ⟨(s_lcmp (am_dp pw_X8_isHonest_0 dd_X8_isHonest_0c.2.2.2.2.1)).to, ?_⟩
  refine List.forall_mem_cons.mpr ⟨(s_if_eq (am_dp pw_X8_isHonest_0 dd_X8_isHonest_0c.2.2.2.2.2.1) (by decide)).to, ?_⟩
  refine List.forall_mem_cons.mpr ⟨(s_iload (am_dp pw_X8_isHonest_0 dd_X8_isHonest_0c.2.2.2.2.2.2)).to, ?_⟩
  refine List.forall_mem_cons.mpr ⟨(s_iloadn (am_dp pw_X8_isHonest_32 dd_X8_isHonest_32a.1) rfl).to, ?_⟩
  refine List.forall_mem_cons.mpr ⟨(s_bipush (am_dp pw_X8_isHonest_32 dd_X8_isHonest_32a.2.1) (by decide)).to, ?_⟩
  refine List.forall_mem_cons.mpr ⟨(s_imul (am_dp pw_X8_isHonest_32 dd_X8_isHonest_32a.2.2.1)).to, ?_⟩
  refine List.forall_mem_cons.mpr ⟨(s_bipush (am_dp pw_X8_isHonest_32 dd_X8_isHonest_32a.2.2.2.1) (by decide)).to, ?_⟩
  refine List.forall_mem_cons.mpr ⟨(s_iadd (am_dp pw_X8_isHonest_32 dd_X8_isHonest_32a.2.2.2.2.1)).to, ?_⟩
  refine List.forall_mem_cons.mpr ⟨(s_icmp_ge (am_dp pw_X8_isHonest_32 dd_X8_isHonest_32a.2.2.2.2.2.1) (by decide)).to, ?_⟩
  refine List.forall_mem_cons.mpr ⟨(s_lloadn (am_dp pw_X8_isHonest_32 dd_X8_isHonest_32a.2.2.2.2.2.2.1) rfl).to, ?_⟩
  refine List.forall_mem_cons.mpr ⟨(s_lconst (am_dp pw_X8_isHonest_32 dd_X8_isHonest_32a.2.2.2.2.2.2.2) (by decide)).to, ?_⟩
  refine List.forall_mem_cons.mpr ⟨(s_land (am_dp pw_X8_isHonest_32 dd_X8_isHonest_32b.1)).to, ?_⟩
  refine List.forall_mem_cons.mpr ⟨(s_lconst (am_dp pw_X8_isHonest_32 dd_X8_isHonest_32b.2.1) (by decide)).to, ?_⟩
  refine List.forall_mem_cons.mpr ⟨(s_lcmp (am_dp pw_X8_isHonest_32 dd_X8_isHonest_32b.2.2.1)).to, ?_⟩
  refine List.forall_mem_cons.mpr ⟨(s_if_eq (am_dp pw_X8_isHonest_32 dd_X8_isHonest_32b.2.2.2.1) (by decide)).to, ?_⟩
  refine List.forall_mem_cons.mpr ⟨(s_aloadn (am_dp pw_X8_isHonest_32 dd_X8_isHonest_32b.2.2.2.2.1) rfl).to, ?_⟩
  refine List.forall_mem_cons.mpr ⟨(s_get (ci := 8) (k := 1) (am_dp pw_X8_isHonest_32 dd_X8_isHonest_32b.2.2.2.2.2.1) rfl (by decide) wd520 inX8 rfl).to, ?_⟩
  refine List.forall_mem_cons.mpr ⟨(s_iload (am_dp pw_X8_isHonest_32 dd_X8_isHonest_32b.2.2.2.2.2.2.1)).to, ?_⟩
  refine List.forall_mem_cons.mpr ⟨(s_iloadn (am_dp pw_X8_isHonest_32 dd_X8_isHonest_32b.2.2.2.2.2.2.2) rfl).to, ?_⟩
  refine List.forall_mem_cons.mpr ⟨zw_cv55 (am_dp pw_X8_isHonest_32 dd_X8_isHonest_32c.1) wd1103, ?_⟩
  refine List.forall_mem_cons.mpr ⟨(s_if_eq (am_dp pw_X8_isHonest_32 dd_X8_isHonest_32c.2.1) (by decide)).to, ?_⟩
  refine List.forall_mem_cons.mpr ⟨(s_iconst (am_dp pw_X8_isHonest_32 dd_X8_isHonest_32c.2.2) (by decide)).to, ?_⟩
  refine List.forall_mem_cons.mpr ⟨s_zret (am_dp pw_X8_isHonest_64 dd_X8_isHonest_64a.1) rfl, ?_⟩
  refine List.forall_mem_cons.mpr ⟨(s_lloadn (am_dp pw_X8_isHonest_64 dd_X8_isHonest_64a.2.1) rfl).to, ?_⟩
  refine List.forall_mem_cons.mpr ⟨(s_iconst (am_dp pw_X8_isHonest_64 dd_X8_isHonest_64a.2.2.1) (by decide)).to, ?_⟩
  refine List.forall_mem_cons.mpr ⟨(s_lushr (am_dp pw_X8_isHonest_64 dd_X8_isHonest_64a.2.2.2.1)).to, ?_⟩
  refine List.forall_mem_cons.mpr ⟨(s_lstoren (am_dp pw_X8_isHonest_64 dd_X8_isHonest_64a.2.2.2.2.1) rfl (by decide)).to, ?_⟩
  refine List.forall_mem_cons.mpr ⟨(s_iinc (am_dp pw_X8_isHonest_64 dd_X8_isHonest_64a.2.2.2.2.2.1) (by decide) (by decide)).to, ?_⟩
  refine List.forall_mem_cons.mpr ⟨(s_goto (am_dp pw_X8_isHonest_64 dd_X8_isHonest_64a.2.2.2.2.2.2.1) (by decide)).to, ?_⟩
  refine List.forall_mem_cons.mpr ⟨(s_iinc (am_dp pw_X8_isHonest_64 dd_X8_isHonest_64a.2.2.2.2.2.2.2) (by decide) (by decide)).to, ?_⟩
  refine List.forall_mem_cons.mpr ⟨(s_goto (am_dp pw_X8_isHonest_64 dd_X8_isHonest_64b.1) (by decide)).to, ?_⟩
  refine List.forall_mem_cons.mpr ⟨(s_iconst (am_dp pw_X8_isHonest_64 dd_X8_isHonest_64b.2.1) (by decide)).to, ?_⟩
  refine List.forall_mem_cons.mpr ⟨s_zret (am_dp pw_X8_isHonest_64 dd_X8_isHonest_64b.2.2) rfl, ?_⟩
  exact fun _ h => absurd h List.not_mem_nil
theorem sn_tX8_hoursOfChange_0 : ∀ q ∈ tX8_hoursOfChange_0, am_Snd am_P0 RX8 cX8_hoursOfChange 7 (Option.some FieldType.long) "hoursOfChange" q.1 q.2 := by
  unfold tX8_hoursOfChange_0
  refine List.forall_mem_cons.mpr ⟨(s_lconst (am_dp pw_X8_hoursOfChange_0 dd_X8_hoursOfChange_0a.1) (by decide)).to, ?_⟩
  refine List.forall_mem_cons.mpr ⟨(s_lstoren (am_dp pw_X8_hoursOfChange_0 dd_X8_hoursOfChange_0a.2.1) rfl (by decide)).to, ?_⟩
  refine List.forall_mem_cons.mpr ⟨(s_iconst (am_dp pw_X8_hoursOfChange_0 dd_X8_hoursOfChange_0a.2.2.1) (by decide)).to, ?_⟩
  refine List.forall_mem_cons.mpr ⟨(s_istore (am_dp pw_X8_hoursOfChange_0 dd_X8_hoursOfChange_0a.2.2.2.1) (by decide)).to, ?_⟩
  refine List.forall_mem_cons.mpr ⟨(s_iconst (am_dp pw_X8_hoursOfChange_0 dd_X8_hoursOfChange_0a.2.2.2.2.1) (by decide)).to, ?_⟩
  refine List.forall_mem_cons.mpr ⟨(s_istore (am_dp pw_X8_hoursOfChange_0 dd_X8_hoursOfChange_0a.2.2.2.2.2.1) (by decide)).to, ?_⟩
  refine List.forall_mem_cons.mpr ⟨(s_iload (am_dp pw_X8_hoursOfChange_0 dd_X8_hoursOfChange_0a.2.2.2.2.2.2.1)).to, ?_⟩
  refine List.forall_mem_cons.mpr ⟨(s_aloadn (am_dp pw_X8_hoursOfChange_0 dd_X8_hoursOfChange_0a.2.2.2.2.2.2.2) rfl).to, ?_⟩
  refine List.forall_mem_cons.mpr ⟨(s_get (ci := 8) (k := 0) (am_dp pw_X8_hoursOfChange_0 dd_X8_hoursOfChange_0b.1) rfl (by decide) wd518 inX8 rfl).to, ?_⟩
  refine List.forall_mem_cons.mpr ⟨(s_get (ci := 6) (k := 5) (am_dp pw_X8_hoursOfChange_0 dd_X8_hoursOfChange_0b.2.1) rfl (by decide) wd254 inX6 rfl).to, ?_⟩
  refine List.forall_mem_cons.mpr ⟨(s_icmp_ge (am_dp pw_X8_hoursOfChange_0 dd_X8_hoursOfChange_0b.2.2.1) (by decide)).to, ?_⟩
  refine List.forall_mem_cons.mpr ⟨(s_aloadn (am_dp pw_X8_hoursOfChange_0 dd_X8_hoursOfChange_0b.2.2.2.1) rfl).to, ?_⟩
  refine List.forall_mem_cons.mpr ⟨(s_get (ci := 8) (k := 10) (am_dp pw_X8_hoursOfChange_0 dd_X8_hoursOfChange_0b.2.2.2.2.1) rfl (by decide) wd532 inX8 rfl).to, ?_⟩
  refine List.forall_mem_cons.mpr ⟨(s_iload (am_dp pw_X8_hoursOfChange_0 dd_X8_hoursOfChange_0b.2.2.2.2.2.1)).to, ?_⟩
  refine List.forall_mem_cons.mpr ⟨(s_zald (am_dp pw_X8_hoursOfChange_0 dd_X8_hoursOfChange_0b.2.2.2.2.2.2.1)).to, ?_⟩
  refine List.forall_mem_cons.mpr ⟨(s_if_ne (am_dp pw_X8_hoursOfChange_0 dd_X8_hoursOfChange_0b.2.2.2.2.2.2.2) (by decide)).to, ?_⟩
  refine List.forall_mem_cons.mpr ⟨(s_goto (am_dp pw_X8_hoursOfChange_0 dd_X8_hoursOfChange_0c) (by decide)).to, ?_⟩
  refine List.forall_mem_cons.mpr ⟨(s_iload (am_dp pw_X8_hoursOfChange_32 dd_X8_hoursOfChange_32a.1)).to, ?_⟩
  refine List.forall_mem_cons.mpr ⟨(s_iconst (am_dp pw_X8_hoursOfChange_32 dd_X8_hoursOfChange_32a.2.1) (by decide)).to, ?_⟩
  refine List.forall_mem_cons.mpr ⟨(s_icmp_eq (am_dp pw_X8_hoursOfChange_32 dd_X8_hoursOfChange_32a.2.2.1) (by decide)).to, ?_⟩
  refine List.forall_mem_cons.mpr ⟨(s_aloadn (am_dp pw_X8_hoursOfChange_32 dd_X8_hoursOfChange_32a.2.2.2.1) rfl).to, ?_⟩
  refine List.forall_mem_cons.mpr ⟨(s_get (ci := 8) (k := 0) (am_dp pw_X8_hoursOfChange_32 dd_X8_hoursOfChange_32a.2.2.2.2.1) rfl (by decide) wd518 inX8 rfl).to, ?_⟩
  refine List.forall_mem_cons.mpr ⟨(s_get (ci := 6) (k := 8) (am_dp pw_X8_hoursOfChange_32 dd_X8_hoursOfChange_32a.2.2.2.2.2.1) rfl (by decide) wd264 inX6 rfl).to, ?_⟩
  refine List.forall_mem_cons.mpr ⟨(s_iload (am_dp pw_X8_hoursOfChange_32 dd_X8_hoursOfChange_32a.2.2.2.2.2.2.1)).to, ?_⟩
  refine List.forall_mem_cons.mpr ⟨(s_zald (am_dp pw_X8_hoursOfChange_32 dd_X8_hoursOfChange_32a.2.2.2.2.2.2.2)).to, ?_⟩
  refine List.forall_mem_cons.mpr ⟨(s_iloadn (am_dp pw_X8_hoursOfChange_32 dd_X8_hoursOfChange_32b.1) rfl).to, ?_⟩
  refine List.forall_mem_cons.mpr ⟨(s_icmp_ne (am_dp pw_X8_hoursOfChange_32 dd_X8_hoursOfChange_32b.2.1) (by decide)).to, ?_⟩
  refine List.forall_mem_cons.mpr ⟨(s_aloadn (am_dp pw_X8_hoursOfChange_32 dd_X8_hoursOfChange_32b.2.2.1) rfl).to, ?_⟩
  refine List.forall_mem_cons.mpr ⟨(s_get (ci := 8) (k := 0) (am_dp pw_X8_hoursOfChange_32 dd_X8_hoursOfChange_32b.2.2.2.1) rfl (by decide) wd518 inX8 rfl).to, ?_⟩
  refine List.forall_mem_cons.mpr ⟨(s_get (ci := 6) (k := 8) (am_dp pw_X8_hoursOfChange_32 dd_X8_hoursOfChange_32b.2.2.2.2.1) rfl (by decide) wd264 inX6 rfl).to, ?_⟩
  refine List.forall_mem_cons.mpr ⟨(s_iload (am_dp pw_X8_hoursOfChange_32 dd_X8_hoursOfChange_32b.2.2.2.2.2.1)).to, ?_⟩
  refine List.forall_mem_cons.mpr ⟨(s_zald (am_dp pw_X8_hoursOfChange_32 dd_X8_hoursOfChange_32b.2.2.2.2.2.2.1)).to, ?_⟩
  refine List.forall_mem_cons.mpr ⟨(s_iloadn (am_dp pw_X8_hoursOfChange_32 dd_X8_hoursOfChange_32b.2.2.2.2.2.2.2) rfl).to, ?_⟩
  refine List.forall_mem_cons.mpr ⟨(s_icmp_eq (am_dp pw_X8_hoursOfChange_64 dd_X8_hoursOfChange_64a.1) (by decide)).to, ?_⟩
  refine List.forall_mem_cons.mpr ⟨(s_aloadn (am_dp pw_X8_hoursOfChange_64 dd_X8_hoursOfChange_64a.2.1) rfl).to, ?_⟩
  refine List.forall_mem_cons.mpr ⟨(s_get (ci := 8) (k := 0) (am_dp pw_X8_hoursOfChange_64 dd_X8_hoursOfChange_64a.2.2.1) rfl (by decide) wd518 inX8 rfl).to, ?_⟩
  refine List.forall_mem_cons.mpr ⟨(s_get (ci := 6) (k := 6) (am_dp pw_X8_hoursOfChange_64 dd_X8_hoursOfChange_64a.2.2.2.1) rfl (by decide) wd258 inX6 rfl).to, ?_⟩
  refine List.forall_mem_cons.mpr ⟨(s_iload (am_dp pw_X8_hoursOfChange_64 dd_X8_hoursOfChange_64a.2.2.2.2.1)).to, ?_⟩
  refine List.forall_mem_cons.mpr ⟨(s_iald (am_dp pw_X8_hoursOfChange_64 dd_X8_hoursOfChange_64a.2.2.2.2.2.1)).to, ?_⟩
  refine List.forall_mem_cons.mpr ⟨(s_iconst (am_dp pw_X8_hoursOfChange_64 dd_X8_hoursOfChange_64a.2.2.2.2.2.2.1) (by decide)).to, ?_⟩
  refine List.forall_mem_cons.mpr ⟨(s_iadd (am_dp pw_X8_hoursOfChange_64 dd_X8_hoursOfChange_64a.2.2.2.2.2.2.2)).to, ?_⟩
  refine List.forall_mem_cons.mpr ⟨(s_istore (am_dp pw_X8_hoursOfChange_64 dd_X8_hoursOfChange_64b.1) (by decide)).to, ?_⟩
  refine List.forall_mem_cons.mpr ⟨(s_iload (am_dp pw_X8_hoursOfChange_64 dd_X8_hoursOfChange_64b.2.1)).to, ?_⟩
  refine List.forall_mem_cons.mpr ⟨(s_aloadn (am_dp pw_X8_hoursOfChange_64 dd_X8_hoursOfChange_64b.2.2.1) rfl).to, ?_⟩
  refine List.forall_mem_cons.mpr ⟨(s_get (ci := 8) (k := 0) (am_dp pw_X8_hoursOfChange_64 dd_X8_hoursOfChange_64b.2.2.2.1) rfl (by decide) wd518 inX8 rfl).to, ?_⟩
  refine List.forall_mem_cons.mpr ⟨(s_get (ci := 6) (k := 6) (am_dp pw_X8_hoursOfChange_64 dd_X8_hoursOfChange_64b.2.2.2.2.1) rfl (by decide) wd258 inX6 rfl).to, ?_⟩
  refine List.forall_mem_cons.mpr ⟨(s_iload (am_dp pw_X8_hoursOfChange_64 dd_X8_hoursOfChange_64b.2.2.2.2.2.1)).to, ?_⟩
  refine List.forall_mem_cons.mpr ⟨(s_iald (am_dp pw_X8_hoursOfChange_64 dd_X8_hoursOfChange_64b.2.2.2.2.2.2.1)).to, ?_⟩
  refine List.forall_mem_cons.mpr ⟨(s_icmp_ge (am_dp pw_X8_hoursOfChange_64 dd_X8_hoursOfChange_64b.2.2.2.2.2.2.2) (by decide)).to, ?_⟩
  refine List.forall_mem_cons.mpr ⟨(s_lloadn (am_dp pw_X8_hoursOfChange_96 dd_X8_hoursOfChange_96a.1) rfl).to, ?_⟩
  refine List.forall_mem_cons.mpr ⟨(s_lconst (am_dp pw_X8_hoursOfChange_96 dd_X8_hoursOfChange_96a.2.1) (by decide)).to, ?_⟩
  refine List.forall_mem_cons.mpr ⟨(s_iload (am_dp pw_X8_hoursOfChange_96 dd_X8_hoursOfChange_96a.2.2.1)).to, ?_⟩
  refine List.forall_mem_cons.mpr ⟨(s_lshl (am_dp pw_X8_hoursOfChange_96 dd_X8_hoursOfChange_96a.2.2.2.1)).to, ?_⟩
  refine List.forall_mem_cons.mpr ⟨(s_lor (am_dp pw_X8_hoursOfChange_96 dd_X8_hoursOfChange_96a.2.2.2.2.1)).to, ?_⟩
  refine List.forall_mem_cons.mpr ⟨(s_lstoren (am_dp pw_X8_hoursOfChange_96 dd_X8_hoursOfChange_96a.2.2.2.2.2.1) rfl (by decide)).to, ?_⟩
  refine List.forall_mem_cons.mpr ⟨(s_iinc (am_dp pw_X8_hoursOfChange_96 dd_X8_hoursOfChange_96a.2.2.2.2.2.2.1) (by decide) (by decide)).to, ?_⟩
  refine List.forall_mem_cons.mpr ⟨(s_goto (am_dp pw_X8_hoursOfChange_96 dd_X8_hoursOfChange_96a.2.2.2.2.2.2.2) (by decide)).to, ?_⟩
  refine List.forall_mem_cons.mpr ⟨(s_iload (am_dp pw_X8_hoursOfChange_96 dd_X8_hoursOfChange_96b.1)).to, ?_⟩
  refine List.forall_mem_cons.mpr ⟨(s_istore (am_dp pw_X8_hoursOfChange_96 dd_X8_hoursOfChange_96b.2.1) (by decide)).to, ?_⟩
  refine List.forall_mem_cons.mpr ⟨(s_iinc (am_dp pw_X8_hoursOfChange_96 dd_X8_hoursOfChange_96b.2.2.1) (by decide) (by decide)).to, ?_⟩
  exact fun _ h => absurd h List.not_mem_nil
theorem sn_tX8_hoursOfChange_1 : ∀ q ∈ tX8_hoursOfChange_1, am_Snd am_P0 RX8 cX8_hoursOfChange 7 (Option.some FieldType.long) "hoursOfChange" q.1 q.2 := by
  unfold tX8_hoursOfChange_1
  refine List.forall_mem_cons.mpr ⟨(s_goto (am_dp pw_X8_hoursOfChange_96 dd_X8_hoursOfChange_96b.2.2.2.1) (by decide)).to, ?_⟩
  refine List.forall_mem_cons.mpr ⟨(s_lloadn (am_dp pw_X8_hoursOfChange_96 dd_X8_hoursOfChange_96b.2.2.2.2.1) rfl).to, ?_⟩
  refine List.forall_mem_cons.mpr ⟨s_lret (am_dp pw_X8_hoursOfChange_96 dd_X8_hoursOfChange_96b.2.2.2.2.2) rfl, ?_⟩
  exact fun _ h => absurd h List.not_mem_nil
theorem sn_tX8_hoursOfChange : ∀ q ∈ tX8_hoursOfChange, am_Snd am_P0 RX8 cX8_hoursOfChange 7 (Option.some FieldType.long) "hoursOfChange" q.1 q.2 := by
  unfold tX8_hoursOfChange
  exact List.forall_mem_append.mpr ⟨sn_tX8_hoursOfChange_0, sn_tX8_hoursOfChange_1⟩
theorem sn_tX9_init : ∀ q ∈ tX9_init, am_Snd am_P0 RX9 cX9_init 1 (Option.none : Option FieldType) "<init>" q.1 q.2 := by
  unfold tX9_init
  refine List.forall_mem_cons.mpr ⟨(s_aloadn (am_dp pw_X9_init_0 dd_X9_init_0a.1) rfl).to, ?_⟩
  refine List.forall_mem_cons.mpr ⟨(s_obj (am_dp pw_X9_init_0 dd_X9_init_0a.2.1) wd487 wd160 wd161).to, ?_⟩
  refine List.forall_mem_cons.mpr ⟨(s_aloadn (am_dp pw_X9_init_0 dd_X9_init_0a.2.2.1) rfl).to, ?_⟩
  refine List.forall_mem_cons.mpr ⟨(s_iconst (am_dp pw_X9_init_0 dd_X9_init_0a.2.2.2.1) (by decide)).to, ?_⟩
  refine List.forall_mem_cons.mpr ⟨(s_newa (kd := 1) (ty := .long) (am_dp pw_X9_init_0 dd_X9_init_0a.2.2.2.2.1) rfl rfl wd303 (by decide) (by decide) (fun _ _ h => h)).to, ?_⟩
  refine List.forall_mem_cons.mpr ⟨(s_putF (ci := 9) (k := 0) (am_dp pw_X9_init_0 dd_X9_init_0a.2.2.2.2.2.1) rfl (by decide) wd490 inX9 tyX9_ok nmX9 rfl rfl rfl rfl).to, ?_⟩
  refine List.forall_mem_cons.mpr ⟨(s_aloadn (am_dp pw_X9_init_0 dd_X9_init_0a.2.2.2.2.2.2.1) rfl).to, ?_⟩
  refine List.forall_mem_cons.mpr ⟨(s_iconst (am_dp pw_X9_init_0 dd_X9_init_0a.2.2.2.2.2.2.2) (by decide)).to, ?_⟩
  refine List.forall_mem_cons.mpr ⟨(s_put (ci := 9) (k := 1) (am_dp pw_X9_init_0 dd_X9_init_0b.1) rfl (by decide) wd492 inX9 tyX9_ok nmX9 rfl rfl).to, ?_⟩
  refine List.forall_mem_cons.mpr ⟨(s_aloadn (am_dp pw_X9_init_0 dd_X9_init_0b.2.1) rfl).to, ?_⟩
  refine List.forall_mem_cons.mpr ⟨(s_sipush (am_dp pw_X9_init_0 dd_X9_init_0b.2.2.1) (by decide)).to, ?_⟩
  refine List.forall_mem_cons.mpr ⟨(s_newl (am_dp pw_X9_init_0 dd_X9_init_0b.2.2.2.1) wd488).to, ?_⟩
  refine List.forall_mem_cons.mpr ⟨(s_putF (ci := 9) (k := 2) (am_dp pw_X9_init_0 dd_X9_init_0b.2.2.2.2.1) rfl (by decide) wd493 inX9 tyX9_ok nmX9 rfl rfl rfl rfl).to, ?_⟩
  refine List.forall_mem_cons.mpr ⟨(s_aloadn (am_dp pw_X9_init_0 dd_X9_init_0b.2.2.2.2.2.1) rfl).to, ?_⟩
  refine List.forall_mem_cons.mpr ⟨(s_sipush (am_dp pw_X9_init_0 dd_X9_init_0b.2.2.2.2.2.2.1) (by decide)).to, ?_⟩
  refine List.forall_mem_cons.mpr ⟨(s_newa (kd := 2) (ty := .boolean) (am_dp pw_X9_init_0 dd_X9_init_0b.2.2.2.2.2.2.2) rfl rfl wd304 (by decide) (by decide) (fun _ _ h => h)).to, ?_⟩
  refine List.forall_mem_cons.mpr ⟨(s_putF (ci := 9) (k := 3) (am_dp pw_X9_init_32 dd_X9_init_32a.1) rfl (by decide) wd494 inX9 tyX9_ok nmX9 rfl rfl rfl rfl).to, ?_⟩
  refine List.forall_mem_cons.mpr ⟨(s_aloadn (am_dp pw_X9_init_32 dd_X9_init_32a.2.1) rfl).to, ?_⟩
  refine List.forall_mem_cons.mpr ⟨(s_iconst (am_dp pw_X9_init_32 dd_X9_init_32a.2.2.1) (by decide)).to, ?_⟩
  refine List.forall_mem_cons.mpr ⟨(s_newa (kd := 1) (ty := .long) (am_dp pw_X9_init_32 dd_X9_init_32a.2.2.2.1) rfl rfl wd303 (by decide) (by decide) (fun _ _ h => h)).to, ?_⟩
  refine List.forall_mem_cons.mpr ⟨(s_putF (ci := 9) (k := 4) (am_dp pw_X9_init_32 dd_X9_init_32a.2.2.2.2.1) rfl (by decide) wd495 inX9 tyX9_ok nmX9 rfl rfl rfl rfl).to, ?_⟩
  refine List.forall_mem_cons.mpr ⟨s_vret (am_dp pw_X9_init_32 dd_X9_init_32a.2.2.2.2.2) rfl, ?_⟩
  exact fun _ h => absurd h List.not_mem_nil
theorem sn_tX9_begin : ∀ q ∈ tX9_begin, am_Snd am_P0 RX9 cX9_begin 4 (Option.none : Option FieldType) "begin" q.1 q.2 := by
  unfold tX9_begin
  refine List.forall_mem_cons.mpr ⟨(s_aloadn (am_dp pw_X9_begin_0 dd_X9_begin_0a.1) rfl).to, ?_⟩
  refine List.forall_mem_cons.mpr ⟨(s_iconst (am_dp pw_X9_begin_0 dd_X9_begin_0a.2.1) (by decide)).to, ?_⟩
  refine List.forall_mem_cons.mpr ⟨(s_aloadn (am_dp pw_X9_begin_0 dd_X9_begin_0a.2.2.1) rfl).to, ?_⟩
  refine List.forall_mem_cons.mpr ⟨(s_get (ci := 6) (k := 2) (am_dp pw_X9_begin_0 dd_X9_begin_0a.2.2.2.1) rfl (by decide) wd243 inX6 rfl).to, ?_⟩
  refine List.forall_mem_cons.mpr ⟨zw_cs307 (am_dp pw_X9_begin_0 dd_X9_begin_0a.2.2.2.2.1) wd897, ?_⟩
  refine List.forall_mem_cons.mpr ⟨(s_put (ci := 9) (k := 1) (am_dp pw_X9_begin_0 dd_X9_begin_0a.2.2.2.2.2.1) rfl (by decide) wd492 inX9 tyX9_ok nmX9 rfl rfl).to, ?_⟩
  refine List.forall_mem_cons.mpr ⟨(s_aloadn (am_dp pw_X9_begin_0 dd_X9_begin_0a.2.2.2.2.2.2.1) rfl).to, ?_⟩
  refine List.forall_mem_cons.mpr ⟨(s_get (ci := 9) (k := 0) (am_dp pw_X9_begin_0 dd_X9_begin_0a.2.2.2.2.2.2.2) rfl (by decide) wd490 inX9 rfl).to, ?_⟩
  refine List.forall_mem_cons.mpr ⟨(s_lconst (am_dp pw_X9_begin_0 dd_X9_begin_0b.1) (by decide)).to, ?_⟩
  refine List.forall_mem_cons.mpr ⟨zw_cs322 (am_dp pw_X9_begin_0 dd_X9_begin_0b.2.1) wd898, ?_⟩
  refine List.forall_mem_cons.mpr ⟨(s_iconst (am_dp pw_X9_begin_0 dd_X9_begin_0b.2.2.1) (by decide)).to, ?_⟩
  refine List.forall_mem_cons.mpr ⟨(s_istoren (am_dp pw_X9_begin_0 dd_X9_begin_0b.2.2.2.1) rfl (by decide)).to, ?_⟩
  refine List.forall_mem_cons.mpr ⟨(s_iloadn (am_dp pw_X9_begin_0 dd_X9_begin_0b.2.2.2.2.1) rfl).to, ?_⟩
  refine List.forall_mem_cons.mpr ⟨(s_sipush (am_dp pw_X9_begin_0 dd_X9_begin_0b.2.2.2.2.2.1) (by decide)).to, ?_⟩
  refine List.forall_mem_cons.mpr ⟨(s_icmp_ge (am_dp pw_X9_begin_0 dd_X9_begin_0b.2.2.2.2.2.2.1) (by decide)).to, ?_⟩
  refine List.forall_mem_cons.mpr ⟨(s_aloadn (am_dp pw_X9_begin_0 dd_X9_begin_0b.2.2.2.2.2.2.2) rfl).to, ?_⟩
  refine List.forall_mem_cons.mpr ⟨(s_get (ci := 9) (k := 3) (am_dp pw_X9_begin_0 dd_X9_begin_0c) rfl (by decide) wd494 inX9 rfl).to, ?_⟩
  refine List.forall_mem_cons.mpr ⟨(s_iloadn (am_dp pw_X9_begin_32 dd_X9_begin_32a.1) rfl).to, ?_⟩
  refine List.forall_mem_cons.mpr ⟨(s_iconst (am_dp pw_X9_begin_32 dd_X9_begin_32a.2.1) (by decide)).to, ?_⟩
  refine List.forall_mem_cons.mpr ⟨(s_zast (am_dp pw_X9_begin_32 dd_X9_begin_32a.2.2.1)).to, ?_⟩
  refine List.forall_mem_cons.mpr ⟨(s_aloadn (am_dp pw_X9_begin_32 dd_X9_begin_32a.2.2.2.1) rfl).to, ?_⟩
  refine List.forall_mem_cons.mpr ⟨(s_get (ci := 5) (k := 10) (am_dp pw_X9_begin_32 dd_X9_begin_32a.2.2.2.2.1) rfl (by decide) wd332 inX5 rfl).to, ?_⟩
  refine List.forall_mem_cons.mpr ⟨(s_iloadn (am_dp pw_X9_begin_32 dd_X9_begin_32a.2.2.2.2.2.1) rfl).to, ?_⟩
  refine List.forall_mem_cons.mpr ⟨(s_iald (am_dp pw_X9_begin_32 dd_X9_begin_32a.2.2.2.2.2.2.1)).to, ?_⟩
  refine List.forall_mem_cons.mpr ⟨(s_aloadn (am_dp pw_X9_begin_32 dd_X9_begin_32a.2.2.2.2.2.2.2) rfl).to, ?_⟩
  refine List.forall_mem_cons.mpr ⟨(s_get (ci := 6) (k := 3) (am_dp pw_X9_begin_32 dd_X9_begin_32b.1) rfl (by decide) wd246 inX6 rfl).to, ?_⟩
  refine List.forall_mem_cons.mpr ⟨(s_icmp_lt (am_dp pw_X9_begin_32 dd_X9_begin_32b.2.1) (by decide)).to, ?_⟩
  refine List.forall_mem_cons.mpr ⟨(s_aloadn (am_dp pw_X9_begin_32 dd_X9_begin_32b.2.2.1) rfl).to, ?_⟩
  refine List.forall_mem_cons.mpr ⟨(s_get (ci := 9) (k := 0) (am_dp pw_X9_begin_32 dd_X9_begin_32b.2.2.2.1) rfl (by decide) wd490 inX9 rfl).to, ?_⟩
  refine List.forall_mem_cons.mpr ⟨(s_iloadn (am_dp pw_X9_begin_32 dd_X9_begin_32b.2.2.2.2.1) rfl).to, ?_⟩
  refine List.forall_mem_cons.mpr ⟨(s_bipush (am_dp pw_X9_begin_32 dd_X9_begin_32b.2.2.2.2.2.1) (by decide)).to, ?_⟩
  refine List.forall_mem_cons.mpr ⟨(s_ishr (am_dp pw_X9_begin_32 dd_X9_begin_32b.2.2.2.2.2.2.1)).to, ?_⟩
  refine List.forall_mem_cons.mpr ⟨(s_dup2 (am_dp pw_X9_begin_32 dd_X9_begin_32b.2.2.2.2.2.2.2)).to, ?_⟩
  refine List.forall_mem_cons.mpr ⟨(s_lald (am_dp pw_X9_begin_32 dd_X9_begin_32c.1)).to, ?_⟩
  refine List.forall_mem_cons.mpr ⟨(s_lconst (am_dp pw_X9_begin_32 dd_X9_begin_32c.2.1) (by decide)).to, ?_⟩
  refine List.forall_mem_cons.mpr ⟨(s_iloadn (am_dp pw_X9_begin_32 dd_X9_begin_32c.2.2.1) rfl).to, ?_⟩
  refine List.forall_mem_cons.mpr ⟨(s_bipush (am_dp pw_X9_begin_32 dd_X9_begin_32c.2.2.2.1) (by decide)).to, ?_⟩
  refine List.forall_mem_cons.mpr ⟨(s_iand (am_dp pw_X9_begin_32 dd_X9_begin_32c.2.2.2.2)).to, ?_⟩
  refine List.forall_mem_cons.mpr ⟨(s_lshl (am_dp pw_X9_begin_64 dd_X9_begin_64a.1)).to, ?_⟩
  refine List.forall_mem_cons.mpr ⟨(s_lor (am_dp pw_X9_begin_64 dd_X9_begin_64a.2.1)).to, ?_⟩
  refine List.forall_mem_cons.mpr ⟨(s_last (am_dp pw_X9_begin_64 dd_X9_begin_64a.2.2.1)).to, ?_⟩
  refine List.forall_mem_cons.mpr ⟨(s_iinc (am_dp pw_X9_begin_64 dd_X9_begin_64a.2.2.2.1) (by decide) (by decide)).to, ?_⟩
  refine List.forall_mem_cons.mpr ⟨(s_goto (am_dp pw_X9_begin_64 dd_X9_begin_64a.2.2.2.2.1) (by decide)).to, ?_⟩
  refine List.forall_mem_cons.mpr ⟨s_vret (am_dp pw_X9_begin_64 dd_X9_begin_64a.2.2.2.2.2) rfl, ?_⟩
  exact fun _ h => absurd h List.not_mem_nil
theorem sn_tX9_isWater : ∀ q ∈ tX9_isWater, am_Snd am_P0 RX9 cX9_isWater 2 (Option.some FieldType.boolean) "isWater" q.1 q.2 := by
  unfold tX9_isWater
  refine List.forall_mem_cons.mpr ⟨(s_aloadn (am_dp pw_X9_isWater_0 dd_X9_isWater_0a.1) rfl).to, ?_⟩
  refine List.forall_mem_cons.mpr ⟨(s_get (ci := 9) (k := 0) (am_dp pw_X9_isWater_0 dd_X9_isWater_0a.2.1) rfl (by decide) wd490 inX9 rfl).to, ?_⟩
  refine List.forall_mem_cons.mpr ⟨(s_iloadn (am_dp pw_X9_isWater_0 dd_X9_isWater_0a.2.2.1) rfl).to, ?_⟩
  refine List.forall_mem_cons.mpr ⟨(s_bipush (am_dp pw_X9_isWater_0 dd_X9_isWater_0a.2.2.2.1) (by decide)).to, ?_⟩
  refine List.forall_mem_cons.mpr ⟨(s_ishr (am_dp pw_X9_isWater_0 dd_X9_isWater_0a.2.2.2.2.1)).to, ?_⟩
  refine List.forall_mem_cons.mpr ⟨(s_lald (am_dp pw_X9_isWater_0 dd_X9_isWater_0a.2.2.2.2.2.1)).to, ?_⟩
  refine List.forall_mem_cons.mpr ⟨(s_iloadn (am_dp pw_X9_isWater_0 dd_X9_isWater_0a.2.2.2.2.2.2.1) rfl).to, ?_⟩
  refine List.forall_mem_cons.mpr ⟨(s_bipush (am_dp pw_X9_isWater_0 dd_X9_isWater_0a.2.2.2.2.2.2.2) (by decide)).to, ?_⟩
  refine List.forall_mem_cons.mpr ⟨(s_iand (am_dp pw_X9_isWater_0 dd_X9_isWater_0b.1)).to, ?_⟩
  refine List.forall_mem_cons.mpr ⟨(s_lushr (am_dp pw_X9_isWater_0 dd_X9_isWater_0b.2.1)).to, ?_⟩
  refine List.forall_mem_cons.mpr ⟨(s_lconst (am_dp pw_X9_isWater_0 dd_X9_isWater_0b.2.2.1) (by decide)).to, ?_⟩
  refine List.forall_mem_cons.mpr ⟨(s_land (am_dp pw_X9_isWater_0 dd_X9_isWater_0b.2.2.2.1)).to, ?_⟩
  refine List.forall_mem_cons.mpr ⟨(s_lconst (am_dp pw_X9_isWater_0 dd_X9_isWater_0b.2.2.2.2.1) (by decide)).to, ?_⟩
  refine List.forall_mem_cons.mpr ⟨(s_lcmp (am_dp pw_X9_isWater_0 dd_X9_isWater_0b.2.2.2.2.2.1)).to, ?_⟩
  refine List.forall_mem_cons.mpr ⟨(s_if_eq (am_dp pw_X9_isWater_0 dd_X9_isWater_0b.2.2.2.2.2.2.1) (by decide)).to, ?_⟩
  refine List.forall_mem_cons.mpr ⟨(s_iconst (am_dp pw_X9_isWater_0 dd_X9_isWater_0b.2.2.2.2.2.2.2) (by decide)).to, ?_⟩
  refine List.forall_mem_cons.mpr ⟨(s_goto (am_dp pw_X9_isWater_0 dd_X9_isWater_0c.1) (by decide)).to, ?_⟩
  refine List.forall_mem_cons.mpr ⟨(s_iconst (am_dp pw_X9_isWater_0 dd_X9_isWater_0c.2.1) (by decide)).to, ?_⟩
  refine List.forall_mem_cons.mpr ⟨s_zret (am_dp pw_X9_isWater_0 dd_X9_isWater_0c.2.2) rfl, ?_⟩
  exact fun _ h => absurd h List.not_mem_nil
theorem sn_tX9_isWithin : ∀ q ∈ tX9_isWithin, am_Snd am_P0 RX9 cX9_isWithin 4 (Option.some FieldType.boolean) "isWithin" q.1 q.2 := by
  unfold tX9_isWithin
  refine List.forall_mem_cons.mpr ⟨(s_aloadn (am_dp pw_X9_isWithin_0 dd_X9_isWithin_0a.1) rfl).to, ?_⟩
  refine List.forall_mem_cons.mpr ⟨(s_iloadn (am_dp pw_X9_isWithin_0 dd_X9_isWithin_0a.2.1) rfl).to, ?_⟩
  refine List.forall_mem_cons.mpr ⟨zw_cv105 (am_dp pw_X9_isWithin_0 dd_X9_isWithin_0a.2.2.1) wd962, ?_⟩
  refine List.forall_mem_cons.mpr ⟨(s_iloadn (am_dp pw_X9_isWithin_0 dd_X9_isWithin_0a.2.2.2.1) rfl).to, ?_⟩
  refine List.forall_mem_cons.mpr ⟨(s_iconst (am_dp pw_X9_isWithin_0 dd_X9_isWithin_0a.2.2.2.2.1) (by decide)).to, ?_⟩
  refine List.forall_mem_cons.mpr ⟨(s_imul (am_dp pw_X9_isWithin_0 dd_X9_isWithin_0a.2.2.2.2.2.1)).to, ?_⟩
  refine List.forall_mem_cons.mpr ⟨(s_iloadn (am_dp pw_X9_isWithin_0 dd_X9_isWithin_0a.2.2.2.2.2.2.1) rfl).to, ?_⟩
  refine List.forall_mem_cons.mpr ⟨(s_bipush (am_dp pw_X9_isWithin_0 dd_X9_isWithin_0a.2.2.2.2.2.2.2) (by decide)).to, ?_⟩
  refine List.forall_mem_cons.mpr ⟨(s_ishr (am_dp pw_X9_isWithin_0 dd_X9_isWithin_0b.1)).to, ?_⟩
  refine List.forall_mem_cons.mpr ⟨(s_iadd (am_dp pw_X9_isWithin_0 dd_X9_isWithin_0b.2.1)).to, ?_⟩
  refine List.forall_mem_cons.mpr ⟨(s_lald (am_dp pw_X9_isWithin_0 dd_X9_isWithin_0b.2.2.1)).to, ?_⟩
  refine List.forall_mem_cons.mpr ⟨(s_iloadn (am_dp pw_X9_isWithin_0 dd_X9_isWithin_0b.2.2.2.1) rfl).to, ?_⟩
  refine List.forall_mem_cons.mpr ⟨(s_bipush (am_dp pw_X9_isWithin_0 dd_X9_isWithin_0b.2.2.2.2.1) (by decide)).to, ?_⟩
  refine List.forall_mem_cons.mpr ⟨(s_iand (am_dp pw_X9_isWithin_0 dd_X9_isWithin_0b.2.2.2.2.2.1)).to, ?_⟩
  refine List.forall_mem_cons.mpr ⟨(s_lushr (am_dp pw_X9_isWithin_0 dd_X9_isWithin_0b.2.2.2.2.2.2.1)).to, ?_⟩
  refine List.forall_mem_cons.mpr ⟨(s_lconst (am_dp pw_X9_isWithin_0 dd_X9_isWithin_0b.2.2.2.2.2.2.2) (by decide)).to, ?_⟩
  refine List.forall_mem_cons.mpr ⟨(s_land (am_dp pw_X9_isWithin_0 dd_X9_isWithin_0c.1)).to, ?_⟩
  refine List.forall_mem_cons.mpr ⟨(s_lconst (am_dp pw_X9_isWithin_0 dd_X9_isWithin_0c.2.1) (by decide)).to, ?_⟩
  refine List.forall_mem_cons.mpr ⟨(s_lcmp (am_dp pw_X9_isWithin_0 dd_X9_isWithin_0c.2.2.1)).to, ?_⟩
  refine List.forall_mem_cons.mpr ⟨(s_if_eq (am_dp pw_X9_isWithin_0 dd_X9_isWithin_0c.2.2.2.1) (by decide)).to, ?_⟩
  refine List.forall_mem_cons.mpr ⟨(s_iconst (am_dp pw_X9_isWithin_0 dd_X9_isWithin_0c.2.2.2.2.1) (by decide)).to, ?_⟩
  refine List.forall_mem_cons.mpr ⟨(s_goto (am_dp pw_X9_isWithin_0 dd_X9_isWithin_0c.2.2.2.2.2.1) (by decide)).to, ?_⟩
  refine List.forall_mem_cons.mpr ⟨(s_iconst (am_dp pw_X9_isWithin_0 dd_X9_isWithin_0c.2.2.2.2.2.2.1) (by decide)).to, ?_⟩
  refine List.forall_mem_cons.mpr ⟨s_zret (am_dp pw_X9_isWithin_0 dd_X9_isWithin_0c.2.2.2.2.2.2.2) rfl, ?_⟩
  exact fun _ h => absurd h List.not_mem_nil
theorem sn_tX9_ringsOf_0 : ∀ q ∈ tX9_ringsOf_0, am_Snd am_P0 RX9 cX9_ringsOf 6 (Option.some (FieldType.array FieldType.long)) "ringsOf" q.1 q.2 := by
  unfold tX9_ringsOf_0
  refine List.forall_mem_cons.mpr ⟨(s_aloadn (am_dp pw_X9_ringsOf_0 dd_X9_ringsOf_0a.1) rfl).to, ?_⟩
  refine List.forall_mem_cons.mpr ⟨(s_get (ci := 9) (k := 2) (am_dp pw_X9_ringsOf_0 dd_X9_ringsOf_0a.2.1) rfl (by decide) wd493 inX9 rfl).to, ?_⟩
  refine List.forall_mem_cons.mpr ⟨(s_iloadn (am_dp pw_X9_ringsOf_0 dd_X9_ringsOf_0a.2.2.1) rfl).to, ?_⟩
  refine List.forall_mem_cons.mpr ⟨(s_aald (am_dp pw_X9_ringsOf_0 dd_X9_ringsOf_0a.2.2.2.1)).to, ?_⟩
  refine List.forall_mem_cons.mpr ⟨(s_astoren (am_dp pw_X9_ringsOf_0 dd_X9_ringsOf_0a.2.2.2.2.1) rfl (by decide)).to, ?_⟩
  refine List.forall_mem_cons.mpr ⟨(s_aloadn (am_dp pw_X9_ringsOf_0 dd_X9_ringsOf_0a.2.2.2.2.2.1) rfl).to, ?_⟩
  refine List.forall_mem_cons.mpr ⟨(s_ifnn (am_dp pw_X9_ringsOf_0 dd_X9_ringsOf_0a.2.2.2.2.2.2.1) (by decide)).to, ?_⟩
  refine List.forall_mem_cons.mpr ⟨(s_sipush (am_dp pw_X9_ringsOf_0 dd_X9_ringsOf_0a.2.2.2.2.2.2.2) (by decide)).to, ?_⟩
  refine List.forall_mem_cons.mpr ⟨(s_newa (kd := 1) (ty := .long) (am_dp pw_X9_ringsOf_0 dd_X9_ringsOf_0b.1) rfl rfl wd303 (by decide) (by decide) (fun _ _ h => h)).to, ?_⟩
  refine List.forall_mem_cons.mpr ⟨(s_astoren (am_dp pw_X9_ringsOf_0 dd_X9_ringsOf_0b.2.1) rfl (by decide)).to, ?_⟩
  refine List.forall_mem_cons.mpr ⟨(s_aloadn (am_dp pw_X9_ringsOf_0 dd_X9_ringsOf_0b.2.2.1) rfl).to, ?_⟩
  refine List.forall_mem_cons.mpr ⟨(s_get (ci := 9) (k := 2) (am_dp pw_X9_ringsOf_0 dd_X9_ringsOf_0b.2.2.2.1) rfl (by decide) wd493 inX9 rfl).to, ?_⟩
  refine List.forall_mem_cons.mpr ⟨(s_iloadn (am_dp pw_X9_ringsOf_0 dd_X9_ringsOf_0b.2.2.2.2.1) rfl).to, ?_⟩
  refine List.forall_mem_cons.mpr ⟨(s_aloadn (am_dp pw_X9_ringsOf_0 dd_X9_ringsOf_0b.2.2.2.2.2.1) rfl).to, ?_⟩
  refine List.forall_mem_cons.mpr ⟨(s_aas (am_dp pw_X9_ringsOf_0 dd_X9_ringsOf_0b.2.2.2.2.2.2.1)).to, ?_⟩
  refine List.forall_mem_cons.mpr ⟨(s_aloadn (am_dp pw_X9_ringsOf_0 dd_X9_ringsOf_0b.2.2.2.2.2.2.2) rfl).to, ?_⟩
  refine List.forall_mem_cons.mpr ⟨(s_get (ci := 9) (k := 3) (am_dp pw_X9_ringsOf_0 dd_X9_ringsOf_0c.1) rfl (by decide) wd494 inX9 rfl).to, ?_⟩
  refine List.forall_mem_cons.mpr ⟨(s_iloadn (am_dp pw_X9_ringsOf_0 dd_X9_ringsOf_0c.2.1) rfl).to, ?_⟩
  refine List.forall_mem_cons.mpr ⟨(s_zald (am_dp pw_X9_ringsOf_0 dd_X9_ringsOf_0c.2.2.1)).to, ?_⟩
  refine List.forall_mem_cons.mpr ⟨(s_if_eq (am_dp pw_X9_ringsOf_0 dd_X9_ringsOf_0c.2.2.2) (by decide)).to, ?_⟩
  refine List.forall_mem_cons.mpr ⟨(s_aloadn (am_dp pw_X9_ringsOf_32 dd_X9_ringsOf_32a.1) rfl).to, ?_⟩
  refine List.forall_mem_cons.mpr ⟨s_aret (am_dp pw_X9_ringsOf_32 dd_X9_ringsOf_32a.2.1) rfl (Or.inr ⟨_, rfl⟩), ?_⟩
  refine List.forall_mem_cons.mpr ⟨(s_aloadn (am_dp pw_X9_ringsOf_32 dd_X9_ringsOf_32a.2.2.1) rfl).to, ?_⟩
  refine List.forall_mem_cons.mpr ⟨(s_get (ci := 9) (k := 3) (am_dp pw_X9_ringsOf_32 dd_X9_ringsOf_32a.2.2.2.1) rfl (by decide) wd494 inX9 rfl).to, ?_⟩
  refine List.forall_mem_cons.mpr ⟨(s_iloadn (am_dp pw_X9_ringsOf_32 dd_X9_ringsOf_32a.2.2.2.2.1) rfl).to, ?_⟩
  refine List.forall_mem_cons.mpr ⟨(s_iconst (am_dp pw_X9_ringsOf_32 dd_X9_ringsOf_32a.2.2.2.2.2.1) (by decide)).to, ?_⟩
  refine List.forall_mem_cons.mpr ⟨(s_zast (am_dp pw_X9_ringsOf_32 dd_X9_ringsOf_32a.2.2.2.2.2.2.1)).to, ?_⟩
  refine List.forall_mem_cons.mpr ⟨(s_aloadn (am_dp pw_X9_ringsOf_32 dd_X9_ringsOf_32a.2.2.2.2.2.2.2) rfl).to, ?_⟩
  refine List.forall_mem_cons.mpr ⟨(s_lconst (am_dp pw_X9_ringsOf_32 dd_X9_ringsOf_32b.1) (by decide)).to, ?_⟩
  refine List.forall_mem_cons.mpr ⟨zw_cs322 (am_dp pw_X9_ringsOf_32 dd_X9_ringsOf_32b.2.1) wd898, ?_⟩
  refine List.forall_mem_cons.mpr ⟨(s_aloadn (am_dp pw_X9_ringsOf_32 dd_X9_ringsOf_32b.2.2.1) rfl).to, ?_⟩
  refine List.forall_mem_cons.mpr ⟨(s_iloadn (am_dp pw_X9_ringsOf_32 dd_X9_ringsOf_32b.2.2.2.1) rfl).to, ?_⟩
  refine List.forall_mem_cons.mpr ⟨(s_bipush (am_dp pw_X9_ringsOf_32 dd_X9_ringsOf_32b.2.2.2.2.1) (by decide)).to, ?_⟩
  refine List.forall_mem_cons.mpr ⟨(s_ishr (am_dp pw_X9_ringsOf_32 dd_X9_ringsOf_32b.2.2.2.2.2.1)).to, ?_⟩
  refine List.forall_mem_cons.mpr ⟨(s_lconst (am_dp pw_X9_ringsOf_32 dd_X9_ringsOf_32b.2.2.2.2.2.2.1) (by decide)).to, ?_⟩
  refine List.forall_mem_cons.mpr ⟨(s_iloadn (am_dp pw_X9_ringsOf_32 dd_X9_ringsOf_32b.2.2.2.2.2.2.2) rfl).to, ?_⟩
  refine List.forall_mem_cons.mpr ⟨(s_bipush (am_dp pw_X9_ringsOf_32 dd_X9_ringsOf_32c.1) (by decide)).to, ?_⟩
  refine List.forall_mem_cons.mpr ⟨(s_iand (am_dp pw_X9_ringsOf_32 dd_X9_ringsOf_32c.2.1)).to, ?_⟩
  refine List.forall_mem_cons.mpr ⟨(s_lshl (am_dp pw_X9_ringsOf_32 dd_X9_ringsOf_32c.2.2.1)).to, ?_⟩
  refine List.forall_mem_cons.mpr ⟨(s_aloadn (am_dp pw_X9_ringsOf_32 dd_X9_ringsOf_32c.2.2.2.1) rfl).to, ?_⟩
  refine List.forall_mem_cons.mpr ⟨(s_get (ci := 9) (k := 0) (am_dp pw_X9_ringsOf_32 dd_X9_ringsOf_32c.2.2.2.2.1) rfl (by decide) wd490 inX9 rfl).to, ?_⟩
  refine List.forall_mem_cons.mpr ⟨(s_iloadn (am_dp pw_X9_ringsOf_32 dd_X9_ringsOf_32c.2.2.2.2.2.1) rfl).to, ?_⟩
  refine List.forall_mem_cons.mpr ⟨(s_bipush (am_dp pw_X9_ringsOf_32 dd_X9_ringsOf_32c.2.2.2.2.2.2) (by decide)).to, ?_⟩
  refine List.forall_mem_cons.mpr ⟨(s_ishr (am_dp pw_X9_ringsOf_64 dd_X9_ringsOf_64a.1)).to, ?_⟩
  refine List.forall_mem_cons.mpr ⟨(s_lald (am_dp pw_X9_ringsOf_64 dd_X9_ringsOf_64a.2.1)).to, ?_⟩
  refine List.forall_mem_cons.mpr ⟨(s_land (am_dp pw_X9_ringsOf_64 dd_X9_ringsOf_64a.2.2.1)).to, ?_⟩
  refine List.forall_mem_cons.mpr ⟨(s_last (am_dp pw_X9_ringsOf_64 dd_X9_ringsOf_64a.2.2.2.1)).to, ?_⟩
  refine List.forall_mem_cons.mpr ⟨(s_iconst (am_dp pw_X9_ringsOf_64 dd_X9_ringsOf_64a.2.2.2.2.1) (by decide)).to, ?_⟩
  refine List.forall_mem_cons.mpr ⟨(s_istoren (am_dp pw_X9_ringsOf_64 dd_X9_ringsOf_64a.2.2.2.2.2.1) rfl (by decide)).to, ?_⟩
  refine List.forall_mem_cons.mpr ⟨(s_iconst (am_dp pw_X9_ringsOf_64 dd_X9_ringsOf_64a.2.2.2.2.2.2.1) (by decide)).to, ?_⟩
  refine List.forall_mem_cons.mpr ⟨(s_istore (am_dp pw_X9_ringsOf_64 dd_X9_ringsOf_64a.2.2.2.2.2.2.2) (by decide)).to, ?_⟩
  refine List.forall_mem_cons.mpr ⟨(s_iload (am_dp pw_X9_ringsOf_64 dd_X9_ringsOf_64b.1)).to, ?_⟩
  refine List.forall_mem_cons.mpr ⟨(s_sipush (am_dp pw_X9_ringsOf_64 dd_X9_ringsOf_64b.2.1) (by decide)).to, ?_⟩
  refine List.forall_mem_cons.mpr ⟨(s_icmp_ge (am_dp pw_X9_ringsOf_64 dd_X9_ringsOf_64b.2.2.1) (by decide)).to, ?_⟩
  refine List.forall_mem_cons.mpr ⟨(s_aloadn (am_dp pw_X9_ringsOf_64 dd_X9_ringsOf_64b.2.2.2.1) rfl).to, ?_⟩
  refine List.forall_mem_cons.mpr ⟨(s_iload (am_dp pw_X9_ringsOf_64 dd_X9_ringsOf_64b.2.2.2.2.1)).to, ?_⟩
  refine List.forall_mem_cons.mpr ⟨(s_iconst (am_dp pw_X9_ringsOf_64 dd_X9_ringsOf_64b.2.2.2.2.2.1) (by decide)).to, ?_⟩
  refine List.forall_mem_cons.mpr ⟨(s_isub (am_dp pw_X9_ringsOf_64 dd_X9_ringsOf_64b.2.2.2.2.2.2.1)).to, ?_⟩
  refine List.forall_mem_cons.mpr ⟨(s_aloadn (am_dp pw_X9_ringsOf_64 dd_X9_ringsOf_64b.2.2.2.2.2.2.2) rfl).to, ?_⟩
  refine List.forall_mem_cons.mpr ⟨(s_iload (am_dp pw_X9_ringsOf_64 dd_X9_ringsOf_64c.1)).to, ?_⟩
  exact fun _ h => absurd h List.not_mem_nil
theorem sn_tX9_ringsOf_1 : ∀ q ∈ tX9_ringsOf_1, am_Snd am_P0 RX9 cX9_ringsOf 6 (Option.some (FieldType.array FieldType.long)) "ringsOf" q.1 q.2 := by
  unfold tX9_ringsOf_1
  refine List.forall_mem_cons.mpr ⟨(s_iconst (am_dp pw_X9_ringsOf_64 dd_X9_ringsOf_64c.2.1) (by decide)).to, ?_⟩
  refine List.forall_mem_cons.mpr ⟨(s_cpl (am_dp pw_X9_ringsOf_64 dd_X9_ringsOf_64c.2.2.1) wd966 wd968 wd967 wd152).to, ?_⟩
  refine List.forall_mem_cons.mpr ⟨(s_iconst (am_dp pw_X9_ringsOf_64 dd_X9_ringsOf_64c.2.2.2.1) (by decide)).to, ?_⟩
  refine List.forall_mem_cons.mpr ⟨(s_istore (am_dp pw_X9_ringsOf_64 dd_X9_ringsOf_64c.2.2.2.2) (by decide)).to, ?_⟩
  refine List.forall_mem_cons.mpr ⟨(s_iloadn (am_dp pw_X9_ringsOf_96 dd_X9_ringsOf_96a.1) rfl).to, ?_⟩
  refine List.forall_mem_cons.mpr ⟨(s_if_eq (am_dp pw_X9_ringsOf_96 dd_X9_ringsOf_96a.2.1) (by decide)).to, ?_⟩
  refine List.forall_mem_cons.mpr ⟨(s_iload (am_dp pw_X9_ringsOf_96 dd_X9_ringsOf_96a.2.2.1)).to, ?_⟩
  refine List.forall_mem_cons.mpr ⟨(s_aloadn (am_dp pw_X9_ringsOf_96 dd_X9_ringsOf_96a.2.2.2.1) rfl).to, ?_⟩
  refine List.forall_mem_cons.mpr ⟨(s_get (ci := 9) (k := 1) (am_dp pw_X9_ringsOf_96 dd_X9_ringsOf_96a.2.2.2.2.1) rfl (by decide) wd492 inX9 rfl).to, ?_⟩
  refine List.forall_mem_cons.mpr ⟨(s_icmp_ge (am_dp pw_X9_ringsOf_96 dd_X9_ringsOf_96a.2.2.2.2.2.1) (by decide)).to, ?_⟩
  refine List.forall_mem_cons.mpr ⟨(s_aloadn (am_dp pw_X9_ringsOf_96 dd_X9_ringsOf_96a.2.2.2.2.2.2.1) rfl).to, ?_⟩
  refine List.forall_mem_cons.mpr ⟨(s_aloadn (am_dp pw_X9_ringsOf_96 dd_X9_ringsOf_96a.2.2.2.2.2.2.2) rfl).to, ?_⟩
  refine List.forall_mem_cons.mpr ⟨(s_iload (am_dp pw_X9_ringsOf_96 dd_X9_ringsOf_96b.1)).to, ?_⟩
  refine List.forall_mem_cons.mpr ⟨zw_cv106 (am_dp pw_X9_ringsOf_96 dd_X9_ringsOf_96b.2.1) wd969, ?_⟩
  refine List.forall_mem_cons.mpr ⟨(s_istoren (am_dp pw_X9_ringsOf_96 dd_X9_ringsOf_96b.2.2.1) rfl (by decide)).to, ?_⟩
  refine List.forall_mem_cons.mpr ⟨(s_iinc (am_dp pw_X9_ringsOf_96 dd_X9_ringsOf_96b.2.2.2.1) (by decide) (by decide)).to, ?_⟩
  refine List.forall_mem_cons.mpr ⟨(s_goto (am_dp pw_X9_ringsOf_96 dd_X9_ringsOf_96b.2.2.2.2.1) (by decide)).to, ?_⟩
  refine List.forall_mem_cons.mpr ⟨(s_iinc (am_dp pw_X9_ringsOf_96 dd_X9_ringsOf_96b.2.2.2.2.2.1) (by decide) (by decide)).to, ?_⟩
  refine List.forall_mem_cons.mpr ⟨(s_goto (am_dp pw_X9_ringsOf_96 dd_X9_ringsOf_96b.2.2.2.2.2.2) (by decide)).to, ?_⟩
  refine List.forall_mem_cons.mpr ⟨(s_aloadn (am_dp pw_X9_ringsOf_128 dd_X9_ringsOf_128a.1) rfl).to, ?_⟩
  refine List.forall_mem_cons.mpr ⟨s_aret (am_dp pw_X9_ringsOf_128 dd_X9_ringsOf_128a.2) rfl (Or.inr ⟨_, rfl⟩), ?_⟩
  exact fun _ h => absurd h List.not_mem_nil
theorem sn_tX9_ringsOf : ∀ q ∈ tX9_ringsOf, am_Snd am_P0 RX9 cX9_ringsOf 6 (Option.some (FieldType.array FieldType.long)) "ringsOf" q.1 q.2 := by
  unfold tX9_ringsOf
  exact List.forall_mem_append.mpr ⟨sn_tX9_ringsOf_0, sn_tX9_ringsOf_1⟩
theorem sn_tX9_widen_0 : ∀ q ∈ tX9_widen_0, am_Snd am_P0 RX9 cX9_widen 17 (Option.some FieldType.boolean) "widen" q.1 q.2 := by
  unfold tX9_widen_0
  refine List.forall_mem_cons.mpr ⟨(s_iconst (am_dp pw_X9_widen_0 dd_X9_widen_0a.1) (by decide)).to, ?_⟩
  refine List.forall_mem_cons.mpr ⟨(s_istoren (am_dp pw_X9_widen_0 dd_X9_widen_0a.2.1) rfl (by decide)).to, ?_⟩
  refine List.forall_mem_cons.mpr ⟨(s_lconst (am_dp pw_X9_widen_0 dd_X9_widen_0a.2.2.1) (by decide)).to, ?_⟩
  refine List.forall_mem_cons.mpr ⟨(s_lstore (am_dp pw_X9_widen_0 dd_X9_widen_0a.2.2.2.1) (by decide)).to, ?_⟩
  refine List.forall_mem_cons.mpr ⟨(s_iconst (am_dp pw_X9_widen_0 dd_X9_widen_0a.2.2.2.2.1) (by decide)).to, ?_⟩
  refine List.forall_mem_cons.mpr ⟨(s_istore (am_dp pw_X9_widen_0 dd_X9_widen_0a.2.2.2.2.2.1) (by decide)).to, ?_⟩
  refine List.forall_mem_cons.mpr ⟨(s_iload (am_dp pw_X9_widen_0 dd_X9_widen_0a.2.2.2.2.2.2.1)).to, ?_⟩
  refine List.forall_mem_cons.mpr ⟨(s_iconst (am_dp pw_X9_widen_0 dd_X9_widen_0a.2.2.2.2.2.2.2) (by decide)).to, ?_⟩
  refine List.forall_mem_cons.mpr ⟨(s_icmp_ge (am_dp pw_X9_widen_0 dd_X9_widen_0b.1) (by decide)).to, ?_⟩
  refine List.forall_mem_cons.mpr ⟨(s_aloadn (am_dp pw_X9_widen_0 dd_X9_widen_0b.2.1) rfl).to, ?_⟩
  refine List.forall_mem_cons.mpr ⟨(s_iloadn (am_dp pw_X9_widen_0 dd_X9_widen_0b.2.2.1) rfl).to, ?_⟩
  refine List.forall_mem_cons.mpr ⟨(s_iload (am_dp pw_X9_widen_0 dd_X9_widen_0b.2.2.2.1)).to, ?_⟩
  refine List.forall_mem_cons.mpr ⟨(s_iadd (am_dp pw_X9_widen_0 dd_X9_widen_0b.2.2.2.2.1)).to, ?_⟩
  refine List.forall_mem_cons.mpr ⟨(s_lald (am_dp pw_X9_widen_0 dd_X9_widen_0b.2.2.2.2.2.1)).to, ?_⟩
  refine List.forall_mem_cons.mpr ⟨(s_lstore (am_dp pw_X9_widen_0 dd_X9_widen_0b.2.2.2.2.2.2.1) (by decide)).to, ?_⟩
  refine List.forall_mem_cons.mpr ⟨(s_iload (am_dp pw_X9_widen_0 dd_X9_widen_0b.2.2.2.2.2.2.2)).to, ?_⟩
  refine List.forall_mem_cons.mpr ⟨(s_iconst (am_dp pw_X9_widen_0 dd_X9_widen_0c.1) (by decide)).to, ?_⟩
  refine List.forall_mem_cons.mpr ⟨(s_iadd (am_dp pw_X9_widen_0 dd_X9_widen_0c.2.1)).to, ?_⟩
  refine List.forall_mem_cons.mpr ⟨(s_iconst (am_dp pw_X9_widen_0 dd_X9_widen_0c.2.2.1) (by decide)).to, ?_⟩
  refine List.forall_mem_cons.mpr ⟨(s_icmp_ge (am_dp pw_X9_widen_0 dd_X9_widen_0c.2.2.2.1) (by decide)).to, ?_⟩
  refine List.forall_mem_cons.mpr ⟨(s_aloadn (am_dp pw_X9_widen_0 dd_X9_widen_0c.2.2.2.2.1) rfl).to, ?_⟩
  refine List.forall_mem_cons.mpr ⟨(s_iloadn (am_dp pw_X9_widen_0 dd_X9_widen_0c.2.2.2.2.2) rfl).to, ?_⟩
  refine List.forall_mem_cons.mpr ⟨(s_iload (am_dp pw_X9_widen_32 dd_X9_widen_32a.1)).to, ?_⟩
  refine List.forall_mem_cons.mpr ⟨(s_iadd (am_dp pw_X9_widen_32 dd_X9_widen_32a.2.1)).to, ?_⟩
  refine List.forall_mem_cons.mpr ⟨(s_iconst (am_dp pw_X9_widen_32 dd_X9_widen_32a.2.2.1) (by decide)).to, ?_⟩
  refine List.forall_mem_cons.mpr ⟨(s_iadd (am_dp pw_X9_widen_32 dd_X9_widen_32a.2.2.2.1)).to, ?_⟩
  refine List.forall_mem_cons.mpr ⟨(s_lald (am_dp pw_X9_widen_32 dd_X9_widen_32a.2.2.2.2.1)).to, ?_⟩
  refine List.forall_mem_cons.mpr ⟨(s_goto (am_dp pw_X9_widen_32 dd_X9_widen_32a.2.2.2.2.2.1) (by decide)).to, ?_⟩
  refine List.forall_mem_cons.mpr ⟨(s_lconst (am_dp pw_X9_widen_32 dd_X9_widen_32a.2.2.2.2.2.2.1) (by decide)).to, ?_⟩
  refine List.forall_mem_cons.mpr ⟨(s_lstore (am_dp pw_X9_widen_32 dd_X9_widen_32a.2.2.2.2.2.2.2) (by decide)).to, ?_⟩
  refine List.forall_mem_cons.mpr ⟨(s_lload (am_dp pw_X9_widen_32 dd_X9_widen_32b.1)).to, ?_⟩
  refine List.forall_mem_cons.mpr ⟨(s_iconst (am_dp pw_X9_widen_32 dd_X9_widen_32b.2.1) (by decide)).to, ?_⟩
  refine List.forall_mem_cons.mpr ⟨(s_lshl (am_dp pw_X9_widen_32 dd_X9_widen_32b.2.2.1)).to, ?_⟩
  refine List.forall_mem_cons.mpr ⟨(s_ldc2 (am_dp pw_X9_widen_32 dd_X9_widen_32b.2.2.2.1) wd973).to, ?_⟩
  refine List.forall_mem_cons.mpr ⟨(s_land (am_dp pw_X9_widen_32 dd_X9_widen_32b.2.2.2.2.1)).to, ?_⟩
  refine List.forall_mem_cons.mpr ⟨(s_lload (am_dp pw_X9_widen_32 dd_X9_widen_32b.2.2.2.2.2.1)).to, ?_⟩
  refine List.forall_mem_cons.mpr ⟨(s_iconst (am_dp pw_X9_widen_32 dd_X9_widen_32b.2.2.2.2.2.2.1) (by decide)).to, ?_⟩
  refine List.forall_mem_cons.mpr ⟨(s_lushr (am_dp pw_X9_widen_32 dd_X9_widen_32b.2.2.2.2.2.2.2)).to, ?_⟩
  refine List.forall_mem_cons.mpr ⟨(s_ldc2 (am_dp pw_X9_widen_32 dd_X9_widen_32c.1) wd974).to, ?_⟩
  refine List.forall_mem_cons.mpr ⟨(s_land (am_dp pw_X9_widen_32 dd_X9_widen_32c.2.1)).to, ?_⟩
  refine List.forall_mem_cons.mpr ⟨(s_lor (am_dp pw_X9_widen_32 dd_X9_widen_32c.2.2.1)).to, ?_⟩
  refine List.forall_mem_cons.mpr ⟨(s_lstore (am_dp pw_X9_widen_32 dd_X9_widen_32c.2.2.2.1) (by decide)).to, ?_⟩
  refine List.forall_mem_cons.mpr ⟨(s_lload (am_dp pw_X9_widen_32 dd_X9_widen_32c.2.2.2.2)).to, ?_⟩
  refine List.forall_mem_cons.mpr ⟨(s_bipush (am_dp pw_X9_widen_64 dd_X9_widen_64a.1) (by decide)).to, ?_⟩
  refine List.forall_mem_cons.mpr ⟨(s_lshl (am_dp pw_X9_widen_64 dd_X9_widen_64a.2.1)).to, ?_⟩
  refine List.forall_mem_cons.mpr ⟨(s_lload (am_dp pw_X9_widen_64 dd_X9_widen_64a.2.2.1)).to, ?_⟩
  refine List.forall_mem_cons.mpr ⟨(s_bipush (am_dp pw_X9_widen_64 dd_X9_widen_64a.2.2.2.1) (by decide)).to, ?_⟩
  refine List.forall_mem_cons.mpr ⟨(s_lushr (am_dp pw_X9_widen_64 dd_X9_widen_64a.2.2.2.2.1)).to, ?_⟩
  refine List.forall_mem_cons.mpr ⟨(s_lor (am_dp pw_X9_widen_64 dd_X9_widen_64a.2.2.2.2.2.1)).to, ?_⟩
  refine List.forall_mem_cons.mpr ⟨(s_lstore (am_dp pw_X9_widen_64 dd_X9_widen_64a.2.2.2.2.2.2.1) (by decide)).to, ?_⟩
  refine List.forall_mem_cons.mpr ⟨(s_lload (am_dp pw_X9_widen_64 dd_X9_widen_64a.2.2.2.2.2.2.2)).to, ?_⟩
  refine List.forall_mem_cons.mpr ⟨(s_bipush (am_dp pw_X9_widen_64 dd_X9_widen_64b.1) (by decide)).to, ?_⟩
  refine List.forall_mem_cons.mpr ⟨(s_lushr (am_dp pw_X9_widen_64 dd_X9_widen_64b.2.1)).to, ?_⟩
  refine List.forall_mem_cons.mpr ⟨(s_lload (am_dp pw_X9_widen_64 dd_X9_widen_64b.2.2.1)).to, ?_⟩
  refine List.forall_mem_cons.mpr ⟨(s_bipush (am_dp pw_X9_widen_64 dd_X9_widen_64b.2.2.2.1) (by decide)).to, ?_⟩
  refine List.forall_mem_cons.mpr ⟨(s_lshl (am_dp pw_X9_widen_64 dd_X9_widen_64b.2.2.2.2.1)).to, ?_⟩
  refine List.forall_mem_cons.mpr ⟨(s_lor (am_dp pw_X9_widen_64 dd_X9_widen_64b.2.2.2.2.2.1)).to, ?_⟩
  refine List.forall_mem_cons.mpr ⟨(s_lstore (am_dp pw_X9_widen_64 dd_X9_widen_64b.2.2.2.2.2.2.1) (by decide)).to, ?_⟩
  refine List.forall_mem_cons.mpr ⟨(s_aloadn (am_dp pw_X9_widen_64 dd_X9_widen_64b.2.2.2.2.2.2.2) rfl).to, ?_⟩
  refine List.forall_mem_cons.mpr ⟨(s_iloadn (am_dp pw_X9_widen_64 dd_X9_widen_64c.1) rfl).to, ?_⟩
  exact fun _ h => absurd h List.not_mem_nil
theorem sn_tX9_widen_1 : ∀ q ∈ tX9_widen_1, am_Snd am_P0 RX9 cX9_widen 17 (Option.some FieldType.boolean) "widen" q.1 q.2 := by
  unfold tX9_widen_1
  refine List.forall_mem_cons.mpr ⟨(s_iload (am_dp pw_X9_widen_64 dd_X9_widen_64c.2.1)).to, ?_⟩
  refine List.forall_mem_cons.mpr ⟨(s_iadd (am_dp pw_X9_widen_64 dd_X9_widen_64c.2.2.1)).to, ?_⟩
  refine List.forall_mem_cons.mpr ⟨(s_lload (am_dp pw_X9_widen_64 dd_X9_widen_64c.2.2.2)).to, ?_⟩
  refine List.forall_mem_cons.mpr ⟨(s_lload (am_dp pw_X9_widen_96 dd_X9_widen_96a.1)).to, ?_⟩
  refine List.forall_mem_cons.mpr ⟨(s_lor (am_dp pw_X9_widen_96 dd_X9_widen_96a.2.1)).to, ?_⟩
  refine List.forall_mem_cons.mpr ⟨(s_lload (am_dp pw_X9_widen_96 dd_X9_widen_96a.2.2.1)).to, ?_⟩
  refine List.forall_mem_cons.mpr ⟨(s_lor (am_dp pw_X9_widen_96 dd_X9_widen_96a.2.2.2.1)).to, ?_⟩
  refine List.forall_mem_cons.mpr ⟨(s_lload (am_dp pw_X9_widen_96 dd_X9_widen_96a.2.2.2.2.1)).to, ?_⟩
  refine List.forall_mem_cons.mpr ⟨(s_lor (am_dp pw_X9_widen_96 dd_X9_widen_96a.2.2.2.2.2.1)).to, ?_⟩
  refine List.forall_mem_cons.mpr ⟨(s_aloadn (am_dp pw_X9_widen_96 dd_X9_widen_96a.2.2.2.2.2.2.1) rfl).to, ?_⟩
  refine List.forall_mem_cons.mpr ⟨(s_get (ci := 9) (k := 0) (am_dp pw_X9_widen_96 dd_X9_widen_96a.2.2.2.2.2.2.2) rfl (by decide) wd490 inX9 rfl).to, ?_⟩
  refine List.forall_mem_cons.mpr ⟨(s_iload (am_dp pw_X9_widen_96 dd_X9_widen_96b.1)).to, ?_⟩
  refine List.forall_mem_cons.mpr ⟨(s_lald (am_dp pw_X9_widen_96 dd_X9_widen_96b.2.1)).to, ?_⟩
  refine List.forall_mem_cons.mpr ⟨(s_land (am_dp pw_X9_widen_96 dd_X9_widen_96b.2.2.1)).to, ?_⟩
  refine List.forall_mem_cons.mpr ⟨(s_last (am_dp pw_X9_widen_96 dd_X9_widen_96b.2.2.2.1)).to, ?_⟩
  refine List.forall_mem_cons.mpr ⟨(s_iloadn (am_dp pw_X9_widen_96 dd_X9_widen_96b.2.2.2.2.1) rfl).to, ?_⟩
  refine List.forall_mem_cons.mpr ⟨(s_aloadn (am_dp pw_X9_widen_96 dd_X9_widen_96b.2.2.2.2.2.1) rfl).to, ?_⟩
  refine List.forall_mem_cons.mpr ⟨(s_iloadn (am_dp pw_X9_widen_96 dd_X9_widen_96b.2.2.2.2.2.2.1) rfl).to, ?_⟩
  refine List.forall_mem_cons.mpr ⟨(s_iload (am_dp pw_X9_widen_96 dd_X9_widen_96b.2.2.2.2.2.2.2)).to, ?_⟩
  refine List.forall_mem_cons.mpr ⟨(s_iadd (am_dp pw_X9_widen_96 dd_X9_widen_96c.1)).to, ?_⟩
  refine List.forall_mem_cons.mpr ⟨(s_lald (am_dp pw_X9_widen_96 dd_X9_widen_96c.2.1)).to, ?_⟩
  refine List.forall_mem_cons.mpr ⟨(s_lload (am_dp pw_X9_widen_96 dd_X9_widen_96c.2.2.1)).to, ?_⟩
  refine List.forall_mem_cons.mpr ⟨(s_lcmp (am_dp pw_X9_widen_96 dd_X9_widen_96c.2.2.2.1)).to, ?_⟩
  refine List.forall_mem_cons.mpr ⟨(s_if_eq (am_dp pw_X9_widen_96 dd_X9_widen_96c.2.2.2.2.1) (by decide)).to, ?_⟩
  refine List.forall_mem_cons.mpr ⟨(s_iconst (am_dp pw_X9_widen_96 dd_X9_widen_96c.2.2.2.2.2) (by decide)).to, ?_⟩
  refine List.forall_mem_cons.mpr ⟨(s_goto (am_dp pw_X9_widen_128 dd_X9_widen_128a.1) (by decide)).to, ?_⟩
  refine List.forall_mem_cons.mpr ⟨(s_iconst (am_dp pw_X9_widen_128 dd_X9_widen_128a.2.1) (by decide)).to, ?_⟩
  refine List.forall_mem_cons.mpr ⟨(s_ior (am_dp pw_X9_widen_128 dd_X9_widen_128a.2.2.1)).to, ?_⟩
  refine List.forall_mem_cons.mpr ⟨(s_istoren (am_dp pw_X9_widen_128 dd_X9_widen_128a.2.2.2.1) rfl (by decide)).to, ?_⟩
  refine List.forall_mem_cons.mpr ⟨(s_lload (am_dp pw_X9_widen_128 dd_X9_widen_128a.2.2.2.2.1)).to, ?_⟩
  refine List.forall_mem_cons.mpr ⟨(s_lstore (am_dp pw_X9_widen_128 dd_X9_widen_128a.2.2.2.2.2.1) (by decide)).to, ?_⟩
  refine List.forall_mem_cons.mpr ⟨(s_iinc (am_dp pw_X9_widen_128 dd_X9_widen_128a.2.2.2.2.2.2.1) (by decide) (by decide)).to, ?_⟩
  refine List.forall_mem_cons.mpr ⟨(s_goto (am_dp pw_X9_widen_128 dd_X9_widen_128a.2.2.2.2.2.2.2) (by decide)).to, ?_⟩
  refine List.forall_mem_cons.mpr ⟨(s_iloadn (am_dp pw_X9_widen_128 dd_X9_widen_128b.1) rfl).to, ?_⟩
  refine List.forall_mem_cons.mpr ⟨s_zret (am_dp pw_X9_widen_128 dd_X9_widen_128b.2) rfl, ?_⟩
  exact fun _ h => absurd h List.not_mem_nil
theorem sn_tX9_widen : ∀ q ∈ tX9_widen, am_Snd am_P0 RX9 cX9_widen 17 (Option.some FieldType.boolean) "widen" q.1 q.2 := by
  unfold tX9_widen
  exact List.forall_mem_append.mpr ⟨sn_tX9_widen_0, sn_tX9_widen_1⟩
theorem sn_tX9_hoursBetween_0 : ∀ q ∈ tX9_hoursBetween_0, am_Snd am_P0 RX9 cX9_hoursBetween 4 (Option.some FieldType.int) "hoursBetween" q.1 q.2 := by
  unfold tX9_hoursBetween_0
  refine List.forall_mem_cons.mpr ⟨(s_aloadn (am_dp pw_X9_hoursBetween_0 dd_X9_hoursBetween_0a.1) rfl).to, ?_⟩
  refine List.forall_mem_cons.mpr ⟨(s_iloadn (am_dp pw_X9_hoursBetween_0 dd_X9_hoursBetween_0a.2.1) rfl).to, ?_⟩
  refine List.forall_mem_cons.mpr ⟨zw_cv103 (am_dp pw_X9_hoursBetween_0 dd_X9_hoursBetween_0a.2.2.1) wd1048, ?_⟩
  refine List.forall_mem_cons.mpr ⟨(s_if_eq (am_dp pw_X9_hoursBetween_0 dd_X9_hoursBetween_0a.2.2.2.1) (by decide)).to, ?_⟩
  refine List.forall_mem_cons.mpr ⟨(s_aloadn (am_dp pw_X9_hoursBetween_0 dd_X9_hoursBetween_0a.2.2.2.2.1) rfl).to, ?_⟩
  refine List.forall_mem_cons.mpr ⟨(s_iloadn (am_dp pw_X9_hoursBetween_0 dd_X9_hoursBetween_0a.2.2.2.2.2.1) rfl).to, ?_⟩
  refine List.forall_mem_cons.mpr ⟨zw_cv103 (am_dp pw_X9_hoursBetween_0 dd_X9_hoursBetween_0a.2.2.2.2.2.2.1) wd1048, ?_⟩
  refine List.forall_mem_cons.mpr ⟨(s_if_ne (am_dp pw_X9_hoursBetween_0 dd_X9_hoursBetween_0a.2.2.2.2.2.2.2) (by decide)).to, ?_⟩
  refine List.forall_mem_cons.mpr ⟨(s_iconst (am_dp pw_X9_hoursBetween_0 dd_X9_hoursBetween_0b.1) (by decide)).to, ?_⟩
  refine List.forall_mem_cons.mpr ⟨s_iret (am_dp pw_X9_hoursBetween_0 dd_X9_hoursBetween_0b.2.1) rfl, ?_⟩
  refine List.forall_mem_cons.mpr ⟨(s_aloadn (am_dp pw_X9_hoursBetween_0 dd_X9_hoursBetween_0b.2.2.1) rfl).to, ?_⟩
  refine List.forall_mem_cons.mpr ⟨(s_get (ci := 9) (k := 4) (am_dp pw_X9_hoursBetween_0 dd_X9_hoursBetween_0b.2.2.2.1) rfl (by decide) wd495 inX9 rfl).to, ?_⟩
  refine List.forall_mem_cons.mpr ⟨(s_lconst (am_dp pw_X9_hoursBetween_0 dd_X9_hoursBetween_0b.2.2.2.2.1) (by decide)).to, ?_⟩
  refine List.forall_mem_cons.mpr ⟨zw_cs322 (am_dp pw_X9_hoursBetween_0 dd_X9_hoursBetween_0b.2.2.2.2.2.1) wd898, ?_⟩
  refine List.forall_mem_cons.mpr ⟨(s_aloadn (am_dp pw_X9_hoursBetween_0 dd_X9_hoursBetween_0b.2.2.2.2.2.2.1) rfl).to, ?_⟩
  refine List.forall_mem_cons.mpr ⟨(s_get (ci := 9) (k := 4) (am_dp pw_X9_hoursBetween_0 dd_X9_hoursBetween_0b.2.2.2.2.2.2.2) rfl (by decide) wd495 inX9 rfl).to, ?_⟩
  refine List.forall_mem_cons.mpr ⟨(s_iloadn (am_dp pw_X9_hoursBetween_0 dd_X9_hoursBetween_0c.1) rfl).to, ?_⟩
  refine List.forall_mem_cons.mpr ⟨(s_bipush (am_dp pw_X9_hoursBetween_0 dd_X9_hoursBetween_0c.2) (by decide)).to, ?_⟩
  refine List.forall_mem_cons.mpr ⟨(s_ishr (am_dp pw_X9_hoursBetween_32 dd_X9_hoursBetween_32a.1)).to, ?_⟩
  refine List.forall_mem_cons.mpr ⟨(s_lconst (am_dp pw_X9_hoursBetween_32 dd_X9_hoursBetween_32a.2.1) (by decide)).to, ?_⟩
  refine List.forall_mem_cons.mpr ⟨(s_iloadn (am_dp pw_X9_hoursBetween_32 dd_X9_hoursBetween_32a.2.2.1) rfl).to, ?_⟩
  refine List.forall_mem_cons.mpr ⟨(s_bipush (am_dp pw_X9_hoursBetween_32 dd_X9_hoursBetween_32a.2.2.2.1) (by decide)).to, ?_⟩
  refine List.forall_mem_cons.mpr ⟨(s_iand (am_dp pw_X9_hoursBetween_32 dd_X9_hoursBetween_32a.2.2.2.2.1)).to, ?_⟩
  refine List.forall_mem_cons.mpr ⟨(s_lshl (am_dp pw_X9_hoursBetween_32 dd_X9_hoursBetween_32a.2.2.2.2.2.1)).to, ?_⟩
  refine List.forall_mem_cons.mpr ⟨(s_last (am_dp pw_X9_hoursBetween_32 dd_X9_hoursBetween_32a.2.2.2.2.2.2.1)).to, ?_⟩
  refine List.forall_mem_cons.mpr ⟨(s_iconst (am_dp pw_X9_hoursBetween_32 dd_X9_hoursBetween_32a.2.2.2.2.2.2.2) (by decide)).to, ?_⟩
  refine List.forall_mem_cons.mpr ⟨(s_istoren (am_dp pw_X9_hoursBetween_32 dd_X9_hoursBetween_32b.1) rfl (by decide)).to, ?_⟩
  refine List.forall_mem_cons.mpr ⟨(s_iloadn (am_dp pw_X9_hoursBetween_32 dd_X9_hoursBetween_32b.2.1) rfl).to, ?_⟩
  refine List.forall_mem_cons.mpr ⟨(s_sipush (am_dp pw_X9_hoursBetween_32 dd_X9_hoursBetween_32b.2.2.1) (by decide)).to, ?_⟩
  refine List.forall_mem_cons.mpr ⟨(s_icmp_ge (am_dp pw_X9_hoursBetween_32 dd_X9_hoursBetween_32b.2.2.2.1) (by decide)).to, ?_⟩
  refine List.forall_mem_cons.mpr ⟨(s_aloadn (am_dp pw_X9_hoursBetween_32 dd_X9_hoursBetween_32b.2.2.2.2.1) rfl).to, ?_⟩
  refine List.forall_mem_cons.mpr ⟨(s_get (ci := 9) (k := 4) (am_dp pw_X9_hoursBetween_32 dd_X9_hoursBetween_32b.2.2.2.2.2.1) rfl (by decide) wd495 inX9 rfl).to, ?_⟩
  refine List.forall_mem_cons.mpr ⟨(s_iloadn (am_dp pw_X9_hoursBetween_32 dd_X9_hoursBetween_32b.2.2.2.2.2.2.1) rfl).to, ?_⟩
  refine List.forall_mem_cons.mpr ⟨(s_bipush (am_dp pw_X9_hoursBetween_32 dd_X9_hoursBetween_32b.2.2.2.2.2.2.2) (by decide)).to, ?_⟩
  refine List.forall_mem_cons.mpr ⟨(s_ishr (am_dp pw_X9_hoursBetween_32 dd_X9_hoursBetween_32c.1)).to, ?_⟩
  refine List.forall_mem_cons.mpr ⟨(s_lald (am_dp pw_X9_hoursBetween_32 dd_X9_hoursBetween_32c.2.1)).to, ?_⟩
  refine List.forall_mem_cons.mpr ⟨(s_iloadn (am_dp pw_X9_hoursBetween_32 dd_X9_hoursBetween_32c.2.2.1) rfl).to, ?_⟩
  refine List.forall_mem_cons.mpr ⟨(s_bipush (am_dp pw_X9_hoursBetween_32 dd_X9_hoursBetween_32c.2.2.2.1) (by decide)).to, ?_⟩
  refine List.forall_mem_cons.mpr ⟨(s_iand (am_dp pw_X9_hoursBetween_32 dd_X9_hoursBetween_32c.2.2.2.2.1)).to, ?_⟩
  refine List.forall_mem_cons.mpr ⟨(s_lushr (am_dp pw_X9_hoursBetween_32 dd_X9_hoursBetween_32c.2.2.2.2.2)).to, ?_⟩
  refine List.forall_mem_cons.mpr ⟨(s_lconst (am_dp pw_X9_hoursBetween_64 dd_X9_hoursBetween_64a.1) (by decide)).to, ?_⟩
  refine List.forall_mem_cons.mpr ⟨(s_land (am_dp pw_X9_hoursBetween_64 dd_X9_hoursBetween_64a.2.1)).to, ?_⟩
  refine List.forall_mem_cons.mpr ⟨(s_lconst (am_dp pw_X9_hoursBetween_64 dd_X9_hoursBetween_64a.2.2.1) (by decide)).to, ?_⟩
  refine List.forall_mem_cons.mpr ⟨(s_lcmp (am_dp pw_X9_hoursBetween_64 dd_X9_hoursBetween_64a.2.2.2.1)).to, ?_⟩
  refine List.forall_mem_cons.mpr ⟨(s_if_eq (am_dp pw_X9_hoursBetween_64 dd_X9_hoursBetween_64a.2.2.2.2.1) (by decide)).to, ?_⟩
  refine List.forall_mem_cons.mpr ⟨(s_iloadn (am_dp pw_X9_hoursBetween_64 dd_X9_hoursBetween_64a.2.2.2.2.2.1) rfl).to, ?_⟩
  refine List.forall_mem_cons.mpr ⟨(s_aloadn (am_dp pw_X9_hoursBetween_64 dd_X9_hoursBetween_64a.2.2.2.2.2.2.1) rfl).to, ?_⟩
  refine List.forall_mem_cons.mpr ⟨(s_get (ci := 9) (k := 1) (am_dp pw_X9_hoursBetween_64 dd_X9_hoursBetween_64a.2.2.2.2.2.2.2) rfl (by decide) wd492 inX9 rfl).to, ?_⟩
  refine List.forall_mem_cons.mpr ⟨(s_iadd (am_dp pw_X9_hoursBetween_64 dd_X9_hoursBetween_64b.1)).to, ?_⟩
  refine List.forall_mem_cons.mpr ⟨(s_iconst (am_dp pw_X9_hoursBetween_64 dd_X9_hoursBetween_64b.2.1) (by decide)).to, ?_⟩
  refine List.forall_mem_cons.mpr ⟨(s_isub (am_dp pw_X9_hoursBetween_64 dd_X9_hoursBetween_64b.2.2.1)).to, ?_⟩
  refine List.forall_mem_cons.mpr ⟨(s_aloadn (am_dp pw_X9_hoursBetween_64 dd_X9_hoursBetween_64b.2.2.2.1) rfl).to, ?_⟩
  refine List.forall_mem_cons.mpr ⟨(s_get (ci := 9) (k := 1) (am_dp pw_X9_hoursBetween_64 dd_X9_hoursBetween_64b.2.2.2.2.1) rfl (by decide) wd492 inX9 rfl).to, ?_⟩
  refine List.forall_mem_cons.mpr ⟨(s_idiv (am_dp pw_X9_hoursBetween_64 dd_X9_hoursBetween_64b.2.2.2.2.2.1)).to, ?_⟩
  refine List.forall_mem_cons.mpr ⟨s_iret (am_dp pw_X9_hoursBetween_64 dd_X9_hoursBetween_64b.2.2.2.2.2.2.1) rfl, ?_⟩
  refine List.forall_mem_cons.mpr ⟨(s_aloadn (am_dp pw_X9_hoursBetween_64 dd_X9_hoursBetween_64b.2.2.2.2.2.2.2) rfl).to, ?_⟩
  refine List.forall_mem_cons.mpr ⟨(s_aloadn (am_dp pw_X9_hoursBetween_64 dd_X9_hoursBetween_64c.1) rfl).to, ?_⟩
  refine List.forall_mem_cons.mpr ⟨(s_get (ci := 9) (k := 4) (am_dp pw_X9_hoursBetween_64 dd_X9_hoursBetween_64c.2.1) rfl (by decide) wd495 inX9 rfl).to, ?_⟩
  refine List.forall_mem_cons.mpr ⟨(s_iconst (am_dp pw_X9_hoursBetween_64 dd_X9_hoursBetween_64c.2.2.1) (by decide)).to, ?_⟩
  refine List.forall_mem_cons.mpr ⟨zw_cv106 (am_dp pw_X9_hoursBetween_64 dd_X9_hoursBetween_64c.2.2.2.1) wd969, ?_⟩
  exact fun _ h => absurd h List.not_mem_nil
theorem sn_tX9_hoursBetween_1 : ∀ q ∈ tX9_hoursBetween_1, am_Snd am_P0 RX9 cX9_hoursBetween 4 (Option.some FieldType.int) "hoursBetween" q.1 q.2 := by
  unfold tX9_hoursBetween_1
  refine List.forall_mem_cons.mpr ⟨(s_if_ne (am_dp pw_X9_hoursBetween_64 dd_X9_hoursBetween_64c.2.2.2.2) (by decide)).to, ?_⟩
  refine List.forall_mem_cons.mpr ⟨(s_iconst (am_dp pw_X9_hoursBetween_96 dd_X9_hoursBetween_96a.1) (by decide)).to, ?_⟩
  refine List.forall_mem_cons.mpr ⟨s_iret (am_dp pw_X9_hoursBetween_96 dd_X9_hoursBetween_96a.2.1) rfl, ?_⟩
  refine List.forall_mem_cons.mpr ⟨(s_iinc (am_dp pw_X9_hoursBetween_96 dd_X9_hoursBetween_96a.2.2.1) (by decide) (by decide)).to, ?_⟩
  refine List.forall_mem_cons.mpr ⟨(s_goto (am_dp pw_X9_hoursBetween_96 dd_X9_hoursBetween_96a.2.2.2.1) (by decide)).to, ?_⟩
  refine List.forall_mem_cons.mpr ⟨(s_iconst (am_dp pw_X9_hoursBetween_96 dd_X9_hoursBetween_96a.2.2.2.2.1) (by decide)).to, ?_⟩
  refine List.forall_mem_cons.mpr ⟨s_iret (am_dp pw_X9_hoursBetween_96 dd_X9_hoursBetween_96a.2.2.2.2.2) rfl, ?_⟩
  exact fun _ h => absurd h List.not_mem_nil
theorem sn_tX9_hoursBetween : ∀ q ∈ tX9_hoursBetween, am_Snd am_P0 RX9 cX9_hoursBetween 4 (Option.some FieldType.int) "hoursBetween" q.1 q.2 := by
  unfold tX9_hoursBetween
  exact List.forall_mem_append.mpr ⟨sn_tX9_hoursBetween_0, sn_tX9_hoursBetween_1⟩
theorem sn_tX10_init_0 : ∀ q ∈ tX10_init_0, am_Snd am_P0 RX10 cX10_init 2 (Option.none : Option FieldType) "<init>" q.1 q.2 := by
  unfold tX10_init_0
  refine List.forall_mem_cons.mpr ⟨(s_aloadn (am_dp pw_X10_init_0 dd_X10_init_0a.1) rfl).to, ?_⟩
  refine List.forall_mem_cons.mpr ⟨(s_obj (am_dp pw_X10_init_0 dd_X10_init_0a.2.1) wd159 wd160 wd161).to, ?_⟩
  refine List.forall_mem_cons.mpr ⟨(s_aloadn (am_dp pw_X10_init_0 dd_X10_init_0a.2.2.1) rfl).to, ?_⟩
  refine List.forall_mem_cons.mpr ⟨(s_sipush (am_dp pw_X10_init_0 dd_X10_init_0a.2.2.2.1) (by decide)).to, ?_⟩
  refine List.forall_mem_cons.mpr ⟨(s_newa (kd := 0) (ty := .int) (am_dp pw_X10_init_0 dd_X10_init_0a.2.2.2.2.1) rfl rfl wd195 (by decide) (by decide) (fun _ _ h => h)).to, ?_⟩
  refine List.forall_mem_cons.mpr ⟨(s_putF (ci := 10) (k := 0) (am_dp pw_X10_init_0 dd_X10_init_0a.2.2.2.2.2.1) rfl (by decide) wd579 inX10 tyX10_ok nmX10 rfl rfl rfl rfl).to, ?_⟩
  refine List.forall_mem_cons.mpr ⟨(s_aloadn (am_dp pw_X10_init_0 dd_X10_init_0a.2.2.2.2.2.2.1) rfl).to, ?_⟩
  refine List.forall_mem_cons.mpr ⟨(s_new (ci := 5) (am_dp pw_X10_init_0 dd_X10_init_0a.2.2.2.2.2.2.2) rfl wd162 wd163 wd135 inX5 tyX5_ok (by decide)).to, ?_⟩
  refine List.forall_mem_cons.mpr ⟨(s_dup (am_dp pw_X10_init_0 dd_X10_init_0b.1)).to, ?_⟩
  refine List.forall_mem_cons.mpr ⟨z_ci (ci := 5) (am_dp pw_X10_init_0 dd_X10_init_0b.2.1) mt51 wd164 rfl rfl, ?_⟩
  refine List.forall_mem_cons.mpr ⟨(s_put (ci := 10) (k := 2) (am_dp pw_X10_init_0 dd_X10_init_0b.2.2.1) rfl (by decide) wd581 inX10 tyX10_ok nmX10 rfl rfl).to, ?_⟩
  refine List.forall_mem_cons.mpr ⟨(s_aloadn (am_dp pw_X10_init_0 dd_X10_init_0b.2.2.2.1) rfl).to, ?_⟩
  refine List.forall_mem_cons.mpr ⟨(s_new (ci := 5) (am_dp pw_X10_init_0 dd_X10_init_0b.2.2.2.2.1) rfl wd162 wd163 wd135 inX5 tyX5_ok (by decide)).to, ?_⟩
  refine List.forall_mem_cons.mpr ⟨(s_dup (am_dp pw_X10_init_0 dd_X10_init_0b.2.2.2.2.2.1)).to, ?_⟩
  refine List.forall_mem_cons.mpr ⟨z_ci (ci := 5) (am_dp pw_X10_init_0 dd_X10_init_0b.2.2.2.2.2.2) mt51 wd164 rfl rfl, ?_⟩
  refine List.forall_mem_cons.mpr ⟨(s_put (ci := 10) (k := 3) (am_dp pw_X10_init_32 dd_X10_init_32a.1) rfl (by decide) wd582 inX10 tyX10_ok nmX10 rfl rfl).to, ?_⟩
  refine List.forall_mem_cons.mpr ⟨(s_aloadn (am_dp pw_X10_init_32 dd_X10_init_32a.2.1) rfl).to, ?_⟩
  refine List.forall_mem_cons.mpr ⟨(s_new (ci := 2) (am_dp pw_X10_init_32 dd_X10_init_32a.2.2.1) rfl wd367 wd368 wd140 inX2 tyX2_ok (by decide)).to, ?_⟩
  refine List.forall_mem_cons.mpr ⟨(s_dup (am_dp pw_X10_init_32 dd_X10_init_32a.2.2.2.1)).to, ?_⟩
  refine List.forall_mem_cons.mpr ⟨(s_aloadn (am_dp pw_X10_init_32 dd_X10_init_32a.2.2.2.2.1) rfl).to, ?_⟩
  refine List.forall_mem_cons.mpr ⟨(s_get (ci := 10) (k := 3) (am_dp pw_X10_init_32 dd_X10_init_32a.2.2.2.2.2.1) rfl (by decide) wd582 inX10 rfl).to, ?_⟩
  refine List.forall_mem_cons.mpr ⟨z_ci (ci := 2) (am_dp pw_X10_init_32 dd_X10_init_32a.2.2.2.2.2.2.1) mt9 wd369 rfl rfl, ?_⟩
  refine List.forall_mem_cons.mpr ⟨(s_putF (ci := 10) (k := 4) (am_dp pw_X10_init_32 dd_X10_init_32a.2.2.2.2.2.2.2) rfl (by decide) wd583 inX10 tyX10_ok nmX10 rfl rfl rfl rfl).to, ?_⟩
  refine List.forall_mem_cons.mpr ⟨(s_aloadn (am_dp pw_X10_init_32 dd_X10_init_32b.1) rfl).to, ?_⟩
  refine List.forall_mem_cons.mpr ⟨(s_iconst (am_dp pw_X10_init_32 dd_X10_init_32b.2.1) (by decide)).to, ?_⟩
  refine List.forall_mem_cons.mpr ⟨(s_put (ci := 10) (k := 6) (am_dp pw_X10_init_32 dd_X10_init_32b.2.2.1) rfl (by decide) wd585 inX10 tyX10_ok nmX10 rfl rfl).to, ?_⟩
  refine List.forall_mem_cons.mpr ⟨(s_aloadn (am_dp pw_X10_init_32 dd_X10_init_32b.2.2.2.1) rfl).to, ?_⟩
  refine List.forall_mem_cons.mpr ⟨(s_bipush (am_dp pw_X10_init_32 dd_X10_init_32b.2.2.2.2.1) (by decide)).to, ?_⟩
  refine List.forall_mem_cons.mpr ⟨(s_newq (kd := 4) (am_dp pw_X10_init_32 dd_X10_init_32b.2.2.2.2.2.1) rfl wd475 (fun _ _ h => h.2.2.2.2.1)).to, ?_⟩
  refine List.forall_mem_cons.mpr ⟨(s_putF (ci := 10) (k := 7) (am_dp pw_X10_init_32 dd_X10_init_32b.2.2.2.2.2.2) rfl (by decide) wd586 inX10 tyX10_ok nmX10 rfl rfl rfl rfl).to, ?_⟩
  refine List.forall_mem_cons.mpr ⟨(s_aloadn (am_dp pw_X10_init_64 dd_X10_init_64a.1) rfl).to, ?_⟩
  refine List.forall_mem_cons.mpr ⟨(s_iconst (am_dp pw_X10_init_64 dd_X10_init_64a.2.1) (by decide)).to, ?_⟩
  refine List.forall_mem_cons.mpr ⟨(s_newa (kd := 0) (ty := .int) (am_dp pw_X10_init_64 dd_X10_init_64a.2.2.1) rfl rfl wd195 (by decide) (by decide) (fun _ _ h => h)).to, ?_⟩
  refine List.forall_mem_cons.mpr ⟨(s_putF (ci := 10) (k := 8) (am_dp pw_X10_init_64 dd_X10_init_64a.2.2.2.1) rfl (by decide) wd587 inX10 tyX10_ok nmX10 rfl rfl rfl rfl).to, ?_⟩
  refine List.forall_mem_cons.mpr ⟨(s_aloadn (am_dp pw_X10_init_64 dd_X10_init_64a.2.2.2.2.1) rfl).to, ?_⟩
  refine List.forall_mem_cons.mpr ⟨(s_sipush (am_dp pw_X10_init_64 dd_X10_init_64a.2.2.2.2.2.1) (by decide)).to, ?_⟩
  refine List.forall_mem_cons.mpr ⟨(s_newa (kd := 0) (ty := .int) (am_dp pw_X10_init_64 dd_X10_init_64a.2.2.2.2.2.2.1) rfl rfl wd195 (by decide) (by decide) (fun _ _ h => h)).to, ?_⟩
  refine List.forall_mem_cons.mpr ⟨(s_putF (ci := 10) (k := 9) (am_dp pw_X10_init_64 dd_X10_init_64a.2.2.2.2.2.2.2) rfl (by decide) wd588 inX10 tyX10_ok nmX10 rfl rfl rfl rfl).to, ?_⟩
  refine List.forall_mem_cons.mpr ⟨(s_aloadn (am_dp pw_X10_init_64 dd_X10_init_64b.1) rfl).to, ?_⟩
  refine List.forall_mem_cons.mpr ⟨(s_bipush (am_dp pw_X10_init_64 dd_X10_init_64b.2.1) (by decide)).to, ?_⟩
  refine List.forall_mem_cons.mpr ⟨(s_newa (kd := 1) (ty := .long) (am_dp pw_X10_init_64 dd_X10_init_64b.2.2.1) rfl rfl wd303 (by decide) (by decide) (fun _ _ h => h)).to, ?_⟩
  refine List.forall_mem_cons.mpr ⟨(s_putF (ci := 10) (k := 11) (am_dp pw_X10_init_64 dd_X10_init_64b.2.2.2.1) rfl (by decide) wd590 inX10 tyX10_ok nmX10 rfl rfl rfl rfl).to, ?_⟩
  refine List.forall_mem_cons.mpr ⟨(s_aloadn (am_dp pw_X10_init_64 dd_X10_init_64b.2.2.2.2.1) rfl).to, ?_⟩
  refine List.forall_mem_cons.mpr ⟨(s_bipush (am_dp pw_X10_init_64 dd_X10_init_64b.2.2.2.2.2.1) (by decide)).to, ?_⟩
  refine List.forall_mem_cons.mpr ⟨(s_newa (kd := 1) (ty := .long) (am_dp pw_X10_init_64 dd_X10_init_64b.2.2.2.2.2.2.1) rfl rfl wd303 (by decide) (by decide) (fun _ _ h => h)).to, ?_⟩
  refine List.forall_mem_cons.mpr ⟨(s_putF (ci := 10) (k := 12) (am_dp pw_X10_init_64 dd_X10_init_64b.2.2.2.2.2.2.2) rfl (by decide) wd591 inX10 tyX10_ok nmX10 rfl rfl rfl rfl).to, ?_⟩
  refine List.forall_mem_cons.mpr ⟨(s_aloadn (am_dp pw_X10_init_96 dd_X10_init_96a.1) rfl).to, ?_⟩
  refine List.forall_mem_cons.mpr ⟨(s_iconst (am_dp pw_X10_init_96 dd_X10_init_96a.2.1) (by decide)).to, ?_⟩
  refine List.forall_mem_cons.mpr ⟨(s_put (ci := 10) (k := 14) (am_dp pw_X10_init_96 dd_X10_init_96a.2.2.1) rfl (by decide) wd593 inX10 tyX10_ok nmX10 rfl rfl).to, ?_⟩
  refine List.forall_mem_cons.mpr ⟨(s_aloadn (am_dp pw_X10_init_96 dd_X10_init_96a.2.2.2.1) rfl).to, ?_⟩
  refine List.forall_mem_cons.mpr ⟨(s_iconst (am_dp pw_X10_init_96 dd_X10_init_96a.2.2.2.2.1) (by decide)).to, ?_⟩
  refine List.forall_mem_cons.mpr ⟨(s_put (ci := 10) (k := 15) (am_dp pw_X10_init_96 dd_X10_init_96a.2.2.2.2.2.1) rfl (by decide) wd594 inX10 tyX10_ok nmX10 rfl rfl).to, ?_⟩
  refine List.forall_mem_cons.mpr ⟨(s_iconst (am_dp pw_X10_init_96 dd_X10_init_96a.2.2.2.2.2.2.1) (by decide)).to, ?_⟩
  refine List.forall_mem_cons.mpr ⟨(s_istoren (am_dp pw_X10_init_96 dd_X10_init_96a.2.2.2.2.2.2.2) rfl (by decide)).to, ?_⟩
  refine List.forall_mem_cons.mpr ⟨(s_iloadn (am_dp pw_X10_init_96 dd_X10_init_96b.1) rfl).to, ?_⟩
  refine List.forall_mem_cons.mpr ⟨(s_bipush (am_dp pw_X10_init_96 dd_X10_init_96b.2.1) (by decide)).to, ?_⟩
  refine List.forall_mem_cons.mpr ⟨(s_icmp_ge (am_dp pw_X10_init_96 dd_X10_init_96b.2.2.1) (by decide)).to, ?_⟩
  refine List.forall_mem_cons.mpr ⟨(s_aloadn (am_dp pw_X10_init_96 dd_X10_init_96b.2.2.2.1) rfl).to, ?_⟩
  refine List.forall_mem_cons.mpr ⟨(s_get (ci := 10) (k := 7) (am_dp pw_X10_init_96 dd_X10_init_96b.2.2.2.2.1) rfl (by decide) wd586 inX10 rfl).to, ?_⟩
  refine List.forall_mem_cons.mpr ⟨(s_iloadn (am_dp pw_X10_init_96 dd_X10_init_96b.2.2.2.2.2.1) rfl).to, ?_⟩
  exact fun _ h => absurd h List.not_mem_nil
theorem sn_tX10_init_1 : ∀ q ∈ tX10_init_1, am_Snd am_P0 RX10 cX10_init 2 (Option.none : Option FieldType) "<init>" q.1 q.2 := by
  unfold tX10_init_1
  refine List.forall_mem_cons.mpr ⟨(s_new (ci := 8) (am_dp pw_X10_init_96 dd_X10_init_96b.2.2.2.2.2.2.1) rfl wd475 wd477 wd146 inX8 tyX8_ok (by decide)).to, ?_⟩
  refine List.forall_mem_cons.mpr ⟨(s_dup (am_dp pw_X10_init_96 dd_X10_init_96b.2.2.2.2.2.2.2)).to, ?_⟩
  refine List.forall_mem_cons.mpr ⟨(s_aloadn (am_dp pw_X10_init_96 dd_X10_init_96c.1) rfl).to, ?_⟩
  refine List.forall_mem_cons.mpr ⟨(s_get (ci := 10) (k := 2) (am_dp pw_X10_init_96 dd_X10_init_96c.2.1) rfl (by decide) wd581 inX10 rfl).to, ?_⟩
  refine List.forall_mem_cons.mpr ⟨(s_aloadn (am_dp pw_X10_init_96 dd_X10_init_96c.2.2) rfl).to, ?_⟩
  refine List.forall_mem_cons.mpr ⟨(s_get (ci := 10) (k := 2) (am_dp pw_X10_init_128 dd_X10_init_128a.1) rfl (by decide) wd581 inX10 rfl).to, ?_⟩
  refine List.forall_mem_cons.mpr ⟨(s_get (ci := 5) (k := 4) (am_dp pw_X10_init_128 dd_X10_init_128a.2.1) rfl (by decide) wd318 inX5 rfl).to, ?_⟩
  refine List.forall_mem_cons.mpr ⟨(s_iloadn (am_dp pw_X10_init_128 dd_X10_init_128a.2.2.1) rfl).to, ?_⟩
  refine List.forall_mem_cons.mpr ⟨(s_aald (am_dp pw_X10_init_128 dd_X10_init_128a.2.2.2.1)).to, ?_⟩
  refine List.forall_mem_cons.mpr ⟨z_ci (ci := 8) (am_dp pw_X10_init_128 dd_X10_init_128a.2.2.2.2.1) mt72 wd478 rfl rfl, ?_⟩
  refine List.forall_mem_cons.mpr ⟨(s_aas (am_dp pw_X10_init_128 dd_X10_init_128a.2.2.2.2.2.1)).to, ?_⟩
  refine List.forall_mem_cons.mpr ⟨(s_iinc (am_dp pw_X10_init_128 dd_X10_init_128a.2.2.2.2.2.2.1) (by decide) (by decide)).to, ?_⟩
  refine List.forall_mem_cons.mpr ⟨(s_goto (am_dp pw_X10_init_128 dd_X10_init_128a.2.2.2.2.2.2.2) (by decide)).to, ?_⟩
  refine List.forall_mem_cons.mpr ⟨s_vret (am_dp pw_X10_init_128 dd_X10_init_128b) rfl, ?_⟩
  exact fun _ h => absurd h List.not_mem_nil
theorem sn_tX10_init : ∀ q ∈ tX10_init, am_Snd am_P0 RX10 cX10_init 2 (Option.none : Option FieldType) "<init>" q.1 q.2 := by
  unfold tX10_init
  exact List.forall_mem_append.mpr ⟨sn_tX10_init_0, sn_tX10_init_1⟩
theorem sn_tX10_feed : ∀ q ∈ tX10_feed, am_Snd am_P0 RX10 cX10_feed 6 (Option.some FieldType.int) "feed" q.1 q.2 := by
  unfold tX10_feed
  refine List.forall_mem_cons.mpr ⟨(s_aloadn (am_dp pw_X10_feed_0 dd_X10_feed_0a.1) rfl).to, ?_⟩
  refine List.forall_mem_cons.mpr ⟨(s_get (ci := 10) (k := 1) (am_dp pw_X10_feed_0 dd_X10_feed_0a.2.1) rfl (by decide) wd580 inX10 rfl).to, ?_⟩
  refine List.forall_mem_cons.mpr ⟨(s_bipush (am_dp pw_X10_feed_0 dd_X10_feed_0a.2.2.1) (by decide)).to, ?_⟩
  refine List.forall_mem_cons.mpr ⟨(s_iadd (am_dp pw_X10_feed_0 dd_X10_feed_0a.2.2.2.1)).to, ?_⟩
  refine List.forall_mem_cons.mpr ⟨(s_sipush (am_dp pw_X10_feed_0 dd_X10_feed_0a.2.2.2.2.1) (by decide)).to, ?_⟩
  refine List.forall_mem_cons.mpr ⟨(s_icmp_le (am_dp pw_X10_feed_0 dd_X10_feed_0a.2.2.2.2.2.1) (by decide)).to, ?_⟩
  refine List.forall_mem_cons.mpr ⟨(s_aloadn (am_dp pw_X10_feed_0 dd_X10_feed_0a.2.2.2.2.2.2.1) rfl).to, ?_⟩
  refine List.forall_mem_cons.mpr ⟨(s_get (ci := 10) (k := 8) (am_dp pw_X10_feed_0 dd_X10_feed_0a.2.2.2.2.2.2.2) rfl (by decide) wd587 inX10 rfl).to, ?_⟩
  refine List.forall_mem_cons.mpr ⟨(s_iconst (am_dp pw_X10_feed_0 dd_X10_feed_0b.1) (by decide)).to, ?_⟩
  refine List.forall_mem_cons.mpr ⟨(s_dup2 (am_dp pw_X10_feed_0 dd_X10_feed_0b.2.1)).to, ?_⟩
  refine List.forall_mem_cons.mpr ⟨(s_iald (am_dp pw_X10_feed_0 dd_X10_feed_0b.2.2.1)).to, ?_⟩
  refine List.forall_mem_cons.mpr ⟨(s_iconst (am_dp pw_X10_feed_0 dd_X10_feed_0b.2.2.2.1) (by decide)).to, ?_⟩
  refine List.forall_mem_cons.mpr ⟨(s_iadd (am_dp pw_X10_feed_0 dd_X10_feed_0b.2.2.2.2.1)).to, ?_⟩
  refine List.forall_mem_cons.mpr ⟨(s_iast (am_dp pw_X10_feed_0 dd_X10_feed_0b.2.2.2.2.2.1)).to, ?_⟩
  refine List.forall_mem_cons.mpr ⟨(s_iconst (am_dp pw_X10_feed_0 dd_X10_feed_0b.2.2.2.2.2.2.1) (by decide)).to, ?_⟩
  refine List.forall_mem_cons.mpr ⟨s_iret (am_dp pw_X10_feed_0 dd_X10_feed_0b.2.2.2.2.2.2.2) rfl, ?_⟩
  refine List.forall_mem_cons.mpr ⟨(s_aloadn (am_dp pw_X10_feed_0 dd_X10_feed_0c.1) rfl).to, ?_⟩
  refine List.forall_mem_cons.mpr ⟨(s_iloadn (am_dp pw_X10_feed_0 dd_X10_feed_0c.2.1) rfl).to, ?_⟩
  refine List.forall_mem_cons.mpr ⟨zw_cv152 (am_dp pw_X10_feed_0 dd_X10_feed_0c.2.2.1) wd635, ?_⟩
  refine List.forall_mem_cons.mpr ⟨(s_aloadn (am_dp pw_X10_feed_0 dd_X10_feed_0c.2.2.2.1) rfl).to, ?_⟩
  refine List.forall_mem_cons.mpr ⟨(s_iloadn (am_dp pw_X10_feed_0 dd_X10_feed_0c.2.2.2.2) rfl).to, ?_⟩
  refine List.forall_mem_cons.mpr ⟨zw_cv152 (am_dp pw_X10_feed_32 dd_X10_feed_32a.1) wd635, ?_⟩
  refine List.forall_mem_cons.mpr ⟨(s_aloadn (am_dp pw_X10_feed_32 dd_X10_feed_32a.2.1) rfl).to, ?_⟩
  refine List.forall_mem_cons.mpr ⟨(s_iloadn (am_dp pw_X10_feed_32 dd_X10_feed_32a.2.2.1) rfl).to, ?_⟩
  refine List.forall_mem_cons.mpr ⟨zw_cv152 (am_dp pw_X10_feed_32 dd_X10_feed_32a.2.2.2.1) wd635, ?_⟩
  refine List.forall_mem_cons.mpr ⟨(s_aloadn (am_dp pw_X10_feed_32 dd_X10_feed_32a.2.2.2.2.1) rfl).to, ?_⟩
  refine List.forall_mem_cons.mpr ⟨(s_iload (am_dp pw_X10_feed_32 dd_X10_feed_32a.2.2.2.2.2.1)).to, ?_⟩
  refine List.forall_mem_cons.mpr ⟨zw_cv152 (am_dp pw_X10_feed_32 dd_X10_feed_32a.2.2.2.2.2.2.1) wd635, ?_⟩
  refine List.forall_mem_cons.mpr ⟨(s_aloadn (am_dp pw_X10_feed_32 dd_X10_feed_32a.2.2.2.2.2.2.2) rfl).to, ?_⟩
  refine List.forall_mem_cons.mpr ⟨(s_iload (am_dp pw_X10_feed_32 dd_X10_feed_32b.1)).to, ?_⟩
  refine List.forall_mem_cons.mpr ⟨zw_cv152 (am_dp pw_X10_feed_32 dd_X10_feed_32b.2.1) wd635, ?_⟩
  refine List.forall_mem_cons.mpr ⟨(s_aloadn (am_dp pw_X10_feed_32 dd_X10_feed_32b.2.2.1) rfl).to, ?_⟩
  refine List.forall_mem_cons.mpr ⟨(s_get (ci := 10) (k := 1) (am_dp pw_X10_feed_32 dd_X10_feed_32b.2.2.2.1) rfl (by decide) wd580 inX10 rfl).to, ?_⟩
  refine List.forall_mem_cons.mpr ⟨s_iret (am_dp pw_X10_feed_32 dd_X10_feed_32b.2.2.2.2) rfl, ?_⟩
  exact fun _ h => absurd h List.not_mem_nil
theorem sn_tX10_end : ∀ q ∈ tX10_end, am_Snd am_P0 RX10 cX10_end 2 (Option.some FieldType.boolean) "end" q.1 q.2 := by
  unfold tX10_end
  refine List.forall_mem_cons.mpr ⟨(s_iloadn (am_dp pw_X10_end_0 dd_X10_end_0a.1) rfl).to, ?_⟩
  refine List.forall_mem_cons.mpr ⟨(s_if_lt (am_dp pw_X10_end_0 dd_X10_end_0a.2.1) (by decide)).to, ?_⟩
  refine List.forall_mem_cons.mpr ⟨(s_iloadn (am_dp pw_X10_end_0 dd_X10_end_0a.2.2.1) rfl).to, ?_⟩
  refine List.forall_mem_cons.mpr ⟨(s_aloadn (am_dp pw_X10_end_0 dd_X10_end_0a.2.2.2.1) rfl).to, ?_⟩
  refine List.forall_mem_cons.mpr ⟨(s_get (ci := 10) (k := 1) (am_dp pw_X10_end_0 dd_X10_end_0a.2.2.2.2.1) rfl (by decide) wd580 inX10 rfl).to, ?_⟩
  refine List.forall_mem_cons.mpr ⟨(s_icmp_le (am_dp pw_X10_end_0 dd_X10_end_0a.2.2.2.2.2.1) (by decide)).to, ?_⟩
  refine List.forall_mem_cons.mpr ⟨(s_aloadn (am_dp pw_X10_end_0 dd_X10_end_0a.2.2.2.2.2.2.1) rfl).to, ?_⟩
  refine List.forall_mem_cons.mpr ⟨(s_get (ci := 10) (k := 8) (am_dp pw_X10_end_0 dd_X10_end_0a.2.2.2.2.2.2.2) rfl (by decide) wd587 inX10 rfl).to, ?_⟩
  refine List.forall_mem_cons.mpr ⟨(s_iconst (am_dp pw_X10_end_0 dd_X10_end_0b.1) (by decide)).to, ?_⟩
  refine List.forall_mem_cons.mpr ⟨(s_dup2 (am_dp pw_X10_end_0 dd_X10_end_0b.2.1)).to, ?_⟩
  refine List.forall_mem_cons.mpr ⟨(s_iald (am_dp pw_X10_end_0 dd_X10_end_0b.2.2.1)).to, ?_⟩
  refine List.forall_mem_cons.mpr ⟨(s_iconst (am_dp pw_X10_end_0 dd_X10_end_0b.2.2.2.1) (by decide)).to, ?_⟩
  refine List.forall_mem_cons.mpr ⟨(s_iadd (am_dp pw_X10_end_0 dd_X10_end_0b.2.2.2.2.1)).to, ?_⟩
  refine List.forall_mem_cons.mpr ⟨(s_iast (am_dp pw_X10_end_0 dd_X10_end_0b.2.2.2.2.2.1)).to, ?_⟩
  refine List.forall_mem_cons.mpr ⟨(s_iconst (am_dp pw_X10_end_0 dd_X10_end_0b.2.2.2.2.2.2.1) (by decide)).to, ?_⟩
  refine List.forall_mem_cons.mpr ⟨s_zret (am_dp pw_X10_end_0 dd_X10_end_0b.2.2.2.2.2.2.2) rfl, ?_⟩
  refine List.forall_mem_cons.mpr ⟨(s_aloadn (am_dp pw_X10_end_0 dd_X10_end_0c.1) rfl).to, ?_⟩
  refine List.forall_mem_cons.mpr ⟨(s_iloadn (am_dp pw_X10_end_0 dd_X10_end_0c.2.1) rfl).to, ?_⟩
  refine List.forall_mem_cons.mpr ⟨(s_put (ci := 10) (k := 1) (am_dp pw_X10_end_0 dd_X10_end_0c.2.2.1) rfl (by decide) wd580 inX10 tyX10_ok nmX10 rfl rfl).to, ?_⟩
  refine List.forall_mem_cons.mpr ⟨(s_iconst (am_dp pw_X10_end_0 dd_X10_end_0c.2.2.2.1) (by decide)).to, ?_⟩
  refine List.forall_mem_cons.mpr ⟨s_zret (am_dp pw_X10_end_0 dd_X10_end_0c.2.2.2.2) rfl, ?_⟩
  exact fun _ h => absurd h List.not_mem_nil
theorem sn_tX10_sea_0 : ∀ q ∈ tX10_sea_0, am_Snd am_P0 RX10 cX10_sea 4 (Option.some FieldType.int) "sea" q.1 q.2 := by
  unfold tX10_sea_0
  refine List.forall_mem_cons.mpr ⟨(s_aloadn (am_dp pw_X10_sea_0 dd_X10_sea_0a.1) rfl).to, ?_⟩
  refine List.forall_mem_cons.mpr ⟨(s_get (ci := 10) (k := 4) (am_dp pw_X10_sea_0 dd_X10_sea_0a.2.1) rfl (by decide) wd583 inX10 rfl).to, ?_⟩
  refine List.forall_mem_cons.mpr ⟨(s_aloadn (am_dp pw_X10_sea_0 dd_X10_sea_0a.2.2.1) rfl).to, ?_⟩
  refine List.forall_mem_cons.mpr ⟨(s_get (ci := 10) (k := 3) (am_dp pw_X10_sea_0 dd_X10_sea_0a.2.2.2.1) rfl (by decide) wd582 inX10 rfl).to, ?_⟩
  refine List.forall_mem_cons.mpr ⟨(s_aloadn (am_dp pw_X10_sea_0 dd_X10_sea_0a.2.2.2.2.1) rfl).to, ?_⟩
  refine List.forall_mem_cons.mpr ⟨(s_get (ci := 10) (k := 0) (am_dp pw_X10_sea_0 dd_X10_sea_0a.2.2.2.2.2.1) rfl (by decide) wd579 inX10 rfl).to, ?_⟩
  refine List.forall_mem_cons.mpr ⟨(s_aloadn (am_dp pw_X10_sea_0 dd_X10_sea_0a.2.2.2.2.2.2.1) rfl).to, ?_⟩
  refine List.forall_mem_cons.mpr ⟨(s_get (ci := 10) (k := 1) (am_dp pw_X10_sea_0 dd_X10_sea_0a.2.2.2.2.2.2.2) rfl (by decide) wd580 inX10 rfl).to, ?_⟩
  refine List.forall_mem_cons.mpr ⟨zw_cv10 (am_dp pw_X10_sea_0 dd_X10_sea_0b.1) wd647, ?_⟩
  refine List.forall_mem_cons.mpr ⟨(s_iconst (am_dp pw_X10_sea_0 dd_X10_sea_0b.2.1) (by decide)).to, ?_⟩
  refine List.forall_mem_cons.mpr ⟨(s_istoren (am_dp pw_X10_sea_0 dd_X10_sea_0b.2.2.1) rfl (by decide)).to, ?_⟩
  refine List.forall_mem_cons.mpr ⟨(s_aloadn (am_dp pw_X10_sea_0 dd_X10_sea_0b.2.2.2.1) rfl).to, ?_⟩
  refine List.forall_mem_cons.mpr ⟨(s_get (ci := 10) (k := 4) (am_dp pw_X10_sea_0 dd_X10_sea_0b.2.2.2.2.1) rfl (by decide) wd583 inX10 rfl).to, ?_⟩
  refine List.forall_mem_cons.mpr ⟨(s_iloadn (am_dp pw_X10_sea_0 dd_X10_sea_0b.2.2.2.2.2.1) rfl).to, ?_⟩
  refine List.forall_mem_cons.mpr ⟨(s_if_ne (am_dp pw_X10_sea_0 dd_X10_sea_0b.2.2.2.2.2.2.1) (by decide)).to, ?_⟩
  refine List.forall_mem_cons.mpr ⟨(s_iconst (am_dp pw_X10_sea_0 dd_X10_sea_0b.2.2.2.2.2.2.2) (by decide)).to, ?_⟩
  refine List.forall_mem_cons.mpr ⟨(s_goto (am_dp pw_X10_sea_0 dd_X10_sea_0c) (by decide)).to, ?_⟩
  refine List.forall_mem_cons.mpr ⟨(s_iconst (am_dp pw_X10_sea_32 dd_X10_sea_32a.1) (by decide)).to, ?_⟩
  refine List.forall_mem_cons.mpr ⟨zw_cv11 (am_dp pw_X10_sea_32 dd_X10_sea_32a.2.1) wd677, ?_⟩
  refine List.forall_mem_cons.mpr ⟨(s_aloadn (am_dp pw_X10_sea_32 dd_X10_sea_32a.2.2.1) rfl).to, ?_⟩
  refine List.forall_mem_cons.mpr ⟨(s_get (ci := 10) (k := 4) (am_dp pw_X10_sea_32 dd_X10_sea_32a.2.2.2.1) rfl (by decide) wd583 inX10 rfl).to, ?_⟩
  refine List.forall_mem_cons.mpr ⟨(s_get (ci := 2) (k := 0) (am_dp pw_X10_sea_32 dd_X10_sea_32a.2.2.2.2.1) rfl (by decide) wd468 inX2 rfl).to, ?_⟩
  refine List.forall_mem_cons.mpr ⟨(s_bipush (am_dp pw_X10_sea_32 dd_X10_sea_32a.2.2.2.2.2.1) (by decide)).to, ?_⟩
  refine List.forall_mem_cons.mpr ⟨zw_cv41 (am_dp pw_X10_sea_32 dd_X10_sea_32a.2.2.2.2.2.2.1) wd842, ?_⟩
  refine List.forall_mem_cons.mpr ⟨(s_iinc (am_dp pw_X10_sea_32 dd_X10_sea_32a.2.2.2.2.2.2.2) (by decide) (by decide)).to, ?_⟩
  refine List.forall_mem_cons.mpr ⟨(s_aloadn (am_dp pw_X10_sea_32 dd_X10_sea_32b.1) rfl).to, ?_⟩
  refine List.forall_mem_cons.mpr ⟨(s_get (ci := 10) (k := 4) (am_dp pw_X10_sea_32 dd_X10_sea_32b.2.1) rfl (by decide) wd583 inX10 rfl).to, ?_⟩
  refine List.forall_mem_cons.mpr ⟨(s_get (ci := 2) (k := 0) (am_dp pw_X10_sea_32 dd_X10_sea_32b.2.2.1) rfl (by decide) wd468 inX2 rfl).to, ?_⟩
  refine List.forall_mem_cons.mpr ⟨(s_get (ci := 3) (k := 4) (am_dp pw_X10_sea_32 dd_X10_sea_32b.2.2.2.1) rfl (by decide) wd433 inX3 rfl).to, ?_⟩
  refine List.forall_mem_cons.mpr ⟨(s_if_eq (am_dp pw_X10_sea_32 dd_X10_sea_32b.2.2.2.2) (by decide)).to, ?_⟩
  refine List.forall_mem_cons.mpr ⟨(s_iloadn (am_dp pw_X10_sea_64 dd_X10_sea_64a.1) rfl).to, ?_⟩
  refine List.forall_mem_cons.mpr ⟨(s_sipush (am_dp pw_X10_sea_64 dd_X10_sea_64a.2.1) (by decide)).to, ?_⟩
  refine List.forall_mem_cons.mpr ⟨(s_icmp_lt (am_dp pw_X10_sea_64 dd_X10_sea_64a.2.2.1) (by decide)).to, ?_⟩
  refine List.forall_mem_cons.mpr ⟨(s_aloadn (am_dp pw_X10_sea_64 dd_X10_sea_64a.2.2.2.1) rfl).to, ?_⟩
  refine List.forall_mem_cons.mpr ⟨(s_iconst (am_dp pw_X10_sea_64 dd_X10_sea_64a.2.2.2.2.1) (by decide)).to, ?_⟩
  refine List.forall_mem_cons.mpr ⟨(s_put (ci := 10) (k := 1) (am_dp pw_X10_sea_64 dd_X10_sea_64a.2.2.2.2.2.1) rfl (by decide) wd580 inX10 tyX10_ok nmX10 rfl rfl).to, ?_⟩
  refine List.forall_mem_cons.mpr ⟨(s_aloadn (am_dp pw_X10_sea_64 dd_X10_sea_64a.2.2.2.2.2.2.1) rfl).to, ?_⟩
  refine List.forall_mem_cons.mpr ⟨(s_aloadn (am_dp pw_X10_sea_64 dd_X10_sea_64a.2.2.2.2.2.2.2) rfl).to, ?_⟩
  refine List.forall_mem_cons.mpr ⟨(s_get (ci := 10) (k := 4) (am_dp pw_X10_sea_64 dd_X10_sea_64b.1) rfl (by decide) wd583 inX10 rfl).to, ?_⟩
  refine List.forall_mem_cons.mpr ⟨(s_get (ci := 2) (k := 0) (am_dp pw_X10_sea_64 dd_X10_sea_64b.2.1) rfl (by decide) wd468 inX2 rfl).to, ?_⟩
  refine List.forall_mem_cons.mpr ⟨(s_get (ci := 3) (k := 8) (am_dp pw_X10_sea_64 dd_X10_sea_64b.2.2.1) rfl (by decide) wd441 inX3 rfl).to, ?_⟩
  refine List.forall_mem_cons.mpr ⟨(s_put (ci := 10) (k := 5) (am_dp pw_X10_sea_64 dd_X10_sea_64b.2.2.2.1) rfl (by decide) wd584 inX10 tyX10_ok nmX10 rfl rfl).to, ?_⟩
  refine List.forall_mem_cons.mpr ⟨(s_aloadn (am_dp pw_X10_sea_64 dd_X10_sea_64b.2.2.2.2.1) rfl).to, ?_⟩
  refine List.forall_mem_cons.mpr ⟨(s_aloadn (am_dp pw_X10_sea_64 dd_X10_sea_64b.2.2.2.2.2.1) rfl).to, ?_⟩
  refine List.forall_mem_cons.mpr ⟨(s_get (ci := 10) (k := 4) (am_dp pw_X10_sea_64 dd_X10_sea_64b.2.2.2.2.2.2) rfl (by decide) wd583 inX10 rfl).to, ?_⟩
  refine List.forall_mem_cons.mpr ⟨(s_get (ci := 2) (k := 0) (am_dp pw_X10_sea_96 dd_X10_sea_96a.1) rfl (by decide) wd468 inX2 rfl).to, ?_⟩
  refine List.forall_mem_cons.mpr ⟨(s_get (ci := 3) (k := 9) (am_dp pw_X10_sea_96 dd_X10_sea_96a.2.1) rfl (by decide) wd444 inX3 rfl).to, ?_⟩
  refine List.forall_mem_cons.mpr ⟨(s_put (ci := 10) (k := 6) (am_dp pw_X10_sea_96 dd_X10_sea_96a.2.2.1) rfl (by decide) wd585 inX10 tyX10_ok nmX10 rfl rfl).to, ?_⟩
  refine List.forall_mem_cons.mpr ⟨(s_aloadn (am_dp pw_X10_sea_96 dd_X10_sea_96a.2.2.2.1) rfl).to, ?_⟩
  refine List.forall_mem_cons.mpr ⟨(s_get (ci := 10) (k := 5) (am_dp pw_X10_sea_96 dd_X10_sea_96a.2.2.2.2.1) rfl (by decide) wd584 inX10 rfl).to, ?_⟩
  refine List.forall_mem_cons.mpr ⟨(s_if_eq (am_dp pw_X10_sea_96 dd_X10_sea_96a.2.2.2.2.2.1) (by decide)).to, ?_⟩
  refine List.forall_mem_cons.mpr ⟨(s_aloadn (am_dp pw_X10_sea_96 dd_X10_sea_96a.2.2.2.2.2.2.1) rfl).to, ?_⟩
  refine List.forall_mem_cons.mpr ⟨(s_get (ci := 10) (k := 8) (am_dp pw_X10_sea_96 dd_X10_sea_96a.2.2.2.2.2.2.2) rfl (by decide) wd587 inX10 rfl).to, ?_⟩
  refine List.forall_mem_cons.mpr ⟨(s_iconst (am_dp pw_X10_sea_96 dd_X10_sea_96b.1) (by decide)).to, ?_⟩
  refine List.forall_mem_cons.mpr ⟨(s_dup2 (am_dp pw_X10_sea_96 dd_X10_sea_96b.2.1)).to, ?_⟩
  refine List.forall_mem_cons.mpr ⟨(s_iald (am_dp pw_X10_sea_96 dd_X10_sea_96b.2.2.1)).to, ?_⟩
  refine List.forall_mem_cons.mpr ⟨(s_iconst (am_dp pw_X10_sea_96 dd_X10_sea_96b.2.2.2.1) (by decide)).to, ?_⟩
  refine List.forall_mem_cons.mpr ⟨(s_iadd (am_dp pw_X10_sea_96 dd_X10_sea_96b.2.2.2.2.1)).to, ?_⟩
  refine List.forall_mem_cons.mpr ⟨(s_iast (am_dp pw_X10_sea_96 dd_X10_sea_96b.2.2.2.2.2.1)).to, ?_⟩
  refine List.forall_mem_cons.mpr ⟨(s_iconst (am_dp pw_X10_sea_96 dd_X10_sea_96b.2.2.2.2.2.2.1) (by decide)).to, ?_⟩
  exact fun _ h => absurd h List.not_mem_nil
theorem sn_tX10_sea_1 : ∀ q ∈ tX10_sea_1, am_Snd am_P0 RX10 cX10_sea 4 (Option.some FieldType.int) "sea" q.1 q.2 := by
  unfold tX10_sea_1
  refine List.forall_mem_cons.mpr ⟨s_iret (am_dp pw_X10_sea_96 dd_X10_sea_96b.2.2.2.2.2.2.2) rfl, ?_⟩
  refine List.forall_mem_cons.mpr ⟨(s_aloadn (am_dp pw_X10_sea_96 dd_X10_sea_96c.1) rfl).to, ?_⟩
  refine List.forall_mem_cons.mpr ⟨(s_get (ci := 10) (k := 2) (am_dp pw_X10_sea_96 dd_X10_sea_96c.2) rfl (by decide) wd581 inX10 rfl).to, ?_⟩
  refine List.forall_mem_cons.mpr ⟨(s_astoren (am_dp pw_X10_sea_128 dd_X10_sea_128a.1) rfl (by decide)).to, ?_⟩
  refine List.forall_mem_cons.mpr ⟨(s_aloadn (am_dp pw_X10_sea_128 dd_X10_sea_128a.2.1) rfl).to, ?_⟩
  refine List.forall_mem_cons.mpr ⟨(s_aloadn (am_dp pw_X10_sea_128 dd_X10_sea_128a.2.2.1) rfl).to, ?_⟩
  refine List.forall_mem_cons.mpr ⟨(s_get (ci := 10) (k := 3) (am_dp pw_X10_sea_128 dd_X10_sea_128a.2.2.2.1) rfl (by decide) wd582 inX10 rfl).to, ?_⟩
  refine List.forall_mem_cons.mpr ⟨(s_put (ci := 10) (k := 2) (am_dp pw_X10_sea_128 dd_X10_sea_128a.2.2.2.2.1) rfl (by decide) wd581 inX10 tyX10_ok nmX10 rfl rfl).to, ?_⟩
  refine List.forall_mem_cons.mpr ⟨(s_aloadn (am_dp pw_X10_sea_128 dd_X10_sea_128a.2.2.2.2.2.1) rfl).to, ?_⟩
  refine List.forall_mem_cons.mpr ⟨(s_aloadn (am_dp pw_X10_sea_128 dd_X10_sea_128a.2.2.2.2.2.2.1) rfl).to, ?_⟩
  refine List.forall_mem_cons.mpr ⟨(s_put (ci := 10) (k := 3) (am_dp pw_X10_sea_128 dd_X10_sea_128a.2.2.2.2.2.2.2) rfl (by decide) wd582 inX10 tyX10_ok nmX10 rfl rfl).to, ?_⟩
  refine List.forall_mem_cons.mpr ⟨(s_aloadn (am_dp pw_X10_sea_128 dd_X10_sea_128b.1) rfl).to, ?_⟩
  refine List.forall_mem_cons.mpr ⟨(s_get (ci := 10) (k := 2) (am_dp pw_X10_sea_128 dd_X10_sea_128b.2.1) rfl (by decide) wd581 inX10 rfl).to, ?_⟩
  refine List.forall_mem_cons.mpr ⟨zw_cv53 (am_dp pw_X10_sea_128 dd_X10_sea_128b.2.2.1) wd843, ?_⟩
  refine List.forall_mem_cons.mpr ⟨(s_iconst (am_dp pw_X10_sea_128 dd_X10_sea_128b.2.2.2.1) (by decide)).to, ?_⟩
  refine List.forall_mem_cons.mpr ⟨(s_istoren (am_dp pw_X10_sea_128 dd_X10_sea_128b.2.2.2.2.1) rfl (by decide)).to, ?_⟩
  refine List.forall_mem_cons.mpr ⟨(s_iloadn (am_dp pw_X10_sea_128 dd_X10_sea_128b.2.2.2.2.2.1) rfl).to, ?_⟩
  refine List.forall_mem_cons.mpr ⟨(s_aloadn (am_dp pw_X10_sea_128 dd_X10_sea_128b.2.2.2.2.2.2.1) rfl).to, ?_⟩
  refine List.forall_mem_cons.mpr ⟨(s_get (ci := 10) (k := 2) (am_dp pw_X10_sea_128 dd_X10_sea_128b.2.2.2.2.2.2.2) rfl (by decide) wd581 inX10 rfl).to, ?_⟩
  refine List.forall_mem_cons.mpr ⟨(s_get (ci := 5) (k := 3) (am_dp pw_X10_sea_128 dd_X10_sea_128c.1) rfl (by decide) wd315 inX5 rfl).to, ?_⟩
  refine List.forall_mem_cons.mpr ⟨(s_icmp_ge (am_dp pw_X10_sea_128 dd_X10_sea_128c.2) (by decide)).to, ?_⟩
  refine List.forall_mem_cons.mpr ⟨(s_aloadn (am_dp pw_X10_sea_160 dd_X10_sea_160a.1) rfl).to, ?_⟩
  refine List.forall_mem_cons.mpr ⟨(s_get (ci := 10) (k := 7) (am_dp pw_X10_sea_160 dd_X10_sea_160a.2.1) rfl (by decide) wd586 inX10 rfl).to, ?_⟩
  refine List.forall_mem_cons.mpr ⟨(s_iloadn (am_dp pw_X10_sea_160 dd_X10_sea_160a.2.2.1) rfl).to, ?_⟩
  refine List.forall_mem_cons.mpr ⟨(s_aald (am_dp pw_X10_sea_160 dd_X10_sea_160a.2.2.2.1)).to, ?_⟩
  refine List.forall_mem_cons.mpr ⟨(s_aloadn (am_dp pw_X10_sea_160 dd_X10_sea_160a.2.2.2.2.1) rfl).to, ?_⟩
  refine List.forall_mem_cons.mpr ⟨(s_get (ci := 10) (k := 2) (am_dp pw_X10_sea_160 dd_X10_sea_160a.2.2.2.2.2.1) rfl (by decide) wd581 inX10 rfl).to, ?_⟩
  refine List.forall_mem_cons.mpr ⟨(s_aloadn (am_dp pw_X10_sea_160 dd_X10_sea_160a.2.2.2.2.2.2.1) rfl).to, ?_⟩
  refine List.forall_mem_cons.mpr ⟨(s_get (ci := 10) (k := 2) (am_dp pw_X10_sea_160 dd_X10_sea_160a.2.2.2.2.2.2.2) rfl (by decide) wd581 inX10 rfl).to, ?_⟩
  refine List.forall_mem_cons.mpr ⟨(s_get (ci := 5) (k := 4) (am_dp pw_X10_sea_160 dd_X10_sea_160b.1) rfl (by decide) wd318 inX5 rfl).to, ?_⟩
  refine List.forall_mem_cons.mpr ⟨(s_iloadn (am_dp pw_X10_sea_160 dd_X10_sea_160b.2.1) rfl).to, ?_⟩
  refine List.forall_mem_cons.mpr ⟨(s_aald (am_dp pw_X10_sea_160 dd_X10_sea_160b.2.2.1)).to, ?_⟩
  refine List.forall_mem_cons.mpr ⟨zw_cv73 (am_dp pw_X10_sea_160 dd_X10_sea_160b.2.2.2.1) wd889, ?_⟩
  refine List.forall_mem_cons.mpr ⟨(s_iinc (am_dp pw_X10_sea_160 dd_X10_sea_160b.2.2.2.2.1) (by decide) (by decide)).to, ?_⟩
  refine List.forall_mem_cons.mpr ⟨(s_goto (am_dp pw_X10_sea_160 dd_X10_sea_160b.2.2.2.2.2.1) (by decide)).to, ?_⟩
  refine List.forall_mem_cons.mpr ⟨(s_aloadn (am_dp pw_X10_sea_160 dd_X10_sea_160b.2.2.2.2.2.2.1) rfl).to, ?_⟩
  refine List.forall_mem_cons.mpr ⟨(s_iconst (am_dp pw_X10_sea_160 dd_X10_sea_160b.2.2.2.2.2.2.2) (by decide)).to, ?_⟩
  refine List.forall_mem_cons.mpr ⟨(s_put (ci := 10) (k := 13) (am_dp pw_X10_sea_192 dd_X10_sea_192a.1) rfl (by decide) wd592 inX10 tyX10_ok nmX10 rfl rfl).to, ?_⟩
  refine List.forall_mem_cons.mpr ⟨(s_iloadn (am_dp pw_X10_sea_192 dd_X10_sea_192a.2.1) rfl).to, ?_⟩
  refine List.forall_mem_cons.mpr ⟨s_iret (am_dp pw_X10_sea_192 dd_X10_sea_192a.2.2) rfl, ?_⟩
  exact fun _ h => absurd h List.not_mem_nil
theorem sn_tX10_sea : ∀ q ∈ tX10_sea, am_Snd am_P0 RX10 cX10_sea 4 (Option.some FieldType.int) "sea" q.1 q.2 := by
  unfold tX10_sea
  exact List.forall_mem_append.mpr ⟨sn_tX10_sea_0, sn_tX10_sea_1⟩
theorem sn_tX10_fault : ∀ q ∈ tX10_fault, am_Snd am_P0 RX10 cX10_fault 2 (Option.some FieldType.int) "fault" q.1 q.2 := by
  unfold tX10_fault
  refine List.forall_mem_cons.mpr ⟨(s_iloadn (am_dp pw_X10_fault_0 dd_X10_fault_0a.1) rfl).to, ?_⟩
  refine List.forall_mem_cons.mpr ⟨(s_look (by decide +kernel : decode cX10_fault 1 = .ok (.lookupswitch 37 #[(0, 27), (1, 32)], 27)) (by decide) (by decide) (by decide)).to, ?_⟩
  refine List.forall_mem_cons.mpr ⟨(s_aloadn (am_dp pw_X10_fault_0 dd_X10_fault_0a.2.1) rfl).to, ?_⟩
  refine List.forall_mem_cons.mpr ⟨(s_get (ci := 10) (k := 5) (am_dp pw_X10_fault_0 dd_X10_fault_0a.2.2) rfl (by decide) wd584 inX10 rfl).to, ?_⟩
  refine List.forall_mem_cons.mpr ⟨s_iret (am_dp pw_X10_fault_32 dd_X10_fault_32a.1) rfl, ?_⟩
  refine List.forall_mem_cons.mpr ⟨(s_aloadn (am_dp pw_X10_fault_32 dd_X10_fault_32a.2.1) rfl).to, ?_⟩
  refine List.forall_mem_cons.mpr ⟨(s_get (ci := 10) (k := 6) (am_dp pw_X10_fault_32 dd_X10_fault_32a.2.2.1) rfl (by decide) wd585 inX10 rfl).to, ?_⟩
  refine List.forall_mem_cons.mpr ⟨s_iret (am_dp pw_X10_fault_32 dd_X10_fault_32a.2.2.2.1) rfl, ?_⟩
  refine List.forall_mem_cons.mpr ⟨(s_iconst (am_dp pw_X10_fault_32 dd_X10_fault_32a.2.2.2.2.1) (by decide)).to, ?_⟩
  refine List.forall_mem_cons.mpr ⟨s_iret (am_dp pw_X10_fault_32 dd_X10_fault_32a.2.2.2.2.2) rfl, ?_⟩
  exact fun _ h => absurd h List.not_mem_nil
theorem sn_tX10_has : ∀ q ∈ tX10_has, am_Snd am_P0 RX10 cX10_has 2 (Option.some FieldType.int) "has" q.1 q.2 := by
  unfold tX10_has
  refine List.forall_mem_cons.mpr ⟨(s_iloadn (am_dp pw_X10_has_0 dd_X10_has_0a) rfl).to, ?_⟩
  refine List.forall_mem_cons.mpr ⟨(s_table (by decide +kernel : decode cX10_has 1 = .ok (.tableswitch 114 0 7 #[47, 55, 63, 71, 79, 87, 98, 106], 47)) (by decide) (by decide) (by decide) (by decide)).to, ?_⟩
  refine List.forall_mem_cons.mpr ⟨(s_aloadn (am_dp pw_X10_has_32 dd_X10_has_32a.1) rfl).to, ?_⟩
  refine List.forall_mem_cons.mpr ⟨(s_get (ci := 10) (k := 2) (am_dp pw_X10_has_32 dd_X10_has_32a.2.1) rfl (by decide) wd581 inX10 rfl).to, ?_⟩
  refine List.forall_mem_cons.mpr ⟨(s_get (ci := 5) (k := 0) (am_dp pw_X10_has_32 dd_X10_has_32a.2.2.1) rfl (by decide) wd307 inX5 rfl).to, ?_⟩
  refine List.forall_mem_cons.mpr ⟨s_iret (am_dp pw_X10_has_32 dd_X10_has_32a.2.2.2.1) rfl, ?_⟩
  refine List.forall_mem_cons.mpr ⟨(s_aloadn (am_dp pw_X10_has_32 dd_X10_has_32a.2.2.2.2.1) rfl).to, ?_⟩
  refine List.forall_mem_cons.mpr ⟨(s_get (ci := 10) (k := 2) (am_dp pw_X10_has_32 dd_X10_has_32a.2.2.2.2.2.1) rfl (by decide) wd581 inX10 rfl).to, ?_⟩
  refine List.forall_mem_cons.mpr ⟨(s_get (ci := 5) (k := 1) (am_dp pw_X10_has_32 dd_X10_has_32a.2.2.2.2.2.2.1) rfl (by decide) wd310 inX5 rfl).to, ?_⟩
  refine List.forall_mem_cons.mpr ⟨s_iret (am_dp pw_X10_has_32 dd_X10_has_32a.2.2.2.2.2.2.2) rfl, ?_⟩
  refine List.forall_mem_cons.mpr ⟨(s_aloadn (am_dp pw_X10_has_64 dd_X10_has_64a.1) rfl).to, ?_⟩
  refine List.forall_mem_cons.mpr ⟨(s_get (ci := 10) (k := 2) (am_dp pw_X10_has_64 dd_X10_has_64a.2.1) rfl (by decide) wd581 inX10 rfl).to, ?_⟩
  refine List.forall_mem_cons.mpr ⟨(s_get (ci := 5) (k := 3) (am_dp pw_X10_has_64 dd_X10_has_64a.2.2.1) rfl (by decide) wd315 inX5 rfl).to, ?_⟩
  refine List.forall_mem_cons.mpr ⟨s_iret (am_dp pw_X10_has_64 dd_X10_has_64a.2.2.2.1) rfl, ?_⟩
  refine List.forall_mem_cons.mpr ⟨(s_aloadn (am_dp pw_X10_has_64 dd_X10_has_64a.2.2.2.2.1) rfl).to, ?_⟩
  refine List.forall_mem_cons.mpr ⟨(s_get (ci := 10) (k := 2) (am_dp pw_X10_has_64 dd_X10_has_64a.2.2.2.2.2.1) rfl (by decide) wd581 inX10 rfl).to, ?_⟩
  refine List.forall_mem_cons.mpr ⟨zw_cv59 (am_dp pw_X10_has_64 dd_X10_has_64a.2.2.2.2.2.2.1) wd911, ?_⟩
  refine List.forall_mem_cons.mpr ⟨s_iret (am_dp pw_X10_has_64 dd_X10_has_64a.2.2.2.2.2.2.2) rfl, ?_⟩
  refine List.forall_mem_cons.mpr ⟨(s_aloadn (am_dp pw_X10_has_64 dd_X10_has_64b.1) rfl).to, ?_⟩
  refine List.forall_mem_cons.mpr ⟨(s_get (ci := 10) (k := 2) (am_dp pw_X10_has_64 dd_X10_has_64b.2.1) rfl (by decide) wd581 inX10 rfl).to, ?_⟩
  refine List.forall_mem_cons.mpr ⟨zw_cv61 (am_dp pw_X10_has_64 dd_X10_has_64b.2.2.1) wd912, ?_⟩
  refine List.forall_mem_cons.mpr ⟨s_iret (am_dp pw_X10_has_64 dd_X10_has_64b.2.2.2.1) rfl, ?_⟩
  refine List.forall_mem_cons.mpr ⟨(s_aloadn (am_dp pw_X10_has_64 dd_X10_has_64b.2.2.2.2.1) rfl).to, ?_⟩
  refine List.forall_mem_cons.mpr ⟨(s_get (ci := 10) (k := 2) (am_dp pw_X10_has_64 dd_X10_has_64b.2.2.2.2.2.1) rfl (by decide) wd581 inX10 rfl).to, ?_⟩
  refine List.forall_mem_cons.mpr ⟨(s_get (ci := 5) (k := 5) (am_dp pw_X10_has_64 dd_X10_has_64b.2.2.2.2.2.2.1) rfl (by decide) wd321 inX5 rfl).to, ?_⟩
  refine List.forall_mem_cons.mpr ⟨(s_get (ci := 7) (k := 0) (am_dp pw_X10_has_64 dd_X10_has_64b.2.2.2.2.2.2.2) rfl (by decide) wd178 inX7 rfl).to, ?_⟩
  refine List.forall_mem_cons.mpr ⟨s_iret (am_dp pw_X10_has_96 dd_X10_has_96a.1) rfl, ?_⟩
  refine List.forall_mem_cons.mpr ⟨(s_aloadn (am_dp pw_X10_has_96 dd_X10_has_96a.2.1) rfl).to, ?_⟩
  refine List.forall_mem_cons.mpr ⟨(s_get (ci := 10) (k := 2) (am_dp pw_X10_has_96 dd_X10_has_96a.2.2.1) rfl (by decide) wd581 inX10 rfl).to, ?_⟩
  refine List.forall_mem_cons.mpr ⟨(s_get (ci := 5) (k := 2) (am_dp pw_X10_has_96 dd_X10_has_96a.2.2.2.1) rfl (by decide) wd313 inX5 rfl).to, ?_⟩
  refine List.forall_mem_cons.mpr ⟨s_iret (am_dp pw_X10_has_96 dd_X10_has_96a.2.2.2.2.1) rfl, ?_⟩
  refine List.forall_mem_cons.mpr ⟨(s_aloadn (am_dp pw_X10_has_96 dd_X10_has_96a.2.2.2.2.2.1) rfl).to, ?_⟩
  refine List.forall_mem_cons.mpr ⟨(s_get (ci := 10) (k := 2) (am_dp pw_X10_has_96 dd_X10_has_96a.2.2.2.2.2.2.1) rfl (by decide) wd581 inX10 rfl).to, ?_⟩
  refine List.forall_mem_cons.mpr ⟨zw_cv60 (am_dp pw_X10_has_96 dd_X10_has_96a.2.2.2.2.2.2.2) wd913, ?_⟩
  refine List.forall_mem_cons.mpr ⟨s_iret (am_dp pw_X10_has_96 dd_X10_has_96b.1) rfl, ?_⟩
  refine List.forall_mem_cons.mpr ⟨(s_iconst (am_dp pw_X10_has_96 dd_X10_has_96b.2.1) (by decide)).to, ?_⟩
  refine List.forall_mem_cons.mpr ⟨s_iret (am_dp pw_X10_has_96 dd_X10_has_96b.2.2) rfl, ?_⟩
  exact fun _ h => absurd h List.not_mem_nil
theorem sn_tX10_letter : ∀ q ∈ tX10_letter, am_Snd am_P0 RX10 cX10_letter 4 (Option.some FieldType.int) "letter" q.1 q.2 := by
  unfold tX10_letter
  refine List.forall_mem_cons.mpr ⟨(s_aloadn (am_dp pw_X10_letter_0 dd_X10_letter_0a.1) rfl).to, ?_⟩
  refine List.forall_mem_cons.mpr ⟨(s_iloadn (am_dp pw_X10_letter_0 dd_X10_letter_0a.2.1) rfl).to, ?_⟩
  refine List.forall_mem_cons.mpr ⟨zw_cv150 (am_dp pw_X10_letter_0 dd_X10_letter_0a.2.2.1) wd921, ?_⟩
  refine List.forall_mem_cons.mpr ⟨(s_if_eq (am_dp pw_X10_letter_0 dd_X10_letter_0a.2.2.2.1) (by decide)).to, ?_⟩
  refine List.forall_mem_cons.mpr ⟨(s_iloadn (am_dp pw_X10_letter_0 dd_X10_letter_0a.2.2.2.2.1) rfl).to, ?_⟩
  refine List.forall_mem_cons.mpr ⟨(s_if_lt (am_dp pw_X10_letter_0 dd_X10_letter_0a.2.2.2.2.2.1) (by decide)).to, ?_⟩
  refine List.forall_mem_cons.mpr ⟨(s_iloadn (am_dp pw_X10_letter_0 dd_X10_letter_0a.2.2.2.2.2.2.1) rfl).to, ?_⟩
  refine List.forall_mem_cons.mpr ⟨(s_bipush (am_dp pw_X10_letter_0 dd_X10_letter_0a.2.2.2.2.2.2.2) (by decide)).to, ?_⟩
  refine List.forall_mem_cons.mpr ⟨(s_icmp_lt (am_dp pw_X10_letter_0 dd_X10_letter_0b.1) (by decide)).to, ?_⟩
  refine List.forall_mem_cons.mpr ⟨(s_iconst (am_dp pw_X10_letter_0 dd_X10_letter_0b.2.1) (by decide)).to, ?_⟩
  refine List.forall_mem_cons.mpr ⟨s_iret (am_dp pw_X10_letter_0 dd_X10_letter_0b.2.2.1) rfl, ?_⟩
  refine List.forall_mem_cons.mpr ⟨(s_aloadn (am_dp pw_X10_letter_0 dd_X10_letter_0b.2.2.2.1) rfl).to, ?_⟩
  refine List.forall_mem_cons.mpr ⟨(s_get (ci := 10) (k := 2) (am_dp pw_X10_letter_0 dd_X10_letter_0b.2.2.2.2.1) rfl (by decide) wd581 inX10 rfl).to, ?_⟩
  refine List.forall_mem_cons.mpr ⟨(s_get (ci := 5) (k := 4) (am_dp pw_X10_letter_0 dd_X10_letter_0b.2.2.2.2.2.1) rfl (by decide) wd318 inX5 rfl).to, ?_⟩
  refine List.forall_mem_cons.mpr ⟨(s_iloadn (am_dp pw_X10_letter_0 dd_X10_letter_0b.2.2.2.2.2.2.1) rfl).to, ?_⟩
  refine List.forall_mem_cons.mpr ⟨(s_aald (am_dp pw_X10_letter_0 dd_X10_letter_0b.2.2.2.2.2.2.2)).to, ?_⟩
  refine List.forall_mem_cons.mpr ⟨(s_get (ci := 6) (k := 0) (am_dp pw_X10_letter_0 dd_X10_letter_0c) rfl (by decide) wd239 inX6 rfl).to, ?_⟩
  refine List.forall_mem_cons.mpr ⟨(s_iconst (am_dp pw_X10_letter_32 dd_X10_letter_32a.1) (by decide)).to, ?_⟩
  refine List.forall_mem_cons.mpr ⟨(s_iloadn (am_dp pw_X10_letter_32 dd_X10_letter_32a.2.1) rfl).to, ?_⟩
  refine List.forall_mem_cons.mpr ⟨(s_imul (am_dp pw_X10_letter_32 dd_X10_letter_32a.2.2.1)).to, ?_⟩
  refine List.forall_mem_cons.mpr ⟨(s_ishr (am_dp pw_X10_letter_32 dd_X10_letter_32a.2.2.2.1)).to, ?_⟩
  refine List.forall_mem_cons.mpr ⟨(s_bipush (am_dp pw_X10_letter_32 dd_X10_letter_32a.2.2.2.2.1) (by decide)).to, ?_⟩
  refine List.forall_mem_cons.mpr ⟨(s_iand (am_dp pw_X10_letter_32 dd_X10_letter_32a.2.2.2.2.2.1)).to, ?_⟩
  refine List.forall_mem_cons.mpr ⟨(s_istoren (am_dp pw_X10_letter_32 dd_X10_letter_32a.2.2.2.2.2.2.1) rfl (by decide)).to, ?_⟩
  refine List.forall_mem_cons.mpr ⟨(s_iloadn (am_dp pw_X10_letter_32 dd_X10_letter_32a.2.2.2.2.2.2.2) rfl).to, ?_⟩
  refine List.forall_mem_cons.mpr ⟨(s_if_ne (am_dp pw_X10_letter_32 dd_X10_letter_32b.1) (by decide)).to, ?_⟩
  refine List.forall_mem_cons.mpr ⟨(s_iconst (am_dp pw_X10_letter_32 dd_X10_letter_32b.2.1) (by decide)).to, ?_⟩
  refine List.forall_mem_cons.mpr ⟨(s_goto (am_dp pw_X10_letter_32 dd_X10_letter_32b.2.2.1) (by decide)).to, ?_⟩
  refine List.forall_mem_cons.mpr ⟨(s_iloadn (am_dp pw_X10_letter_32 dd_X10_letter_32b.2.2.2.1) rfl).to, ?_⟩
  refine List.forall_mem_cons.mpr ⟨(s_bipush (am_dp pw_X10_letter_32 dd_X10_letter_32b.2.2.2.2.1) (by decide)).to, ?_⟩
  refine List.forall_mem_cons.mpr ⟨(s_iadd (am_dp pw_X10_letter_32 dd_X10_letter_32b.2.2.2.2.2.1)).to, ?_⟩
  refine List.forall_mem_cons.mpr ⟨s_iret (am_dp pw_X10_letter_32 dd_X10_letter_32b.2.2.2.2.2.2) rfl, ?_⟩
  exact fun _ h => absurd h List.not_mem_nil
theorem sn_tX10_ship : ∀ q ∈ tX10_ship, am_Snd am_P0 RX10 cX10_ship 4 (Option.some FieldType.int) "ship" q.1 q.2 := by
  unfold tX10_ship
  refine List.forall_mem_cons.mpr ⟨(s_aloadn (am_dp pw_X10_ship_0 dd_X10_ship_0a.1) rfl).to, ?_⟩
  refine List.forall_mem_cons.mpr ⟨(s_iloadn (am_dp pw_X10_ship_0 dd_X10_ship_0a.2.1) rfl).to, ?_⟩
  refine List.forall_mem_cons.mpr ⟨zw_cv150 (am_dp pw_X10_ship_0 dd_X10_ship_0a.2.2.1) wd921, ?_⟩
  refine List.forall_mem_cons.mpr ⟨(s_if_ne (am_dp pw_X10_ship_0 dd_X10_ship_0a.2.2.2.1) (by decide)).to, ?_⟩
  refine List.forall_mem_cons.mpr ⟨(s_iconst (am_dp pw_X10_ship_0 dd_X10_ship_0a.2.2.2.2.1) (by decide)).to, ?_⟩
  refine List.forall_mem_cons.mpr ⟨s_iret (am_dp pw_X10_ship_0 dd_X10_ship_0a.2.2.2.2.2.1) rfl, ?_⟩
  refine List.forall_mem_cons.mpr ⟨(s_aloadn (am_dp pw_X10_ship_0 dd_X10_ship_0a.2.2.2.2.2.2.1) rfl).to, ?_⟩
  refine List.forall_mem_cons.mpr ⟨(s_get (ci := 10) (k := 2) (am_dp pw_X10_ship_0 dd_X10_ship_0a.2.2.2.2.2.2.2) rfl (by decide) wd581 inX10 rfl).to, ?_⟩
  refine List.forall_mem_cons.mpr ⟨(s_get (ci := 5) (k := 4) (am_dp pw_X10_ship_0 dd_X10_ship_0b.1) rfl (by decide) wd318 inX5 rfl).to, ?_⟩
  refine List.forall_mem_cons.mpr ⟨(s_iloadn (am_dp pw_X10_ship_0 dd_X10_ship_0b.2.1) rfl).to, ?_⟩
  refine List.forall_mem_cons.mpr ⟨(s_aald (am_dp pw_X10_ship_0 dd_X10_ship_0b.2.2.1)).to, ?_⟩
  refine List.forall_mem_cons.mpr ⟨(s_astoren (am_dp pw_X10_ship_0 dd_X10_ship_0b.2.2.2.1) rfl (by decide)).to, ?_⟩
  refine List.forall_mem_cons.mpr ⟨(s_iloadn (am_dp pw_X10_ship_0 dd_X10_ship_0b.2.2.2.2) rfl).to, ?_⟩
  refine List.forall_mem_cons.mpr ⟨(s_table (by decide +kernel : decode cX10_ship 21 = .ok (.tableswitch 116 0 8 #[51, 56, 61, 66, 71, 76, 85, 99, 104], 51)) (by decide) (by decide) (by decide) (by decide)).to, ?_⟩
  refine List.forall_mem_cons.mpr ⟨(s_aloadn (am_dp pw_X10_ship_64 dd_X10_ship_64a.1) rfl).to, ?_⟩
  refine List.forall_mem_cons.mpr ⟨(s_get (ci := 6) (k := 1) (am_dp pw_X10_ship_64 dd_X10_ship_64a.2.1) rfl (by decide) wd241 inX6 rfl).to, ?_⟩
  refine List.forall_mem_cons.mpr ⟨s_iret (am_dp pw_X10_ship_64 dd_X10_ship_64a.2.2.1) rfl, ?_⟩
  refine List.forall_mem_cons.mpr ⟨(s_aloadn (am_dp pw_X10_ship_64 dd_X10_ship_64a.2.2.2.1) rfl).to, ?_⟩
  refine List.forall_mem_cons.mpr ⟨(s_get (ci := 6) (k := 2) (am_dp pw_X10_ship_64 dd_X10_ship_64a.2.2.2.2.1) rfl (by decide) wd244 inX6 rfl).to, ?_⟩
  refine List.forall_mem_cons.mpr ⟨s_iret (am_dp pw_X10_ship_64 dd_X10_ship_64a.2.2.2.2.2.1) rfl, ?_⟩
  refine List.forall_mem_cons.mpr ⟨(s_aloadn (am_dp pw_X10_ship_64 dd_X10_ship_64a.2.2.2.2.2.2.1) rfl).to, ?_⟩
  refine List.forall_mem_cons.mpr ⟨(s_get (ci := 6) (k := 3) (am_dp pw_X10_ship_64 dd_X10_ship_64a.2.2.2.2.2.2.2) rfl (by decide) wd248 inX6 rfl).to, ?_⟩
  refine List.forall_mem_cons.mpr ⟨s_iret (am_dp pw_X10_ship_64 dd_X10_ship_64b.1) rfl, ?_⟩
  refine List.forall_mem_cons.mpr ⟨(s_aloadn (am_dp pw_X10_ship_64 dd_X10_ship_64b.2.1) rfl).to, ?_⟩
  refine List.forall_mem_cons.mpr ⟨(s_get (ci := 6) (k := 4) (am_dp pw_X10_ship_64 dd_X10_ship_64b.2.2.1) rfl (by decide) wd251 inX6 rfl).to, ?_⟩
  refine List.forall_mem_cons.mpr ⟨s_iret (am_dp pw_X10_ship_64 dd_X10_ship_64b.2.2.2.1) rfl, ?_⟩
  refine List.forall_mem_cons.mpr ⟨(s_aloadn (am_dp pw_X10_ship_64 dd_X10_ship_64b.2.2.2.2.1) rfl).to, ?_⟩
  refine List.forall_mem_cons.mpr ⟨(s_get (ci := 6) (k := 5) (am_dp pw_X10_ship_64 dd_X10_ship_64b.2.2.2.2.2) rfl (by decide) wd255 inX6 rfl).to, ?_⟩
  refine List.forall_mem_cons.mpr ⟨s_iret (am_dp pw_X10_ship_96 dd_X10_ship_96a.1) rfl, ?_⟩
  refine List.forall_mem_cons.mpr ⟨(s_aloadn (am_dp pw_X10_ship_96 dd_X10_ship_96a.2.1) rfl).to, ?_⟩
  refine List.forall_mem_cons.mpr ⟨(s_iloadn (am_dp pw_X10_ship_96 dd_X10_ship_96a.2.2.1) rfl).to, ?_⟩
  refine List.forall_mem_cons.mpr ⟨zw_cv154 (am_dp pw_X10_ship_96 dd_X10_ship_96a.2.2.2.1) wd929, ?_⟩
  refine List.forall_mem_cons.mpr ⟨(s_get (ci := 8) (k := 11) (am_dp pw_X10_ship_96 dd_X10_ship_96a.2.2.2.2.1) rfl (by decide) wd534 inX8 rfl).to, ?_⟩
  refine List.forall_mem_cons.mpr ⟨s_iret (am_dp pw_X10_ship_96 dd_X10_ship_96a.2.2.2.2.2.1) rfl, ?_⟩
  refine List.forall_mem_cons.mpr ⟨(s_aloadn (am_dp pw_X10_ship_96 dd_X10_ship_96a.2.2.2.2.2.2.1) rfl).to, ?_⟩
  refine List.forall_mem_cons.mpr ⟨(s_get (ci := 6) (k := 5) (am_dp pw_X10_ship_96 dd_X10_ship_96a.2.2.2.2.2.2.2) rfl (by decide) wd255 inX6 rfl).to, ?_⟩
  refine List.forall_mem_cons.mpr ⟨(s_aloadn (am_dp pw_X10_ship_96 dd_X10_ship_96b.1) rfl).to, ?_⟩
  refine List.forall_mem_cons.mpr ⟨(s_iloadn (am_dp pw_X10_ship_96 dd_X10_ship_96b.2.1) rfl).to, ?_⟩
  refine List.forall_mem_cons.mpr ⟨zw_cv154 (am_dp pw_X10_ship_96 dd_X10_ship_96b.2.2.1) wd929, ?_⟩
  refine List.forall_mem_cons.mpr ⟨(s_get (ci := 8) (k := 11) (am_dp pw_X10_ship_96 dd_X10_ship_96b.2.2.2.1) rfl (by decide) wd534 inX8 rfl).to, ?_⟩
  refine List.forall_mem_cons.mpr ⟨(s_isub (am_dp pw_X10_ship_96 dd_X10_ship_96b.2.2.2.2.1)).to, ?_⟩
  refine List.forall_mem_cons.mpr ⟨s_iret (am_dp pw_X10_ship_96 dd_X10_ship_96b.2.2.2.2.2.1) rfl, ?_⟩
  refine List.forall_mem_cons.mpr ⟨(s_aloadn (am_dp pw_X10_ship_96 dd_X10_ship_96b.2.2.2.2.2.2.1) rfl).to, ?_⟩
  refine List.forall_mem_cons.mpr ⟨(s_get (ci := 6) (k := 9) (am_dp pw_X10_ship_96 dd_X10_ship_96b.2.2.2.2.2.2.2) rfl (by decide) wd268 inX6 rfl).to, ?_⟩
  refine List.forall_mem_cons.mpr ⟨s_iret (am_dp pw_X10_ship_96 dd_X10_ship_96c.1) rfl, ?_⟩
  refine List.forall_mem_cons.mpr ⟨(s_aloadn (am_dp pw_X10_ship_96 dd_X10_ship_96c.2.1) rfl).to, ?_⟩
  refine List.forall_mem_cons.mpr ⟨(s_iloadn (am_dp pw_X10_ship_96 dd_X10_ship_96c.2.2.1) rfl).to, ?_⟩
  refine List.forall_mem_cons.mpr ⟨zw_cv154 (am_dp pw_X10_ship_96 dd_X10_ship_96c.2.2.2) wd929, ?_⟩
  refine List.forall_mem_cons.mpr ⟨(s_get (ci := 8) (k := 8) (am_dp pw_X10_ship_128 dd_X10_ship_128a.1) rfl (by decide) wd529 inX8 rfl).to, ?_⟩
  refine List.forall_mem_cons.mpr ⟨zw_cs148 (am_dp pw_X10_ship_128 dd_X10_ship_128a.2.1) wd1004, ?_⟩
  refine List.forall_mem_cons.mpr ⟨s_iret (am_dp pw_X10_ship_128 dd_X10_ship_128a.2.2.1) rfl, ?_⟩
  refine List.forall_mem_cons.mpr ⟨(s_iconst (am_dp pw_X10_ship_128 dd_X10_ship_128a.2.2.2.1) (by decide)).to, ?_⟩
  refine List.forall_mem_cons.mpr ⟨s_iret (am_dp pw_X10_ship_128 dd_X10_ship_128a.2.2.2.2) rfl, ?_⟩
  exact fun _ h => absurd h List.not_mem_nil
theorem sn_tX10_saying : ∀ q ∈ tX10_saying, am_Snd am_P0 RX10 cX10_saying 5 (Option.some FieldType.int) "saying" q.1 q.2 := by
  unfold tX10_saying
  refine List.forall_mem_cons.mpr ⟨(s_aloadn (am_dp pw_X10_saying_0 dd_X10_saying_0a.1) rfl).to, ?_⟩
  refine List.forall_mem_cons.mpr ⟨(s_iloadn (am_dp pw_X10_saying_0 dd_X10_saying_0a.2.1) rfl).to, ?_⟩
  refine List.forall_mem_cons.mpr ⟨(s_iloadn (am_dp pw_X10_saying_0 dd_X10_saying_0a.2.2.1) rfl).to, ?_⟩
  refine List.forall_mem_cons.mpr ⟨zw_cv151 (am_dp pw_X10_saying_0 dd_X10_saying_0a.2.2.2.1) wd1011, ?_⟩
  refine List.forall_mem_cons.mpr ⟨(s_if_ne (am_dp pw_X10_saying_0 dd_X10_saying_0a.2.2.2.2.1) (by decide)).to, ?_⟩
  refine List.forall_mem_cons.mpr ⟨(s_iconst (am_dp pw_X10_saying_0 dd_X10_saying_0a.2.2.2.2.2.1) (by decide)).to, ?_⟩
  refine List.forall_mem_cons.mpr ⟨s_iret (am_dp pw_X10_saying_0 dd_X10_saying_0a.2.2.2.2.2.2.1) rfl, ?_⟩
  refine List.forall_mem_cons.mpr ⟨(s_aloadn (am_dp pw_X10_saying_0 dd_X10_saying_0a.2.2.2.2.2.2.2) rfl).to, ?_⟩
  refine List.forall_mem_cons.mpr ⟨(s_get (ci := 10) (k := 2) (am_dp pw_X10_saying_0 dd_X10_saying_0b.1) rfl (by decide) wd581 inX10 rfl).to, ?_⟩
  refine List.forall_mem_cons.mpr ⟨(s_get (ci := 5) (k := 4) (am_dp pw_X10_saying_0 dd_X10_saying_0b.2.1) rfl (by decide) wd318 inX5 rfl).to, ?_⟩
  refine List.forall_mem_cons.mpr ⟨(s_iloadn (am_dp pw_X10_saying_0 dd_X10_saying_0b.2.2.1) rfl).to, ?_⟩
  refine List.forall_mem_cons.mpr ⟨(s_aald (am_dp pw_X10_saying_0 dd_X10_saying_0b.2.2.2.1)).to, ?_⟩
  refine List.forall_mem_cons.mpr ⟨(s_astore (am_dp pw_X10_saying_0 dd_X10_saying_0b.2.2.2.2.1) (by decide)).to, ?_⟩
  refine List.forall_mem_cons.mpr ⟨(s_iloadn (am_dp pw_X10_saying_0 dd_X10_saying_0b.2.2.2.2.2) rfl).to, ?_⟩
  refine List.forall_mem_cons.mpr ⟨(s_table (by decide +kernel : decode cX10_saying 23 = .ok (.tableswitch 108 0 4 #[33, 41, 56, 67, 94], 33)) (by decide) (by decide) (by decide) (by decide)).to, ?_⟩
  refine List.forall_mem_cons.mpr ⟨(s_aload (am_dp pw_X10_saying_32 dd_X10_saying_32a.1)).to, ?_⟩
  refine List.forall_mem_cons.mpr ⟨(s_get (ci := 6) (k := 6) (am_dp pw_X10_saying_32 dd_X10_saying_32a.2.1) rfl (by decide) wd259 inX6 rfl).to, ?_⟩
  refine List.forall_mem_cons.mpr ⟨(s_iloadn (am_dp pw_X10_saying_32 dd_X10_saying_32a.2.2.1) rfl).to, ?_⟩
  refine List.forall_mem_cons.mpr ⟨(s_iald (am_dp pw_X10_saying_32 dd_X10_saying_32a.2.2.2.1)).to, ?_⟩
  refine List.forall_mem_cons.mpr ⟨s_iret (am_dp pw_X10_saying_32 dd_X10_saying_32a.2.2.2.2) rfl, ?_⟩
  refine List.forall_mem_cons.mpr ⟨(s_aloadn (am_dp pw_X10_saying_64 dd_X10_saying_64a.1) rfl).to, ?_⟩
  refine List.forall_mem_cons.mpr ⟨(s_get (ci := 10) (k := 2) (am_dp pw_X10_saying_64 dd_X10_saying_64a.2.1) rfl (by decide) wd581 inX10 rfl).to, ?_⟩
  refine List.forall_mem_cons.mpr ⟨(s_aload (am_dp pw_X10_saying_64 dd_X10_saying_64a.2.2.1)).to, ?_⟩
  refine List.forall_mem_cons.mpr ⟨(s_get (ci := 6) (k := 7) (am_dp pw_X10_saying_64 dd_X10_saying_64a.2.2.2.1) rfl (by decide) wd262 inX6 rfl).to, ?_⟩
  refine List.forall_mem_cons.mpr ⟨(s_iloadn (am_dp pw_X10_saying_64 dd_X10_saying_64a.2.2.2.2.1) rfl).to, ?_⟩
  refine List.forall_mem_cons.mpr ⟨(s_iald (am_dp pw_X10_saying_64 dd_X10_saying_64a.2.2.2.2.2.1)).to, ?_⟩
  refine List.forall_mem_cons.mpr ⟨zw_cv58 (am_dp pw_X10_saying_64 dd_X10_saying_64a.2.2.2.2.2.2.1) wd1015, ?_⟩
  refine List.forall_mem_cons.mpr ⟨s_iret (am_dp pw_X10_saying_64 dd_X10_saying_64a.2.2.2.2.2.2.2) rfl, ?_⟩
  refine List.forall_mem_cons.mpr ⟨(s_aload (am_dp pw_X10_saying_64 dd_X10_saying_64b.1)).to, ?_⟩
  refine List.forall_mem_cons.mpr ⟨(s_get (ci := 6) (k := 8) (am_dp pw_X10_saying_64 dd_X10_saying_64b.2.1) rfl (by decide) wd265 inX6 rfl).to, ?_⟩
  refine List.forall_mem_cons.mpr ⟨(s_iloadn (am_dp pw_X10_saying_64 dd_X10_saying_64b.2.2.1) rfl).to, ?_⟩
  refine List.forall_mem_cons.mpr ⟨(s_zald (am_dp pw_X10_saying_64 dd_X10_saying_64b.2.2.2.1)).to, ?_⟩
  refine List.forall_mem_cons.mpr ⟨zw_cs148 (am_dp pw_X10_saying_64 dd_X10_saying_64b.2.2.2.2.1) wd1004, ?_⟩
  refine List.forall_mem_cons.mpr ⟨s_iret (am_dp pw_X10_saying_64 dd_X10_saying_64b.2.2.2.2.2.1) rfl, ?_⟩
  refine List.forall_mem_cons.mpr ⟨(s_aloadn (am_dp pw_X10_saying_64 dd_X10_saying_64b.2.2.2.2.2.2.1) rfl).to, ?_⟩
  refine List.forall_mem_cons.mpr ⟨(s_get (ci := 10) (k := 7) (am_dp pw_X10_saying_64 dd_X10_saying_64b.2.2.2.2.2.2.2) rfl (by decide) wd586 inX10 rfl).to, ?_⟩
  refine List.forall_mem_cons.mpr ⟨(s_iloadn (am_dp pw_X10_saying_64 dd_X10_saying_64c.1) rfl).to, ?_⟩
  refine List.forall_mem_cons.mpr ⟨(s_aald (am_dp pw_X10_saying_64 dd_X10_saying_64c.2)).to, ?_⟩
  refine List.forall_mem_cons.mpr ⟨(s_aload (am_dp pw_X10_saying_96 dd_X10_saying_96a.1)).to, ?_⟩
  refine List.forall_mem_cons.mpr ⟨(s_get (ci := 6) (k := 7) (am_dp pw_X10_saying_96 dd_X10_saying_96a.2.1) rfl (by decide) wd262 inX6 rfl).to, ?_⟩
  refine List.forall_mem_cons.mpr ⟨(s_iloadn (am_dp pw_X10_saying_96 dd_X10_saying_96a.2.2.1) rfl).to, ?_⟩
  refine List.forall_mem_cons.mpr ⟨(s_iald (am_dp pw_X10_saying_96 dd_X10_saying_96a.2.2.2.1)).to, ?_⟩
  refine List.forall_mem_cons.mpr ⟨(s_aload (am_dp pw_X10_saying_96 dd_X10_saying_96a.2.2.2.2.1)).to, ?_⟩
  refine List.forall_mem_cons.mpr ⟨(s_get (ci := 6) (k := 8) (am_dp pw_X10_saying_96 dd_X10_saying_96a.2.2.2.2.2.1) rfl (by decide) wd265 inX6 rfl).to, ?_⟩
  refine List.forall_mem_cons.mpr ⟨(s_iloadn (am_dp pw_X10_saying_96 dd_X10_saying_96a.2.2.2.2.2.2.1) rfl).to, ?_⟩
  refine List.forall_mem_cons.mpr ⟨(s_zald (am_dp pw_X10_saying_96 dd_X10_saying_96a.2.2.2.2.2.2.2)).to, ?_⟩
  refine List.forall_mem_cons.mpr ⟨zw_cv75 (am_dp pw_X10_saying_96 dd_X10_saying_96b.1) wd1019, ?_⟩
  refine List.forall_mem_cons.mpr ⟨zw_cs148 (am_dp pw_X10_saying_96 dd_X10_saying_96b.2.1) wd1004, ?_⟩
  refine List.forall_mem_cons.mpr ⟨s_iret (am_dp pw_X10_saying_96 dd_X10_saying_96b.2.2.1) rfl, ?_⟩
  refine List.forall_mem_cons.mpr ⟨(s_aloadn (am_dp pw_X10_saying_96 dd_X10_saying_96b.2.2.2.1) rfl).to, ?_⟩
  refine List.forall_mem_cons.mpr ⟨(s_iloadn (am_dp pw_X10_saying_96 dd_X10_saying_96b.2.2.2.2.1) rfl).to, ?_⟩
  refine List.forall_mem_cons.mpr ⟨zw_cv154 (am_dp pw_X10_saying_96 dd_X10_saying_96b.2.2.2.2.2.1) wd929, ?_⟩
  refine List.forall_mem_cons.mpr ⟨(s_get (ci := 8) (k := 10) (am_dp pw_X10_saying_96 dd_X10_saying_96b.2.2.2.2.2.2.1) rfl (by decide) wd533 inX8 rfl).to, ?_⟩
  refine List.forall_mem_cons.mpr ⟨(s_iloadn (am_dp pw_X10_saying_96 dd_X10_saying_96b.2.2.2.2.2.2.2) rfl).to, ?_⟩
  refine List.forall_mem_cons.mpr ⟨(s_zald (am_dp pw_X10_saying_96 dd_X10_saying_96c.1)).to, ?_⟩
  refine List.forall_mem_cons.mpr ⟨zw_cs148 (am_dp pw_X10_saying_96 dd_X10_saying_96c.2) wd1004, ?_⟩
  refine List.forall_mem_cons.mpr ⟨s_iret (am_dp pw_X10_saying_128 dd_X10_saying_128a.1) rfl, ?_⟩
  refine List.forall_mem_cons.mpr ⟨(s_iconst (am_dp pw_X10_saying_128 dd_X10_saying_128a.2.1) (by decide)).to, ?_⟩
  refine List.forall_mem_cons.mpr ⟨s_iret (am_dp pw_X10_saying_128 dd_X10_saying_128a.2.2) rfl, ?_⟩
  exact fun _ h => absurd h List.not_mem_nil
theorem sn_tX10_cell : ∀ q ∈ tX10_cell, am_Snd am_P0 RX10 cX10_cell 6 (Option.some FieldType.int) "cell" q.1 q.2 := by
  unfold tX10_cell
  refine List.forall_mem_cons.mpr ⟨(s_aloadn (am_dp pw_X10_cell_0 dd_X10_cell_0a.1) rfl).to, ?_⟩
  refine List.forall_mem_cons.mpr ⟨(s_get (ci := 10) (k := 2) (am_dp pw_X10_cell_0 dd_X10_cell_0a.2.1) rfl (by decide) wd581 inX10 rfl).to, ?_⟩
  refine List.forall_mem_cons.mpr ⟨(s_iloadn (am_dp pw_X10_cell_0 dd_X10_cell_0a.2.2.1) rfl).to, ?_⟩
  refine List.forall_mem_cons.mpr ⟨(s_iloadn (am_dp pw_X10_cell_0 dd_X10_cell_0a.2.2.2.1) rfl).to, ?_⟩
  refine List.forall_mem_cons.mpr ⟨zw_cv56 (am_dp pw_X10_cell_0 dd_X10_cell_0a.2.2.2.2.1) wd1024, ?_⟩
  refine List.forall_mem_cons.mpr ⟨(s_istore (am_dp pw_X10_cell_0 dd_X10_cell_0a.2.2.2.2.2.1) (by decide)).to, ?_⟩
  refine List.forall_mem_cons.mpr ⟨(s_iload (am_dp pw_X10_cell_0 dd_X10_cell_0a.2.2.2.2.2.2.1)).to, ?_⟩
  refine List.forall_mem_cons.mpr ⟨(s_iconst (am_dp pw_X10_cell_0 dd_X10_cell_0a.2.2.2.2.2.2.2) (by decide)).to, ?_⟩
  refine List.forall_mem_cons.mpr ⟨(s_icmp_eq (am_dp pw_X10_cell_0 dd_X10_cell_0b.1) (by decide)).to, ?_⟩
  refine List.forall_mem_cons.mpr ⟨(s_iloadn (am_dp pw_X10_cell_0 dd_X10_cell_0b.2.1) rfl).to, ?_⟩
  refine List.forall_mem_cons.mpr ⟨zw_cs149 (am_dp pw_X10_cell_0 dd_X10_cell_0b.2.2.1) wd1028, ?_⟩
  refine List.forall_mem_cons.mpr ⟨(s_if_ne (am_dp pw_X10_cell_0 dd_X10_cell_0b.2.2.2.1) (by decide)).to, ?_⟩
  refine List.forall_mem_cons.mpr ⟨(s_iconst (am_dp pw_X10_cell_0 dd_X10_cell_0b.2.2.2.2.1) (by decide)).to, ?_⟩
  refine List.forall_mem_cons.mpr ⟨s_iret (am_dp pw_X10_cell_0 dd_X10_cell_0b.2.2.2.2.2.1) rfl, ?_⟩
  refine List.forall_mem_cons.mpr ⟨(s_iload (am_dp pw_X10_cell_0 dd_X10_cell_0b.2.2.2.2.2.2)).to, ?_⟩
  refine List.forall_mem_cons.mpr ⟨(s_table (by decide +kernel : decode cX10_cell 28 = .ok (.tableswitch 63 0 2 #[28, 39, 49], 28)) (by decide) (by decide) (by decide) (by decide)).to, ?_⟩
  refine List.forall_mem_cons.mpr ⟨(s_aloadn (am_dp pw_X10_cell_32 dd_X10_cell_32a.1) rfl).to, ?_⟩
  refine List.forall_mem_cons.mpr ⟨(s_get (ci := 10) (k := 2) (am_dp pw_X10_cell_32 dd_X10_cell_32a.2.1) rfl (by decide) wd581 inX10 rfl).to, ?_⟩
  refine List.forall_mem_cons.mpr ⟨(s_get (ci := 5) (k := 10) (am_dp pw_X10_cell_32 dd_X10_cell_32a.2.2.1) rfl (by decide) wd334 inX5 rfl).to, ?_⟩
  refine List.forall_mem_cons.mpr ⟨(s_iload (am_dp pw_X10_cell_32 dd_X10_cell_32a.2.2.2)).to, ?_⟩
  refine List.forall_mem_cons.mpr ⟨(s_iald (am_dp pw_X10_cell_64 dd_X10_cell_64a.1)).to, ?_⟩
  refine List.forall_mem_cons.mpr ⟨s_iret (am_dp pw_X10_cell_64 dd_X10_cell_64a.2.1) rfl, ?_⟩
  refine List.forall_mem_cons.mpr ⟨(s_aloadn (am_dp pw_X10_cell_64 dd_X10_cell_64a.2.2.1) rfl).to, ?_⟩
  refine List.forall_mem_cons.mpr ⟨(s_get (ci := 10) (k := 2) (am_dp pw_X10_cell_64 dd_X10_cell_64a.2.2.2.1) rfl (by decide) wd581 inX10 rfl).to, ?_⟩
  refine List.forall_mem_cons.mpr ⟨(s_iload (am_dp pw_X10_cell_64 dd_X10_cell_64a.2.2.2.2.1)).to, ?_⟩
  refine List.forall_mem_cons.mpr ⟨zw_cv54 (am_dp pw_X10_cell_64 dd_X10_cell_64a.2.2.2.2.2.1) wd1031, ?_⟩
  refine List.forall_mem_cons.mpr ⟨s_iret (am_dp pw_X10_cell_64 dd_X10_cell_64a.2.2.2.2.2.2.1) rfl, ?_⟩
  refine List.forall_mem_cons.mpr ⟨(s_aloadn (am_dp pw_X10_cell_64 dd_X10_cell_64a.2.2.2.2.2.2.2) rfl).to, ?_⟩
  refine List.forall_mem_cons.mpr ⟨(s_get (ci := 10) (k := 2) (am_dp pw_X10_cell_64 dd_X10_cell_64b.1) rfl (by decide) wd581 inX10 rfl).to, ?_⟩
  refine List.forall_mem_cons.mpr ⟨(s_iload (am_dp pw_X10_cell_64 dd_X10_cell_64b.2.1)).to, ?_⟩
  refine List.forall_mem_cons.mpr ⟨(s_iloadn (am_dp pw_X10_cell_64 dd_X10_cell_64b.2.2.1) rfl).to, ?_⟩
  refine List.forall_mem_cons.mpr ⟨zw_cv55 (am_dp pw_X10_cell_64 dd_X10_cell_64b.2.2.2.1) wd1035, ?_⟩
  refine List.forall_mem_cons.mpr ⟨zw_cs148 (am_dp pw_X10_cell_64 dd_X10_cell_64b.2.2.2.2.1) wd1004, ?_⟩
  refine List.forall_mem_cons.mpr ⟨s_iret (am_dp pw_X10_cell_64 dd_X10_cell_64b.2.2.2.2.2.1) rfl, ?_⟩
  refine List.forall_mem_cons.mpr ⟨(s_iconst (am_dp pw_X10_cell_64 dd_X10_cell_64b.2.2.2.2.2.2.1) (by decide)).to, ?_⟩
  refine List.forall_mem_cons.mpr ⟨s_iret (am_dp pw_X10_cell_64 dd_X10_cell_64b.2.2.2.2.2.2.2) rfl, ?_⟩
  exact fun _ h => absurd h List.not_mem_nil
theorem sn_tX10_far : ∀ q ∈ tX10_far, am_Snd am_P0 RX10 cX10_far 8 (Option.some FieldType.int) "far" q.1 q.2 := by
  unfold tX10_far
  refine List.forall_mem_cons.mpr ⟨(s_aloadn (am_dp pw_X10_far_0 dd_X10_far_0a.1) rfl).to, ?_⟩
  refine List.forall_mem_cons.mpr ⟨(s_get (ci := 10) (k := 2) (am_dp pw_X10_far_0 dd_X10_far_0a.2.1) rfl (by decide) wd581 inX10 rfl).to, ?_⟩
  refine List.forall_mem_cons.mpr ⟨(s_iloadn (am_dp pw_X10_far_0 dd_X10_far_0a.2.2.1) rfl).to, ?_⟩
  refine List.forall_mem_cons.mpr ⟨(s_iloadn (am_dp pw_X10_far_0 dd_X10_far_0a.2.2.2.1) rfl).to, ?_⟩
  refine List.forall_mem_cons.mpr ⟨zw_cv56 (am_dp pw_X10_far_0 dd_X10_far_0a.2.2.2.2.1) wd1024, ?_⟩
  refine List.forall_mem_cons.mpr ⟨(s_istore (am_dp pw_X10_far_0 dd_X10_far_0a.2.2.2.2.2.1) (by decide)).to, ?_⟩
  refine List.forall_mem_cons.mpr ⟨(s_aloadn (am_dp pw_X10_far_0 dd_X10_far_0a.2.2.2.2.2.2.1) rfl).to, ?_⟩
  refine List.forall_mem_cons.mpr ⟨(s_get (ci := 10) (k := 2) (am_dp pw_X10_far_0 dd_X10_far_0a.2.2.2.2.2.2.2) rfl (by decide) wd581 inX10 rfl).to, ?_⟩
  refine List.forall_mem_cons.mpr ⟨(s_iload (am_dp pw_X10_far_0 dd_X10_far_0b.1)).to, ?_⟩
  refine List.forall_mem_cons.mpr ⟨(s_iload (am_dp pw_X10_far_0 dd_X10_far_0b.2.1)).to, ?_⟩
  refine List.forall_mem_cons.mpr ⟨zw_cv56 (am_dp pw_X10_far_0 dd_X10_far_0b.2.2.1) wd1024, ?_⟩
  refine List.forall_mem_cons.mpr ⟨(s_istore (am_dp pw_X10_far_0 dd_X10_far_0b.2.2.2.1) (by decide)).to, ?_⟩
  refine List.forall_mem_cons.mpr ⟨(s_aloadn (am_dp pw_X10_far_0 dd_X10_far_0b.2.2.2.2.1) rfl).to, ?_⟩
  refine List.forall_mem_cons.mpr ⟨(s_iloadn (am_dp pw_X10_far_0 dd_X10_far_0b.2.2.2.2.2.1) rfl).to, ?_⟩
  refine List.forall_mem_cons.mpr ⟨zw_cv150 (am_dp pw_X10_far_0 dd_X10_far_0b.2.2.2.2.2.2.1) wd921, ?_⟩
  refine List.forall_mem_cons.mpr ⟨(s_if_eq (am_dp pw_X10_far_0 dd_X10_far_0b.2.2.2.2.2.2.2) (by decide)).to, ?_⟩
  refine List.forall_mem_cons.mpr ⟨(s_iload (am_dp pw_X10_far_32 dd_X10_far_32a.1)).to, ?_⟩
  refine List.forall_mem_cons.mpr ⟨(s_iconst (am_dp pw_X10_far_32 dd_X10_far_32a.2.1) (by decide)).to, ?_⟩
  refine List.forall_mem_cons.mpr ⟨(s_icmp_eq (am_dp pw_X10_far_32 dd_X10_far_32a.2.2.1) (by decide)).to, ?_⟩
  refine List.forall_mem_cons.mpr ⟨(s_iload (am_dp pw_X10_far_32 dd_X10_far_32a.2.2.2.1)).to, ?_⟩
  refine List.forall_mem_cons.mpr ⟨(s_iconst (am_dp pw_X10_far_32 dd_X10_far_32a.2.2.2.2.1) (by decide)).to, ?_⟩
  refine List.forall_mem_cons.mpr ⟨(s_icmp_ne (am_dp pw_X10_far_32 dd_X10_far_32a.2.2.2.2.2.1) (by decide)).to, ?_⟩
  refine List.forall_mem_cons.mpr ⟨(s_iconst (am_dp pw_X10_far_32 dd_X10_far_32a.2.2.2.2.2.2.1) (by decide)).to, ?_⟩
  refine List.forall_mem_cons.mpr ⟨s_iret (am_dp pw_X10_far_32 dd_X10_far_32a.2.2.2.2.2.2.2) rfl, ?_⟩
  refine List.forall_mem_cons.mpr ⟨(s_aloadn (am_dp pw_X10_far_32 dd_X10_far_32b.1) rfl).to, ?_⟩
  refine List.forall_mem_cons.mpr ⟨(s_get (ci := 10) (k := 7) (am_dp pw_X10_far_32 dd_X10_far_32b.2.1) rfl (by decide) wd586 inX10 rfl).to, ?_⟩
  refine List.forall_mem_cons.mpr ⟨(s_iloadn (am_dp pw_X10_far_32 dd_X10_far_32b.2.2.1) rfl).to, ?_⟩
  refine List.forall_mem_cons.mpr ⟨(s_aald (am_dp pw_X10_far_32 dd_X10_far_32b.2.2.2.1)).to, ?_⟩
  refine List.forall_mem_cons.mpr ⟨(s_get (ci := 8) (k := 2) (am_dp pw_X10_far_32 dd_X10_far_32b.2.2.2.2.1) rfl (by decide) wd522 inX8 rfl).to, ?_⟩
  refine List.forall_mem_cons.mpr ⟨(s_iload (am_dp pw_X10_far_32 dd_X10_far_32b.2.2.2.2.2.1)).to, ?_⟩
  refine List.forall_mem_cons.mpr ⟨(s_iload (am_dp pw_X10_far_32 dd_X10_far_32b.2.2.2.2.2.2.1)).to, ?_⟩
  refine List.forall_mem_cons.mpr ⟨zw_cv107 (am_dp pw_X10_far_32 dd_X10_far_32b.2.2.2.2.2.2.2) wd1044, ?_⟩
  refine List.forall_mem_cons.mpr ⟨s_iret (am_dp pw_X10_far_32 dd_X10_far_32c) rfl, ?_⟩
  exact fun _ h => absurd h List.not_mem_nil
theorem sn_tX10_can : ∀ q ∈ tX10_can, am_Snd am_P0 RX10 cX10_can 4 (Option.some FieldType.int) "can" q.1 q.2 := by
  unfold tX10_can
  refine List.forall_mem_cons.mpr ⟨(s_iloadn (am_dp pw_X10_can_0 dd_X10_can_0a.1) rfl).to, ?_⟩
  refine List.forall_mem_cons.mpr ⟨(s_iloadn (am_dp pw_X10_can_0 dd_X10_can_0a.2.1) rfl).to, ?_⟩
  refine List.forall_mem_cons.mpr ⟨(s_icmp_eq (am_dp pw_X10_can_0 dd_X10_can_0a.2.2.1) (by decide)).to, ?_⟩
  refine List.forall_mem_cons.mpr ⟨(s_aloadn (am_dp pw_X10_can_0 dd_X10_can_0a.2.2.2.1) rfl).to, ?_⟩
  refine List.forall_mem_cons.mpr ⟨(s_iloadn (am_dp pw_X10_can_0 dd_X10_can_0a.2.2.2.2.1) rfl).to, ?_⟩
  refine List.forall_mem_cons.mpr ⟨(s_iloadn (am_dp pw_X10_can_0 dd_X10_can_0a.2.2.2.2.2.1) rfl).to, ?_⟩
  refine List.forall_mem_cons.mpr ⟨zw_cv151 (am_dp pw_X10_can_0 dd_X10_can_0a.2.2.2.2.2.2.1) wd1011, ?_⟩
  refine List.forall_mem_cons.mpr ⟨(s_if_eq (am_dp pw_X10_can_0 dd_X10_can_0a.2.2.2.2.2.2.2) (by decide)).to, ?_⟩
  refine List.forall_mem_cons.mpr ⟨(s_aloadn (am_dp pw_X10_can_0 dd_X10_can_0b.1) rfl).to, ?_⟩
  refine List.forall_mem_cons.mpr ⟨(s_iloadn (am_dp pw_X10_can_0 dd_X10_can_0b.2.1) rfl).to, ?_⟩
  refine List.forall_mem_cons.mpr ⟨(s_iloadn (am_dp pw_X10_can_0 dd_X10_can_0b.2.2.1) rfl).to, ?_⟩
  refine List.forall_mem_cons.mpr ⟨zw_cv151 (am_dp pw_X10_can_0 dd_X10_can_0b.2.2.2.1) wd1011, ?_⟩
  refine List.forall_mem_cons.mpr ⟨(s_if_ne (am_dp pw_X10_can_0 dd_X10_can_0b.2.2.2.2.1) (by decide)).to, ?_⟩
  refine List.forall_mem_cons.mpr ⟨(s_iconst (am_dp pw_X10_can_0 dd_X10_can_0b.2.2.2.2.2.1) (by decide)).to, ?_⟩
  refine List.forall_mem_cons.mpr ⟨s_iret (am_dp pw_X10_can_0 dd_X10_can_0b.2.2.2.2.2.2.1) rfl, ?_⟩
  refine List.forall_mem_cons.mpr ⟨(s_aloadn (am_dp pw_X10_can_0 dd_X10_can_0b.2.2.2.2.2.2.2) rfl).to, ?_⟩
  refine List.forall_mem_cons.mpr ⟨(s_get (ci := 10) (k := 7) (am_dp pw_X10_can_0 dd_X10_can_0c.1) rfl (by decide) wd586 inX10 rfl).to, ?_⟩
  refine List.forall_mem_cons.mpr ⟨(s_iloadn (am_dp pw_X10_can_0 dd_X10_can_0c.2.1) rfl).to, ?_⟩
  refine List.forall_mem_cons.mpr ⟨(s_aald (am_dp pw_X10_can_0 dd_X10_can_0c.2.2.1)).to, ?_⟩
  refine List.forall_mem_cons.mpr ⟨(s_iloadn (am_dp pw_X10_can_0 dd_X10_can_0c.2.2.2) rfl).to, ?_⟩
  refine List.forall_mem_cons.mpr ⟨(s_iloadn (am_dp pw_X10_can_32 dd_X10_can_32a.1) rfl).to, ?_⟩
  refine List.forall_mem_cons.mpr ⟨zw_cv76 (am_dp pw_X10_can_32 dd_X10_can_32a.2.1) wd1053, ?_⟩
  refine List.forall_mem_cons.mpr ⟨zw_cs148 (am_dp pw_X10_can_32 dd_X10_can_32a.2.2.1) wd1004, ?_⟩
  refine List.forall_mem_cons.mpr ⟨s_iret (am_dp pw_X10_can_32 dd_X10_can_32a.2.2.2) rfl, ?_⟩
  exact fun _ h => absurd h List.not_mem_nil
theorem sn_tX10_reach : ∀ q ∈ tX10_reach, am_Snd am_P0 RX10 cX10_reach 7 (Option.some FieldType.int) "reach" q.1 q.2 := by
  unfold tX10_reach
  refine List.forall_mem_cons.mpr ⟨(s_aloadn (am_dp pw_X10_reach_0 dd_X10_reach_0a.1) rfl).to, ?_⟩
  refine List.forall_mem_cons.mpr ⟨(s_iloadn (am_dp pw_X10_reach_0 dd_X10_reach_0a.2.1) rfl).to, ?_⟩
  refine List.forall_mem_cons.mpr ⟨zw_cv150 (am_dp pw_X10_reach_0 dd_X10_reach_0a.2.2.1) wd921, ?_⟩
  refine List.forall_mem_cons.mpr ⟨(s_if_eq (am_dp pw_X10_reach_0 dd_X10_reach_0a.2.2.2.1) (by decide)).to, ?_⟩
  refine List.forall_mem_cons.mpr ⟨(s_iloadn (am_dp pw_X10_reach_0 dd_X10_reach_0a.2.2.2.2.1) rfl).to, ?_⟩
  refine List.forall_mem_cons.mpr ⟨zw_cs149 (am_dp pw_X10_reach_0 dd_X10_reach_0a.2.2.2.2.2.1) wd1028, ?_⟩
  refine List.forall_mem_cons.mpr ⟨(s_if_eq (am_dp pw_X10_reach_0 dd_X10_reach_0a.2.2.2.2.2.2.1) (by decide)).to, ?_⟩
  refine List.forall_mem_cons.mpr ⟨(s_iloadn (am_dp pw_X10_reach_0 dd_X10_reach_0a.2.2.2.2.2.2.2) rfl).to, ?_⟩
  refine List.forall_mem_cons.mpr ⟨(s_iconst (am_dp pw_X10_reach_0 dd_X10_reach_0b.1) (by decide)).to, ?_⟩
  refine List.forall_mem_cons.mpr ⟨(s_icmp_ge (am_dp pw_X10_reach_0 dd_X10_reach_0b.2.1) (by decide)).to, ?_⟩
  refine List.forall_mem_cons.mpr ⟨(s_iconst (am_dp pw_X10_reach_0 dd_X10_reach_0b.2.2.1) (by decide)).to, ?_⟩
  refine List.forall_mem_cons.mpr ⟨s_iret (am_dp pw_X10_reach_0 dd_X10_reach_0b.2.2.2.1) rfl, ?_⟩
  refine List.forall_mem_cons.mpr ⟨(s_aloadn (am_dp pw_X10_reach_0 dd_X10_reach_0b.2.2.2.2.1) rfl).to, ?_⟩
  refine List.forall_mem_cons.mpr ⟨(s_iloadn (am_dp pw_X10_reach_0 dd_X10_reach_0b.2.2.2.2.2.1) rfl).to, ?_⟩
  refine List.forall_mem_cons.mpr ⟨zw_cv154 (am_dp pw_X10_reach_0 dd_X10_reach_0b.2.2.2.2.2.2.1) wd929, ?_⟩
  refine List.forall_mem_cons.mpr ⟨(s_astore (am_dp pw_X10_reach_0 dd_X10_reach_0b.2.2.2.2.2.2.2) (by decide)).to, ?_⟩
  refine List.forall_mem_cons.mpr ⟨(s_iloadn (am_dp pw_X10_reach_0 dd_X10_reach_0c.1) rfl).to, ?_⟩
  refine List.forall_mem_cons.mpr ⟨(s_iconst (am_dp pw_X10_reach_0 dd_X10_reach_0c.2.1) (by decide)).to, ?_⟩
  refine List.forall_mem_cons.mpr ⟨(s_icmp_ne (am_dp pw_X10_reach_0 dd_X10_reach_0c.2.2) (by decide)).to, ?_⟩
  refine List.forall_mem_cons.mpr ⟨(s_aload (am_dp pw_X10_reach_32 dd_X10_reach_32a.1)).to, ?_⟩
  refine List.forall_mem_cons.mpr ⟨(s_iloadn (am_dp pw_X10_reach_32 dd_X10_reach_32a.2.1) rfl).to, ?_⟩
  refine List.forall_mem_cons.mpr ⟨zw_cv89 (am_dp pw_X10_reach_32 dd_X10_reach_32a.2.2.1) wd1064, ?_⟩
  refine List.forall_mem_cons.mpr ⟨s_iret (am_dp pw_X10_reach_32 dd_X10_reach_32a.2.2.2.1) rfl, ?_⟩
  refine List.forall_mem_cons.mpr ⟨(s_iloadn (am_dp pw_X10_reach_32 dd_X10_reach_32a.2.2.2.2.1) rfl).to, ?_⟩
  refine List.forall_mem_cons.mpr ⟨(s_istore (am_dp pw_X10_reach_32 dd_X10_reach_32a.2.2.2.2.2.1) (by decide)).to, ?_⟩
  refine List.forall_mem_cons.mpr ⟨(s_iconst (am_dp pw_X10_reach_32 dd_X10_reach_32a.2.2.2.2.2.2.1) (by decide)).to, ?_⟩
  refine List.forall_mem_cons.mpr ⟨(s_istore (am_dp pw_X10_reach_32 dd_X10_reach_32a.2.2.2.2.2.2.2) (by decide)).to, ?_⟩
  refine List.forall_mem_cons.mpr ⟨(s_iload (am_dp pw_X10_reach_32 dd_X10_reach_32b.1)).to, ?_⟩
  refine List.forall_mem_cons.mpr ⟨(s_sipush (am_dp pw_X10_reach_32 dd_X10_reach_32b.2.1) (by decide)).to, ?_⟩
  refine List.forall_mem_cons.mpr ⟨(s_icmp_ge (am_dp pw_X10_reach_32 dd_X10_reach_32b.2.2.1) (by decide)).to, ?_⟩
  refine List.forall_mem_cons.mpr ⟨(s_aload (am_dp pw_X10_reach_32 dd_X10_reach_32b.2.2.2.1)).to, ?_⟩
  refine List.forall_mem_cons.mpr ⟨(s_iloadn (am_dp pw_X10_reach_32 dd_X10_reach_32b.2.2.2.2.1) rfl).to, ?_⟩
  refine List.forall_mem_cons.mpr ⟨(s_iload (am_dp pw_X10_reach_32 dd_X10_reach_32b.2.2.2.2.2.1)).to, ?_⟩
  refine List.forall_mem_cons.mpr ⟨zw_cv88 (am_dp pw_X10_reach_32 dd_X10_reach_32b.2.2.2.2.2.2.1) wd1078, ?_⟩
  refine List.forall_mem_cons.mpr ⟨(s_if_eq (am_dp pw_X10_reach_32 dd_X10_reach_32b.2.2.2.2.2.2.2) (by decide)).to, ?_⟩
  refine List.forall_mem_cons.mpr ⟨(s_iload (am_dp pw_X10_reach_64 dd_X10_reach_64a.1)).to, ?_⟩
  refine List.forall_mem_cons.mpr ⟨(s_if_ne (am_dp pw_X10_reach_64 dd_X10_reach_64a.2.1) (by decide)).to, ?_⟩
  refine List.forall_mem_cons.mpr ⟨(s_aloadn (am_dp pw_X10_reach_64 dd_X10_reach_64a.2.2.1) rfl).to, ?_⟩
  refine List.forall_mem_cons.mpr ⟨(s_get (ci := 10) (k := 2) (am_dp pw_X10_reach_64 dd_X10_reach_64a.2.2.2.1) rfl (by decide) wd581 inX10 rfl).to, ?_⟩
  refine List.forall_mem_cons.mpr ⟨(s_iload (am_dp pw_X10_reach_64 dd_X10_reach_64a.2.2.2.2.1)).to, ?_⟩
  refine List.forall_mem_cons.mpr ⟨zw_cv58 (am_dp pw_X10_reach_64 dd_X10_reach_64a.2.2.2.2.2.1) wd1015, ?_⟩
  refine List.forall_mem_cons.mpr ⟨s_iret (am_dp pw_X10_reach_64 dd_X10_reach_64a.2.2.2.2.2.2.1) rfl, ?_⟩
  refine List.forall_mem_cons.mpr ⟨(s_iinc (am_dp pw_X10_reach_64 dd_X10_reach_64a.2.2.2.2.2.2.2) (by decide) (by decide)).to, ?_⟩
  refine List.forall_mem_cons.mpr ⟨(s_iinc (am_dp pw_X10_reach_64 dd_X10_reach_64b.1) (by decide) (by decide)).to, ?_⟩
  refine List.forall_mem_cons.mpr ⟨(s_goto (am_dp pw_X10_reach_64 dd_X10_reach_64b.2.1) (by decide)).to, ?_⟩
  refine List.forall_mem_cons.mpr ⟨(s_iconst (am_dp pw_X10_reach_64 dd_X10_reach_64b.2.2.1) (by decide)).to, ?_⟩
  refine List.forall_mem_cons.mpr ⟨s_iret (am_dp pw_X10_reach_64 dd_X10_reach_64b.2.2.2) rfl, ?_⟩
  exact fun _ h => absurd h List.not_mem_nil
