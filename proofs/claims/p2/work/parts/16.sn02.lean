/-! the machine follows each instruction (by program: gen_prog.py) -/
theorem sn_tX6_insert_0 : ∀ q ∈ tX6_insert_0, am_Snd am_P0 RX6 cX6_insert 5 (Option.some FieldType.int) "insert" q.1 q.2 := by
  unfold tX6_insert_0
  refine List.forall_mem_cons.mpr ⟨(s_aloadn (am_dp pw_X6_insert_0 dd_X6_insert_0a.1) rfl).to, ?_⟩
  refine List.forall_mem_cons.mpr ⟨(s_get (ci := 6) (k := 5) (am_dp pw_X6_insert_0 dd_X6_insert_0a.2.1) rfl (by decide) wd253 inX6 rfl).to, ?_⟩
  refine List.forall_mem_cons.mpr ⟨(s_bipush (am_dp pw_X6_insert_0 dd_X6_insert_0a.2.2.1) (by decide)).to, ?_⟩
  refine List.forall_mem_cons.mpr ⟨(s_icmp_lt (am_dp pw_X6_insert_0 dd_X6_insert_0a.2.2.2.1) (by decide)).to, ?_⟩
  refine List.forall_mem_cons.mpr ⟨(s_iconst (am_dp pw_X6_insert_0 dd_X6_insert_0a.2.2.2.2.1) (by decide)).to, ?_⟩
  refine List.forall_mem_cons.mpr ⟨s_iret (am_dp pw_X6_insert_0 dd_X6_insert_0a.2.2.2.2.2.1) rfl, ?_⟩
  refine List.forall_mem_cons.mpr ⟨(s_aloadn (am_dp pw_X6_insert_0 dd_X6_insert_0a.2.2.2.2.2.2.1) rfl).to, ?_⟩
  refine List.forall_mem_cons.mpr ⟨(s_get (ci := 6) (k := 5) (am_dp pw_X6_insert_0 dd_X6_insert_0a.2.2.2.2.2.2.2) rfl (by decide) wd253 inX6 rfl).to, ?_⟩
  refine List.forall_mem_cons.mpr ⟨(s_istore (am_dp pw_X6_insert_0 dd_X6_insert_0b.1) (by decide)).to, ?_⟩
  refine List.forall_mem_cons.mpr ⟨(s_iload (am_dp pw_X6_insert_0 dd_X6_insert_0b.2.1)).to, ?_⟩
  refine List.forall_mem_cons.mpr ⟨(s_if_le (am_dp pw_X6_insert_0 dd_X6_insert_0b.2.2.1) (by decide)).to, ?_⟩
  refine List.forall_mem_cons.mpr ⟨(s_aloadn (am_dp pw_X6_insert_0 dd_X6_insert_0b.2.2.2.1) rfl).to, ?_⟩
  refine List.forall_mem_cons.mpr ⟨(s_get (ci := 6) (k := 6) (am_dp pw_X6_insert_0 dd_X6_insert_0b.2.2.2.2.1) rfl (by decide) wd257 inX6 rfl).to, ?_⟩
  refine List.forall_mem_cons.mpr ⟨(s_iload (am_dp pw_X6_insert_0 dd_X6_insert_0b.2.2.2.2.2.1)).to, ?_⟩
  refine List.forall_mem_cons.mpr ⟨(s_iconst (am_dp pw_X6_insert_0 dd_X6_insert_0b.2.2.2.2.2.2.1) (by decide)).to, ?_⟩
  refine List.forall_mem_cons.mpr ⟨(s_isub (am_dp pw_X6_insert_0 dd_X6_insert_0b.2.2.2.2.2.2.2)).to, ?_⟩
  refine List.forall_mem_cons.mpr ⟨(s_iald (am_dp pw_X6_insert_0 dd_X6_insert_0c.1)).to, ?_⟩
  refine List.forall_mem_cons.mpr ⟨(s_iloadn (am_dp pw_X6_insert_0 dd_X6_insert_0c.2) rfl).to, ?_⟩
  refine List.forall_mem_cons.mpr ⟨(s_icmp_le (am_dp pw_X6_insert_32 dd_X6_insert_32a.1) (by decide)).to, ?_⟩
  refine List.forall_mem_cons.mpr ⟨(s_aloadn (am_dp pw_X6_insert_32 dd_X6_insert_32a.2.1) rfl).to, ?_⟩
  refine List.forall_mem_cons.mpr ⟨(s_get (ci := 6) (k := 6) (am_dp pw_X6_insert_32 dd_X6_insert_32a.2.2.1) rfl (by decide) wd257 inX6 rfl).to, ?_⟩
  refine List.forall_mem_cons.mpr ⟨(s_iload (am_dp pw_X6_insert_32 dd_X6_insert_32a.2.2.2.1)).to, ?_⟩
  refine List.forall_mem_cons.mpr ⟨(s_aloadn (am_dp pw_X6_insert_32 dd_X6_insert_32a.2.2.2.2.1) rfl).to, ?_⟩
  refine List.forall_mem_cons.mpr ⟨(s_get (ci := 6) (k := 6) (am_dp pw_X6_insert_32 dd_X6_insert_32a.2.2.2.2.2.1) rfl (by decide) wd257 inX6 rfl).to, ?_⟩
  refine List.forall_mem_cons.mpr ⟨(s_iload (am_dp pw_X6_insert_32 dd_X6_insert_32a.2.2.2.2.2.2.1)).to, ?_⟩
  refine List.forall_mem_cons.mpr ⟨(s_iconst (am_dp pw_X6_insert_32 dd_X6_insert_32a.2.2.2.2.2.2.2) (by decide)).to, ?_⟩
  refine List.forall_mem_cons.mpr ⟨(s_isub (am_dp pw_X6_insert_32 dd_X6_insert_32b.1)).to, ?_⟩
  refine List.forall_mem_cons.mpr ⟨(s_iald (am_dp pw_X6_insert_32 dd_X6_insert_32b.2.1)).to, ?_⟩
  refine List.forall_mem_cons.mpr ⟨(s_iast (am_dp pw_X6_insert_32 dd_X6_insert_32b.2.2.1)).to, ?_⟩
  refine List.forall_mem_cons.mpr ⟨(s_aloadn (am_dp pw_X6_insert_32 dd_X6_insert_32b.2.2.2.1) rfl).to, ?_⟩
  refine List.forall_mem_cons.mpr ⟨(s_get (ci := 6) (k := 7) (am_dp pw_X6_insert_32 dd_X6_insert_32b.2.2.2.2.1) rfl (by decide) wd260 inX6 rfl).to, ?_⟩
  refine List.forall_mem_cons.mpr ⟨(s_iload (am_dp pw_X6_insert_32 dd_X6_insert_32b.2.2.2.2.2.1)).to, ?_⟩
  refine List.forall_mem_cons.mpr ⟨(s_aloadn (am_dp pw_X6_insert_32 dd_X6_insert_32b.2.2.2.2.2.2.1) rfl).to, ?_⟩
  refine List.forall_mem_cons.mpr ⟨(s_get (ci := 6) (k := 7) (am_dp pw_X6_insert_32 dd_X6_insert_32b.2.2.2.2.2.2.2) rfl (by decide) wd260 inX6 rfl).to, ?_⟩
  refine List.forall_mem_cons.mpr ⟨(s_iload (am_dp pw_X6_insert_32 dd_X6_insert_32c.1)).to, ?_⟩
  refine List.forall_mem_cons.mpr ⟨(s_iconst (am_dp pw_X6_insert_32 dd_X6_insert_32c.2) (by decide)).to, ?_⟩
  refine List.forall_mem_cons.mpr ⟨(s_isub (am_dp pw_X6_insert_64 dd_X6_insert_64a.1)).to, ?_⟩
  refine List.forall_mem_cons.mpr ⟨(s_iald (am_dp pw_X6_insert_64 dd_X6_insert_64a.2.1)).to, ?_⟩
  refine List.forall_mem_cons.mpr ⟨(s_iast (am_dp pw_X6_insert_64 dd_X6_insert_64a.2.2.1)).to, ?_⟩
  refine List.forall_mem_cons.mpr ⟨(s_aloadn (am_dp pw_X6_insert_64 dd_X6_insert_64a.2.2.2.1) rfl).to, ?_⟩
  refine List.forall_mem_cons.mpr ⟨(s_get (ci := 6) (k := 8) (am_dp pw_X6_insert_64 dd_X6_insert_64a.2.2.2.2.1) rfl (by decide) wd263 inX6 rfl).to, ?_⟩
  refine List.forall_mem_cons.mpr ⟨(s_iload (am_dp pw_X6_insert_64 dd_X6_insert_64a.2.2.2.2.2.1)).to, ?_⟩
  refine List.forall_mem_cons.mpr ⟨(s_aloadn (am_dp pw_X6_insert_64 dd_X6_insert_64a.2.2.2.2.2.2.1) rfl).to, ?_⟩
  refine List.forall_mem_cons.mpr ⟨(s_get (ci := 6) (k := 8) (am_dp pw_X6_insert_64 dd_X6_insert_64a.2.2.2.2.2.2.2) rfl (by decide) wd263 inX6 rfl).to, ?_⟩
  refine List.forall_mem_cons.mpr ⟨(s_iload (am_dp pw_X6_insert_64 dd_X6_insert_64b.1)).to, ?_⟩
  refine List.forall_mem_cons.mpr ⟨(s_iconst (am_dp pw_X6_insert_64 dd_X6_insert_64b.2.1) (by decide)).to, ?_⟩
  refine List.forall_mem_cons.mpr ⟨(s_isub (am_dp pw_X6_insert_64 dd_X6_insert_64b.2.2.1)).to, ?_⟩
  refine List.forall_mem_cons.mpr ⟨(s_zald (am_dp pw_X6_insert_64 dd_X6_insert_64b.2.2.2.1)).to, ?_⟩
  refine List.forall_mem_cons.mpr ⟨(s_zast (am_dp pw_X6_insert_64 dd_X6_insert_64b.2.2.2.2.1)).to, ?_⟩
  refine List.forall_mem_cons.mpr ⟨(s_iinc (am_dp pw_X6_insert_64 dd_X6_insert_64b.2.2.2.2.2.1) (by decide) (by decide)).to, ?_⟩
  refine List.forall_mem_cons.mpr ⟨(s_goto (am_dp pw_X6_insert_64 dd_X6_insert_64b.2.2.2.2.2.2.1) (by decide)).to, ?_⟩
  refine List.forall_mem_cons.mpr ⟨(s_aloadn (am_dp pw_X6_insert_64 dd_X6_insert_64b.2.2.2.2.2.2.2) rfl).to, ?_⟩
  refine List.forall_mem_cons.mpr ⟨(s_get (ci := 6) (k := 6) (am_dp pw_X6_insert_64 dd_X6_insert_64c.1) rfl (by decide) wd257 inX6 rfl).to, ?_⟩
  refine List.forall_mem_cons.mpr ⟨(s_iload (am_dp pw_X6_insert_64 dd_X6_insert_64c.2.1)).to, ?_⟩
  refine List.forall_mem_cons.mpr ⟨(s_iloadn (am_dp pw_X6_insert_64 dd_X6_insert_64c.2.2) rfl).to, ?_⟩
  refine List.forall_mem_cons.mpr ⟨(s_iast (am_dp pw_X6_insert_96 dd_X6_insert_96a.1)).to, ?_⟩
  refine List.forall_mem_cons.mpr ⟨(s_aloadn (am_dp pw_X6_insert_96 dd_X6_insert_96a.2.1) rfl).to, ?_⟩
  refine List.forall_mem_cons.mpr ⟨(s_get (ci := 6) (k := 7) (am_dp pw_X6_insert_96 dd_X6_insert_96a.2.2.1) rfl (by decide) wd260 inX6 rfl).to, ?_⟩
  refine List.forall_mem_cons.mpr ⟨(s_iload (am_dp pw_X6_insert_96 dd_X6_insert_96a.2.2.2.1)).to, ?_⟩
  refine List.forall_mem_cons.mpr ⟨(s_iloadn (am_dp pw_X6_insert_96 dd_X6_insert_96a.2.2.2.2.1) rfl).to, ?_⟩
  exact fun _ h => absurd h List.not_mem_nil
theorem sn_tX6_insert_1 : ∀ q ∈ tX6_insert_1, am_Snd am_P0 RX6 cX6_insert 5 (Option.some FieldType.int) "insert" q.1 q.2 := by
  unfold tX6_insert_1
  refine List.forall_mem_cons.mpr ⟨(s_iast (am_dp pw_X6_insert_96 dd_X6_insert_96a.2.2.2.2.2.1)).to, ?_⟩
  refine List.forall_mem_cons.mpr ⟨(s_aloadn (am_dp pw_X6_insert_96 dd_X6_insert_96a.2.2.2.2.2.2.1) rfl).to, ?_⟩
  refine List.forall_mem_cons.mpr ⟨(s_get (ci := 6) (k := 8) (am_dp pw_X6_insert_96 dd_X6_insert_96a.2.2.2.2.2.2.2) rfl (by decide) wd263 inX6 rfl).to, ?_⟩
  refine List.forall_mem_cons.mpr ⟨(s_iload (am_dp pw_X6_insert_96 dd_X6_insert_96b.1)).to, ?_⟩
  refine List.forall_mem_cons.mpr ⟨(s_iloadn (am_dp pw_X6_insert_96 dd_X6_insert_96b.2.1) rfl).to, ?_⟩
  refine List.forall_mem_cons.mpr ⟨(s_zast (am_dp pw_X6_insert_96 dd_X6_insert_96b.2.2.1)).to, ?_⟩
  refine List.forall_mem_cons.mpr ⟨(s_aloadn (am_dp pw_X6_insert_96 dd_X6_insert_96b.2.2.2.1) rfl).to, ?_⟩
  refine List.forall_mem_cons.mpr ⟨(s_dup (am_dp pw_X6_insert_96 dd_X6_insert_96b.2.2.2.2.1)).to, ?_⟩
  refine List.forall_mem_cons.mpr ⟨(s_get (ci := 6) (k := 5) (am_dp pw_X6_insert_96 dd_X6_insert_96b.2.2.2.2.2.1) rfl (by decide) wd253 inX6 rfl).to, ?_⟩
  refine List.forall_mem_cons.mpr ⟨(s_iconst (am_dp pw_X6_insert_96 dd_X6_insert_96b.2.2.2.2.2.2.1) (by decide)).to, ?_⟩
  refine List.forall_mem_cons.mpr ⟨(s_iadd (am_dp pw_X6_insert_96 dd_X6_insert_96b.2.2.2.2.2.2.2)).to, ?_⟩
  refine List.forall_mem_cons.mpr ⟨(s_put (ci := 6) (k := 5) (am_dp pw_X6_insert_96 dd_X6_insert_96c.1) rfl (by decide) wd253 inX6 tyX6_ok nmX6 rfl rfl).to, ?_⟩
  refine List.forall_mem_cons.mpr ⟨(s_iload (am_dp pw_X6_insert_96 dd_X6_insert_96c.2.1)).to, ?_⟩
  refine List.forall_mem_cons.mpr ⟨s_iret (am_dp pw_X6_insert_96 dd_X6_insert_96c.2.2) rfl, ?_⟩
  exact fun _ h => absurd h List.not_mem_nil
theorem sn_tX6_insert : ∀ q ∈ tX6_insert, am_Snd am_P0 RX6 cX6_insert 5 (Option.some FieldType.int) "insert" q.1 q.2 := by
  unfold tX6_insert
  exact List.forall_mem_append.mpr ⟨sn_tX6_insert_0, sn_tX6_insert_1⟩
theorem sn_tX6_remove : ∀ q ∈ tX6_remove, am_Snd am_P0 RX6 cX6_remove 3 (Option.none : Option FieldType) "remove" q.1 q.2 := by
  unfold tX6_remove
  refine List.forall_mem_cons.mpr ⟨(s_iloadn (am_dp pw_X6_remove_0 dd_X6_remove_0a.1) rfl).to, ?_⟩
  refine List.forall_mem_cons.mpr ⟨(s_istoren (am_dp pw_X6_remove_0 dd_X6_remove_0a.2.1) rfl (by decide)).to, ?_⟩
  refine List.forall_mem_cons.mpr ⟨(s_iloadn (am_dp pw_X6_remove_0 dd_X6_remove_0a.2.2.1) rfl).to, ?_⟩
  refine List.forall_mem_cons.mpr ⟨(s_iconst (am_dp pw_X6_remove_0 dd_X6_remove_0a.2.2.2.1) (by decide)).to, ?_⟩
  refine List.forall_mem_cons.mpr ⟨(s_iadd (am_dp pw_X6_remove_0 dd_X6_remove_0a.2.2.2.2.1)).to, ?_⟩
  refine List.forall_mem_cons.mpr ⟨(s_aloadn (am_dp pw_X6_remove_0 dd_X6_remove_0a.2.2.2.2.2.1) rfl).to, ?_⟩
  refine List.forall_mem_cons.mpr ⟨(s_get (ci := 6) (k := 5) (am_dp pw_X6_remove_0 dd_X6_remove_0a.2.2.2.2.2.2.1) rfl (by decide) wd253 inX6 rfl).to, ?_⟩
  refine List.forall_mem_cons.mpr ⟨(s_icmp_ge (am_dp pw_X6_remove_0 dd_X6_remove_0a.2.2.2.2.2.2.2) (by decide)).to, ?_⟩
  refine List.forall_mem_cons.mpr ⟨(s_aloadn (am_dp pw_X6_remove_0 dd_X6_remove_0b.1) rfl).to, ?_⟩
  refine List.forall_mem_cons.mpr ⟨(s_get (ci := 6) (k := 6) (am_dp pw_X6_remove_0 dd_X6_remove_0b.2.1) rfl (by decide) wd257 inX6 rfl).to, ?_⟩
  refine List.forall_mem_cons.mpr ⟨(s_iloadn (am_dp pw_X6_remove_0 dd_X6_remove_0b.2.2.1) rfl).to, ?_⟩
  refine List.forall_mem_cons.mpr ⟨(s_aloadn (am_dp pw_X6_remove_0 dd_X6_remove_0b.2.2.2.1) rfl).to, ?_⟩
  refine List.forall_mem_cons.mpr ⟨(s_get (ci := 6) (k := 6) (am_dp pw_X6_remove_0 dd_X6_remove_0b.2.2.2.2.1) rfl (by decide) wd257 inX6 rfl).to, ?_⟩
  refine List.forall_mem_cons.mpr ⟨(s_iloadn (am_dp pw_X6_remove_0 dd_X6_remove_0b.2.2.2.2.2.1) rfl).to, ?_⟩
  refine List.forall_mem_cons.mpr ⟨(s_iconst (am_dp pw_X6_remove_0 dd_X6_remove_0b.2.2.2.2.2.2.1) (by decide)).to, ?_⟩
  refine List.forall_mem_cons.mpr ⟨(s_iadd (am_dp pw_X6_remove_0 dd_X6_remove_0b.2.2.2.2.2.2.2)).to, ?_⟩
  refine List.forall_mem_cons.mpr ⟨(s_iald (am_dp pw_X6_remove_0 dd_X6_remove_0c.1)).to, ?_⟩
  refine List.forall_mem_cons.mpr ⟨(s_iast (am_dp pw_X6_remove_0 dd_X6_remove_0c.2.1)).to, ?_⟩
  refine List.forall_mem_cons.mpr ⟨(s_aloadn (am_dp pw_X6_remove_0 dd_X6_remove_0c.2.2.1) rfl).to, ?_⟩
  refine List.forall_mem_cons.mpr ⟨(s_get (ci := 6) (k := 7) (am_dp pw_X6_remove_0 dd_X6_remove_0c.2.2.2.1) rfl (by decide) wd260 inX6 rfl).to, ?_⟩
  refine List.forall_mem_cons.mpr ⟨(s_iloadn (am_dp pw_X6_remove_0 dd_X6_remove_0c.2.2.2.2.1) rfl).to, ?_⟩
  refine List.forall_mem_cons.mpr ⟨(s_aloadn (am_dp pw_X6_remove_0 dd_X6_remove_0c.2.2.2.2.2) rfl).to, ?_⟩
  refine List.forall_mem_cons.mpr ⟨(s_get (ci := 6) (k := 7) (am_dp pw_X6_remove_32 dd_X6_remove_32a.1) rfl (by decide) wd260 inX6 rfl).to, ?_⟩
  refine List.forall_mem_cons.mpr ⟨(s_iloadn (am_dp pw_X6_remove_32 dd_X6_remove_32a.2.1) rfl).to, ?_⟩
  refine List.forall_mem_cons.mpr ⟨(s_iconst (am_dp pw_X6_remove_32 dd_X6_remove_32a.2.2.1) (by decide)).to, ?_⟩
  refine List.forall_mem_cons.mpr ⟨(s_iadd (am_dp pw_X6_remove_32 dd_X6_remove_32a.2.2.2.1)).to, ?_⟩
  refine List.forall_mem_cons.mpr ⟨(s_iald (am_dp pw_X6_remove_32 dd_X6_remove_32a.2.2.2.2.1)).to, ?_⟩
  refine List.forall_mem_cons.mpr ⟨(s_iast (am_dp pw_X6_remove_32 dd_X6_remove_32a.2.2.2.2.2.1)).to, ?_⟩
  refine List.forall_mem_cons.mpr ⟨(s_aloadn (am_dp pw_X6_remove_32 dd_X6_remove_32a.2.2.2.2.2.2.1) rfl).to, ?_⟩
  refine List.forall_mem_cons.mpr ⟨(s_get (ci := 6) (k := 8) (am_dp pw_X6_remove_32 dd_X6_remove_32a.2.2.2.2.2.2.2) rfl (by decide) wd263 inX6 rfl).to, ?_⟩
  refine List.forall_mem_cons.mpr ⟨(s_iloadn (am_dp pw_X6_remove_32 dd_X6_remove_32b.1) rfl).to, ?_⟩
  refine List.forall_mem_cons.mpr ⟨(s_aloadn (am_dp pw_X6_remove_32 dd_X6_remove_32b.2.1) rfl).to, ?_⟩
  refine List.forall_mem_cons.mpr ⟨(s_get (ci := 6) (k := 8) (am_dp pw_X6_remove_32 dd_X6_remove_32b.2.2.1) rfl (by decide) wd263 inX6 rfl).to, ?_⟩
  refine List.forall_mem_cons.mpr ⟨(s_iloadn (am_dp pw_X6_remove_32 dd_X6_remove_32b.2.2.2.1) rfl).to, ?_⟩
  refine List.forall_mem_cons.mpr ⟨(s_iconst (am_dp pw_X6_remove_32 dd_X6_remove_32b.2.2.2.2.1) (by decide)).to, ?_⟩
  refine List.forall_mem_cons.mpr ⟨(s_iadd (am_dp pw_X6_remove_32 dd_X6_remove_32b.2.2.2.2.2.1)).to, ?_⟩
  refine List.forall_mem_cons.mpr ⟨(s_zald (am_dp pw_X6_remove_32 dd_X6_remove_32b.2.2.2.2.2.2.1)).to, ?_⟩
  refine List.forall_mem_cons.mpr ⟨(s_zast (am_dp pw_X6_remove_32 dd_X6_remove_32b.2.2.2.2.2.2.2)).to, ?_⟩
  refine List.forall_mem_cons.mpr ⟨(s_iinc (am_dp pw_X6_remove_32 dd_X6_remove_32c.1) (by decide) (by decide)).to, ?_⟩
  refine List.forall_mem_cons.mpr ⟨(s_goto (am_dp pw_X6_remove_32 dd_X6_remove_32c.2.1) (by decide)).to, ?_⟩
  refine List.forall_mem_cons.mpr ⟨(s_aloadn (am_dp pw_X6_remove_32 dd_X6_remove_32c.2.2.1) rfl).to, ?_⟩
  refine List.forall_mem_cons.mpr ⟨(s_dup (am_dp pw_X6_remove_32 dd_X6_remove_32c.2.2.2.1)).to, ?_⟩
  refine List.forall_mem_cons.mpr ⟨(s_get (ci := 6) (k := 5) (am_dp pw_X6_remove_32 dd_X6_remove_32c.2.2.2.2) rfl (by decide) wd253 inX6 rfl).to, ?_⟩
  refine List.forall_mem_cons.mpr ⟨(s_iconst (am_dp pw_X6_remove_64 dd_X6_remove_64a.1) (by decide)).to, ?_⟩
  refine List.forall_mem_cons.mpr ⟨(s_isub (am_dp pw_X6_remove_64 dd_X6_remove_64a.2.1)).to, ?_⟩
  refine List.forall_mem_cons.mpr ⟨(s_put (ci := 6) (k := 5) (am_dp pw_X6_remove_64 dd_X6_remove_64a.2.2.1) rfl (by decide) wd253 inX6 tyX6_ok nmX6 rfl rfl).to, ?_⟩
  refine List.forall_mem_cons.mpr ⟨s_vret (am_dp pw_X6_remove_64 dd_X6_remove_64a.2.2.2) rfl, ?_⟩
  exact fun _ h => absurd h List.not_mem_nil
theorem sn_tX6_enterBook : ∀ q ∈ tX6_enterBook, am_Snd am_P0 RX6 cX6_enterBook 4 (Option.none : Option FieldType) "enterBook" q.1 q.2 := by
  unfold tX6_enterBook
  refine List.forall_mem_cons.mpr ⟨(s_aloadn (am_dp pw_X6_enterBook_0 dd_X6_enterBook_0a.1) rfl).to, ?_⟩
  refine List.forall_mem_cons.mpr ⟨(s_get (ci := 6) (k := 9) (am_dp pw_X6_enterBook_0 dd_X6_enterBook_0a.2.1) rfl (by decide) wd266 inX6 rfl).to, ?_⟩
  refine List.forall_mem_cons.mpr ⟨(s_bipush (am_dp pw_X6_enterBook_0 dd_X6_enterBook_0a.2.2.1) (by decide)).to, ?_⟩
  refine List.forall_mem_cons.mpr ⟨(s_icmp_ge (am_dp pw_X6_enterBook_0 dd_X6_enterBook_0a.2.2.2.1) (by decide)).to, ?_⟩
  refine List.forall_mem_cons.mpr ⟨(s_aloadn (am_dp pw_X6_enterBook_0 dd_X6_enterBook_0a.2.2.2.2.1) rfl).to, ?_⟩
  refine List.forall_mem_cons.mpr ⟨(s_get (ci := 6) (k := 10) (am_dp pw_X6_enterBook_0 dd_X6_enterBook_0a.2.2.2.2.2.1) rfl (by decide) wd270 inX6 rfl).to, ?_⟩
  refine List.forall_mem_cons.mpr ⟨(s_aloadn (am_dp pw_X6_enterBook_0 dd_X6_enterBook_0a.2.2.2.2.2.2.1) rfl).to, ?_⟩
  refine List.forall_mem_cons.mpr ⟨(s_get (ci := 6) (k := 9) (am_dp pw_X6_enterBook_0 dd_X6_enterBook_0a.2.2.2.2.2.2.2) rfl (by decide) wd266 inX6 rfl).to, ?_⟩
  refine List.forall_mem_cons.mpr ⟨(s_iloadn (am_dp pw_X6_enterBook_0 dd_X6_enterBook_0b.1) rfl).to, ?_⟩
  refine List.forall_mem_cons.mpr ⟨(s_iast (am_dp pw_X6_enterBook_0 dd_X6_enterBook_0b.2.1)).to, ?_⟩
  refine List.forall_mem_cons.mpr ⟨(s_aloadn (am_dp pw_X6_enterBook_0 dd_X6_enterBook_0b.2.2.1) rfl).to, ?_⟩
  refine List.forall_mem_cons.mpr ⟨(s_get (ci := 6) (k := 11) (am_dp pw_X6_enterBook_0 dd_X6_enterBook_0b.2.2.2.1) rfl (by decide) wd272 inX6 rfl).to, ?_⟩
  refine List.forall_mem_cons.mpr ⟨(s_aloadn (am_dp pw_X6_enterBook_0 dd_X6_enterBook_0b.2.2.2.2.1) rfl).to, ?_⟩
  refine List.forall_mem_cons.mpr ⟨(s_get (ci := 6) (k := 9) (am_dp pw_X6_enterBook_0 dd_X6_enterBook_0b.2.2.2.2.2.1) rfl (by decide) wd266 inX6 rfl).to, ?_⟩
  refine List.forall_mem_cons.mpr ⟨(s_iloadn (am_dp pw_X6_enterBook_0 dd_X6_enterBook_0b.2.2.2.2.2.2.1) rfl).to, ?_⟩
  refine List.forall_mem_cons.mpr ⟨(s_iast (am_dp pw_X6_enterBook_0 dd_X6_enterBook_0b.2.2.2.2.2.2.2)).to, ?_⟩
  refine List.forall_mem_cons.mpr ⟨(s_aloadn (am_dp pw_X6_enterBook_0 dd_X6_enterBook_0c.1) rfl).to, ?_⟩
  refine List.forall_mem_cons.mpr ⟨(s_get (ci := 6) (k := 12) (am_dp pw_X6_enterBook_0 dd_X6_enterBook_0c.2) rfl (by decide) wd274 inX6 rfl).to, ?_⟩
  refine List.forall_mem_cons.mpr ⟨(s_aloadn (am_dp pw_X6_enterBook_32 dd_X6_enterBook_32a.1) rfl).to, ?_⟩
  refine List.forall_mem_cons.mpr ⟨(s_get (ci := 6) (k := 9) (am_dp pw_X6_enterBook_32 dd_X6_enterBook_32a.2.1) rfl (by decide) wd266 inX6 rfl).to, ?_⟩
  refine List.forall_mem_cons.mpr ⟨(s_iloadn (am_dp pw_X6_enterBook_32 dd_X6_enterBook_32a.2.2.1) rfl).to, ?_⟩
  refine List.forall_mem_cons.mpr ⟨(s_iast (am_dp pw_X6_enterBook_32 dd_X6_enterBook_32a.2.2.2.1)).to, ?_⟩
  refine List.forall_mem_cons.mpr ⟨(s_aloadn (am_dp pw_X6_enterBook_32 dd_X6_enterBook_32a.2.2.2.2.1) rfl).to, ?_⟩
  refine List.forall_mem_cons.mpr ⟨(s_dup (am_dp pw_X6_enterBook_32 dd_X6_enterBook_32a.2.2.2.2.2.1)).to, ?_⟩
  refine List.forall_mem_cons.mpr ⟨(s_get (ci := 6) (k := 9) (am_dp pw_X6_enterBook_32 dd_X6_enterBook_32a.2.2.2.2.2.2.1) rfl (by decide) wd266 inX6 rfl).to, ?_⟩
  refine List.forall_mem_cons.mpr ⟨(s_iconst (am_dp pw_X6_enterBook_32 dd_X6_enterBook_32a.2.2.2.2.2.2.2) (by decide)).to, ?_⟩
  refine List.forall_mem_cons.mpr ⟨(s_iadd (am_dp pw_X6_enterBook_32 dd_X6_enterBook_32b.1)).to, ?_⟩
  refine List.forall_mem_cons.mpr ⟨(s_put (ci := 6) (k := 9) (am_dp pw_X6_enterBook_32 dd_X6_enterBook_32b.2.1) rfl (by decide) wd266 inX6 tyX6_ok nmX6 rfl rfl).to, ?_⟩
  refine List.forall_mem_cons.mpr ⟨s_vret (am_dp pw_X6_enterBook_32 dd_X6_enterBook_32b.2.2) rfl, ?_⟩
  exact fun _ h => absurd h List.not_mem_nil
theorem sn_tX6_hoursToBook : ∀ q ∈ tX6_hoursToBook, am_Snd am_P0 RX6 cX6_hoursToBook 3 (Option.some FieldType.int) "hoursToBook" q.1 q.2 := by
  unfold tX6_hoursToBook
  refine List.forall_mem_cons.mpr ⟨(s_iloadn (am_dp pw_X6_hoursToBook_0 dd_X6_hoursToBook_0a.1) rfl).to, ?_⟩
  refine List.forall_mem_cons.mpr ⟨(s_aloadn (am_dp pw_X6_hoursToBook_0 dd_X6_hoursToBook_0a.2.1) rfl).to, ?_⟩
  refine List.forall_mem_cons.mpr ⟨(s_get (ci := 6) (k := 11) (am_dp pw_X6_hoursToBook_0 dd_X6_hoursToBook_0a.2.2.1) rfl (by decide) wd272 inX6 rfl).to, ?_⟩
  refine List.forall_mem_cons.mpr ⟨(s_iloadn (am_dp pw_X6_hoursToBook_0 dd_X6_hoursToBook_0a.2.2.2.1) rfl).to, ?_⟩
  refine List.forall_mem_cons.mpr ⟨(s_iald (am_dp pw_X6_hoursToBook_0 dd_X6_hoursToBook_0a.2.2.2.2.1)).to, ?_⟩
  refine List.forall_mem_cons.mpr ⟨(s_icmp_ge (am_dp pw_X6_hoursToBook_0 dd_X6_hoursToBook_0a.2.2.2.2.2.1) (by decide)).to, ?_⟩
  refine List.forall_mem_cons.mpr ⟨(s_aloadn (am_dp pw_X6_hoursToBook_0 dd_X6_hoursToBook_0a.2.2.2.2.2.2.1) rfl).to, ?_⟩
  refine List.forall_mem_cons.mpr ⟨(s_get (ci := 6) (k := 11) (am_dp pw_X6_hoursToBook_0 dd_X6_hoursToBook_0a.2.2.2.2.2.2.2) rfl (by decide) wd272 inX6 rfl).to, ?_⟩
  refine List.forall_mem_cons.mpr ⟨(s_iloadn (am_dp pw_X6_hoursToBook_0 dd_X6_hoursToBook_0b.1) rfl).to, ?_⟩
  refine List.forall_mem_cons.mpr ⟨(s_iald (am_dp pw_X6_hoursToBook_0 dd_X6_hoursToBook_0b.2.1)).to, ?_⟩
  refine List.forall_mem_cons.mpr ⟨(s_iloadn (am_dp pw_X6_hoursToBook_0 dd_X6_hoursToBook_0b.2.2.1) rfl).to, ?_⟩
  refine List.forall_mem_cons.mpr ⟨(s_isub (am_dp pw_X6_hoursToBook_0 dd_X6_hoursToBook_0b.2.2.2.1)).to, ?_⟩
  refine List.forall_mem_cons.mpr ⟨s_iret (am_dp pw_X6_hoursToBook_0 dd_X6_hoursToBook_0b.2.2.2.2.1) rfl, ?_⟩
  refine List.forall_mem_cons.mpr ⟨(s_iloadn (am_dp pw_X6_hoursToBook_0 dd_X6_hoursToBook_0b.2.2.2.2.2.1) rfl).to, ?_⟩
  refine List.forall_mem_cons.mpr ⟨(s_aloadn (am_dp pw_X6_hoursToBook_0 dd_X6_hoursToBook_0b.2.2.2.2.2.2.1) rfl).to, ?_⟩
  refine List.forall_mem_cons.mpr ⟨(s_get (ci := 6) (k := 12) (am_dp pw_X6_hoursToBook_0 dd_X6_hoursToBook_0b.2.2.2.2.2.2.2) rfl (by decide) wd274 inX6 rfl).to, ?_⟩
  refine List.forall_mem_cons.mpr ⟨(s_iloadn (am_dp pw_X6_hoursToBook_0 dd_X6_hoursToBook_0c.1) rfl).to, ?_⟩
  refine List.forall_mem_cons.mpr ⟨(s_iald (am_dp pw_X6_hoursToBook_0 dd_X6_hoursToBook_0c.2.1)).to, ?_⟩
  refine List.forall_mem_cons.mpr ⟨(s_icmp_le (am_dp pw_X6_hoursToBook_0 dd_X6_hoursToBook_0c.2.2.1) (by decide)).to, ?_⟩
  refine List.forall_mem_cons.mpr ⟨(s_iloadn (am_dp pw_X6_hoursToBook_0 dd_X6_hoursToBook_0c.2.2.2.1) rfl).to, ?_⟩
  refine List.forall_mem_cons.mpr ⟨(s_aloadn (am_dp pw_X6_hoursToBook_0 dd_X6_hoursToBook_0c.2.2.2.2.1) rfl).to, ?_⟩
  refine List.forall_mem_cons.mpr ⟨(s_get (ci := 6) (k := 12) (am_dp pw_X6_hoursToBook_0 dd_X6_hoursToBook_0c.2.2.2.2.2) rfl (by decide) wd274 inX6 rfl).to, ?_⟩
  refine List.forall_mem_cons.mpr ⟨(s_iloadn (am_dp pw_X6_hoursToBook_32 dd_X6_hoursToBook_32a.1) rfl).to, ?_⟩
  refine List.forall_mem_cons.mpr ⟨(s_iald (am_dp pw_X6_hoursToBook_32 dd_X6_hoursToBook_32a.2.1)).to, ?_⟩
  refine List.forall_mem_cons.mpr ⟨(s_isub (am_dp pw_X6_hoursToBook_32 dd_X6_hoursToBook_32a.2.2.1)).to, ?_⟩
  refine List.forall_mem_cons.mpr ⟨(s_goto (am_dp pw_X6_hoursToBook_32 dd_X6_hoursToBook_32a.2.2.2.1) (by decide)).to, ?_⟩
  refine List.forall_mem_cons.mpr ⟨(s_iconst (am_dp pw_X6_hoursToBook_32 dd_X6_hoursToBook_32a.2.2.2.2.1) (by decide)).to, ?_⟩
  refine List.forall_mem_cons.mpr ⟨s_iret (am_dp pw_X6_hoursToBook_32 dd_X6_hoursToBook_32a.2.2.2.2.2) rfl, ?_⟩
  exact fun _ h => absurd h List.not_mem_nil
theorem sn_tX7_init : ∀ q ∈ tX7_init, am_Snd am_P0 RX7 cX7_init 1 (Option.none : Option FieldType) "<init>" q.1 q.2 := by
  unfold tX7_init
  refine List.forall_mem_cons.mpr ⟨(s_aloadn (am_dp pw_X7_init_0 dd_X7_init_0a.1) rfl).to, ?_⟩
  refine List.forall_mem_cons.mpr ⟨(s_obj (am_dp pw_X7_init_0 dd_X7_init_0a.2.1) wd175 wd160 wd161).to, ?_⟩
  refine List.forall_mem_cons.mpr ⟨(s_aloadn (am_dp pw_X7_init_0 dd_X7_init_0a.2.2.1) rfl).to, ?_⟩
  refine List.forall_mem_cons.mpr ⟨(s_bipush (am_dp pw_X7_init_0 dd_X7_init_0a.2.2.2.1) (by decide)).to, ?_⟩
  refine List.forall_mem_cons.mpr ⟨(s_newa (kd := 0) (ty := .int) (am_dp pw_X7_init_0 dd_X7_init_0a.2.2.2.2.1) rfl rfl wd195 (by decide) (by decide) (fun _ _ h => h)).to, ?_⟩
  refine List.forall_mem_cons.mpr ⟨(s_putF (ci := 7) (k := 1) (am_dp pw_X7_init_0 dd_X7_init_0a.2.2.2.2.2.1) rfl (by decide) wd180 inX7 tyX7_ok nmX7 rfl rfl rfl rfl).to, ?_⟩
  refine List.forall_mem_cons.mpr ⟨(s_aloadn (am_dp pw_X7_init_0 dd_X7_init_0a.2.2.2.2.2.2.1) rfl).to, ?_⟩
  refine List.forall_mem_cons.mpr ⟨(s_bipush (am_dp pw_X7_init_0 dd_X7_init_0a.2.2.2.2.2.2.2) (by decide)).to, ?_⟩
  refine List.forall_mem_cons.mpr ⟨(s_newa (kd := 0) (ty := .int) (am_dp pw_X7_init_0 dd_X7_init_0b.1) rfl rfl wd195 (by decide) (by decide) (fun _ _ h => h)).to, ?_⟩
  refine List.forall_mem_cons.mpr ⟨(s_putF (ci := 7) (k := 2) (am_dp pw_X7_init_0 dd_X7_init_0b.2.1) rfl (by decide) wd182 inX7 tyX7_ok nmX7 rfl rfl rfl rfl).to, ?_⟩
  refine List.forall_mem_cons.mpr ⟨(s_aloadn (am_dp pw_X7_init_0 dd_X7_init_0b.2.2.1) rfl).to, ?_⟩
  refine List.forall_mem_cons.mpr ⟨(s_bipush (am_dp pw_X7_init_0 dd_X7_init_0b.2.2.2.1) (by decide)).to, ?_⟩
  refine List.forall_mem_cons.mpr ⟨(s_newa (kd := 0) (ty := .int) (am_dp pw_X7_init_0 dd_X7_init_0b.2.2.2.2.1) rfl rfl wd195 (by decide) (by decide) (fun _ _ h => h)).to, ?_⟩
  refine List.forall_mem_cons.mpr ⟨(s_putF (ci := 7) (k := 3) (am_dp pw_X7_init_0 dd_X7_init_0b.2.2.2.2.2.1) rfl (by decide) wd184 inX7 tyX7_ok nmX7 rfl rfl rfl rfl).to, ?_⟩
  refine List.forall_mem_cons.mpr ⟨s_vret (am_dp pw_X7_init_0 dd_X7_init_0b.2.2.2.2.2.2) rfl, ?_⟩
  exact fun _ h => absurd h List.not_mem_nil
theorem sn_tX7_append : ∀ q ∈ tX7_append, am_Snd am_P0 RX7 cX7_append 4 (Option.none : Option FieldType) "append" q.1 q.2 := by
  unfold tX7_append
  refine List.forall_mem_cons.mpr ⟨(s_aloadn (am_dp pw_X7_append_0 dd_X7_append_0a.1) rfl).to, ?_⟩
  refine List.forall_mem_cons.mpr ⟨(s_get (ci := 7) (k := 0) (am_dp pw_X7_append_0 dd_X7_append_0a.2.1) rfl (by decide) wd176 inX7 rfl).to, ?_⟩
  refine List.forall_mem_cons.mpr ⟨(s_bipush (am_dp pw_X7_append_0 dd_X7_append_0a.2.2.1) (by decide)).to, ?_⟩
  refine List.forall_mem_cons.mpr ⟨(s_icmp_ge (am_dp pw_X7_append_0 dd_X7_append_0a.2.2.2.1) (by decide)).to, ?_⟩
  refine List.forall_mem_cons.mpr ⟨(s_aloadn (am_dp pw_X7_append_0 dd_X7_append_0a.2.2.2.2.1) rfl).to, ?_⟩
  refine List.forall_mem_cons.mpr ⟨(s_get (ci := 7) (k := 1) (am_dp pw_X7_append_0 dd_X7_append_0a.2.2.2.2.2.1) rfl (by decide) wd180 inX7 rfl).to, ?_⟩
  refine List.forall_mem_cons.mpr ⟨(s_aloadn (am_dp pw_X7_append_0 dd_X7_append_0a.2.2.2.2.2.2.1) rfl).to, ?_⟩
  refine List.forall_mem_cons.mpr ⟨(s_get (ci := 7) (k := 0) (am_dp pw_X7_append_0 dd_X7_append_0a.2.2.2.2.2.2.2) rfl (by decide) wd176 inX7 rfl).to, ?_⟩
  refine List.forall_mem_cons.mpr ⟨(s_iloadn (am_dp pw_X7_append_0 dd_X7_append_0b.1) rfl).to, ?_⟩
  refine List.forall_mem_cons.mpr ⟨(s_iast (am_dp pw_X7_append_0 dd_X7_append_0b.2.1)).to, ?_⟩
  refine List.forall_mem_cons.mpr ⟨(s_aloadn (am_dp pw_X7_append_0 dd_X7_append_0b.2.2.1) rfl).to, ?_⟩
  refine List.forall_mem_cons.mpr ⟨(s_get (ci := 7) (k := 2) (am_dp pw_X7_append_0 dd_X7_append_0b.2.2.2.1) rfl (by decide) wd182 inX7 rfl).to, ?_⟩
  refine List.forall_mem_cons.mpr ⟨(s_aloadn (am_dp pw_X7_append_0 dd_X7_append_0b.2.2.2.2.1) rfl).to, ?_⟩
  refine List.forall_mem_cons.mpr ⟨(s_get (ci := 7) (k := 0) (am_dp pw_X7_append_0 dd_X7_append_0b.2.2.2.2.2.1) rfl (by decide) wd176 inX7 rfl).to, ?_⟩
  refine List.forall_mem_cons.mpr ⟨(s_iloadn (am_dp pw_X7_append_0 dd_X7_append_0b.2.2.2.2.2.2.1) rfl).to, ?_⟩
  refine List.forall_mem_cons.mpr ⟨(s_iast (am_dp pw_X7_append_0 dd_X7_append_0b.2.2.2.2.2.2.2)).to, ?_⟩
  refine List.forall_mem_cons.mpr ⟨(s_aloadn (am_dp pw_X7_append_0 dd_X7_append_0c.1) rfl).to, ?_⟩
  refine List.forall_mem_cons.mpr ⟨(s_get (ci := 7) (k := 3) (am_dp pw_X7_append_0 dd_X7_append_0c.2) rfl (by decide) wd184 inX7 rfl).to, ?_⟩
  refine List.forall_mem_cons.mpr ⟨(s_aloadn (am_dp pw_X7_append_32 dd_X7_append_32a.1) rfl).to, ?_⟩
  refine List.forall_mem_cons.mpr ⟨(s_get (ci := 7) (k := 0) (am_dp pw_X7_append_32 dd_X7_append_32a.2.1) rfl (by decide) wd176 inX7 rfl).to, ?_⟩
  refine List.forall_mem_cons.mpr ⟨(s_iloadn (am_dp pw_X7_append_32 dd_X7_append_32a.2.2.1) rfl).to, ?_⟩
  refine List.forall_mem_cons.mpr ⟨(s_iast (am_dp pw_X7_append_32 dd_X7_append_32a.2.2.2.1)).to, ?_⟩
  refine List.forall_mem_cons.mpr ⟨(s_aloadn (am_dp pw_X7_append_32 dd_X7_append_32a.2.2.2.2.1) rfl).to, ?_⟩
  refine List.forall_mem_cons.mpr ⟨(s_dup (am_dp pw_X7_append_32 dd_X7_append_32a.2.2.2.2.2.1)).to, ?_⟩
  refine List.forall_mem_cons.mpr ⟨(s_get (ci := 7) (k := 0) (am_dp pw_X7_append_32 dd_X7_append_32a.2.2.2.2.2.2.1) rfl (by decide) wd176 inX7 rfl).to, ?_⟩
  refine List.forall_mem_cons.mpr ⟨(s_iconst (am_dp pw_X7_append_32 dd_X7_append_32a.2.2.2.2.2.2.2) (by decide)).to, ?_⟩
  refine List.forall_mem_cons.mpr ⟨(s_iadd (am_dp pw_X7_append_32 dd_X7_append_32b.1)).to, ?_⟩
  refine List.forall_mem_cons.mpr ⟨(s_put (ci := 7) (k := 0) (am_dp pw_X7_append_32 dd_X7_append_32b.2.1) rfl (by decide) wd176 inX7 tyX7_ok nmX7 rfl rfl).to, ?_⟩
  refine List.forall_mem_cons.mpr ⟨s_vret (am_dp pw_X7_append_32 dd_X7_append_32b.2.2) rfl, ?_⟩
  exact fun _ h => absurd h List.not_mem_nil
theorem sn_tX8_init : ∀ q ∈ tX8_init, am_Snd am_P0 RX8 cX8_init 3 (Option.none : Option FieldType) "<init>" q.1 q.2 := by
  unfold tX8_init
  refine List.forall_mem_cons.mpr ⟨(s_aloadn (am_dp pw_X8_init_0 dd_X8_init_0a.1) rfl).to, ?_⟩
  refine List.forall_mem_cons.mpr ⟨(s_obj (am_dp pw_X8_init_0 dd_X8_init_0a.2.1) wd481 wd160 wd161).to, ?_⟩
  refine List.forall_mem_cons.mpr ⟨(s_aloadn (am_dp pw_X8_init_0 dd_X8_init_0a.2.2.1) rfl).to, ?_⟩
  refine List.forall_mem_cons.mpr ⟨(s_new (ci := 9) (am_dp pw_X8_init_0 dd_X8_init_0a.2.2.2.1) rfl wd482 wd483 wd147 inX9 tyX9_ok (by decide)).to, ?_⟩
  refine List.forall_mem_cons.mpr ⟨(s_dup (am_dp pw_X8_init_0 dd_X8_init_0a.2.2.2.2.1)).to, ?_⟩
  refine List.forall_mem_cons.mpr ⟨z_cin (ci := 9) (am_dp pw_X8_init_0 dd_X8_init_0a.2.2.2.2.2.1) mt101 wd484 rfl rfl, ?_⟩
  refine List.forall_mem_cons.mpr ⟨(s_putF (ci := 8) (k := 2) (am_dp pw_X8_init_0 dd_X8_init_0a.2.2.2.2.2.2.1) rfl (by decide) wd521 inX8 tyX8_ok nmX8 rfl rfl rfl rfl).to, ?_⟩
  refine List.forall_mem_cons.mpr ⟨(s_aloadn (am_dp pw_X8_init_0 dd_X8_init_0a.2.2.2.2.2.2.2) rfl).to, ?_⟩
  refine List.forall_mem_cons.mpr ⟨(s_new (ci := 1) (am_dp pw_X8_init_0 dd_X8_init_0b.1) rfl wd507 wd508 wd148 inX1 tyX1_ok (by decide)).to, ?_⟩
  refine List.forall_mem_cons.mpr ⟨(s_dup (am_dp pw_X8_init_0 dd_X8_init_0b.2.1)).to, ?_⟩
  refine List.forall_mem_cons.mpr ⟨z_cin (ci := 1) (am_dp pw_X8_init_0 dd_X8_init_0b.2.2.1) mt5 wd509 rfl rfl, ?_⟩
  refine List.forall_mem_cons.mpr ⟨(s_putF (ci := 8) (k := 3) (am_dp pw_X8_init_0 dd_X8_init_0b.2.2.2.1) rfl (by decide) wd523 inX8 tyX8_ok nmX8 rfl rfl rfl rfl).to, ?_⟩
  refine List.forall_mem_cons.mpr ⟨(s_aloadn (am_dp pw_X8_init_0 dd_X8_init_0b.2.2.2.2.1) rfl).to, ?_⟩
  refine List.forall_mem_cons.mpr ⟨(s_bipush (am_dp pw_X8_init_0 dd_X8_init_0b.2.2.2.2.2.1) (by decide)).to, ?_⟩
  refine List.forall_mem_cons.mpr ⟨(s_newa (kd := 2) (ty := .boolean) (am_dp pw_X8_init_0 dd_X8_init_0b.2.2.2.2.2.2.1) rfl rfl wd304 (by decide) (by decide) (fun _ _ h => h)).to, ?_⟩
  refine List.forall_mem_cons.mpr ⟨(s_putF (ci := 8) (k := 9) (am_dp pw_X8_init_0 dd_X8_init_0b.2.2.2.2.2.2.2) rfl (by decide) wd531 inX8 tyX8_ok nmX8 rfl rfl rfl rfl).to, ?_⟩
  refine List.forall_mem_cons.mpr ⟨(s_aloadn (am_dp pw_X8_init_32 dd_X8_init_32a.1) rfl).to, ?_⟩
  refine List.forall_mem_cons.mpr ⟨(s_bipush (am_dp pw_X8_init_32 dd_X8_init_32a.2.1) (by decide)).to, ?_⟩
  refine List.forall_mem_cons.mpr ⟨(s_newa (kd := 2) (ty := .boolean) (am_dp pw_X8_init_32 dd_X8_init_32a.2.2.1) rfl rfl wd304 (by decide) (by decide) (fun _ _ h => h)).to, ?_⟩
  refine List.forall_mem_cons.mpr ⟨(s_putF (ci := 8) (k := 10) (am_dp pw_X8_init_32 dd_X8_init_32a.2.2.2.1) rfl (by decide) wd532 inX8 tyX8_ok nmX8 rfl rfl rfl rfl).to, ?_⟩
  refine List.forall_mem_cons.mpr ⟨(s_aloadn (am_dp pw_X8_init_32 dd_X8_init_32a.2.2.2.2.1) rfl).to, ?_⟩
  refine List.forall_mem_cons.mpr ⟨(s_sipush (am_dp pw_X8_init_32 dd_X8_init_32a.2.2.2.2.2.1) (by decide)).to, ?_⟩
  refine List.forall_mem_cons.mpr ⟨(s_newa (kd := 1) (ty := .long) (am_dp pw_X8_init_32 dd_X8_init_32a.2.2.2.2.2.2.1) rfl rfl wd303 (by decide) (by decide) (fun _ _ h => h)).to, ?_⟩
  refine List.forall_mem_cons.mpr ⟨(s_putF (ci := 8) (k := 12) (am_dp pw_X8_init_32 dd_X8_init_32a.2.2.2.2.2.2.2) rfl (by decide) wd536 inX8 tyX8_ok nmX8 rfl rfl rfl rfl).to, ?_⟩
  refine List.forall_mem_cons.mpr ⟨(s_aloadn (am_dp pw_X8_init_32 dd_X8_init_32b.1) rfl).to, ?_⟩
  refine List.forall_mem_cons.mpr ⟨(s_bipush (am_dp pw_X8_init_32 dd_X8_init_32b.2.1) (by decide)).to, ?_⟩
  refine List.forall_mem_cons.mpr ⟨(s_newa (kd := 0) (ty := .int) (am_dp pw_X8_init_32 dd_X8_init_32b.2.2.1) rfl rfl wd195 (by decide) (by decide) (fun _ _ h => h)).to, ?_⟩
  refine List.forall_mem_cons.mpr ⟨(s_putF (ci := 8) (k := 15) (am_dp pw_X8_init_32 dd_X8_init_32b.2.2.2.1) rfl (by decide) wd542 inX8 tyX8_ok nmX8 rfl rfl rfl rfl).to, ?_⟩
  refine List.forall_mem_cons.mpr ⟨(s_aloadn (am_dp pw_X8_init_32 dd_X8_init_32b.2.2.2.2.1) rfl).to, ?_⟩
  refine List.forall_mem_cons.mpr ⟨(s_bipush (am_dp pw_X8_init_32 dd_X8_init_32b.2.2.2.2.2.1) (by decide)).to, ?_⟩
  refine List.forall_mem_cons.mpr ⟨(s_newa (kd := 0) (ty := .int) (am_dp pw_X8_init_32 dd_X8_init_32b.2.2.2.2.2.2) rfl rfl wd195 (by decide) (by decide) (fun _ _ h => h)).to, ?_⟩
  refine List.forall_mem_cons.mpr ⟨(s_putF (ci := 8) (k := 16) (am_dp pw_X8_init_64 dd_X8_init_64a.1) rfl (by decide) wd543 inX8 tyX8_ok nmX8 rfl rfl rfl rfl).to, ?_⟩
  refine List.forall_mem_cons.mpr ⟨(s_aloadn (am_dp pw_X8_init_64 dd_X8_init_64a.2.1) rfl).to, ?_⟩
  refine List.forall_mem_cons.mpr ⟨(s_aloadn (am_dp pw_X8_init_64 dd_X8_init_64a.2.2.1) rfl).to, ?_⟩
  refine List.forall_mem_cons.mpr ⟨(s_put (ci := 8) (k := 1) (am_dp pw_X8_init_64 dd_X8_init_64a.2.2.2.1) rfl (by decide) wd520 inX8 tyX8_ok nmX8 rfl rfl).to, ?_⟩
  refine List.forall_mem_cons.mpr ⟨(s_aloadn (am_dp pw_X8_init_64 dd_X8_init_64a.2.2.2.2.1) rfl).to, ?_⟩
  refine List.forall_mem_cons.mpr ⟨(s_aloadn (am_dp pw_X8_init_64 dd_X8_init_64a.2.2.2.2.2.1) rfl).to, ?_⟩
  refine List.forall_mem_cons.mpr ⟨(s_put (ci := 8) (k := 0) (am_dp pw_X8_init_64 dd_X8_init_64a.2.2.2.2.2.2.1) rfl (by decide) wd518 inX8 tyX8_ok nmX8 rfl rfl).to, ?_⟩
  refine List.forall_mem_cons.mpr ⟨s_vret (am_dp pw_X8_init_64 dd_X8_init_64a.2.2.2.2.2.2.2) rfl, ?_⟩
  exact fun _ h => absurd h List.not_mem_nil
theorem sn_tX8_begin : ∀ q ∈ tX8_begin, am_Snd am_P0 RX8 cX8_begin 3 (Option.none : Option FieldType) "begin" q.1 q.2 := by
  unfold tX8_begin
  refine List.forall_mem_cons.mpr ⟨(s_aloadn (am_dp pw_X8_begin_0 dd_X8_begin_0a.1) rfl).to, ?_⟩
  refine List.forall_mem_cons.mpr ⟨(s_aloadn (am_dp pw_X8_begin_0 dd_X8_begin_0a.2.1) rfl).to, ?_⟩
  refine List.forall_mem_cons.mpr ⟨(s_put (ci := 8) (k := 1) (am_dp pw_X8_begin_0 dd_X8_begin_0a.2.2.1) rfl (by decide) wd520 inX8 tyX8_ok nmX8 rfl rfl).to, ?_⟩
  refine List.forall_mem_cons.mpr ⟨(s_aloadn (am_dp pw_X8_begin_0 dd_X8_begin_0a.2.2.2.1) rfl).to, ?_⟩
  refine List.forall_mem_cons.mpr ⟨(s_aloadn (am_dp pw_X8_begin_0 dd_X8_begin_0a.2.2.2.2.1) rfl).to, ?_⟩
  refine List.forall_mem_cons.mpr ⟨(s_put (ci := 8) (k := 0) (am_dp pw_X8_begin_0 dd_X8_begin_0a.2.2.2.2.2.1) rfl (by decide) wd518 inX8 tyX8_ok nmX8 rfl rfl).to, ?_⟩
  refine List.forall_mem_cons.mpr ⟨(s_aloadn (am_dp pw_X8_begin_0 dd_X8_begin_0a.2.2.2.2.2.2.1) rfl).to, ?_⟩
  refine List.forall_mem_cons.mpr ⟨(s_get (ci := 8) (k := 2) (am_dp pw_X8_begin_0 dd_X8_begin_0a.2.2.2.2.2.2.2) rfl (by decide) wd521 inX8 rfl).to, ?_⟩
  refine List.forall_mem_cons.mpr ⟨(s_aloadn (am_dp pw_X8_begin_0 dd_X8_begin_0b.1) rfl).to, ?_⟩
  refine List.forall_mem_cons.mpr ⟨(s_aloadn (am_dp pw_X8_begin_0 dd_X8_begin_0b.2.1) rfl).to, ?_⟩
  refine List.forall_mem_cons.mpr ⟨zw_cv102 (am_dp pw_X8_begin_0 dd_X8_begin_0b.2.2.1) wd893, ?_⟩
  refine List.forall_mem_cons.mpr ⟨(s_aloadn (am_dp pw_X8_begin_0 dd_X8_begin_0b.2.2.2.1) rfl).to, ?_⟩
  refine List.forall_mem_cons.mpr ⟨(s_iconst (am_dp pw_X8_begin_0 dd_X8_begin_0b.2.2.2.2.1) (by decide)).to, ?_⟩
  refine List.forall_mem_cons.mpr ⟨(s_put (ci := 8) (k := 6) (am_dp pw_X8_begin_0 dd_X8_begin_0b.2.2.2.2.2.1) rfl (by decide) wd526 inX8 tyX8_ok nmX8 rfl rfl).to, ?_⟩
  refine List.forall_mem_cons.mpr ⟨(s_aloadn (am_dp pw_X8_begin_0 dd_X8_begin_0b.2.2.2.2.2.2.1) rfl).to, ?_⟩
  refine List.forall_mem_cons.mpr ⟨zw_cv74 (am_dp pw_X8_begin_0 dd_X8_begin_0b.2.2.2.2.2.2.2) wd899, ?_⟩
  refine List.forall_mem_cons.mpr ⟨s_vret (am_dp pw_X8_begin_0 dd_X8_begin_0c) rfl, ?_⟩
  exact fun _ h => absurd h List.not_mem_nil
theorem sn_tX8_forget : ∀ q ∈ tX8_forget, am_Snd am_P0 RX8 cX8_forget 1 (Option.none : Option FieldType) "forget" q.1 q.2 := by
  unfold tX8_forget
  refine List.forall_mem_cons.mpr ⟨(s_aloadn (am_dp pw_X8_forget_0 dd_X8_forget_0a.1) rfl).to, ?_⟩
  refine List.forall_mem_cons.mpr ⟨(s_iconst (am_dp pw_X8_forget_0 dd_X8_forget_0a.2.1) (by decide)).to, ?_⟩
  refine List.forall_mem_cons.mpr ⟨(s_put (ci := 8) (k := 4) (am_dp pw_X8_forget_0 dd_X8_forget_0a.2.2.1) rfl (by decide) wd524 inX8 tyX8_ok nmX8 rfl rfl).to, ?_⟩
  refine List.forall_mem_cons.mpr ⟨(s_aloadn (am_dp pw_X8_forget_0 dd_X8_forget_0a.2.2.2.1) rfl).to, ?_⟩
  refine List.forall_mem_cons.mpr ⟨(s_iconst (am_dp pw_X8_forget_0 dd_X8_forget_0a.2.2.2.2.1) (by decide)).to, ?_⟩
  refine List.forall_mem_cons.mpr ⟨(s_put (ci := 8) (k := 5) (am_dp pw_X8_forget_0 dd_X8_forget_0a.2.2.2.2.2.1) rfl (by decide) wd525 inX8 tyX8_ok nmX8 rfl rfl).to, ?_⟩
  refine List.forall_mem_cons.mpr ⟨s_vret (am_dp pw_X8_forget_0 dd_X8_forget_0a.2.2.2.2.2.2) rfl, ?_⟩
  exact fun _ h => absurd h List.not_mem_nil
theorem sn_tX8_isSound : ∀ q ∈ tX8_isSound, am_Snd am_P0 RX8 cX8_isSound 3 (Option.some FieldType.boolean) "isSound" q.1 q.2 := by
  unfold tX8_isSound
  refine List.forall_mem_cons.mpr ⟨(s_aloadn (am_dp pw_X8_isSound_0 dd_X8_isSound_0a.1) rfl).to, ?_⟩
  refine List.forall_mem_cons.mpr ⟨(s_get (ci := 8) (k := 1) (am_dp pw_X8_isSound_0 dd_X8_isSound_0a.2.1) rfl (by decide) wd520 inX8 rfl).to, ?_⟩
  refine List.forall_mem_cons.mpr ⟨(s_get (ci := 5) (k := 10) (am_dp pw_X8_isSound_0 dd_X8_isSound_0a.2.2.1) rfl (by decide) wd333 inX5 rfl).to, ?_⟩
  refine List.forall_mem_cons.mpr ⟨(s_iloadn (am_dp pw_X8_isSound_0 dd_X8_isSound_0a.2.2.2.1) rfl).to, ?_⟩
  refine List.forall_mem_cons.mpr ⟨(s_iald (am_dp pw_X8_isSound_0 dd_X8_isSound_0a.2.2.2.2.1)).to, ?_⟩
  refine List.forall_mem_cons.mpr ⟨(s_aloadn (am_dp pw_X8_isSound_0 dd_X8_isSound_0a.2.2.2.2.2.1) rfl).to, ?_⟩
  refine List.forall_mem_cons.mpr ⟨(s_get (ci := 8) (k := 0) (am_dp pw_X8_isSound_0 dd_X8_isSound_0a.2.2.2.2.2.2.1) rfl (by decide) wd518 inX8 rfl).to, ?_⟩
  refine List.forall_mem_cons.mpr ⟨(s_get (ci := 6) (k := 3) (am_dp pw_X8_isSound_0 dd_X8_isSound_0a.2.2.2.2.2.2.2) rfl (by decide) wd247 inX6 rfl).to, ?_⟩
  refine List.forall_mem_cons.mpr ⟨(s_iloadn (am_dp pw_X8_isSound_0 dd_X8_isSound_0b.1) rfl).to, ?_⟩
  refine List.forall_mem_cons.mpr ⟨(s_if_eq (am_dp pw_X8_isSound_0 dd_X8_isSound_0b.2.1) (by decide)).to, ?_⟩
  refine List.forall_mem_cons.mpr ⟨(s_aloadn (am_dp pw_X8_isSound_0 dd_X8_isSound_0b.2.2.1) rfl).to, ?_⟩
  refine List.forall_mem_cons.mpr ⟨(s_get (ci := 8) (k := 0) (am_dp pw_X8_isSound_0 dd_X8_isSound_0b.2.2.2.1) rfl (by decide) wd518 inX8 rfl).to, ?_⟩
  refine List.forall_mem_cons.mpr ⟨(s_get (ci := 6) (k := 4) (am_dp pw_X8_isSound_0 dd_X8_isSound_0b.2.2.2.2.1) rfl (by decide) wd250 inX6 rfl).to, ?_⟩
  refine List.forall_mem_cons.mpr ⟨(s_goto (am_dp pw_X8_isSound_0 dd_X8_isSound_0b.2.2.2.2.2.1) (by decide)).to, ?_⟩
  refine List.forall_mem_cons.mpr ⟨(s_iconst (am_dp pw_X8_isSound_0 dd_X8_isSound_0b.2.2.2.2.2.2.1) (by decide)).to, ?_⟩
  refine List.forall_mem_cons.mpr ⟨(s_iadd (am_dp pw_X8_isSound_0 dd_X8_isSound_0b.2.2.2.2.2.2.2)).to, ?_⟩
  refine List.forall_mem_cons.mpr ⟨(s_icmp_lt (am_dp pw_X8_isSound_32 dd_X8_isSound_32a.1) (by decide)).to, ?_⟩
  refine List.forall_mem_cons.mpr ⟨(s_iconst (am_dp pw_X8_isSound_32 dd_X8_isSound_32a.2.1) (by decide)).to, ?_⟩
  refine List.forall_mem_cons.mpr ⟨(s_goto (am_dp pw_X8_isSound_32 dd_X8_isSound_32a.2.2.1) (by decide)).to, ?_⟩
  refine List.forall_mem_cons.mpr ⟨(s_iconst (am_dp pw_X8_isSound_32 dd_X8_isSound_32a.2.2.2.1) (by decide)).to, ?_⟩
  refine List.forall_mem_cons.mpr ⟨s_zret (am_dp pw_X8_isSound_32 dd_X8_isSound_32a.2.2.2.2) rfl, ?_⟩
  exact fun _ h => absurd h List.not_mem_nil
theorem sn_tX8_goTogether : ∀ q ∈ tX8_goTogether, am_Snd am_P0 RX8 cX8_goTogether 4 (Option.some FieldType.boolean) "goTogether" q.1 q.2 := by
  unfold tX8_goTogether
  refine List.forall_mem_cons.mpr ⟨(s_aloadn (am_dp pw_X8_goTogether_0 dd_X8_goTogether_0a.1) rfl).to, ?_⟩
  refine List.forall_mem_cons.mpr ⟨(s_get (ci := 8) (k := 0) (am_dp pw_X8_goTogether_0 dd_X8_goTogether_0a.2.1) rfl (by decide) wd518 inX8 rfl).to, ?_⟩
  refine List.forall_mem_cons.mpr ⟨(s_get (ci := 6) (k := 6) (am_dp pw_X8_goTogether_0 dd_X8_goTogether_0a.2.2.1) rfl (by decide) wd258 inX6 rfl).to, ?_⟩
  refine List.forall_mem_cons.mpr ⟨(s_iloadn (am_dp pw_X8_goTogether_0 dd_X8_goTogether_0a.2.2.2.1) rfl).to, ?_⟩
  refine List.forall_mem_cons.mpr ⟨(s_iald (am_dp pw_X8_goTogether_0 dd_X8_goTogether_0a.2.2.2.2.1)).to, ?_⟩
  refine List.forall_mem_cons.mpr ⟨(s_aloadn (am_dp pw_X8_goTogether_0 dd_X8_goTogether_0a.2.2.2.2.2.1) rfl).to, ?_⟩
  refine List.forall_mem_cons.mpr ⟨(s_get (ci := 8) (k := 0) (am_dp pw_X8_goTogether_0 dd_X8_goTogether_0a.2.2.2.2.2.2.1) rfl (by decide) wd518 inX8 rfl).to, ?_⟩
  refine List.forall_mem_cons.mpr ⟨(s_get (ci := 6) (k := 6) (am_dp pw_X8_goTogether_0 dd_X8_goTogether_0a.2.2.2.2.2.2.2) rfl (by decide) wd258 inX6 rfl).to, ?_⟩
  refine List.forall_mem_cons.mpr ⟨(s_iloadn (am_dp pw_X8_goTogether_0 dd_X8_goTogether_0b.1) rfl).to, ?_⟩
  refine List.forall_mem_cons.mpr ⟨(s_iald (am_dp pw_X8_goTogether_0 dd_X8_goTogether_0b.2.1)).to, ?_⟩
  refine List.forall_mem_cons.mpr ⟨(s_isub (am_dp pw_X8_goTogether_0 dd_X8_goTogether_0b.2.2.1)).to, ?_⟩
  refine List.forall_mem_cons.mpr ⟨zw_cs306 (am_dp pw_X8_goTogether_0 dd_X8_goTogether_0b.2.2.2.1) wd1057, ?_⟩
  refine List.forall_mem_cons.mpr ⟨(s_istoren (am_dp pw_X8_goTogether_0 dd_X8_goTogether_0b.2.2.2.2.1) rfl (by decide)).to, ?_⟩
  refine List.forall_mem_cons.mpr ⟨(s_aloadn (am_dp pw_X8_goTogether_0 dd_X8_goTogether_0b.2.2.2.2.2.1) rfl).to, ?_⟩
  refine List.forall_mem_cons.mpr ⟨(s_get (ci := 8) (k := 2) (am_dp pw_X8_goTogether_0 dd_X8_goTogether_0b.2.2.2.2.2.2.1) rfl (by decide) wd521 inX8 rfl).to, ?_⟩
  refine List.forall_mem_cons.mpr ⟨(s_aloadn (am_dp pw_X8_goTogether_0 dd_X8_goTogether_0b.2.2.2.2.2.2.2) rfl).to, ?_⟩
  refine List.forall_mem_cons.mpr ⟨(s_get (ci := 8) (k := 0) (am_dp pw_X8_goTogether_0 dd_X8_goTogether_0c.1) rfl (by decide) wd518 inX8 rfl).to, ?_⟩
  refine List.forall_mem_cons.mpr ⟨(s_get (ci := 6) (k := 7) (am_dp pw_X8_goTogether_0 dd_X8_goTogether_0c.2) rfl (by decide) wd261 inX6 rfl).to, ?_⟩
  refine List.forall_mem_cons.mpr ⟨(s_iloadn (am_dp pw_X8_goTogether_32 dd_X8_goTogether_32a.1) rfl).to, ?_⟩
  refine List.forall_mem_cons.mpr ⟨(s_iald (am_dp pw_X8_goTogether_32 dd_X8_goTogether_32a.2.1)).to, ?_⟩
  refine List.forall_mem_cons.mpr ⟨(s_aloadn (am_dp pw_X8_goTogether_32 dd_X8_goTogether_32a.2.2.1) rfl).to, ?_⟩
  refine List.forall_mem_cons.mpr ⟨(s_get (ci := 8) (k := 0) (am_dp pw_X8_goTogether_32 dd_X8_goTogether_32a.2.2.2.1) rfl (by decide) wd518 inX8 rfl).to, ?_⟩
  refine List.forall_mem_cons.mpr ⟨(s_get (ci := 6) (k := 7) (am_dp pw_X8_goTogether_32 dd_X8_goTogether_32a.2.2.2.2.1) rfl (by decide) wd261 inX6 rfl).to, ?_⟩
  refine List.forall_mem_cons.mpr ⟨(s_iloadn (am_dp pw_X8_goTogether_32 dd_X8_goTogether_32a.2.2.2.2.2.1) rfl).to, ?_⟩
  refine List.forall_mem_cons.mpr ⟨(s_iald (am_dp pw_X8_goTogether_32 dd_X8_goTogether_32a.2.2.2.2.2.2.1)).to, ?_⟩
  refine List.forall_mem_cons.mpr ⟨(s_iloadn (am_dp pw_X8_goTogether_32 dd_X8_goTogether_32a.2.2.2.2.2.2.2) rfl).to, ?_⟩
  refine List.forall_mem_cons.mpr ⟨zw_cv104 (am_dp pw_X8_goTogether_32 dd_X8_goTogether_32b.1) wd987, ?_⟩
  refine List.forall_mem_cons.mpr ⟨s_zret (am_dp pw_X8_goTogether_32 dd_X8_goTogether_32b.2) rfl, ?_⟩
  exact fun _ h => absurd h List.not_mem_nil
theorem sn_tX8_layBooks : ∀ q ∈ tX8_layBooks, am_Snd am_P0 RX8 cX8_layBooks 3 (Option.some FieldType.boolean) "layBooks" q.1 q.2 := by
  unfold tX8_layBooks
  refine List.forall_mem_cons.mpr ⟨(s_aloadn (am_dp pw_X8_layBooks_0 dd_X8_layBooks_0a.1) rfl).to, ?_⟩
  refine List.forall_mem_cons.mpr ⟨(s_get (ci := 8) (k := 3) (am_dp pw_X8_layBooks_0 dd_X8_layBooks_0a.2.1) rfl (by decide) wd523 inX8 rfl).to, ?_⟩
  refine List.forall_mem_cons.mpr ⟨zw_cv6 (am_dp pw_X8_layBooks_0 dd_X8_layBooks_0a.2.2.1) wd941, ?_⟩
  refine List.forall_mem_cons.mpr ⟨(s_iconst (am_dp pw_X8_layBooks_0 dd_X8_layBooks_0a.2.2.2.1) (by decide)).to, ?_⟩
  refine List.forall_mem_cons.mpr ⟨(s_istoren (am_dp pw_X8_layBooks_0 dd_X8_layBooks_0a.2.2.2.2.1) rfl (by decide)).to, ?_⟩
  refine List.forall_mem_cons.mpr ⟨(s_iloadn (am_dp pw_X8_layBooks_0 dd_X8_layBooks_0a.2.2.2.2.2.1) rfl).to, ?_⟩
  refine List.forall_mem_cons.mpr ⟨(s_aloadn (am_dp pw_X8_layBooks_0 dd_X8_layBooks_0a.2.2.2.2.2.2.1) rfl).to, ?_⟩
  refine List.forall_mem_cons.mpr ⟨(s_get (ci := 8) (k := 0) (am_dp pw_X8_layBooks_0 dd_X8_layBooks_0a.2.2.2.2.2.2.2) rfl (by decide) wd518 inX8 rfl).to, ?_⟩
  refine List.forall_mem_cons.mpr ⟨(s_get (ci := 6) (k := 9) (am_dp pw_X8_layBooks_0 dd_X8_layBooks_0b.1) rfl (by decide) wd267 inX6 rfl).to, ?_⟩
  refine List.forall_mem_cons.mpr ⟨(s_icmp_ge (am_dp pw_X8_layBooks_0 dd_X8_layBooks_0b.2.1) (by decide)).to, ?_⟩
  refine List.forall_mem_cons.mpr ⟨(s_aloadn (am_dp pw_X8_layBooks_0 dd_X8_layBooks_0b.2.2.1) rfl).to, ?_⟩
  refine List.forall_mem_cons.mpr ⟨(s_get (ci := 8) (k := 0) (am_dp pw_X8_layBooks_0 dd_X8_layBooks_0b.2.2.2.1) rfl (by decide) wd518 inX8 rfl).to, ?_⟩
  refine List.forall_mem_cons.mpr ⟨(s_get (ci := 6) (k := 11) (am_dp pw_X8_layBooks_0 dd_X8_layBooks_0b.2.2.2.2.1) rfl (by decide) wd273 inX6 rfl).to, ?_⟩
  refine List.forall_mem_cons.mpr ⟨(s_iloadn (am_dp pw_X8_layBooks_0 dd_X8_layBooks_0b.2.2.2.2.2.1) rfl).to, ?_⟩
  refine List.forall_mem_cons.mpr ⟨(s_iald (am_dp pw_X8_layBooks_0 dd_X8_layBooks_0b.2.2.2.2.2.2.1)).to, ?_⟩
  refine List.forall_mem_cons.mpr ⟨(s_istoren (am_dp pw_X8_layBooks_0 dd_X8_layBooks_0b.2.2.2.2.2.2.2) rfl (by decide)).to, ?_⟩
  refine List.forall_mem_cons.mpr ⟨(s_iloadn (am_dp pw_X8_layBooks_0 dd_X8_layBooks_0c.1) rfl).to, ?_⟩
  refine List.forall_mem_cons.mpr ⟨(s_aloadn (am_dp pw_X8_layBooks_0 dd_X8_layBooks_0c.2) rfl).to, ?_⟩
  refine List.forall_mem_cons.mpr ⟨(s_get (ci := 8) (k := 0) (am_dp pw_X8_layBooks_32 dd_X8_layBooks_32a.1) rfl (by decide) wd518 inX8 rfl).to, ?_⟩
  refine List.forall_mem_cons.mpr ⟨(s_get (ci := 6) (k := 12) (am_dp pw_X8_layBooks_32 dd_X8_layBooks_32a.2.1) rfl (by decide) wd275 inX6 rfl).to, ?_⟩
  refine List.forall_mem_cons.mpr ⟨(s_iloadn (am_dp pw_X8_layBooks_32 dd_X8_layBooks_32a.2.2.1) rfl).to, ?_⟩
  refine List.forall_mem_cons.mpr ⟨(s_iald (am_dp pw_X8_layBooks_32 dd_X8_layBooks_32a.2.2.2.1)).to, ?_⟩
  refine List.forall_mem_cons.mpr ⟨(s_icmp_gt (am_dp pw_X8_layBooks_32 dd_X8_layBooks_32a.2.2.2.2.1) (by decide)).to, ?_⟩
  refine List.forall_mem_cons.mpr ⟨(s_aloadn (am_dp pw_X8_layBooks_32 dd_X8_layBooks_32a.2.2.2.2.2.1) rfl).to, ?_⟩
  refine List.forall_mem_cons.mpr ⟨(s_get (ci := 8) (k := 3) (am_dp pw_X8_layBooks_32 dd_X8_layBooks_32a.2.2.2.2.2.2.1) rfl (by decide) wd523 inX8 rfl).to, ?_⟩
  refine List.forall_mem_cons.mpr ⟨(s_iloadn (am_dp pw_X8_layBooks_32 dd_X8_layBooks_32a.2.2.2.2.2.2.2) rfl).to, ?_⟩
  refine List.forall_mem_cons.mpr ⟨(s_aloadn (am_dp pw_X8_layBooks_32 dd_X8_layBooks_32b.1) rfl).to, ?_⟩
  refine List.forall_mem_cons.mpr ⟨(s_get (ci := 8) (k := 0) (am_dp pw_X8_layBooks_32 dd_X8_layBooks_32b.2.1) rfl (by decide) wd518 inX8 rfl).to, ?_⟩
  refine List.forall_mem_cons.mpr ⟨(s_get (ci := 6) (k := 10) (am_dp pw_X8_layBooks_32 dd_X8_layBooks_32b.2.2.1) rfl (by decide) wd271 inX6 rfl).to, ?_⟩
  refine List.forall_mem_cons.mpr ⟨(s_iloadn (am_dp pw_X8_layBooks_32 dd_X8_layBooks_32b.2.2.2.1) rfl).to, ?_⟩
  refine List.forall_mem_cons.mpr ⟨(s_iald (am_dp pw_X8_layBooks_32 dd_X8_layBooks_32b.2.2.2.2.1)).to, ?_⟩
  refine List.forall_mem_cons.mpr ⟨zw_cv7 (am_dp pw_X8_layBooks_32 dd_X8_layBooks_32b.2.2.2.2.2.1) wd946, ?_⟩
  refine List.forall_mem_cons.mpr ⟨(s_if_ne (am_dp pw_X8_layBooks_32 dd_X8_layBooks_32b.2.2.2.2.2.2.1) (by decide)).to, ?_⟩
  refine List.forall_mem_cons.mpr ⟨(s_iconst (am_dp pw_X8_layBooks_32 dd_X8_layBooks_32b.2.2.2.2.2.2.2) (by decide)).to, ?_⟩
  refine List.forall_mem_cons.mpr ⟨s_zret (am_dp pw_X8_layBooks_64 dd_X8_layBooks_64a.1) rfl, ?_⟩
  refine List.forall_mem_cons.mpr ⟨(s_iinc (am_dp pw_X8_layBooks_64 dd_X8_layBooks_64a.2.1) (by decide) (by decide)).to, ?_⟩
  refine List.forall_mem_cons.mpr ⟨(s_goto (am_dp pw_X8_layBooks_64 dd_X8_layBooks_64a.2.2.1) (by decide)).to, ?_⟩
  refine List.forall_mem_cons.mpr ⟨(s_iinc (am_dp pw_X8_layBooks_64 dd_X8_layBooks_64a.2.2.2.1) (by decide) (by decide)).to, ?_⟩
  refine List.forall_mem_cons.mpr ⟨(s_goto (am_dp pw_X8_layBooks_64 dd_X8_layBooks_64a.2.2.2.2.1) (by decide)).to, ?_⟩
  refine List.forall_mem_cons.mpr ⟨(s_iconst (am_dp pw_X8_layBooks_64 dd_X8_layBooks_64a.2.2.2.2.2.1) (by decide)).to, ?_⟩
  refine List.forall_mem_cons.mpr ⟨s_zret (am_dp pw_X8_layBooks_64 dd_X8_layBooks_64a.2.2.2.2.2.2) rfl, ?_⟩
  exact fun _ h => absurd h List.not_mem_nil
theorem sn_tX8_laySayings : ∀ q ∈ tX8_laySayings, am_Snd am_P0 RX8 cX8_laySayings 5 (Option.some FieldType.boolean) "laySayings" q.1 q.2 := by
  unfold tX8_laySayings
  refine List.forall_mem_cons.mpr ⟨(s_iconst (am_dp pw_X8_laySayings_0 dd_X8_laySayings_0a.1) (by decide)).to, ?_⟩
  refine List.forall_mem_cons.mpr ⟨(s_istoren (am_dp pw_X8_laySayings_0 dd_X8_laySayings_0a.2.1) rfl (by decide)).to, ?_⟩
  refine List.forall_mem_cons.mpr ⟨(s_iloadn (am_dp pw_X8_laySayings_0 dd_X8_laySayings_0a.2.2.1) rfl).to, ?_⟩
  refine List.forall_mem_cons.mpr ⟨(s_aloadn (am_dp pw_X8_laySayings_0 dd_X8_laySayings_0a.2.2.2.1) rfl).to, ?_⟩
  refine List.forall_mem_cons.mpr ⟨(s_get (ci := 6) (k := 5) (am_dp pw_X8_laySayings_0 dd_X8_laySayings_0a.2.2.2.2.1) rfl (by decide) wd254 inX6 rfl).to, ?_⟩
  refine List.forall_mem_cons.mpr ⟨(s_icmp_ge (am_dp pw_X8_laySayings_0 dd_X8_laySayings_0a.2.2.2.2.2.1) (by decide)).to, ?_⟩
  refine List.forall_mem_cons.mpr ⟨(s_aloadn (am_dp pw_X8_laySayings_0 dd_X8_laySayings_0a.2.2.2.2.2.2.1) rfl).to, ?_⟩
  refine List.forall_mem_cons.mpr ⟨(s_get (ci := 6) (k := 6) (am_dp pw_X8_laySayings_0 dd_X8_laySayings_0a.2.2.2.2.2.2.2) rfl (by decide) wd258 inX6 rfl).to, ?_⟩
  refine List.forall_mem_cons.mpr ⟨(s_iloadn (am_dp pw_X8_laySayings_0 dd_X8_laySayings_0b.1) rfl).to, ?_⟩
  refine List.forall_mem_cons.mpr ⟨(s_iald (am_dp pw_X8_laySayings_0 dd_X8_laySayings_0b.2.1)).to, ?_⟩
  refine List.forall_mem_cons.mpr ⟨(s_iloadn (am_dp pw_X8_laySayings_0 dd_X8_laySayings_0b.2.2.1) rfl).to, ?_⟩
  refine List.forall_mem_cons.mpr ⟨(s_iadd (am_dp pw_X8_laySayings_0 dd_X8_laySayings_0b.2.2.2.1)).to, ?_⟩
  refine List.forall_mem_cons.mpr ⟨(s_istore (am_dp pw_X8_laySayings_0 dd_X8_laySayings_0b.2.2.2.2.1) (by decide)).to, ?_⟩
  refine List.forall_mem_cons.mpr ⟨(s_iload (am_dp pw_X8_laySayings_0 dd_X8_laySayings_0b.2.2.2.2.2.1)).to, ?_⟩
  refine List.forall_mem_cons.mpr ⟨z_csn (am_dp pw_X8_laySayings_0 dd_X8_laySayings_0b.2.2.2.2.2.2.1) mt149 wd1132, ?_⟩
  refine List.forall_mem_cons.mpr ⟨(s_if_eq (am_dp pw_X8_laySayings_0 dd_X8_laySayings_0b.2.2.2.2.2.2.2) (by decide)).to, ?_⟩
  refine List.forall_mem_cons.mpr ⟨(s_aloadn (am_dp pw_X8_laySayings_0 dd_X8_laySayings_0c.1) rfl).to, ?_⟩
  refine List.forall_mem_cons.mpr ⟨(s_aloadn (am_dp pw_X8_laySayings_0 dd_X8_laySayings_0c.2.1) rfl).to, ?_⟩
  refine List.forall_mem_cons.mpr ⟨(s_get (ci := 6) (k := 7) (am_dp pw_X8_laySayings_0 dd_X8_laySayings_0c.2.2) rfl (by decide) wd261 inX6 rfl).to, ?_⟩
  refine List.forall_mem_cons.mpr ⟨(s_iloadn (am_dp pw_X8_laySayings_32 dd_X8_laySayings_32a.1) rfl).to, ?_⟩
  refine List.forall_mem_cons.mpr ⟨(s_iald (am_dp pw_X8_laySayings_32 dd_X8_laySayings_32a.2.1)).to, ?_⟩
  refine List.forall_mem_cons.mpr ⟨(s_aloadn (am_dp pw_X8_laySayings_32 dd_X8_laySayings_32a.2.2.1) rfl).to, ?_⟩
  refine List.forall_mem_cons.mpr ⟨(s_get (ci := 6) (k := 8) (am_dp pw_X8_laySayings_32 dd_X8_laySayings_32a.2.2.2.1) rfl (by decide) wd264 inX6 rfl).to, ?_⟩
  refine List.forall_mem_cons.mpr ⟨(s_iloadn (am_dp pw_X8_laySayings_32 dd_X8_laySayings_32a.2.2.2.2.1) rfl).to, ?_⟩
  refine List.forall_mem_cons.mpr ⟨(s_zald (am_dp pw_X8_laySayings_32 dd_X8_laySayings_32a.2.2.2.2.2.1)).to, ?_⟩
  refine List.forall_mem_cons.mpr ⟨zw_cv75 (am_dp pw_X8_laySayings_32 dd_X8_laySayings_32a.2.2.2.2.2.2.1) wd979, ?_⟩
  refine List.forall_mem_cons.mpr ⟨(s_if_eq (am_dp pw_X8_laySayings_32 dd_X8_laySayings_32a.2.2.2.2.2.2.2) (by decide)).to, ?_⟩
  refine List.forall_mem_cons.mpr ⟨(s_aloadn (am_dp pw_X8_laySayings_32 dd_X8_laySayings_32b.1) rfl).to, ?_⟩
  refine List.forall_mem_cons.mpr ⟨(s_get (ci := 8) (k := 3) (am_dp pw_X8_laySayings_32 dd_X8_laySayings_32b.2.1) rfl (by decide) wd523 inX8 rfl).to, ?_⟩
  refine List.forall_mem_cons.mpr ⟨(s_iload (am_dp pw_X8_laySayings_32 dd_X8_laySayings_32b.2.2.1)).to, ?_⟩
  refine List.forall_mem_cons.mpr ⟨(s_aloadn (am_dp pw_X8_laySayings_32 dd_X8_laySayings_32b.2.2.2.1) rfl).to, ?_⟩
  refine List.forall_mem_cons.mpr ⟨(s_get (ci := 6) (k := 7) (am_dp pw_X8_laySayings_32 dd_X8_laySayings_32b.2.2.2.2.1) rfl (by decide) wd261 inX6 rfl).to, ?_⟩
  refine List.forall_mem_cons.mpr ⟨(s_iloadn (am_dp pw_X8_laySayings_32 dd_X8_laySayings_32b.2.2.2.2.2.1) rfl).to, ?_⟩
  refine List.forall_mem_cons.mpr ⟨(s_iald (am_dp pw_X8_laySayings_32 dd_X8_laySayings_32b.2.2.2.2.2.2.1)).to, ?_⟩
  refine List.forall_mem_cons.mpr ⟨zw_cv7 (am_dp pw_X8_laySayings_32 dd_X8_laySayings_32b.2.2.2.2.2.2.2) wd946, ?_⟩
  refine List.forall_mem_cons.mpr ⟨(s_if_ne (am_dp pw_X8_laySayings_32 dd_X8_laySayings_32c) (by decide)).to, ?_⟩
  refine List.forall_mem_cons.mpr ⟨(s_iconst (am_dp pw_X8_laySayings_64 dd_X8_laySayings_64a.1) (by decide)).to, ?_⟩
  refine List.forall_mem_cons.mpr ⟨s_zret (am_dp pw_X8_laySayings_64 dd_X8_laySayings_64a.2.1) rfl, ?_⟩
  refine List.forall_mem_cons.mpr ⟨(s_iinc (am_dp pw_X8_laySayings_64 dd_X8_laySayings_64a.2.2.1) (by decide) (by decide)).to, ?_⟩
  refine List.forall_mem_cons.mpr ⟨(s_goto (am_dp pw_X8_laySayings_64 dd_X8_laySayings_64a.2.2.2.1) (by decide)).to, ?_⟩
  refine List.forall_mem_cons.mpr ⟨(s_iconst (am_dp pw_X8_laySayings_64 dd_X8_laySayings_64a.2.2.2.2.1) (by decide)).to, ?_⟩
  refine List.forall_mem_cons.mpr ⟨s_zret (am_dp pw_X8_laySayings_64 dd_X8_laySayings_64a.2.2.2.2.2) rfl, ?_⟩
  exact fun _ h => absurd h List.not_mem_nil
theorem sn_tX8_fits : ∀ q ∈ tX8_fits, am_Snd am_P0 RX8 cX8_fits 4 (Option.some FieldType.boolean) "fits" q.1 q.2 := by
  unfold tX8_fits
  refine List.forall_mem_cons.mpr ⟨(s_aloadn (am_dp pw_X8_fits_0 dd_X8_fits_0a.1) rfl).to, ?_⟩
  refine List.forall_mem_cons.mpr ⟨zw_cv77 (am_dp pw_X8_fits_0 dd_X8_fits_0a.2.1) wd937, ?_⟩
  refine List.forall_mem_cons.mpr ⟨(s_if_eq (am_dp pw_X8_fits_0 dd_X8_fits_0a.2.2.1) (by decide)).to, ?_⟩
  refine List.forall_mem_cons.mpr ⟨(s_iloadn (am_dp pw_X8_fits_0 dd_X8_fits_0a.2.2.2.1) rfl).to, ?_⟩
  refine List.forall_mem_cons.mpr ⟨(s_if_eq (am_dp pw_X8_fits_0 dd_X8_fits_0a.2.2.2.2.1) (by decide)).to, ?_⟩
  refine List.forall_mem_cons.mpr ⟨(s_aloadn (am_dp pw_X8_fits_0 dd_X8_fits_0a.2.2.2.2.2.1) rfl).to, ?_⟩
  refine List.forall_mem_cons.mpr ⟨(s_aloadn (am_dp pw_X8_fits_0 dd_X8_fits_0a.2.2.2.2.2.2.1) rfl).to, ?_⟩
  refine List.forall_mem_cons.mpr ⟨(s_get (ci := 8) (k := 0) (am_dp pw_X8_fits_0 dd_X8_fits_0a.2.2.2.2.2.2.2) rfl (by decide) wd518 inX8 rfl).to, ?_⟩
  refine List.forall_mem_cons.mpr ⟨(s_iconst (am_dp pw_X8_fits_0 dd_X8_fits_0b.1) (by decide)).to, ?_⟩
  refine List.forall_mem_cons.mpr ⟨zw_cv78 (am_dp pw_X8_fits_0 dd_X8_fits_0b.2.1) wd1128, ?_⟩
  refine List.forall_mem_cons.mpr ⟨(s_if_eq (am_dp pw_X8_fits_0 dd_X8_fits_0b.2.2.1) (by decide)).to, ?_⟩
  refine List.forall_mem_cons.mpr ⟨(s_aloadn (am_dp pw_X8_fits_0 dd_X8_fits_0b.2.2.2.1) rfl).to, ?_⟩
  refine List.forall_mem_cons.mpr ⟨(s_aloadn (am_dp pw_X8_fits_0 dd_X8_fits_0b.2.2.2.2.1) rfl).to, ?_⟩
  refine List.forall_mem_cons.mpr ⟨(s_iloadn (am_dp pw_X8_fits_0 dd_X8_fits_0b.2.2.2.2.2.1) rfl).to, ?_⟩
  refine List.forall_mem_cons.mpr ⟨zw_cv78 (am_dp pw_X8_fits_0 dd_X8_fits_0b.2.2.2.2.2.2.1) wd1128, ?_⟩
  refine List.forall_mem_cons.mpr ⟨(s_if_eq (am_dp pw_X8_fits_0 dd_X8_fits_0b.2.2.2.2.2.2.2) (by decide)).to, ?_⟩
  refine List.forall_mem_cons.mpr ⟨(s_aloadn (am_dp pw_X8_fits_32 dd_X8_fits_32a.1) rfl).to, ?_⟩
  refine List.forall_mem_cons.mpr ⟨(s_get (ci := 8) (k := 3) (am_dp pw_X8_fits_32 dd_X8_fits_32a.2.1) rfl (by decide) wd523 inX8 rfl).to, ?_⟩
  refine List.forall_mem_cons.mpr ⟨(s_aloadn (am_dp pw_X8_fits_32 dd_X8_fits_32a.2.2.1) rfl).to, ?_⟩
  refine List.forall_mem_cons.mpr ⟨(s_get (ci := 8) (k := 2) (am_dp pw_X8_fits_32 dd_X8_fits_32a.2.2.2.1) rfl (by decide) wd521 inX8 rfl).to, ?_⟩
  refine List.forall_mem_cons.mpr ⟨zw_cv8 (am_dp pw_X8_fits_32 dd_X8_fits_32a.2.2.2.2.1) wd950, ?_⟩
  refine List.forall_mem_cons.mpr ⟨(s_if_eq (am_dp pw_X8_fits_32 dd_X8_fits_32a.2.2.2.2.2.1) (by decide)).to, ?_⟩
  refine List.forall_mem_cons.mpr ⟨(s_iconst (am_dp pw_X8_fits_32 dd_X8_fits_32a.2.2.2.2.2.2.1) (by decide)).to, ?_⟩
  refine List.forall_mem_cons.mpr ⟨(s_goto (am_dp pw_X8_fits_32 dd_X8_fits_32a.2.2.2.2.2.2.2) (by decide)).to, ?_⟩
  refine List.forall_mem_cons.mpr ⟨(s_iconst (am_dp pw_X8_fits_32 dd_X8_fits_32b.1) (by decide)).to, ?_⟩
  refine List.forall_mem_cons.mpr ⟨s_zret (am_dp pw_X8_fits_32 dd_X8_fits_32b.2) rfl, ?_⟩
  exact fun _ h => absurd h List.not_mem_nil
theorem sn_tX8_firstBar : ∀ q ∈ tX8_firstBar, am_Snd am_P0 RX8 cX8_firstBar 3 (Option.some FieldType.int) "firstBar" q.1 q.2 := by
  unfold tX8_firstBar
  refine List.forall_mem_cons.mpr ⟨(s_aloadn (am_dp pw_X8_firstBar_0 dd_X8_firstBar_0a.1) rfl).to, ?_⟩
  refine List.forall_mem_cons.mpr ⟨zw_cv77 (am_dp pw_X8_firstBar_0 dd_X8_firstBar_0a.2.1) wd937, ?_⟩
  refine List.forall_mem_cons.mpr ⟨(s_istoren (am_dp pw_X8_firstBar_0 dd_X8_firstBar_0a.2.2.1) rfl (by decide)).to, ?_⟩
  refine List.forall_mem_cons.mpr ⟨(s_iconst (am_dp pw_X8_firstBar_0 dd_X8_firstBar_0a.2.2.2.1) (by decide)).to, ?_⟩
  refine List.forall_mem_cons.mpr ⟨(s_istoren (am_dp pw_X8_firstBar_0 dd_X8_firstBar_0a.2.2.2.2.1) rfl (by decide)).to, ?_⟩
  refine List.forall_mem_cons.mpr ⟨(s_iloadn (am_dp pw_X8_firstBar_0 dd_X8_firstBar_0a.2.2.2.2.2.1) rfl).to, ?_⟩
  refine List.forall_mem_cons.mpr ⟨(s_aloadn (am_dp pw_X8_firstBar_0 dd_X8_firstBar_0a.2.2.2.2.2.2.1) rfl).to, ?_⟩
  refine List.forall_mem_cons.mpr ⟨(s_get (ci := 8) (k := 0) (am_dp pw_X8_firstBar_0 dd_X8_firstBar_0a.2.2.2.2.2.2.2) rfl (by decide) wd518 inX8 rfl).to, ?_⟩
  refine List.forall_mem_cons.mpr ⟨(s_get (ci := 6) (k := 5) (am_dp pw_X8_firstBar_0 dd_X8_firstBar_0b.1) rfl (by decide) wd254 inX6 rfl).to, ?_⟩
  refine List.forall_mem_cons.mpr ⟨(s_icmp_ge (am_dp pw_X8_firstBar_0 dd_X8_firstBar_0b.2.1) (by decide)).to, ?_⟩
  refine List.forall_mem_cons.mpr ⟨(s_iloadn (am_dp pw_X8_firstBar_0 dd_X8_firstBar_0b.2.2.1) rfl).to, ?_⟩
  refine List.forall_mem_cons.mpr ⟨(s_if_eq (am_dp pw_X8_firstBar_0 dd_X8_firstBar_0b.2.2.2.1) (by decide)).to, ?_⟩
  refine List.forall_mem_cons.mpr ⟨(s_aloadn (am_dp pw_X8_firstBar_0 dd_X8_firstBar_0b.2.2.2.2.1) rfl).to, ?_⟩
  refine List.forall_mem_cons.mpr ⟨(s_aloadn (am_dp pw_X8_firstBar_0 dd_X8_firstBar_0b.2.2.2.2.2.1) rfl).to, ?_⟩
  refine List.forall_mem_cons.mpr ⟨(s_get (ci := 8) (k := 0) (am_dp pw_X8_firstBar_0 dd_X8_firstBar_0b.2.2.2.2.2.2.1) rfl (by decide) wd518 inX8 rfl).to, ?_⟩
  refine List.forall_mem_cons.mpr ⟨(s_get (ci := 6) (k := 7) (am_dp pw_X8_firstBar_0 dd_X8_firstBar_0b.2.2.2.2.2.2.2) rfl (by decide) wd261 inX6 rfl).to, ?_⟩
  refine List.forall_mem_cons.mpr ⟨(s_iloadn (am_dp pw_X8_firstBar_0 dd_X8_firstBar_0c.1) rfl).to, ?_⟩
  refine List.forall_mem_cons.mpr ⟨(s_iald (am_dp pw_X8_firstBar_0 dd_X8_firstBar_0c.2)).to, ?_⟩
  refine List.forall_mem_cons.mpr ⟨(s_aloadn (am_dp pw_X8_firstBar_32 dd_X8_firstBar_32a.1) rfl).to, ?_⟩
  refine List.forall_mem_cons.mpr ⟨(s_get (ci := 8) (k := 0) (am_dp pw_X8_firstBar_32 dd_X8_firstBar_32a.2.1) rfl (by decide) wd518 inX8 rfl).to, ?_⟩
  refine List.forall_mem_cons.mpr ⟨(s_get (ci := 6) (k := 8) (am_dp pw_X8_firstBar_32 dd_X8_firstBar_32a.2.2.1) rfl (by decide) wd264 inX6 rfl).to, ?_⟩
  refine List.forall_mem_cons.mpr ⟨(s_iloadn (am_dp pw_X8_firstBar_32 dd_X8_firstBar_32a.2.2.2.1) rfl).to, ?_⟩
  refine List.forall_mem_cons.mpr ⟨(s_zald (am_dp pw_X8_firstBar_32 dd_X8_firstBar_32a.2.2.2.2.1)).to, ?_⟩
  refine List.forall_mem_cons.mpr ⟨zw_cv75 (am_dp pw_X8_firstBar_32 dd_X8_firstBar_32a.2.2.2.2.2.1) wd979, ?_⟩
  refine List.forall_mem_cons.mpr ⟨(s_if_eq (am_dp pw_X8_firstBar_32 dd_X8_firstBar_32a.2.2.2.2.2.2.1) (by decide)).to, ?_⟩
  refine List.forall_mem_cons.mpr ⟨(s_aloadn (am_dp pw_X8_firstBar_32 dd_X8_firstBar_32a.2.2.2.2.2.2.2) rfl).to, ?_⟩
  refine List.forall_mem_cons.mpr ⟨(s_get (ci := 8) (k := 3) (am_dp pw_X8_firstBar_32 dd_X8_firstBar_32b.1) rfl (by decide) wd523 inX8 rfl).to, ?_⟩
  refine List.forall_mem_cons.mpr ⟨(s_aloadn (am_dp pw_X8_firstBar_32 dd_X8_firstBar_32b.2.1) rfl).to, ?_⟩
  refine List.forall_mem_cons.mpr ⟨(s_get (ci := 8) (k := 0) (am_dp pw_X8_firstBar_32 dd_X8_firstBar_32b.2.2.1) rfl (by decide) wd518 inX8 rfl).to, ?_⟩
  refine List.forall_mem_cons.mpr ⟨(s_get (ci := 6) (k := 6) (am_dp pw_X8_firstBar_32 dd_X8_firstBar_32b.2.2.2.1) rfl (by decide) wd258 inX6 rfl).to, ?_⟩
  refine List.forall_mem_cons.mpr ⟨(s_iloadn (am_dp pw_X8_firstBar_32 dd_X8_firstBar_32b.2.2.2.2.1) rfl).to, ?_⟩
  refine List.forall_mem_cons.mpr ⟨(s_iald (am_dp pw_X8_firstBar_32 dd_X8_firstBar_32b.2.2.2.2.2.1)).to, ?_⟩
  refine List.forall_mem_cons.mpr ⟨(s_aloadn (am_dp pw_X8_firstBar_32 dd_X8_firstBar_32b.2.2.2.2.2.2.1) rfl).to, ?_⟩
  refine List.forall_mem_cons.mpr ⟨(s_get (ci := 8) (k := 0) (am_dp pw_X8_firstBar_32 dd_X8_firstBar_32b.2.2.2.2.2.2.2) rfl (by decide) wd518 inX8 rfl).to, ?_⟩
  refine List.forall_mem_cons.mpr ⟨(s_get (ci := 6) (k := 7) (am_dp pw_X8_firstBar_64 dd_X8_firstBar_64a.1) rfl (by decide) wd261 inX6 rfl).to, ?_⟩
  refine List.forall_mem_cons.mpr ⟨(s_iloadn (am_dp pw_X8_firstBar_64 dd_X8_firstBar_64a.2.1) rfl).to, ?_⟩
  refine List.forall_mem_cons.mpr ⟨(s_iald (am_dp pw_X8_firstBar_64 dd_X8_firstBar_64a.2.2.1)).to, ?_⟩
  refine List.forall_mem_cons.mpr ⟨zw_cv7 (am_dp pw_X8_firstBar_64 dd_X8_firstBar_64a.2.2.2.1) wd946, ?_⟩
  refine List.forall_mem_cons.mpr ⟨(s_if_eq (am_dp pw_X8_firstBar_64 dd_X8_firstBar_64a.2.2.2.2.1) (by decide)).to, ?_⟩
  refine List.forall_mem_cons.mpr ⟨(s_aloadn (am_dp pw_X8_firstBar_64 dd_X8_firstBar_64a.2.2.2.2.2.1) rfl).to, ?_⟩
  refine List.forall_mem_cons.mpr ⟨(s_get (ci := 8) (k := 3) (am_dp pw_X8_firstBar_64 dd_X8_firstBar_64a.2.2.2.2.2.2.1) rfl (by decide) wd523 inX8 rfl).to, ?_⟩
  refine List.forall_mem_cons.mpr ⟨(s_aloadn (am_dp pw_X8_firstBar_64 dd_X8_firstBar_64a.2.2.2.2.2.2.2) rfl).to, ?_⟩
  refine List.forall_mem_cons.mpr ⟨(s_get (ci := 8) (k := 2) (am_dp pw_X8_firstBar_64 dd_X8_firstBar_64b.1) rfl (by decide) wd521 inX8 rfl).to, ?_⟩
  refine List.forall_mem_cons.mpr ⟨zw_cv8 (am_dp pw_X8_firstBar_64 dd_X8_firstBar_64b.2.1) wd950, ?_⟩
  refine List.forall_mem_cons.mpr ⟨(s_if_ne (am_dp pw_X8_firstBar_64 dd_X8_firstBar_64b.2.2.1) (by decide)).to, ?_⟩
  refine List.forall_mem_cons.mpr ⟨(s_iloadn (am_dp pw_X8_firstBar_64 dd_X8_firstBar_64b.2.2.2.1) rfl).to, ?_⟩
  refine List.forall_mem_cons.mpr ⟨s_iret (am_dp pw_X8_firstBar_64 dd_X8_firstBar_64b.2.2.2.2.1) rfl, ?_⟩
  refine List.forall_mem_cons.mpr ⟨(s_iinc (am_dp pw_X8_firstBar_64 dd_X8_firstBar_64b.2.2.2.2.2.1) (by decide) (by decide)).to, ?_⟩
  refine List.forall_mem_cons.mpr ⟨(s_goto (am_dp pw_X8_firstBar_64 dd_X8_firstBar_64b.2.2.2.2.2.2) (by decide)).to, ?_⟩
  refine List.forall_mem_cons.mpr ⟨(s_iconst (am_dp pw_X8_firstBar_96 dd_X8_firstBar_96a.1) (by decide)).to, ?_⟩
  refine List.forall_mem_cons.mpr ⟨s_iret (am_dp pw_X8_firstBar_96 dd_X8_firstBar_96a.2) rfl, ?_⟩
  exact fun _ h => absurd h List.not_mem_nil
theorem sn_tX8_findClock : ∀ q ∈ tX8_findClock, am_Snd am_P0 RX8 cX8_findClock 2 (Option.some FieldType.int) "findClock" q.1 q.2 := by
  unfold tX8_findClock
  refine List.forall_mem_cons.mpr ⟨(s_iconst (am_dp pw_X8_findClock_0 dd_X8_findClock_0a.1) (by decide)).to, ?_⟩
  refine List.forall_mem_cons.mpr ⟨(s_istoren (am_dp pw_X8_findClock_0 dd_X8_findClock_0a.2.1) rfl (by decide)).to, ?_⟩
  refine List.forall_mem_cons.mpr ⟨(s_iloadn (am_dp pw_X8_findClock_0 dd_X8_findClock_0a.2.2.1) rfl).to, ?_⟩
  refine List.forall_mem_cons.mpr ⟨(s_bipush (am_dp pw_X8_findClock_0 dd_X8_findClock_0a.2.2.2.1) (by decide)).to, ?_⟩
  refine List.forall_mem_cons.mpr ⟨(s_icmp_gt (am_dp pw_X8_findClock_0 dd_X8_findClock_0a.2.2.2.2.1) (by decide)).to, ?_⟩
  refine List.forall_mem_cons.mpr ⟨(s_aloadn (am_dp pw_X8_findClock_0 dd_X8_findClock_0a.2.2.2.2.2.1) rfl).to, ?_⟩
  refine List.forall_mem_cons.mpr ⟨(s_iloadn (am_dp pw_X8_findClock_0 dd_X8_findClock_0a.2.2.2.2.2.2.1) rfl).to, ?_⟩
  refine List.forall_mem_cons.mpr ⟨(s_ineg (am_dp pw_X8_findClock_0 dd_X8_findClock_0a.2.2.2.2.2.2.2)).to, ?_⟩
  refine List.forall_mem_cons.mpr ⟨zw_cv82 (am_dp pw_X8_findClock_0 dd_X8_findClock_0b.1) wd1259, ?_⟩
  refine List.forall_mem_cons.mpr ⟨(s_if_eq (am_dp pw_X8_findClock_0 dd_X8_findClock_0b.2.1) (by decide)).to, ?_⟩
  refine List.forall_mem_cons.mpr ⟨(s_iloadn (am_dp pw_X8_findClock_0 dd_X8_findClock_0b.2.2.1) rfl).to, ?_⟩
  refine List.forall_mem_cons.mpr ⟨(s_ineg (am_dp pw_X8_findClock_0 dd_X8_findClock_0b.2.2.2.1)).to, ?_⟩
  refine List.forall_mem_cons.mpr ⟨s_iret (am_dp pw_X8_findClock_0 dd_X8_findClock_0b.2.2.2.2.1) rfl, ?_⟩
  refine List.forall_mem_cons.mpr ⟨(s_aloadn (am_dp pw_X8_findClock_0 dd_X8_findClock_0b.2.2.2.2.2.1) rfl).to, ?_⟩
  refine List.forall_mem_cons.mpr ⟨(s_iloadn (am_dp pw_X8_findClock_0 dd_X8_findClock_0b.2.2.2.2.2.2.1) rfl).to, ?_⟩
  refine List.forall_mem_cons.mpr ⟨zw_cv82 (am_dp pw_X8_findClock_0 dd_X8_findClock_0b.2.2.2.2.2.2.2) wd1259, ?_⟩
  refine List.forall_mem_cons.mpr ⟨(s_if_eq (am_dp pw_X8_findClock_0 dd_X8_findClock_0c.1) (by decide)).to, ?_⟩
  refine List.forall_mem_cons.mpr ⟨(s_iloadn (am_dp pw_X8_findClock_0 dd_X8_findClock_0c.2.1) rfl).to, ?_⟩
  refine List.forall_mem_cons.mpr ⟨s_iret (am_dp pw_X8_findClock_0 dd_X8_findClock_0c.2.2.1) rfl, ?_⟩
  refine List.forall_mem_cons.mpr ⟨(s_iinc (am_dp pw_X8_findClock_0 dd_X8_findClock_0c.2.2.2) (by decide) (by decide)).to, ?_⟩
  refine List.forall_mem_cons.mpr ⟨(s_goto (am_dp pw_X8_findClock_32 dd_X8_findClock_32a.1) (by decide)).to, ?_⟩
  refine List.forall_mem_cons.mpr ⟨(s_bipush (am_dp pw_X8_findClock_32 dd_X8_findClock_32a.2.1) (by decide)).to, ?_⟩
  refine List.forall_mem_cons.mpr ⟨s_iret (am_dp pw_X8_findClock_32 dd_X8_findClock_32a.2.2) rfl, ?_⟩
  exact fun _ h => absurd h List.not_mem_nil
theorem sn_tX8_staysWith : ∀ q ∈ tX8_staysWith, am_Snd am_P0 RX8 cX8_staysWith 3 (Option.some FieldType.boolean) "staysWith" q.1 q.2 := by
  unfold tX8_staysWith
  refine List.forall_mem_cons.mpr ⟨(s_aloadn (am_dp pw_X8_staysWith_0 dd_X8_staysWith_0a.1) rfl).to, ?_⟩
  refine List.forall_mem_cons.mpr ⟨(s_get (ci := 8) (k := 0) (am_dp pw_X8_staysWith_0 dd_X8_staysWith_0a.2.1) rfl (by decide) wd518 inX8 rfl).to, ?_⟩
  refine List.forall_mem_cons.mpr ⟨(s_get (ci := 6) (k := 5) (am_dp pw_X8_staysWith_0 dd_X8_staysWith_0a.2.2.1) rfl (by decide) wd254 inX6 rfl).to, ?_⟩
  refine List.forall_mem_cons.mpr ⟨(s_if_le (am_dp pw_X8_staysWith_0 dd_X8_staysWith_0a.2.2.2.1) (by decide)).to, ?_⟩
  refine List.forall_mem_cons.mpr ⟨(s_aloadn (am_dp pw_X8_staysWith_0 dd_X8_staysWith_0a.2.2.2.2.1) rfl).to, ?_⟩
  refine List.forall_mem_cons.mpr ⟨(s_get (ci := 8) (k := 0) (am_dp pw_X8_staysWith_0 dd_X8_staysWith_0a.2.2.2.2.2.1) rfl (by decide) wd518 inX8 rfl).to, ?_⟩
  refine List.forall_mem_cons.mpr ⟨(s_get (ci := 6) (k := 6) (am_dp pw_X8_staysWith_0 dd_X8_staysWith_0a.2.2.2.2.2.2.1) rfl (by decide) wd258 inX6 rfl).to, ?_⟩
  refine List.forall_mem_cons.mpr ⟨(s_aloadn (am_dp pw_X8_staysWith_0 dd_X8_staysWith_0a.2.2.2.2.2.2.2) rfl).to, ?_⟩
  refine List.forall_mem_cons.mpr ⟨(s_get (ci := 8) (k := 0) (am_dp pw_X8_staysWith_0 dd_X8_staysWith_0b.1) rfl (by decide) wd518 inX8 rfl).to, ?_⟩
  refine List.forall_mem_cons.mpr ⟨(s_get (ci := 6) (k := 5) (am_dp pw_X8_staysWith_0 dd_X8_staysWith_0b.2.1) rfl (by decide) wd254 inX6 rfl).to, ?_⟩
  refine List.forall_mem_cons.mpr ⟨(s_iconst (am_dp pw_X8_staysWith_0 dd_X8_staysWith_0b.2.2.1) (by decide)).to, ?_⟩
  refine List.forall_mem_cons.mpr ⟨(s_isub (am_dp pw_X8_staysWith_0 dd_X8_staysWith_0b.2.2.2.1)).to, ?_⟩
  refine List.forall_mem_cons.mpr ⟨(s_iald (am_dp pw_X8_staysWith_0 dd_X8_staysWith_0b.2.2.2.2.1)).to, ?_⟩
  refine List.forall_mem_cons.mpr ⟨(s_iloadn (am_dp pw_X8_staysWith_0 dd_X8_staysWith_0b.2.2.2.2.2.1) rfl).to, ?_⟩
  refine List.forall_mem_cons.mpr ⟨(s_iadd (am_dp pw_X8_staysWith_0 dd_X8_staysWith_0b.2.2.2.2.2.2.1)).to, ?_⟩
  refine List.forall_mem_cons.mpr ⟨(s_if_lt (am_dp pw_X8_staysWith_0 dd_X8_staysWith_0b.2.2.2.2.2.2.2) (by decide)).to, ?_⟩
  refine List.forall_mem_cons.mpr ⟨(s_aloadn (am_dp pw_X8_staysWith_32 dd_X8_staysWith_32a.1) rfl).to, ?_⟩
  refine List.forall_mem_cons.mpr ⟨(s_get (ci := 8) (k := 0) (am_dp pw_X8_staysWith_32 dd_X8_staysWith_32a.2.1) rfl (by decide) wd518 inX8 rfl).to, ?_⟩
  refine List.forall_mem_cons.mpr ⟨(s_get (ci := 6) (k := 6) (am_dp pw_X8_staysWith_32 dd_X8_staysWith_32a.2.2.1) rfl (by decide) wd258 inX6 rfl).to, ?_⟩
  refine List.forall_mem_cons.mpr ⟨(s_iconst (am_dp pw_X8_staysWith_32 dd_X8_staysWith_32a.2.2.2.1) (by decide)).to, ?_⟩
  refine List.forall_mem_cons.mpr ⟨(s_iald (am_dp pw_X8_staysWith_32 dd_X8_staysWith_32a.2.2.2.2.1)).to, ?_⟩
  refine List.forall_mem_cons.mpr ⟨(s_iloadn (am_dp pw_X8_staysWith_32 dd_X8_staysWith_32a.2.2.2.2.2.1) rfl).to, ?_⟩
  refine List.forall_mem_cons.mpr ⟨(s_iadd (am_dp pw_X8_staysWith_32 dd_X8_staysWith_32a.2.2.2.2.2.2.1)).to, ?_⟩
  refine List.forall_mem_cons.mpr ⟨(s_bipush (am_dp pw_X8_staysWith_32 dd_X8_staysWith_32a.2.2.2.2.2.2.2) (by decide)).to, ?_⟩
  refine List.forall_mem_cons.mpr ⟨(s_icmp_ge (am_dp pw_X8_staysWith_32 dd_X8_staysWith_32b.1) (by decide)).to, ?_⟩
  refine List.forall_mem_cons.mpr ⟨(s_iconst (am_dp pw_X8_staysWith_32 dd_X8_staysWith_32b.2.1) (by decide)).to, ?_⟩
  refine List.forall_mem_cons.mpr ⟨(s_goto (am_dp pw_X8_staysWith_32 dd_X8_staysWith_32b.2.2.1) (by decide)).to, ?_⟩
  refine List.forall_mem_cons.mpr ⟨(s_iconst (am_dp pw_X8_staysWith_32 dd_X8_staysWith_32b.2.2.2.1) (by decide)).to, ?_⟩
  refine List.forall_mem_cons.mpr ⟨(s_istoren (am_dp pw_X8_staysWith_32 dd_X8_staysWith_32b.2.2.2.2.1) rfl (by decide)).to, ?_⟩
  refine List.forall_mem_cons.mpr ⟨(s_iloadn (am_dp pw_X8_staysWith_32 dd_X8_staysWith_32b.2.2.2.2.2.1) rfl).to, ?_⟩
  refine List.forall_mem_cons.mpr ⟨(s_if_eq (am_dp pw_X8_staysWith_32 dd_X8_staysWith_32b.2.2.2.2.2.2.1) (by decide)).to, ?_⟩
  refine List.forall_mem_cons.mpr ⟨(s_aloadn (am_dp pw_X8_staysWith_32 dd_X8_staysWith_32b.2.2.2.2.2.2.2) rfl).to, ?_⟩
  refine List.forall_mem_cons.mpr ⟨(s_aloadn (am_dp pw_X8_staysWith_32 dd_X8_staysWith_32c.1) rfl).to, ?_⟩
  refine List.forall_mem_cons.mpr ⟨(s_get (ci := 8) (k := 0) (am_dp pw_X8_staysWith_32 dd_X8_staysWith_32c.2.1) rfl (by decide) wd518 inX8 rfl).to, ?_⟩
  refine List.forall_mem_cons.mpr ⟨(s_iloadn (am_dp pw_X8_staysWith_32 dd_X8_staysWith_32c.2.2) rfl).to, ?_⟩
  refine List.forall_mem_cons.mpr ⟨(s_iconst (am_dp pw_X8_staysWith_64 dd_X8_staysWith_64a.1) (by decide)).to, ?_⟩
  refine List.forall_mem_cons.mpr ⟨zw_cv79 (am_dp pw_X8_staysWith_64 dd_X8_staysWith_64a.2.1) wd1263, ?_⟩
  refine List.forall_mem_cons.mpr ⟨(s_if_eq (am_dp pw_X8_staysWith_64 dd_X8_staysWith_64a.2.2.1) (by decide)).to, ?_⟩
  refine List.forall_mem_cons.mpr ⟨(s_iconst (am_dp pw_X8_staysWith_64 dd_X8_staysWith_64a.2.2.2.1) (by decide)).to, ?_⟩
  refine List.forall_mem_cons.mpr ⟨(s_goto (am_dp pw_X8_staysWith_64 dd_X8_staysWith_64a.2.2.2.2.1) (by decide)).to, ?_⟩
  refine List.forall_mem_cons.mpr ⟨(s_iconst (am_dp pw_X8_staysWith_64 dd_X8_staysWith_64a.2.2.2.2.2.1) (by decide)).to, ?_⟩
  refine List.forall_mem_cons.mpr ⟨s_zret (am_dp pw_X8_staysWith_64 dd_X8_staysWith_64a.2.2.2.2.2.2) rfl, ?_⟩
  exact fun _ h => absurd h List.not_mem_nil
theorem sn_tX8_settle : ∀ q ∈ tX8_settle, am_Snd am_P0 RX8 cX8_settle 1 (Option.none : Option FieldType) "settle" q.1 q.2 := by
  unfold tX8_settle
  refine List.forall_mem_cons.mpr ⟨(s_aloadn (am_dp pw_X8_settle_0 dd_X8_settle_0a.1) rfl).to, ?_⟩
  refine List.forall_mem_cons.mpr ⟨(s_get (ci := 8) (k := 4) (am_dp pw_X8_settle_0 dd_X8_settle_0a.2.1) rfl (by decide) wd524 inX8 rfl).to, ?_⟩
  refine List.forall_mem_cons.mpr ⟨(s_if_eq (am_dp pw_X8_settle_0 dd_X8_settle_0a.2.2.1) (by decide)).to, ?_⟩
  refine List.forall_mem_cons.mpr ⟨s_vret (am_dp pw_X8_settle_0 dd_X8_settle_0a.2.2.2.1) rfl, ?_⟩
  refine List.forall_mem_cons.mpr ⟨(s_aloadn (am_dp pw_X8_settle_0 dd_X8_settle_0a.2.2.2.2.1) rfl).to, ?_⟩
  refine List.forall_mem_cons.mpr ⟨(s_iconst (am_dp pw_X8_settle_0 dd_X8_settle_0a.2.2.2.2.2.1) (by decide)).to, ?_⟩
  refine List.forall_mem_cons.mpr ⟨(s_put (ci := 8) (k := 4) (am_dp pw_X8_settle_0 dd_X8_settle_0a.2.2.2.2.2.2.1) rfl (by decide) wd524 inX8 tyX8_ok nmX8 rfl rfl).to, ?_⟩
  refine List.forall_mem_cons.mpr ⟨(s_aloadn (am_dp pw_X8_settle_0 dd_X8_settle_0a.2.2.2.2.2.2.2) rfl).to, ?_⟩
  refine List.forall_mem_cons.mpr ⟨(s_aloadn (am_dp pw_X8_settle_0 dd_X8_settle_0b.1) rfl).to, ?_⟩
  refine List.forall_mem_cons.mpr ⟨zw_cv77 (am_dp pw_X8_settle_0 dd_X8_settle_0b.2.1) wd937, ?_⟩
  refine List.forall_mem_cons.mpr ⟨(s_if_eq (am_dp pw_X8_settle_0 dd_X8_settle_0b.2.2.1) (by decide)).to, ?_⟩
  refine List.forall_mem_cons.mpr ⟨(s_aloadn (am_dp pw_X8_settle_0 dd_X8_settle_0b.2.2.2.1) rfl).to, ?_⟩
  refine List.forall_mem_cons.mpr ⟨(s_get (ci := 8) (k := 3) (am_dp pw_X8_settle_0 dd_X8_settle_0b.2.2.2.2.1) rfl (by decide) wd523 inX8 rfl).to, ?_⟩
  refine List.forall_mem_cons.mpr ⟨(s_aloadn (am_dp pw_X8_settle_0 dd_X8_settle_0b.2.2.2.2.2.1) rfl).to, ?_⟩
  refine List.forall_mem_cons.mpr ⟨(s_get (ci := 8) (k := 2) (am_dp pw_X8_settle_0 dd_X8_settle_0b.2.2.2.2.2.2.1) rfl (by decide) wd521 inX8 rfl).to, ?_⟩
  refine List.forall_mem_cons.mpr ⟨zw_cv8 (am_dp pw_X8_settle_0 dd_X8_settle_0b.2.2.2.2.2.2.2) wd950, ?_⟩
  refine List.forall_mem_cons.mpr ⟨(s_if_eq (am_dp pw_X8_settle_32 dd_X8_settle_32a.1) (by decide)).to, ?_⟩
  refine List.forall_mem_cons.mpr ⟨(s_iconst (am_dp pw_X8_settle_32 dd_X8_settle_32a.2.1) (by decide)).to, ?_⟩
  refine List.forall_mem_cons.mpr ⟨(s_goto (am_dp pw_X8_settle_32 dd_X8_settle_32a.2.2.1) (by decide)).to, ?_⟩
  refine List.forall_mem_cons.mpr ⟨(s_iconst (am_dp pw_X8_settle_32 dd_X8_settle_32a.2.2.2.1) (by decide)).to, ?_⟩
  refine List.forall_mem_cons.mpr ⟨(s_put (ci := 8) (k := 8) (am_dp pw_X8_settle_32 dd_X8_settle_32a.2.2.2.2.1) rfl (by decide) wd530 inX8 tyX8_ok nmX8 rfl rfl).to, ?_⟩
  refine List.forall_mem_cons.mpr ⟨(s_aloadn (am_dp pw_X8_settle_32 dd_X8_settle_32a.2.2.2.2.2.1) rfl).to, ?_⟩
  refine List.forall_mem_cons.mpr ⟨zw_cv84 (am_dp pw_X8_settle_32 dd_X8_settle_32a.2.2.2.2.2.2.1) wd975, ?_⟩
  refine List.forall_mem_cons.mpr ⟨(s_aloadn (am_dp pw_X8_settle_32 dd_X8_settle_32a.2.2.2.2.2.2.2) rfl).to, ?_⟩
  refine List.forall_mem_cons.mpr ⟨(s_iconst (am_dp pw_X8_settle_32 dd_X8_settle_32b.1) (by decide)).to, ?_⟩
  refine List.forall_mem_cons.mpr ⟨(s_put (ci := 8) (k := 11) (am_dp pw_X8_settle_32 dd_X8_settle_32b.2.1) rfl (by decide) wd535 inX8 tyX8_ok nmX8 rfl rfl).to, ?_⟩
  refine List.forall_mem_cons.mpr ⟨(s_aloadn (am_dp pw_X8_settle_32 dd_X8_settle_32b.2.2.1) rfl).to, ?_⟩
  refine List.forall_mem_cons.mpr ⟨(s_get (ci := 8) (k := 12) (am_dp pw_X8_settle_32 dd_X8_settle_32b.2.2.2.1) rfl (by decide) wd536 inX8 rfl).to, ?_⟩
  refine List.forall_mem_cons.mpr ⟨(s_lconst (am_dp pw_X8_settle_32 dd_X8_settle_32b.2.2.2.2.1) (by decide)).to, ?_⟩
  refine List.forall_mem_cons.mpr ⟨zw_cs322 (am_dp pw_X8_settle_32 dd_X8_settle_32b.2.2.2.2.2.1) wd988, ?_⟩
  refine List.forall_mem_cons.mpr ⟨(s_aloadn (am_dp pw_X8_settle_32 dd_X8_settle_32b.2.2.2.2.2.2.1) rfl).to, ?_⟩
  refine List.forall_mem_cons.mpr ⟨(s_get (ci := 8) (k := 8) (am_dp pw_X8_settle_32 dd_X8_settle_32b.2.2.2.2.2.2.2) rfl (by decide) wd530 inX8 rfl).to, ?_⟩
  refine List.forall_mem_cons.mpr ⟨(s_if_eq (am_dp pw_X8_settle_64 dd_X8_settle_64a.1) (by decide)).to, ?_⟩
  refine List.forall_mem_cons.mpr ⟨(s_aloadn (am_dp pw_X8_settle_64 dd_X8_settle_64a.2.1) rfl).to, ?_⟩
  refine List.forall_mem_cons.mpr ⟨(s_aloadn (am_dp pw_X8_settle_64 dd_X8_settle_64a.2.2.1) rfl).to, ?_⟩
  refine List.forall_mem_cons.mpr ⟨zw_cv85 (am_dp pw_X8_settle_64 dd_X8_settle_64a.2.2.2.1) wd989, ?_⟩
  refine List.forall_mem_cons.mpr ⟨zw_cv86 (am_dp pw_X8_settle_64 dd_X8_settle_64a.2.2.2.2.1) wd995, ?_⟩
  refine List.forall_mem_cons.mpr ⟨(s_aloadn (am_dp pw_X8_settle_64 dd_X8_settle_64a.2.2.2.2.2.1) rfl).to, ?_⟩
  refine List.forall_mem_cons.mpr ⟨zw_cv87 (am_dp pw_X8_settle_64 dd_X8_settle_64a.2.2.2.2.2.2.1) wd999, ?_⟩
  refine List.forall_mem_cons.mpr ⟨s_vret (am_dp pw_X8_settle_64 dd_X8_settle_64a.2.2.2.2.2.2.2) rfl, ?_⟩
  exact fun _ h => absurd h List.not_mem_nil
theorem sn_tX8_markAlone_0 : ∀ q ∈ tX8_markAlone_0, am_Snd am_P0 RX8 cX8_markAlone 5 (Option.none : Option FieldType) "markAlone" q.1 q.2 := by
  unfold tX8_markAlone_0
  refine List.forall_mem_cons.mpr ⟨(s_iconst (am_dp pw_X8_markAlone_0 dd_X8_markAlone_0a.1) (by decide)).to, ?_⟩
  refine List.forall_mem_cons.mpr ⟨(s_istoren (am_dp pw_X8_markAlone_0 dd_X8_markAlone_0a.2.1) rfl (by decide)).to, ?_⟩
  refine List.forall_mem_cons.mpr ⟨(s_iloadn (am_dp pw_X8_markAlone_0 dd_X8_markAlone_0a.2.2.1) rfl).to, ?_⟩
  refine List.forall_mem_cons.mpr ⟨(s_aloadn (am_dp pw_X8_markAlone_0 dd_X8_markAlone_0a.2.2.2.1) rfl).to, ?_⟩
  refine List.forall_mem_cons.mpr ⟨(s_get (ci := 8) (k := 0) (am_dp pw_X8_markAlone_0 dd_X8_markAlone_0a.2.2.2.2.1) rfl (by decide) wd518 inX8 rfl).to, ?_⟩
  refine List.forall_mem_cons.mpr ⟨(s_get (ci := 6) (k := 5) (am_dp pw_X8_markAlone_0 dd_X8_markAlone_0a.2.2.2.2.2.1) rfl (by decide) wd254 inX6 rfl).to, ?_⟩
  refine List.forall_mem_cons.mpr ⟨(s_icmp_ge (am_dp pw_X8_markAlone_0 dd_X8_markAlone_0a.2.2.2.2.2.2.1) (by decide)).to, ?_⟩
  refine List.forall_mem_cons.mpr ⟨(s_aloadn (am_dp pw_X8_markAlone_0 dd_X8_markAlone_0a.2.2.2.2.2.2.2) rfl).to, ?_⟩
  refine List.forall_mem_cons.mpr ⟨(s_get (ci := 8) (k := 0) (am_dp pw_X8_markAlone_0 dd_X8_markAlone_0b.1) rfl (by decide) wd518 inX8 rfl).to, ?_⟩
  refine List.forall_mem_cons.mpr ⟨(s_get (ci := 6) (k := 7) (am_dp pw_X8_markAlone_0 dd_X8_markAlone_0b.2.1) rfl (by decide) wd261 inX6 rfl).to, ?_⟩
  refine List.forall_mem_cons.mpr ⟨(s_iloadn (am_dp pw_X8_markAlone_0 dd_X8_markAlone_0b.2.2.1) rfl).to, ?_⟩
  refine List.forall_mem_cons.mpr ⟨(s_iald (am_dp pw_X8_markAlone_0 dd_X8_markAlone_0b.2.2.2.1)).to, ?_⟩
  refine List.forall_mem_cons.mpr ⟨(s_istoren (am_dp pw_X8_markAlone_0 dd_X8_markAlone_0b.2.2.2.2.1) rfl (by decide)).to, ?_⟩
  refine List.forall_mem_cons.mpr ⟨(s_aloadn (am_dp pw_X8_markAlone_0 dd_X8_markAlone_0b.2.2.2.2.2.1) rfl).to, ?_⟩
  refine List.forall_mem_cons.mpr ⟨(s_get (ci := 8) (k := 10) (am_dp pw_X8_markAlone_0 dd_X8_markAlone_0b.2.2.2.2.2.2.1) rfl (by decide) wd532 inX8 rfl).to, ?_⟩
  refine List.forall_mem_cons.mpr ⟨(s_iloadn (am_dp pw_X8_markAlone_0 dd_X8_markAlone_0b.2.2.2.2.2.2.2) rfl).to, ?_⟩
  refine List.forall_mem_cons.mpr ⟨(s_iconst (am_dp pw_X8_markAlone_0 dd_X8_markAlone_0c.1) (by decide)).to, ?_⟩
  refine List.forall_mem_cons.mpr ⟨(s_zast (am_dp pw_X8_markAlone_0 dd_X8_markAlone_0c.2.1)).to, ?_⟩
  refine List.forall_mem_cons.mpr ⟨(s_aloadn (am_dp pw_X8_markAlone_0 dd_X8_markAlone_0c.2.2.1) rfl).to, ?_⟩
  refine List.forall_mem_cons.mpr ⟨(s_get (ci := 8) (k := 9) (am_dp pw_X8_markAlone_0 dd_X8_markAlone_0c.2.2.2) rfl (by decide) wd531 inX8 rfl).to, ?_⟩
  refine List.forall_mem_cons.mpr ⟨(s_iloadn (am_dp pw_X8_markAlone_32 dd_X8_markAlone_32a.1) rfl).to, ?_⟩
  refine List.forall_mem_cons.mpr ⟨(s_aloadn (am_dp pw_X8_markAlone_32 dd_X8_markAlone_32a.2.1) rfl).to, ?_⟩
  refine List.forall_mem_cons.mpr ⟨(s_iloadn (am_dp pw_X8_markAlone_32 dd_X8_markAlone_32a.2.2.1) rfl).to, ?_⟩
  refine List.forall_mem_cons.mpr ⟨(s_aloadn (am_dp pw_X8_markAlone_32 dd_X8_markAlone_32a.2.2.2.1) rfl).to, ?_⟩
  refine List.forall_mem_cons.mpr ⟨(s_get (ci := 8) (k := 0) (am_dp pw_X8_markAlone_32 dd_X8_markAlone_32a.2.2.2.2.1) rfl (by decide) wd518 inX8 rfl).to, ?_⟩
  refine List.forall_mem_cons.mpr ⟨(s_get (ci := 6) (k := 8) (am_dp pw_X8_markAlone_32 dd_X8_markAlone_32a.2.2.2.2.2.1) rfl (by decide) wd264 inX6 rfl).to, ?_⟩
  refine List.forall_mem_cons.mpr ⟨(s_iloadn (am_dp pw_X8_markAlone_32 dd_X8_markAlone_32a.2.2.2.2.2.2.1) rfl).to, ?_⟩
  refine List.forall_mem_cons.mpr ⟨(s_zald (am_dp pw_X8_markAlone_32 dd_X8_markAlone_32a.2.2.2.2.2.2.2)).to, ?_⟩
  refine List.forall_mem_cons.mpr ⟨zw_cv75 (am_dp pw_X8_markAlone_32 dd_X8_markAlone_32b.1) wd979, ?_⟩
  refine List.forall_mem_cons.mpr ⟨(s_zast (am_dp pw_X8_markAlone_32 dd_X8_markAlone_32b.2.1)).to, ?_⟩
  refine List.forall_mem_cons.mpr ⟨(s_iconst (am_dp pw_X8_markAlone_32 dd_X8_markAlone_32b.2.2.1) (by decide)).to, ?_⟩
  refine List.forall_mem_cons.mpr ⟨(s_istoren (am_dp pw_X8_markAlone_32 dd_X8_markAlone_32b.2.2.2.1) rfl (by decide)).to, ?_⟩
  refine List.forall_mem_cons.mpr ⟨(s_aloadn (am_dp pw_X8_markAlone_32 dd_X8_markAlone_32b.2.2.2.2.1) rfl).to, ?_⟩
  refine List.forall_mem_cons.mpr ⟨(s_get (ci := 8) (k := 9) (am_dp pw_X8_markAlone_32 dd_X8_markAlone_32b.2.2.2.2.2.1) rfl (by decide) wd531 inX8 rfl).to, ?_⟩
  refine List.forall_mem_cons.mpr ⟨(s_iloadn (am_dp pw_X8_markAlone_32 dd_X8_markAlone_32b.2.2.2.2.2.2.1) rfl).to, ?_⟩
  refine List.forall_mem_cons.mpr ⟨(s_zald (am_dp pw_X8_markAlone_32 dd_X8_markAlone_32b.2.2.2.2.2.2.2)).to, ?_⟩
  refine List.forall_mem_cons.mpr ⟨(s_if_eq (am_dp pw_X8_markAlone_32 dd_X8_markAlone_32c.1) (by decide)).to, ?_⟩
  refine List.forall_mem_cons.mpr ⟨(s_iloadn (am_dp pw_X8_markAlone_32 dd_X8_markAlone_32c.2.1) rfl).to, ?_⟩
  refine List.forall_mem_cons.mpr ⟨(s_aloadn (am_dp pw_X8_markAlone_32 dd_X8_markAlone_32c.2.2.1) rfl).to, ?_⟩
  refine List.forall_mem_cons.mpr ⟨(s_get (ci := 8) (k := 0) (am_dp pw_X8_markAlone_32 dd_X8_markAlone_32c.2.2.2) rfl (by decide) wd518 inX8 rfl).to, ?_⟩
  refine List.forall_mem_cons.mpr ⟨(s_get (ci := 6) (k := 9) (am_dp pw_X8_markAlone_64 dd_X8_markAlone_64a.1) rfl (by decide) wd267 inX6 rfl).to, ?_⟩
  refine List.forall_mem_cons.mpr ⟨(s_icmp_ge (am_dp pw_X8_markAlone_64 dd_X8_markAlone_64a.2.1) (by decide)).to, ?_⟩
  refine List.forall_mem_cons.mpr ⟨(s_aloadn (am_dp pw_X8_markAlone_64 dd_X8_markAlone_64a.2.2.1) rfl).to, ?_⟩
  refine List.forall_mem_cons.mpr ⟨(s_get (ci := 8) (k := 0) (am_dp pw_X8_markAlone_64 dd_X8_markAlone_64a.2.2.2.1) rfl (by decide) wd518 inX8 rfl).to, ?_⟩
  refine List.forall_mem_cons.mpr ⟨(s_aloadn (am_dp pw_X8_markAlone_64 dd_X8_markAlone_64a.2.2.2.2.1) rfl).to, ?_⟩
  refine List.forall_mem_cons.mpr ⟨(s_get (ci := 8) (k := 0) (am_dp pw_X8_markAlone_64 dd_X8_markAlone_64a.2.2.2.2.2.1) rfl (by decide) wd518 inX8 rfl).to, ?_⟩
  refine List.forall_mem_cons.mpr ⟨(s_get (ci := 6) (k := 6) (am_dp pw_X8_markAlone_64 dd_X8_markAlone_64a.2.2.2.2.2.2.1) rfl (by decide) wd258 inX6 rfl).to, ?_⟩
  refine List.forall_mem_cons.mpr ⟨(s_iloadn (am_dp pw_X8_markAlone_64 dd_X8_markAlone_64a.2.2.2.2.2.2.2) rfl).to, ?_⟩
  refine List.forall_mem_cons.mpr ⟨(s_iald (am_dp pw_X8_markAlone_64 dd_X8_markAlone_64b.1)).to, ?_⟩
  refine List.forall_mem_cons.mpr ⟨(s_iloadn (am_dp pw_X8_markAlone_64 dd_X8_markAlone_64b.2.1) rfl).to, ?_⟩
  refine List.forall_mem_cons.mpr ⟨zw_cv69 (am_dp pw_X8_markAlone_64 dd_X8_markAlone_64b.2.2.1) wd983, ?_⟩
  refine List.forall_mem_cons.mpr ⟨(s_istore (am_dp pw_X8_markAlone_64 dd_X8_markAlone_64b.2.2.2.1) (by decide)).to, ?_⟩
  refine List.forall_mem_cons.mpr ⟨(s_aloadn (am_dp pw_X8_markAlone_64 dd_X8_markAlone_64b.2.2.2.2.1) rfl).to, ?_⟩
  refine List.forall_mem_cons.mpr ⟨(s_get (ci := 8) (k := 9) (am_dp pw_X8_markAlone_64 dd_X8_markAlone_64b.2.2.2.2.2.1) rfl (by decide) wd531 inX8 rfl).to, ?_⟩
  refine List.forall_mem_cons.mpr ⟨(s_iloadn (am_dp pw_X8_markAlone_64 dd_X8_markAlone_64b.2.2.2.2.2.2) rfl).to, ?_⟩
  refine List.forall_mem_cons.mpr ⟨(s_aloadn (am_dp pw_X8_markAlone_96 dd_X8_markAlone_96a.1) rfl).to, ?_⟩
  refine List.forall_mem_cons.mpr ⟨(s_get (ci := 8) (k := 2) (am_dp pw_X8_markAlone_96 dd_X8_markAlone_96a.2.1) rfl (by decide) wd521 inX8 rfl).to, ?_⟩
  refine List.forall_mem_cons.mpr ⟨(s_iloadn (am_dp pw_X8_markAlone_96 dd_X8_markAlone_96a.2.2.1) rfl).to, ?_⟩
  refine List.forall_mem_cons.mpr ⟨(s_aloadn (am_dp pw_X8_markAlone_96 dd_X8_markAlone_96a.2.2.2.1) rfl).to, ?_⟩
  refine List.forall_mem_cons.mpr ⟨(s_get (ci := 8) (k := 0) (am_dp pw_X8_markAlone_96 dd_X8_markAlone_96a.2.2.2.2.1) rfl (by decide) wd518 inX8 rfl).to, ?_⟩
  exact fun _ h => absurd h List.not_mem_nil
theorem sn_tX8_markAlone_1 : ∀ q ∈ tX8_markAlone_1, am_Snd am_P0 RX8 cX8_markAlone 5 (Option.none : Option FieldType) "markAlone" q.1 q.2 := by
  unfold tX8_markAlone_1
  refine List.forall_mem_cons.mpr ⟨(s_get (ci := 6) (k := 10) (am_dp pw_X8_markAlone_96 dd_X8_markAlone_96a.2.2.2.2.2.1) rfl (by decide) wd271 inX6 rfl).to, ?_⟩
  refine List.forall_mem_cons.mpr ⟨(s_iloadn (am_dp pw_X8_markAlone_96 dd_X8_markAlone_96a.2.2.2.2.2.2.1) rfl).to, ?_⟩
  refine List.forall_mem_cons.mpr ⟨(s_iald (am_dp pw_X8_markAlone_96 dd_X8_markAlone_96a.2.2.2.2.2.2.2)).to, ?_⟩
  refine List.forall_mem_cons.mpr ⟨(s_iload (am_dp pw_X8_markAlone_96 dd_X8_markAlone_96b.1)).to, ?_⟩
  refine List.forall_mem_cons.mpr ⟨zw_cv104 (am_dp pw_X8_markAlone_96 dd_X8_markAlone_96b.2.1) wd987, ?_⟩
  refine List.forall_mem_cons.mpr ⟨(s_zast (am_dp pw_X8_markAlone_96 dd_X8_markAlone_96b.2.2.1)).to, ?_⟩
  refine List.forall_mem_cons.mpr ⟨(s_iinc (am_dp pw_X8_markAlone_96 dd_X8_markAlone_96b.2.2.2.1) (by decide) (by decide)).to, ?_⟩
  refine List.forall_mem_cons.mpr ⟨(s_goto (am_dp pw_X8_markAlone_96 dd_X8_markAlone_96b.2.2.2.2.1) (by decide)).to, ?_⟩
  refine List.forall_mem_cons.mpr ⟨(s_iinc (am_dp pw_X8_markAlone_96 dd_X8_markAlone_96b.2.2.2.2.2.1) (by decide) (by decide)).to, ?_⟩
  refine List.forall_mem_cons.mpr ⟨(s_goto (am_dp pw_X8_markAlone_96 dd_X8_markAlone_96b.2.2.2.2.2.2) (by decide)).to, ?_⟩
  refine List.forall_mem_cons.mpr ⟨s_vret (am_dp pw_X8_markAlone_128 dd_X8_markAlone_128a) rfl, ?_⟩
  exact fun _ h => absurd h List.not_mem_nil
theorem sn_tX8_markAlone : ∀ q ∈ tX8_markAlone, am_Snd am_P0 RX8 cX8_markAlone 5 (Option.none : Option FieldType) "markAlone" q.1 q.2 := by
  unfold tX8_markAlone
  exact List.forall_mem_append.mpr ⟨sn_tX8_markAlone_0, sn_tX8_markAlone_1⟩
theorem sn_tX8_countChains_0 : ∀ q ∈ tX8_countChains_0, am_Snd am_P0 RX8 cX8_countChains 6 (Option.some FieldType.int) "countChains" q.1 q.2 := by
  unfold tX8_countChains_0
  refine List.forall_mem_cons.mpr ⟨(s_iconst (am_dp pw_X8_countChains_0 dd_X8_countChains_0a.1) (by decide)).to, ?_⟩
  refine List.forall_mem_cons.mpr ⟨(s_istoren (am_dp pw_X8_countChains_0 dd_X8_countChains_0a.2.1) rfl (by decide)).to, ?_⟩
  refine List.forall_mem_cons.mpr ⟨(s_aloadn (am_dp pw_X8_countChains_0 dd_X8_countChains_0a.2.2.1) rfl).to, ?_⟩
  refine List.forall_mem_cons.mpr ⟨(s_get (ci := 8) (k := 0) (am_dp pw_X8_countChains_0 dd_X8_countChains_0a.2.2.2.1) rfl (by decide) wd518 inX8 rfl).to, ?_⟩
  refine List.forall_mem_cons.mpr ⟨(s_get (ci := 6) (k := 5) (am_dp pw_X8_countChains_0 dd_X8_countChains_0a.2.2.2.2.1) rfl (by decide) wd254 inX6 rfl).to, ?_⟩
  refine List.forall_mem_cons.mpr ⟨(s_iconst (am_dp pw_X8_countChains_0 dd_X8_countChains_0a.2.2.2.2.2.1) (by decide)).to, ?_⟩
  refine List.forall_mem_cons.mpr ⟨(s_isub (am_dp pw_X8_countChains_0 dd_X8_countChains_0a.2.2.2.2.2.2.1)).to, ?_⟩
  refine List.forall_mem_cons.mpr ⟨(s_istoren (am_dp pw_X8_countChains_0 dd_X8_countChains_0a.2.2.2.2.2.2.2) rfl (by decide)).to, ?_⟩
  refine List.forall_mem_cons.mpr ⟨(s_iloadn (am_dp pw_X8_countChains_0 dd_X8_countChains_0b.1) rfl).to, ?_⟩
  refine List.forall_mem_cons.mpr ⟨(s_if_lt (am_dp pw_X8_countChains_0 dd_X8_countChains_0b.2.1) (by decide)).to, ?_⟩
  refine List.forall_mem_cons.mpr ⟨(s_aloadn (am_dp pw_X8_countChains_0 dd_X8_countChains_0b.2.2.1) rfl).to, ?_⟩
  refine List.forall_mem_cons.mpr ⟨(s_get (ci := 8) (k := 15) (am_dp pw_X8_countChains_0 dd_X8_countChains_0b.2.2.2.1) rfl (by decide) wd542 inX8 rfl).to, ?_⟩
  refine List.forall_mem_cons.mpr ⟨(s_iloadn (am_dp pw_X8_countChains_0 dd_X8_countChains_0b.2.2.2.2.1) rfl).to, ?_⟩
  refine List.forall_mem_cons.mpr ⟨(s_iconst (am_dp pw_X8_countChains_0 dd_X8_countChains_0b.2.2.2.2.2.1) (by decide)).to, ?_⟩
  refine List.forall_mem_cons.mpr ⟨(s_iast (am_dp pw_X8_countChains_0 dd_X8_countChains_0b.2.2.2.2.2.2.1)).to, ?_⟩
  refine List.forall_mem_cons.mpr ⟨(s_aloadn (am_dp pw_X8_countChains_0 dd_X8_countChains_0b.2.2.2.2.2.2.2) rfl).to, ?_⟩
  refine List.forall_mem_cons.mpr ⟨(s_get (ci := 8) (k := 9) (am_dp pw_X8_countChains_0 dd_X8_countChains_0c.1) rfl (by decide) wd531 inX8 rfl).to, ?_⟩
  refine List.forall_mem_cons.mpr ⟨(s_iloadn (am_dp pw_X8_countChains_0 dd_X8_countChains_0c.2.1) rfl).to, ?_⟩
  refine List.forall_mem_cons.mpr ⟨(s_zald (am_dp pw_X8_countChains_0 dd_X8_countChains_0c.2.2.1)).to, ?_⟩
  refine List.forall_mem_cons.mpr ⟨(s_if_ne (am_dp pw_X8_countChains_0 dd_X8_countChains_0c.2.2.2) (by decide)).to, ?_⟩
  refine List.forall_mem_cons.mpr ⟨(s_goto (am_dp pw_X8_countChains_32 dd_X8_countChains_32a.1) (by decide)).to, ?_⟩
  refine List.forall_mem_cons.mpr ⟨(s_aloadn (am_dp pw_X8_countChains_32 dd_X8_countChains_32a.2.1) rfl).to, ?_⟩
  refine List.forall_mem_cons.mpr ⟨(s_get (ci := 8) (k := 2) (am_dp pw_X8_countChains_32 dd_X8_countChains_32a.2.2.1) rfl (by decide) wd521 inX8 rfl).to, ?_⟩
  refine List.forall_mem_cons.mpr ⟨(s_aloadn (am_dp pw_X8_countChains_32 dd_X8_countChains_32a.2.2.2.1) rfl).to, ?_⟩
  refine List.forall_mem_cons.mpr ⟨(s_get (ci := 8) (k := 0) (am_dp pw_X8_countChains_32 dd_X8_countChains_32a.2.2.2.2.1) rfl (by decide) wd518 inX8 rfl).to, ?_⟩
  refine List.forall_mem_cons.mpr ⟨(s_get (ci := 6) (k := 7) (am_dp pw_X8_countChains_32 dd_X8_countChains_32a.2.2.2.2.2.1) rfl (by decide) wd261 inX6 rfl).to, ?_⟩
  refine List.forall_mem_cons.mpr ⟨(s_iloadn (am_dp pw_X8_countChains_32 dd_X8_countChains_32a.2.2.2.2.2.2.1) rfl).to, ?_⟩
  refine List.forall_mem_cons.mpr ⟨(s_iald (am_dp pw_X8_countChains_32 dd_X8_countChains_32a.2.2.2.2.2.2.2)).to, ?_⟩
  refine List.forall_mem_cons.mpr ⟨zw_cv105 (am_dp pw_X8_countChains_32 dd_X8_countChains_32b.1) wd993, ?_⟩
  refine List.forall_mem_cons.mpr ⟨(s_astoren (am_dp pw_X8_countChains_32 dd_X8_countChains_32b.2.1) rfl (by decide)).to, ?_⟩
  refine List.forall_mem_cons.mpr ⟨(s_iloadn (am_dp pw_X8_countChains_32 dd_X8_countChains_32b.2.2.1) rfl).to, ?_⟩
  refine List.forall_mem_cons.mpr ⟨(s_iconst (am_dp pw_X8_countChains_32 dd_X8_countChains_32b.2.2.2.1) (by decide)).to, ?_⟩
  refine List.forall_mem_cons.mpr ⟨(s_iadd (am_dp pw_X8_countChains_32 dd_X8_countChains_32b.2.2.2.2.1)).to, ?_⟩
  refine List.forall_mem_cons.mpr ⟨(s_istore (am_dp pw_X8_countChains_32 dd_X8_countChains_32b.2.2.2.2.2.1) (by decide)).to, ?_⟩
  refine List.forall_mem_cons.mpr ⟨(s_iload (am_dp pw_X8_countChains_32 dd_X8_countChains_32b.2.2.2.2.2.2.1)).to, ?_⟩
  refine List.forall_mem_cons.mpr ⟨(s_aloadn (am_dp pw_X8_countChains_32 dd_X8_countChains_32b.2.2.2.2.2.2.2) rfl).to, ?_⟩
  refine List.forall_mem_cons.mpr ⟨(s_get (ci := 8) (k := 0) (am_dp pw_X8_countChains_32 dd_X8_countChains_32c.1) rfl (by decide) wd518 inX8 rfl).to, ?_⟩
  refine List.forall_mem_cons.mpr ⟨(s_get (ci := 6) (k := 5) (am_dp pw_X8_countChains_32 dd_X8_countChains_32c.2) rfl (by decide) wd254 inX6 rfl).to, ?_⟩
  refine List.forall_mem_cons.mpr ⟨(s_icmp_ge (am_dp pw_X8_countChains_64 dd_X8_countChains_64a.1) (by decide)).to, ?_⟩
  refine List.forall_mem_cons.mpr ⟨(s_aloadn (am_dp pw_X8_countChains_64 dd_X8_countChains_64a.2.1) rfl).to, ?_⟩
  refine List.forall_mem_cons.mpr ⟨(s_get (ci := 8) (k := 0) (am_dp pw_X8_countChains_64 dd_X8_countChains_64a.2.2.1) rfl (by decide) wd518 inX8 rfl).to, ?_⟩
  refine List.forall_mem_cons.mpr ⟨(s_get (ci := 6) (k := 6) (am_dp pw_X8_countChains_64 dd_X8_countChains_64a.2.2.2.1) rfl (by decide) wd258 inX6 rfl).to, ?_⟩
  refine List.forall_mem_cons.mpr ⟨(s_iload (am_dp pw_X8_countChains_64 dd_X8_countChains_64a.2.2.2.2.1)).to, ?_⟩
  refine List.forall_mem_cons.mpr ⟨(s_iald (am_dp pw_X8_countChains_64 dd_X8_countChains_64a.2.2.2.2.2.1)).to, ?_⟩
  refine List.forall_mem_cons.mpr ⟨(s_aloadn (am_dp pw_X8_countChains_64 dd_X8_countChains_64a.2.2.2.2.2.2.1) rfl).to, ?_⟩
  refine List.forall_mem_cons.mpr ⟨(s_get (ci := 8) (k := 0) (am_dp pw_X8_countChains_64 dd_X8_countChains_64a.2.2.2.2.2.2.2) rfl (by decide) wd518 inX8 rfl).to, ?_⟩
  refine List.forall_mem_cons.mpr ⟨(s_get (ci := 6) (k := 6) (am_dp pw_X8_countChains_64 dd_X8_countChains_64b.1) rfl (by decide) wd258 inX6 rfl).to, ?_⟩
  refine List.forall_mem_cons.mpr ⟨(s_iloadn (am_dp pw_X8_countChains_64 dd_X8_countChains_64b.2.1) rfl).to, ?_⟩
  refine List.forall_mem_cons.mpr ⟨(s_iald (am_dp pw_X8_countChains_64 dd_X8_countChains_64b.2.2.1)).to, ?_⟩
  refine List.forall_mem_cons.mpr ⟨(s_isub (am_dp pw_X8_countChains_64 dd_X8_countChains_64b.2.2.2.1)).to, ?_⟩
  refine List.forall_mem_cons.mpr ⟨(s_iconst (am_dp pw_X8_countChains_64 dd_X8_countChains_64b.2.2.2.2.1) (by decide)).to, ?_⟩
  refine List.forall_mem_cons.mpr ⟨(s_imul (am_dp pw_X8_countChains_64 dd_X8_countChains_64b.2.2.2.2.2.1)).to, ?_⟩
  refine List.forall_mem_cons.mpr ⟨(s_aloadn (am_dp pw_X8_countChains_64 dd_X8_countChains_64b.2.2.2.2.2.2.1) rfl).to, ?_⟩
  refine List.forall_mem_cons.mpr ⟨(s_get (ci := 8) (k := 0) (am_dp pw_X8_countChains_64 dd_X8_countChains_64b.2.2.2.2.2.2.2) rfl (by decide) wd518 inX8 rfl).to, ?_⟩
  refine List.forall_mem_cons.mpr ⟨(s_get (ci := 6) (k := 7) (am_dp pw_X8_countChains_64 dd_X8_countChains_64c) rfl (by decide) wd261 inX6 rfl).to, ?_⟩
  refine List.forall_mem_cons.mpr ⟨(s_iload (am_dp pw_X8_countChains_96 dd_X8_countChains_96a.1)).to, ?_⟩
  refine List.forall_mem_cons.mpr ⟨(s_iald (am_dp pw_X8_countChains_96 dd_X8_countChains_96a.2.1)).to, ?_⟩
  refine List.forall_mem_cons.mpr ⟨(s_bipush (am_dp pw_X8_countChains_96 dd_X8_countChains_96a.2.2.1) (by decide)).to, ?_⟩
  refine List.forall_mem_cons.mpr ⟨(s_ishr (am_dp pw_X8_countChains_96 dd_X8_countChains_96a.2.2.2.1)).to, ?_⟩
  refine List.forall_mem_cons.mpr ⟨(s_iadd (am_dp pw_X8_countChains_96 dd_X8_countChains_96a.2.2.2.2.1)).to, ?_⟩
  exact fun _ h => absurd h List.not_mem_nil
theorem sn_tX8_countChains_1 : ∀ q ∈ tX8_countChains_1, am_Snd am_P0 RX8 cX8_countChains 6 (Option.some FieldType.int) "countChains" q.1 q.2 := by
  unfold tX8_countChains_1
  refine List.forall_mem_cons.mpr ⟨(s_istore (am_dp pw_X8_countChains_96 dd_X8_countChains_96a.2.2.2.2.2.1) (by decide)).to, ?_⟩
  refine List.forall_mem_cons.mpr ⟨(s_aloadn (am_dp pw_X8_countChains_96 dd_X8_countChains_96a.2.2.2.2.2.2.1) rfl).to, ?_⟩
  refine List.forall_mem_cons.mpr ⟨(s_get (ci := 8) (k := 15) (am_dp pw_X8_countChains_96 dd_X8_countChains_96a.2.2.2.2.2.2.2) rfl (by decide) wd542 inX8 rfl).to, ?_⟩
  refine List.forall_mem_cons.mpr ⟨(s_iload (am_dp pw_X8_countChains_96 dd_X8_countChains_96b.1)).to, ?_⟩
  refine List.forall_mem_cons.mpr ⟨(s_iald (am_dp pw_X8_countChains_96 dd_X8_countChains_96b.2.1)).to, ?_⟩
  refine List.forall_mem_cons.mpr ⟨(s_aloadn (am_dp pw_X8_countChains_96 dd_X8_countChains_96b.2.2.1) rfl).to, ?_⟩
  refine List.forall_mem_cons.mpr ⟨(s_get (ci := 8) (k := 15) (am_dp pw_X8_countChains_96 dd_X8_countChains_96b.2.2.2.1) rfl (by decide) wd542 inX8 rfl).to, ?_⟩
  refine List.forall_mem_cons.mpr ⟨(s_iloadn (am_dp pw_X8_countChains_96 dd_X8_countChains_96b.2.2.2.2.1) rfl).to, ?_⟩
  refine List.forall_mem_cons.mpr ⟨(s_iald (am_dp pw_X8_countChains_96 dd_X8_countChains_96b.2.2.2.2.2.1)).to, ?_⟩
  refine List.forall_mem_cons.mpr ⟨(s_icmp_le (am_dp pw_X8_countChains_96 dd_X8_countChains_96b.2.2.2.2.2.2.1) (by decide)).to, ?_⟩
  refine List.forall_mem_cons.mpr ⟨(s_aloadn (am_dp pw_X8_countChains_96 dd_X8_countChains_96b.2.2.2.2.2.2.2) rfl).to, ?_⟩
  refine List.forall_mem_cons.mpr ⟨(s_iload (am_dp pw_X8_countChains_96 dd_X8_countChains_96c.1)).to, ?_⟩
  refine List.forall_mem_cons.mpr ⟨(s_lald (am_dp pw_X8_countChains_96 dd_X8_countChains_96c.2.1)).to, ?_⟩
  refine List.forall_mem_cons.mpr ⟨(s_aloadn (am_dp pw_X8_countChains_96 dd_X8_countChains_96c.2.2) rfl).to, ?_⟩
  refine List.forall_mem_cons.mpr ⟨(s_get (ci := 8) (k := 0) (am_dp pw_X8_countChains_128 dd_X8_countChains_128a.1) rfl (by decide) wd518 inX8 rfl).to, ?_⟩
  refine List.forall_mem_cons.mpr ⟨(s_get (ci := 6) (k := 7) (am_dp pw_X8_countChains_128 dd_X8_countChains_128a.2.1) rfl (by decide) wd261 inX6 rfl).to, ?_⟩
  refine List.forall_mem_cons.mpr ⟨(s_iload (am_dp pw_X8_countChains_128 dd_X8_countChains_128a.2.2.1)).to, ?_⟩
  refine List.forall_mem_cons.mpr ⟨(s_iald (am_dp pw_X8_countChains_128 dd_X8_countChains_128a.2.2.2.1)).to, ?_⟩
  refine List.forall_mem_cons.mpr ⟨(s_bipush (am_dp pw_X8_countChains_128 dd_X8_countChains_128a.2.2.2.2.1) (by decide)).to, ?_⟩
  refine List.forall_mem_cons.mpr ⟨(s_iand (am_dp pw_X8_countChains_128 dd_X8_countChains_128a.2.2.2.2.2.1)).to, ?_⟩
  refine List.forall_mem_cons.mpr ⟨(s_lushr (am_dp pw_X8_countChains_128 dd_X8_countChains_128a.2.2.2.2.2.2.1)).to, ?_⟩
  refine List.forall_mem_cons.mpr ⟨(s_lconst (am_dp pw_X8_countChains_128 dd_X8_countChains_128a.2.2.2.2.2.2.2) (by decide)).to, ?_⟩
  refine List.forall_mem_cons.mpr ⟨(s_land (am_dp pw_X8_countChains_128 dd_X8_countChains_128b.1)).to, ?_⟩
  refine List.forall_mem_cons.mpr ⟨(s_lconst (am_dp pw_X8_countChains_128 dd_X8_countChains_128b.2.1) (by decide)).to, ?_⟩
  refine List.forall_mem_cons.mpr ⟨(s_lcmp (am_dp pw_X8_countChains_128 dd_X8_countChains_128b.2.2.1)).to, ?_⟩
  refine List.forall_mem_cons.mpr ⟨(s_if_eq (am_dp pw_X8_countChains_128 dd_X8_countChains_128b.2.2.2.1) (by decide)).to, ?_⟩
  refine List.forall_mem_cons.mpr ⟨(s_aloadn (am_dp pw_X8_countChains_128 dd_X8_countChains_128b.2.2.2.2.1) rfl).to, ?_⟩
  refine List.forall_mem_cons.mpr ⟨(s_get (ci := 8) (k := 15) (am_dp pw_X8_countChains_128 dd_X8_countChains_128b.2.2.2.2.2.1) rfl (by decide) wd542 inX8 rfl).to, ?_⟩
  refine List.forall_mem_cons.mpr ⟨(s_iloadn (am_dp pw_X8_countChains_128 dd_X8_countChains_128b.2.2.2.2.2.2.1) rfl).to, ?_⟩
  refine List.forall_mem_cons.mpr ⟨(s_aloadn (am_dp pw_X8_countChains_128 dd_X8_countChains_128b.2.2.2.2.2.2.2) rfl).to, ?_⟩
  refine List.forall_mem_cons.mpr ⟨(s_get (ci := 8) (k := 15) (am_dp pw_X8_countChains_128 dd_X8_countChains_128c.1) rfl (by decide) wd542 inX8 rfl).to, ?_⟩
  refine List.forall_mem_cons.mpr ⟨(s_iload (am_dp pw_X8_countChains_128 dd_X8_countChains_128c.2.1)).to, ?_⟩
  refine List.forall_mem_cons.mpr ⟨(s_iald (am_dp pw_X8_countChains_128 dd_X8_countChains_128c.2.2)).to, ?_⟩
  refine List.forall_mem_cons.mpr ⟨(s_iast (am_dp pw_X8_countChains_160 dd_X8_countChains_160a.1)).to, ?_⟩
  refine List.forall_mem_cons.mpr ⟨(s_iinc (am_dp pw_X8_countChains_160 dd_X8_countChains_160a.2.1) (by decide) (by decide)).to, ?_⟩
  refine List.forall_mem_cons.mpr ⟨(s_goto (am_dp pw_X8_countChains_160 dd_X8_countChains_160a.2.2.1) (by decide)).to, ?_⟩
  refine List.forall_mem_cons.mpr ⟨(s_aloadn (am_dp pw_X8_countChains_160 dd_X8_countChains_160a.2.2.2.1) rfl).to, ?_⟩
  refine List.forall_mem_cons.mpr ⟨(s_get (ci := 8) (k := 15) (am_dp pw_X8_countChains_160 dd_X8_countChains_160a.2.2.2.2.1) rfl (by decide) wd542 inX8 rfl).to, ?_⟩
  refine List.forall_mem_cons.mpr ⟨(s_iloadn (am_dp pw_X8_countChains_160 dd_X8_countChains_160a.2.2.2.2.2.1) rfl).to, ?_⟩
  refine List.forall_mem_cons.mpr ⟨(s_dup2 (am_dp pw_X8_countChains_160 dd_X8_countChains_160a.2.2.2.2.2.2.1)).to, ?_⟩
  refine List.forall_mem_cons.mpr ⟨(s_iald (am_dp pw_X8_countChains_160 dd_X8_countChains_160a.2.2.2.2.2.2.2)).to, ?_⟩
  refine List.forall_mem_cons.mpr ⟨(s_iconst (am_dp pw_X8_countChains_160 dd_X8_countChains_160b.1) (by decide)).to, ?_⟩
  refine List.forall_mem_cons.mpr ⟨(s_iadd (am_dp pw_X8_countChains_160 dd_X8_countChains_160b.2.1)).to, ?_⟩
  refine List.forall_mem_cons.mpr ⟨(s_iast (am_dp pw_X8_countChains_160 dd_X8_countChains_160b.2.2.1)).to, ?_⟩
  refine List.forall_mem_cons.mpr ⟨(s_iloadn (am_dp pw_X8_countChains_160 dd_X8_countChains_160b.2.2.2.1) rfl).to, ?_⟩
  refine List.forall_mem_cons.mpr ⟨(s_aloadn (am_dp pw_X8_countChains_160 dd_X8_countChains_160b.2.2.2.2.1) rfl).to, ?_⟩
  refine List.forall_mem_cons.mpr ⟨(s_get (ci := 8) (k := 15) (am_dp pw_X8_countChains_160 dd_X8_countChains_160b.2.2.2.2.2.1) rfl (by decide) wd542 inX8 rfl).to, ?_⟩
  refine List.forall_mem_cons.mpr ⟨(s_iloadn (am_dp pw_X8_countChains_160 dd_X8_countChains_160b.2.2.2.2.2.2.1) rfl).to, ?_⟩
  refine List.forall_mem_cons.mpr ⟨(s_iald (am_dp pw_X8_countChains_160 dd_X8_countChains_160b.2.2.2.2.2.2.2)).to, ?_⟩
  refine List.forall_mem_cons.mpr ⟨zw_cs307 (am_dp pw_X8_countChains_160 dd_X8_countChains_160c.1) wd994, ?_⟩
  refine List.forall_mem_cons.mpr ⟨(s_istoren (am_dp pw_X8_countChains_160 dd_X8_countChains_160c.2.1) rfl (by decide)).to, ?_⟩
  refine List.forall_mem_cons.mpr ⟨(s_iinc (am_dp pw_X8_countChains_160 dd_X8_countChains_160c.2.2.1) (by decide) (by decide)).to, ?_⟩
  refine List.forall_mem_cons.mpr ⟨(s_goto (am_dp pw_X8_countChains_160 dd_X8_countChains_160c.2.2.2) (by decide)).to, ?_⟩
  refine List.forall_mem_cons.mpr ⟨(s_iloadn (am_dp pw_X8_countChains_192 dd_X8_countChains_192a.1) rfl).to, ?_⟩
  refine List.forall_mem_cons.mpr ⟨s_iret (am_dp pw_X8_countChains_192 dd_X8_countChains_192a.2) rfl, ?_⟩
  exact fun _ h => absurd h List.not_mem_nil
theorem sn_tX8_countChains : ∀ q ∈ tX8_countChains, am_Snd am_P0 RX8 cX8_countChains 6 (Option.some FieldType.int) "countChains" q.1 q.2 := by
  unfold tX8_countChains
  exact List.forall_mem_append.mpr ⟨sn_tX8_countChains_0, sn_tX8_countChains_1⟩
theorem sn_tX8_keep_0 : ∀ q ∈ tX8_keep_0, am_Snd am_P0 RX8 cX8_keep 4 (Option.none : Option FieldType) "keep" q.1 q.2 := by
  unfold tX8_keep_0
  refine List.forall_mem_cons.mpr ⟨(s_iconst (am_dp pw_X8_keep_0 dd_X8_keep_0a.1) (by decide)).to, ?_⟩
  refine List.forall_mem_cons.mpr ⟨(s_istoren (am_dp pw_X8_keep_0 dd_X8_keep_0a.2.1) rfl (by decide)).to, ?_⟩
  refine List.forall_mem_cons.mpr ⟨(s_iconst (am_dp pw_X8_keep_0 dd_X8_keep_0a.2.2.1) (by decide)).to, ?_⟩
  refine List.forall_mem_cons.mpr ⟨(s_istoren (am_dp pw_X8_keep_0 dd_X8_keep_0a.2.2.2.1) rfl (by decide)).to, ?_⟩
  refine List.forall_mem_cons.mpr ⟨(s_iloadn (am_dp pw_X8_keep_0 dd_X8_keep_0a.2.2.2.2.1) rfl).to, ?_⟩
  refine List.forall_mem_cons.mpr ⟨(s_aloadn (am_dp pw_X8_keep_0 dd_X8_keep_0a.2.2.2.2.2.1) rfl).to, ?_⟩
  refine List.forall_mem_cons.mpr ⟨(s_get (ci := 8) (k := 0) (am_dp pw_X8_keep_0 dd_X8_keep_0a.2.2.2.2.2.2.1) rfl (by decide) wd518 inX8 rfl).to, ?_⟩
  refine List.forall_mem_cons.mpr ⟨(s_get (ci := 6) (k := 5) (am_dp pw_X8_keep_0 dd_X8_keep_0a.2.2.2.2.2.2.2) rfl (by decide) wd254 inX6 rfl).to, ?_⟩
  refine List.forall_mem_cons.mpr ⟨(s_icmp_ge (am_dp pw_X8_keep_0 dd_X8_keep_0b.1) (by decide)).to, ?_⟩
  refine List.forall_mem_cons.mpr ⟨(s_aloadn (am_dp pw_X8_keep_0 dd_X8_keep_0b.2.1) rfl).to, ?_⟩
  refine List.forall_mem_cons.mpr ⟨(s_get (ci := 8) (k := 11) (am_dp pw_X8_keep_0 dd_X8_keep_0b.2.2.1) rfl (by decide) wd535 inX8 rfl).to, ?_⟩
  refine List.forall_mem_cons.mpr ⟨(s_iloadn (am_dp pw_X8_keep_0 dd_X8_keep_0b.2.2.2.1) rfl).to, ?_⟩
  refine List.forall_mem_cons.mpr ⟨(s_icmp_ge (am_dp pw_X8_keep_0 dd_X8_keep_0b.2.2.2.2.1) (by decide)).to, ?_⟩
  refine List.forall_mem_cons.mpr ⟨(s_aloadn (am_dp pw_X8_keep_0 dd_X8_keep_0b.2.2.2.2.2.1) rfl).to, ?_⟩
  refine List.forall_mem_cons.mpr ⟨(s_get (ci := 8) (k := 15) (am_dp pw_X8_keep_0 dd_X8_keep_0b.2.2.2.2.2.2.1) rfl (by decide) wd542 inX8 rfl).to, ?_⟩
  refine List.forall_mem_cons.mpr ⟨(s_iloadn (am_dp pw_X8_keep_0 dd_X8_keep_0b.2.2.2.2.2.2.2) rfl).to, ?_⟩
  refine List.forall_mem_cons.mpr ⟨(s_iald (am_dp pw_X8_keep_0 dd_X8_keep_0c.1)).to, ?_⟩
  refine List.forall_mem_cons.mpr ⟨(s_iloadn (am_dp pw_X8_keep_0 dd_X8_keep_0c.2.1) rfl).to, ?_⟩
  refine List.forall_mem_cons.mpr ⟨(s_aloadn (am_dp pw_X8_keep_0 dd_X8_keep_0c.2.2.1) rfl).to, ?_⟩
  refine List.forall_mem_cons.mpr ⟨(s_get (ci := 8) (k := 11) (am_dp pw_X8_keep_0 dd_X8_keep_0c.2.2.2) rfl (by decide) wd535 inX8 rfl).to, ?_⟩
  refine List.forall_mem_cons.mpr ⟨(s_isub (am_dp pw_X8_keep_32 dd_X8_keep_32a.1)).to, ?_⟩
  refine List.forall_mem_cons.mpr ⟨(s_icmp_ne (am_dp pw_X8_keep_32 dd_X8_keep_32a.2.1) (by decide)).to, ?_⟩
  refine List.forall_mem_cons.mpr ⟨(s_iloadn (am_dp pw_X8_keep_32 dd_X8_keep_32a.2.2.1) rfl).to, ?_⟩
  refine List.forall_mem_cons.mpr ⟨(s_iconst (am_dp pw_X8_keep_32 dd_X8_keep_32a.2.2.2.1) (by decide)).to, ?_⟩
  refine List.forall_mem_cons.mpr ⟨(s_icmp_eq (am_dp pw_X8_keep_32 dd_X8_keep_32a.2.2.2.2.1) (by decide)).to, ?_⟩
  refine List.forall_mem_cons.mpr ⟨(s_aloadn (am_dp pw_X8_keep_32 dd_X8_keep_32a.2.2.2.2.2.1) rfl).to, ?_⟩
  refine List.forall_mem_cons.mpr ⟨(s_get (ci := 8) (k := 2) (am_dp pw_X8_keep_32 dd_X8_keep_32a.2.2.2.2.2.2.1) rfl (by decide) wd521 inX8 rfl).to, ?_⟩
  refine List.forall_mem_cons.mpr ⟨(s_aloadn (am_dp pw_X8_keep_32 dd_X8_keep_32a.2.2.2.2.2.2.2) rfl).to, ?_⟩
  refine List.forall_mem_cons.mpr ⟨(s_get (ci := 8) (k := 0) (am_dp pw_X8_keep_32 dd_X8_keep_32b.1) rfl (by decide) wd518 inX8 rfl).to, ?_⟩
  refine List.forall_mem_cons.mpr ⟨(s_get (ci := 6) (k := 7) (am_dp pw_X8_keep_32 dd_X8_keep_32b.2.1) rfl (by decide) wd261 inX6 rfl).to, ?_⟩
  refine List.forall_mem_cons.mpr ⟨(s_iloadn (am_dp pw_X8_keep_32 dd_X8_keep_32b.2.2.1) rfl).to, ?_⟩
  refine List.forall_mem_cons.mpr ⟨(s_iald (am_dp pw_X8_keep_32 dd_X8_keep_32b.2.2.2.1)).to, ?_⟩
  refine List.forall_mem_cons.mpr ⟨(s_aloadn (am_dp pw_X8_keep_32 dd_X8_keep_32b.2.2.2.2.1) rfl).to, ?_⟩
  refine List.forall_mem_cons.mpr ⟨(s_get (ci := 8) (k := 0) (am_dp pw_X8_keep_32 dd_X8_keep_32b.2.2.2.2.2.1) rfl (by decide) wd518 inX8 rfl).to, ?_⟩
  refine List.forall_mem_cons.mpr ⟨(s_get (ci := 6) (k := 7) (am_dp pw_X8_keep_32 dd_X8_keep_32b.2.2.2.2.2.2.1) rfl (by decide) wd261 inX6 rfl).to, ?_⟩
  refine List.forall_mem_cons.mpr ⟨(s_iloadn (am_dp pw_X8_keep_32 dd_X8_keep_32b.2.2.2.2.2.2.2) rfl).to, ?_⟩
  refine List.forall_mem_cons.mpr ⟨(s_iald (am_dp pw_X8_keep_64 dd_X8_keep_64a.1)).to, ?_⟩
  refine List.forall_mem_cons.mpr ⟨(s_aloadn (am_dp pw_X8_keep_64 dd_X8_keep_64a.2.1) rfl).to, ?_⟩
  refine List.forall_mem_cons.mpr ⟨(s_get (ci := 8) (k := 0) (am_dp pw_X8_keep_64 dd_X8_keep_64a.2.2.1) rfl (by decide) wd518 inX8 rfl).to, ?_⟩
  refine List.forall_mem_cons.mpr ⟨(s_get (ci := 6) (k := 6) (am_dp pw_X8_keep_64 dd_X8_keep_64a.2.2.2.1) rfl (by decide) wd258 inX6 rfl).to, ?_⟩
  refine List.forall_mem_cons.mpr ⟨(s_iloadn (am_dp pw_X8_keep_64 dd_X8_keep_64a.2.2.2.2.1) rfl).to, ?_⟩
  refine List.forall_mem_cons.mpr ⟨(s_iald (am_dp pw_X8_keep_64 dd_X8_keep_64a.2.2.2.2.2.1)).to, ?_⟩
  refine List.forall_mem_cons.mpr ⟨(s_aloadn (am_dp pw_X8_keep_64 dd_X8_keep_64a.2.2.2.2.2.2.1) rfl).to, ?_⟩
  refine List.forall_mem_cons.mpr ⟨(s_get (ci := 8) (k := 0) (am_dp pw_X8_keep_64 dd_X8_keep_64a.2.2.2.2.2.2.2) rfl (by decide) wd518 inX8 rfl).to, ?_⟩
  refine List.forall_mem_cons.mpr ⟨(s_get (ci := 6) (k := 6) (am_dp pw_X8_keep_64 dd_X8_keep_64b.1) rfl (by decide) wd258 inX6 rfl).to, ?_⟩
  refine List.forall_mem_cons.mpr ⟨(s_iloadn (am_dp pw_X8_keep_64 dd_X8_keep_64b.2.1) rfl).to, ?_⟩
  refine List.forall_mem_cons.mpr ⟨(s_iald (am_dp pw_X8_keep_64 dd_X8_keep_64b.2.2.1)).to, ?_⟩
  refine List.forall_mem_cons.mpr ⟨(s_isub (am_dp pw_X8_keep_64 dd_X8_keep_64b.2.2.2.1)).to, ?_⟩
  refine List.forall_mem_cons.mpr ⟨zw_cv104 (am_dp pw_X8_keep_64 dd_X8_keep_64b.2.2.2.2.1) wd987, ?_⟩
  refine List.forall_mem_cons.mpr ⟨(s_if_eq (am_dp pw_X8_keep_64 dd_X8_keep_64b.2.2.2.2.2.1) (by decide)).to, ?_⟩
  refine List.forall_mem_cons.mpr ⟨(s_aloadn (am_dp pw_X8_keep_64 dd_X8_keep_64b.2.2.2.2.2.2.1) rfl).to, ?_⟩
  refine List.forall_mem_cons.mpr ⟨(s_get (ci := 8) (k := 10) (am_dp pw_X8_keep_64 dd_X8_keep_64b.2.2.2.2.2.2.2) rfl (by decide) wd532 inX8 rfl).to, ?_⟩
  refine List.forall_mem_cons.mpr ⟨(s_iloadn (am_dp pw_X8_keep_64 dd_X8_keep_64c.1) rfl).to, ?_⟩
  refine List.forall_mem_cons.mpr ⟨(s_iconst (am_dp pw_X8_keep_64 dd_X8_keep_64c.2) (by decide)).to, ?_⟩
  refine List.forall_mem_cons.mpr ⟨(s_zast (am_dp pw_X8_keep_96 dd_X8_keep_96a.1)).to, ?_⟩
  refine List.forall_mem_cons.mpr ⟨(s_aloadn (am_dp pw_X8_keep_96 dd_X8_keep_96a.2.1) rfl).to, ?_⟩
  refine List.forall_mem_cons.mpr ⟨(s_dup (am_dp pw_X8_keep_96 dd_X8_keep_96a.2.2.1)).to, ?_⟩
  refine List.forall_mem_cons.mpr ⟨(s_get (ci := 8) (k := 11) (am_dp pw_X8_keep_96 dd_X8_keep_96a.2.2.2.1) rfl (by decide) wd535 inX8 rfl).to, ?_⟩
  refine List.forall_mem_cons.mpr ⟨(s_iconst (am_dp pw_X8_keep_96 dd_X8_keep_96a.2.2.2.2.1) (by decide)).to, ?_⟩
  refine List.forall_mem_cons.mpr ⟨(s_iadd (am_dp pw_X8_keep_96 dd_X8_keep_96a.2.2.2.2.2.1)).to, ?_⟩
  exact fun _ h => absurd h List.not_mem_nil
theorem sn_tX8_keep_1 : ∀ q ∈ tX8_keep_1, am_Snd am_P0 RX8 cX8_keep 4 (Option.none : Option FieldType) "keep" q.1 q.2 := by
  unfold tX8_keep_1
  refine List.forall_mem_cons.mpr ⟨(s_put (ci := 8) (k := 11) (am_dp pw_X8_keep_96 dd_X8_keep_96a.2.2.2.2.2.2.1) rfl (by decide) wd535 inX8 tyX8_ok nmX8 rfl rfl).to, ?_⟩
  refine List.forall_mem_cons.mpr ⟨(s_iloadn (am_dp pw_X8_keep_96 dd_X8_keep_96a.2.2.2.2.2.2.2) rfl).to, ?_⟩
  refine List.forall_mem_cons.mpr ⟨(s_istoren (am_dp pw_X8_keep_96 dd_X8_keep_96b.1) rfl (by decide)).to, ?_⟩
  refine List.forall_mem_cons.mpr ⟨(s_iinc (am_dp pw_X8_keep_96 dd_X8_keep_96b.2.1) (by decide) (by decide)).to, ?_⟩
  refine List.forall_mem_cons.mpr ⟨(s_goto (am_dp pw_X8_keep_96 dd_X8_keep_96b.2.2.1) (by decide)).to, ?_⟩
  refine List.forall_mem_cons.mpr ⟨s_vret (am_dp pw_X8_keep_96 dd_X8_keep_96b.2.2.2) rfl, ?_⟩
  exact fun _ h => absurd h List.not_mem_nil
theorem sn_tX8_keep : ∀ q ∈ tX8_keep, am_Snd am_P0 RX8 cX8_keep 4 (Option.none : Option FieldType) "keep" q.1 q.2 := by
  unfold tX8_keep
  exact List.forall_mem_append.mpr ⟨sn_tX8_keep_0, sn_tX8_keep_1⟩
theorem sn_tX8_findMay_0 : ∀ q ∈ tX8_findMay_0, am_Snd am_P0 RX8 cX8_findMay 5 (Option.none : Option FieldType) "findMay" q.1 q.2 := by
  unfold tX8_findMay_0
  refine List.forall_mem_cons.mpr ⟨(s_iconst (am_dp pw_X8_findMay_0 dd_X8_findMay_0a.1) (by decide)).to, ?_⟩
  refine List.forall_mem_cons.mpr ⟨(s_istoren (am_dp pw_X8_findMay_0 dd_X8_findMay_0a.2.1) rfl (by decide)).to, ?_⟩
  refine List.forall_mem_cons.mpr ⟨(s_iloadn (am_dp pw_X8_findMay_0 dd_X8_findMay_0a.2.2.1) rfl).to, ?_⟩
  refine List.forall_mem_cons.mpr ⟨(s_aloadn (am_dp pw_X8_findMay_0 dd_X8_findMay_0a.2.2.2.1) rfl).to, ?_⟩
  refine List.forall_mem_cons.mpr ⟨(s_get (ci := 8) (k := 0) (am_dp pw_X8_findMay_0 dd_X8_findMay_0a.2.2.2.2.1) rfl (by decide) wd518 inX8 rfl).to, ?_⟩
  refine List.forall_mem_cons.mpr ⟨(s_get (ci := 6) (k := 5) (am_dp pw_X8_findMay_0 dd_X8_findMay_0a.2.2.2.2.2.1) rfl (by decide) wd254 inX6 rfl).to, ?_⟩
  refine List.forall_mem_cons.mpr ⟨(s_icmp_ge (am_dp pw_X8_findMay_0 dd_X8_findMay_0a.2.2.2.2.2.2.1) (by decide)).to, ?_⟩
  refine List.forall_mem_cons.mpr ⟨(s_aloadn (am_dp pw_X8_findMay_0 dd_X8_findMay_0a.2.2.2.2.2.2.2) rfl).to, ?_⟩
  refine List.forall_mem_cons.mpr ⟨(s_get (ci := 8) (k := 10) (am_dp pw_X8_findMay_0 dd_X8_findMay_0b.1) rfl (by decide) wd532 inX8 rfl).to, ?_⟩
  refine List.forall_mem_cons.mpr ⟨(s_iloadn (am_dp pw_X8_findMay_0 dd_X8_findMay_0b.2.1) rfl).to, ?_⟩
  refine List.forall_mem_cons.mpr ⟨(s_zald (am_dp pw_X8_findMay_0 dd_X8_findMay_0b.2.2.1)).to, ?_⟩
  refine List.forall_mem_cons.mpr ⟨(s_if_eq (am_dp pw_X8_findMay_0 dd_X8_findMay_0b.2.2.2.1) (by decide)).to, ?_⟩
  refine List.forall_mem_cons.mpr ⟨(s_aloadn (am_dp pw_X8_findMay_0 dd_X8_findMay_0b.2.2.2.2.1) rfl).to, ?_⟩
  refine List.forall_mem_cons.mpr ⟨(s_get (ci := 8) (k := 3) (am_dp pw_X8_findMay_0 dd_X8_findMay_0b.2.2.2.2.2.1) rfl (by decide) wd523 inX8 rfl).to, ?_⟩
  refine List.forall_mem_cons.mpr ⟨(s_aloadn (am_dp pw_X8_findMay_0 dd_X8_findMay_0b.2.2.2.2.2.2.1) rfl).to, ?_⟩
  refine List.forall_mem_cons.mpr ⟨(s_get (ci := 8) (k := 0) (am_dp pw_X8_findMay_0 dd_X8_findMay_0b.2.2.2.2.2.2.2) rfl (by decide) wd518 inX8 rfl).to, ?_⟩
  refine List.forall_mem_cons.mpr ⟨(s_get (ci := 6) (k := 6) (am_dp pw_X8_findMay_0 dd_X8_findMay_0c) rfl (by decide) wd258 inX6 rfl).to, ?_⟩
  refine List.forall_mem_cons.mpr ⟨(s_iloadn (am_dp pw_X8_findMay_32 dd_X8_findMay_32a.1) rfl).to, ?_⟩
  refine List.forall_mem_cons.mpr ⟨(s_iald (am_dp pw_X8_findMay_32 dd_X8_findMay_32a.2.1)).to, ?_⟩
  refine List.forall_mem_cons.mpr ⟨(s_aloadn (am_dp pw_X8_findMay_32 dd_X8_findMay_32a.2.2.1) rfl).to, ?_⟩
  refine List.forall_mem_cons.mpr ⟨(s_get (ci := 8) (k := 0) (am_dp pw_X8_findMay_32 dd_X8_findMay_32a.2.2.2.1) rfl (by decide) wd518 inX8 rfl).to, ?_⟩
  refine List.forall_mem_cons.mpr ⟨(s_get (ci := 6) (k := 7) (am_dp pw_X8_findMay_32 dd_X8_findMay_32a.2.2.2.2.1) rfl (by decide) wd261 inX6 rfl).to, ?_⟩
  refine List.forall_mem_cons.mpr ⟨(s_iloadn (am_dp pw_X8_findMay_32 dd_X8_findMay_32a.2.2.2.2.2.1) rfl).to, ?_⟩
  refine List.forall_mem_cons.mpr ⟨(s_iald (am_dp pw_X8_findMay_32 dd_X8_findMay_32a.2.2.2.2.2.2.1)).to, ?_⟩
  refine List.forall_mem_cons.mpr ⟨zw_cv7 (am_dp pw_X8_findMay_32 dd_X8_findMay_32a.2.2.2.2.2.2.2) wd946, ?_⟩
  refine List.forall_mem_cons.mpr ⟨(s_pop (am_dp pw_X8_findMay_32 dd_X8_findMay_32b.1)).to, ?_⟩
  refine List.forall_mem_cons.mpr ⟨(s_iinc (am_dp pw_X8_findMay_32 dd_X8_findMay_32b.2.1) (by decide) (by decide)).to, ?_⟩
  refine List.forall_mem_cons.mpr ⟨(s_goto (am_dp pw_X8_findMay_32 dd_X8_findMay_32b.2.2.1) (by decide)).to, ?_⟩
  refine List.forall_mem_cons.mpr ⟨(s_iconst (am_dp pw_X8_findMay_32 dd_X8_findMay_32b.2.2.2.1) (by decide)).to, ?_⟩
  refine List.forall_mem_cons.mpr ⟨(s_istoren (am_dp pw_X8_findMay_32 dd_X8_findMay_32b.2.2.2.2.1) rfl (by decide)).to, ?_⟩
  refine List.forall_mem_cons.mpr ⟨(s_iconst (am_dp pw_X8_findMay_32 dd_X8_findMay_32b.2.2.2.2.2.1) (by decide)).to, ?_⟩
  refine List.forall_mem_cons.mpr ⟨(s_istoren (am_dp pw_X8_findMay_32 dd_X8_findMay_32b.2.2.2.2.2.2.1) rfl (by decide)).to, ?_⟩
  refine List.forall_mem_cons.mpr ⟨(s_iloadn (am_dp pw_X8_findMay_32 dd_X8_findMay_32b.2.2.2.2.2.2.2) rfl).to, ?_⟩
  refine List.forall_mem_cons.mpr ⟨(s_bipush (am_dp pw_X8_findMay_32 dd_X8_findMay_32c.1) (by decide)).to, ?_⟩
  refine List.forall_mem_cons.mpr ⟨(s_icmp_ge (am_dp pw_X8_findMay_32 dd_X8_findMay_32c.2) (by decide)).to, ?_⟩
  refine List.forall_mem_cons.mpr ⟨(s_aloadn (am_dp pw_X8_findMay_64 dd_X8_findMay_64a.1) rfl).to, ?_⟩
  refine List.forall_mem_cons.mpr ⟨(s_get (ci := 8) (k := 3) (am_dp pw_X8_findMay_64 dd_X8_findMay_64a.2.1) rfl (by decide) wd523 inX8 rfl).to, ?_⟩
  refine List.forall_mem_cons.mpr ⟨(s_get (ci := 1) (k := 0) (am_dp pw_X8_findMay_64 dd_X8_findMay_64a.2.2.1) rfl (by decide) wd514 inX1 rfl).to, ?_⟩
  refine List.forall_mem_cons.mpr ⟨(s_iloadn (am_dp pw_X8_findMay_64 dd_X8_findMay_64a.2.2.2.1) rfl).to, ?_⟩
  refine List.forall_mem_cons.mpr ⟨(s_iald (am_dp pw_X8_findMay_64 dd_X8_findMay_64a.2.2.2.2.1)).to, ?_⟩
  refine List.forall_mem_cons.mpr ⟨(s_iconst (am_dp pw_X8_findMay_64 dd_X8_findMay_64a.2.2.2.2.2.1) (by decide)).to, ?_⟩
  refine List.forall_mem_cons.mpr ⟨(s_icmp_ne (am_dp pw_X8_findMay_64 dd_X8_findMay_64a.2.2.2.2.2.2.1) (by decide)).to, ?_⟩
  refine List.forall_mem_cons.mpr ⟨(s_iloadn (am_dp pw_X8_findMay_64 dd_X8_findMay_64a.2.2.2.2.2.2.2) rfl).to, ?_⟩
  refine List.forall_mem_cons.mpr ⟨(s_goto (am_dp pw_X8_findMay_64 dd_X8_findMay_64b.1) (by decide)).to, ?_⟩
  refine List.forall_mem_cons.mpr ⟨(s_iloadn (am_dp pw_X8_findMay_64 dd_X8_findMay_64b.2.1) rfl).to, ?_⟩
  refine List.forall_mem_cons.mpr ⟨(s_istoren (am_dp pw_X8_findMay_64 dd_X8_findMay_64b.2.2.1) rfl (by decide)).to, ?_⟩
  refine List.forall_mem_cons.mpr ⟨(s_iloadn (am_dp pw_X8_findMay_64 dd_X8_findMay_64b.2.2.2.1) rfl).to, ?_⟩
  refine List.forall_mem_cons.mpr ⟨(s_iconst (am_dp pw_X8_findMay_64 dd_X8_findMay_64b.2.2.2.2.1) (by decide)).to, ?_⟩
  refine List.forall_mem_cons.mpr ⟨(s_icmp_ne (am_dp pw_X8_findMay_64 dd_X8_findMay_64b.2.2.2.2.2.1) (by decide)).to, ?_⟩
  refine List.forall_mem_cons.mpr ⟨(s_aloadn (am_dp pw_X8_findMay_64 dd_X8_findMay_64b.2.2.2.2.2.2.1) rfl).to, ?_⟩
  refine List.forall_mem_cons.mpr ⟨(s_get (ci := 8) (k := 2) (am_dp pw_X8_findMay_64 dd_X8_findMay_64b.2.2.2.2.2.2.2) rfl (by decide) wd521 inX8 rfl).to, ?_⟩
  refine List.forall_mem_cons.mpr ⟨(s_get (ci := 9) (k := 0) (am_dp pw_X8_findMay_64 dd_X8_findMay_64c.1) rfl (by decide) wd491 inX9 rfl).to, ?_⟩
  refine List.forall_mem_cons.mpr ⟨(s_goto (am_dp pw_X8_findMay_64 dd_X8_findMay_64c.2) (by decide)).to, ?_⟩
  refine List.forall_mem_cons.mpr ⟨(s_aloadn (am_dp pw_X8_findMay_96 dd_X8_findMay_96a.1) rfl).to, ?_⟩
  refine List.forall_mem_cons.mpr ⟨(s_get (ci := 8) (k := 2) (am_dp pw_X8_findMay_96 dd_X8_findMay_96a.2.1) rfl (by decide) wd521 inX8 rfl).to, ?_⟩
  refine List.forall_mem_cons.mpr ⟨(s_aloadn (am_dp pw_X8_findMay_96 dd_X8_findMay_96a.2.2.1) rfl).to, ?_⟩
  refine List.forall_mem_cons.mpr ⟨(s_get (ci := 8) (k := 3) (am_dp pw_X8_findMay_96 dd_X8_findMay_96a.2.2.2.1) rfl (by decide) wd523 inX8 rfl).to, ?_⟩
  refine List.forall_mem_cons.mpr ⟨(s_get (ci := 1) (k := 0) (am_dp pw_X8_findMay_96 dd_X8_findMay_96a.2.2.2.2.1) rfl (by decide) wd514 inX1 rfl).to, ?_⟩
  refine List.forall_mem_cons.mpr ⟨(s_iloadn (am_dp pw_X8_findMay_96 dd_X8_findMay_96a.2.2.2.2.2.1) rfl).to, ?_⟩
  refine List.forall_mem_cons.mpr ⟨(s_iald (am_dp pw_X8_findMay_96 dd_X8_findMay_96a.2.2.2.2.2.2.1)).to, ?_⟩
  exact fun _ h => absurd h List.not_mem_nil
theorem sn_tX8_findMay_1 : ∀ q ∈ tX8_findMay_1, am_Snd am_P0 RX8 cX8_findMay 5 (Option.none : Option FieldType) "findMay" q.1 q.2 := by
  unfold tX8_findMay_1
  refine List.forall_mem_cons.mpr ⟨zw_cv105 (am_dp pw_X8_findMay_96 dd_X8_findMay_96a.2.2.2.2.2.2.2) wd993, ?_⟩
  refine List.forall_mem_cons.mpr ⟨(s_astoren (am_dp pw_X8_findMay_96 dd_X8_findMay_96b.1) rfl (by decide)).to, ?_⟩
  refine List.forall_mem_cons.mpr ⟨(s_iloadn (am_dp pw_X8_findMay_96 dd_X8_findMay_96b.2.1) rfl).to, ?_⟩
  refine List.forall_mem_cons.mpr ⟨(s_iconst (am_dp pw_X8_findMay_96 dd_X8_findMay_96b.2.2.1) (by decide)).to, ?_⟩
  refine List.forall_mem_cons.mpr ⟨(s_icmp_ne (am_dp pw_X8_findMay_96 dd_X8_findMay_96b.2.2.2.1) (by decide)).to, ?_⟩
  refine List.forall_mem_cons.mpr ⟨(s_iconst (am_dp pw_X8_findMay_96 dd_X8_findMay_96b.2.2.2.2.1) (by decide)).to, ?_⟩
  refine List.forall_mem_cons.mpr ⟨(s_goto (am_dp pw_X8_findMay_96 dd_X8_findMay_96b.2.2.2.2.2.1) (by decide)).to, ?_⟩
  refine List.forall_mem_cons.mpr ⟨(s_iloadn (am_dp pw_X8_findMay_96 dd_X8_findMay_96b.2.2.2.2.2.2.1) rfl).to, ?_⟩
  refine List.forall_mem_cons.mpr ⟨(s_iloadn (am_dp pw_X8_findMay_96 dd_X8_findMay_96b.2.2.2.2.2.2.2) rfl).to, ?_⟩
  refine List.forall_mem_cons.mpr ⟨(s_isub (am_dp pw_X8_findMay_96 dd_X8_findMay_96c.1)).to, ?_⟩
  refine List.forall_mem_cons.mpr ⟨(s_iconst (am_dp pw_X8_findMay_96 dd_X8_findMay_96c.2) (by decide)).to, ?_⟩
  refine List.forall_mem_cons.mpr ⟨(s_imul (am_dp pw_X8_findMay_128 dd_X8_findMay_128a.1)).to, ?_⟩
  refine List.forall_mem_cons.mpr ⟨(s_istore (am_dp pw_X8_findMay_128 dd_X8_findMay_128a.2.1) (by decide)).to, ?_⟩
  refine List.forall_mem_cons.mpr ⟨(s_aloadn (am_dp pw_X8_findMay_128 dd_X8_findMay_128a.2.2.1) rfl).to, ?_⟩
  refine List.forall_mem_cons.mpr ⟨(s_iload (am_dp pw_X8_findMay_128 dd_X8_findMay_128a.2.2.2.1)).to, ?_⟩
  refine List.forall_mem_cons.mpr ⟨(s_aloadn (am_dp pw_X8_findMay_128 dd_X8_findMay_128a.2.2.2.2.1) rfl).to, ?_⟩
  refine List.forall_mem_cons.mpr ⟨(s_get (ci := 8) (k := 12) (am_dp pw_X8_findMay_128 dd_X8_findMay_128a.2.2.2.2.2.1) rfl (by decide) wd536 inX8 rfl).to, ?_⟩
  refine List.forall_mem_cons.mpr ⟨(s_iloadn (am_dp pw_X8_findMay_128 dd_X8_findMay_128a.2.2.2.2.2.2.1) rfl).to, ?_⟩
  refine List.forall_mem_cons.mpr ⟨(s_iconst (am_dp pw_X8_findMay_128 dd_X8_findMay_128a.2.2.2.2.2.2.2) (by decide)).to, ?_⟩
  refine List.forall_mem_cons.mpr ⟨(s_imul (am_dp pw_X8_findMay_128 dd_X8_findMay_128b.1)).to, ?_⟩
  refine List.forall_mem_cons.mpr ⟨(s_iconst (am_dp pw_X8_findMay_128 dd_X8_findMay_128b.2.1) (by decide)).to, ?_⟩
  refine List.forall_mem_cons.mpr ⟨(s_cpl (am_dp pw_X8_findMay_128 dd_X8_findMay_128b.2.2.1) wd1003 wd968 wd967 wd152).to, ?_⟩
  refine List.forall_mem_cons.mpr ⟨(s_iinc (am_dp pw_X8_findMay_128 dd_X8_findMay_128b.2.2.2.1) (by decide) (by decide)).to, ?_⟩
  refine List.forall_mem_cons.mpr ⟨(s_goto (am_dp pw_X8_findMay_128 dd_X8_findMay_128b.2.2.2.2.1) (by decide)).to, ?_⟩
  refine List.forall_mem_cons.mpr ⟨(s_iconst (am_dp pw_X8_findMay_128 dd_X8_findMay_128b.2.2.2.2.2.1) (by decide)).to, ?_⟩
  refine List.forall_mem_cons.mpr ⟨(s_istoren (am_dp pw_X8_findMay_128 dd_X8_findMay_128b.2.2.2.2.2.2.1) rfl (by decide)).to, ?_⟩
  refine List.forall_mem_cons.mpr ⟨(s_bipush (am_dp pw_X8_findMay_128 dd_X8_findMay_128b.2.2.2.2.2.2.2) (by decide)).to, ?_⟩
  refine List.forall_mem_cons.mpr ⟨(s_istoren (am_dp pw_X8_findMay_128 dd_X8_findMay_128c.1) rfl (by decide)).to, ?_⟩
  refine List.forall_mem_cons.mpr ⟨(s_iloadn (am_dp pw_X8_findMay_128 dd_X8_findMay_128c.2.1) rfl).to, ?_⟩
  refine List.forall_mem_cons.mpr ⟨(s_if_lt (am_dp pw_X8_findMay_128 dd_X8_findMay_128c.2.2) (by decide)).to, ?_⟩
  refine List.forall_mem_cons.mpr ⟨(s_aloadn (am_dp pw_X8_findMay_160 dd_X8_findMay_160a.1) rfl).to, ?_⟩
  refine List.forall_mem_cons.mpr ⟨(s_get (ci := 8) (k := 3) (am_dp pw_X8_findMay_160 dd_X8_findMay_160a.2.1) rfl (by decide) wd523 inX8 rfl).to, ?_⟩
  refine List.forall_mem_cons.mpr ⟨(s_get (ci := 1) (k := 0) (am_dp pw_X8_findMay_160 dd_X8_findMay_160a.2.2.1) rfl (by decide) wd514 inX1 rfl).to, ?_⟩
  refine List.forall_mem_cons.mpr ⟨(s_iloadn (am_dp pw_X8_findMay_160 dd_X8_findMay_160a.2.2.2.1) rfl).to, ?_⟩
  refine List.forall_mem_cons.mpr ⟨(s_iald (am_dp pw_X8_findMay_160 dd_X8_findMay_160a.2.2.2.2.1)).to, ?_⟩
  refine List.forall_mem_cons.mpr ⟨(s_iconst (am_dp pw_X8_findMay_160 dd_X8_findMay_160a.2.2.2.2.2.1) (by decide)).to, ?_⟩
  refine List.forall_mem_cons.mpr ⟨(s_icmp_ne (am_dp pw_X8_findMay_160 dd_X8_findMay_160a.2.2.2.2.2.2.1) (by decide)).to, ?_⟩
  refine List.forall_mem_cons.mpr ⟨(s_iloadn (am_dp pw_X8_findMay_160 dd_X8_findMay_160a.2.2.2.2.2.2.2) rfl).to, ?_⟩
  refine List.forall_mem_cons.mpr ⟨(s_goto (am_dp pw_X8_findMay_160 dd_X8_findMay_160b.1) (by decide)).to, ?_⟩
  refine List.forall_mem_cons.mpr ⟨(s_iloadn (am_dp pw_X8_findMay_160 dd_X8_findMay_160b.2.1) rfl).to, ?_⟩
  refine List.forall_mem_cons.mpr ⟨(s_istoren (am_dp pw_X8_findMay_160 dd_X8_findMay_160b.2.2.1) rfl (by decide)).to, ?_⟩
  refine List.forall_mem_cons.mpr ⟨(s_iconst (am_dp pw_X8_findMay_160 dd_X8_findMay_160b.2.2.2.1) (by decide)).to, ?_⟩
  refine List.forall_mem_cons.mpr ⟨(s_istoren (am_dp pw_X8_findMay_160 dd_X8_findMay_160b.2.2.2.2.1) rfl (by decide)).to, ?_⟩
  refine List.forall_mem_cons.mpr ⟨(s_iloadn (am_dp pw_X8_findMay_160 dd_X8_findMay_160b.2.2.2.2.2.1) rfl).to, ?_⟩
  refine List.forall_mem_cons.mpr ⟨(s_iconst (am_dp pw_X8_findMay_160 dd_X8_findMay_160b.2.2.2.2.2.2.1) (by decide)).to, ?_⟩
  refine List.forall_mem_cons.mpr ⟨(s_icmp_eq (am_dp pw_X8_findMay_160 dd_X8_findMay_160b.2.2.2.2.2.2.2) (by decide)).to, ?_⟩
  refine List.forall_mem_cons.mpr ⟨(s_iloadn (am_dp pw_X8_findMay_160 dd_X8_findMay_160c.1) rfl).to, ?_⟩
  refine List.forall_mem_cons.mpr ⟨(s_iconst (am_dp pw_X8_findMay_160 dd_X8_findMay_160c.2.1) (by decide)).to, ?_⟩
  refine List.forall_mem_cons.mpr ⟨(s_icmp_ge (am_dp pw_X8_findMay_160 dd_X8_findMay_160c.2.2.1) (by decide)).to, ?_⟩
  refine List.forall_mem_cons.mpr ⟨(s_aloadn (am_dp pw_X8_findMay_160 dd_X8_findMay_160c.2.2.2) rfl).to, ?_⟩
  refine List.forall_mem_cons.mpr ⟨(s_get (ci := 8) (k := 12) (am_dp pw_X8_findMay_192 dd_X8_findMay_192a.1) rfl (by decide) wd536 inX8 rfl).to, ?_⟩
  refine List.forall_mem_cons.mpr ⟨(s_iloadn (am_dp pw_X8_findMay_192 dd_X8_findMay_192a.2.1) rfl).to, ?_⟩
  refine List.forall_mem_cons.mpr ⟨(s_iconst (am_dp pw_X8_findMay_192 dd_X8_findMay_192a.2.2.1) (by decide)).to, ?_⟩
  refine List.forall_mem_cons.mpr ⟨(s_imul (am_dp pw_X8_findMay_192 dd_X8_findMay_192a.2.2.2.1)).to, ?_⟩
  refine List.forall_mem_cons.mpr ⟨(s_iloadn (am_dp pw_X8_findMay_192 dd_X8_findMay_192a.2.2.2.2.1) rfl).to, ?_⟩
  refine List.forall_mem_cons.mpr ⟨(s_iadd (am_dp pw_X8_findMay_192 dd_X8_findMay_192a.2.2.2.2.2.1)).to, ?_⟩
  refine List.forall_mem_cons.mpr ⟨(s_dup2 (am_dp pw_X8_findMay_192 dd_X8_findMay_192a.2.2.2.2.2.2.1)).to, ?_⟩
  refine List.forall_mem_cons.mpr ⟨(s_lald (am_dp pw_X8_findMay_192 dd_X8_findMay_192a.2.2.2.2.2.2.2)).to, ?_⟩
  refine List.forall_mem_cons.mpr ⟨(s_aloadn (am_dp pw_X8_findMay_192 dd_X8_findMay_192b.1) rfl).to, ?_⟩
  refine List.forall_mem_cons.mpr ⟨(s_get (ci := 8) (k := 2) (am_dp pw_X8_findMay_192 dd_X8_findMay_192b.2.1) rfl (by decide) wd521 inX8 rfl).to, ?_⟩
  exact fun _ h => absurd h List.not_mem_nil
theorem sn_tX8_findMay_2 : ∀ q ∈ tX8_findMay_2, am_Snd am_P0 RX8 cX8_findMay 5 (Option.none : Option FieldType) "findMay" q.1 q.2 := by
  unfold tX8_findMay_2
  refine List.forall_mem_cons.mpr ⟨(s_aloadn (am_dp pw_X8_findMay_192 dd_X8_findMay_192b.2.2.1) rfl).to, ?_⟩
  refine List.forall_mem_cons.mpr ⟨(s_get (ci := 8) (k := 3) (am_dp pw_X8_findMay_192 dd_X8_findMay_192b.2.2.2.1) rfl (by decide) wd523 inX8 rfl).to, ?_⟩
  refine List.forall_mem_cons.mpr ⟨(s_get (ci := 1) (k := 0) (am_dp pw_X8_findMay_192 dd_X8_findMay_192b.2.2.2.2.1) rfl (by decide) wd514 inX1 rfl).to, ?_⟩
  refine List.forall_mem_cons.mpr ⟨(s_iloadn (am_dp pw_X8_findMay_192 dd_X8_findMay_192b.2.2.2.2.2.1) rfl).to, ?_⟩
  refine List.forall_mem_cons.mpr ⟨(s_iald (am_dp pw_X8_findMay_192 dd_X8_findMay_192b.2.2.2.2.2.2.1)).to, ?_⟩
  refine List.forall_mem_cons.mpr ⟨zw_cv105 (am_dp pw_X8_findMay_192 dd_X8_findMay_192b.2.2.2.2.2.2.2) wd993, ?_⟩
  refine List.forall_mem_cons.mpr ⟨(s_iloadn (am_dp pw_X8_findMay_192 dd_X8_findMay_192c.1) rfl).to, ?_⟩
  refine List.forall_mem_cons.mpr ⟨(s_iloadn (am_dp pw_X8_findMay_192 dd_X8_findMay_192c.2.1) rfl).to, ?_⟩
  refine List.forall_mem_cons.mpr ⟨(s_isub (am_dp pw_X8_findMay_192 dd_X8_findMay_192c.2.2.1)).to, ?_⟩
  refine List.forall_mem_cons.mpr ⟨(s_iconst (am_dp pw_X8_findMay_192 dd_X8_findMay_192c.2.2.2.1) (by decide)).to, ?_⟩
  refine List.forall_mem_cons.mpr ⟨(s_imul (am_dp pw_X8_findMay_192 dd_X8_findMay_192c.2.2.2.2.1)).to, ?_⟩
  refine List.forall_mem_cons.mpr ⟨(s_iloadn (am_dp pw_X8_findMay_192 dd_X8_findMay_192c.2.2.2.2.2) rfl).to, ?_⟩
  refine List.forall_mem_cons.mpr ⟨(s_iadd (am_dp pw_X8_findMay_224 dd_X8_findMay_224a.1)).to, ?_⟩
  refine List.forall_mem_cons.mpr ⟨(s_lald (am_dp pw_X8_findMay_224 dd_X8_findMay_224a.2.1)).to, ?_⟩
  refine List.forall_mem_cons.mpr ⟨(s_land (am_dp pw_X8_findMay_224 dd_X8_findMay_224a.2.2.1)).to, ?_⟩
  refine List.forall_mem_cons.mpr ⟨(s_last (am_dp pw_X8_findMay_224 dd_X8_findMay_224a.2.2.2.1)).to, ?_⟩
  refine List.forall_mem_cons.mpr ⟨(s_iinc (am_dp pw_X8_findMay_224 dd_X8_findMay_224a.2.2.2.2.1) (by decide) (by decide)).to, ?_⟩
  refine List.forall_mem_cons.mpr ⟨(s_goto (am_dp pw_X8_findMay_224 dd_X8_findMay_224a.2.2.2.2.2.1) (by decide)).to, ?_⟩
  refine List.forall_mem_cons.mpr ⟨(s_iinc (am_dp pw_X8_findMay_224 dd_X8_findMay_224a.2.2.2.2.2.2.1) (by decide) (by decide)).to, ?_⟩
  refine List.forall_mem_cons.mpr ⟨(s_goto (am_dp pw_X8_findMay_224 dd_X8_findMay_224a.2.2.2.2.2.2.2) (by decide)).to, ?_⟩
  refine List.forall_mem_cons.mpr ⟨s_vret (am_dp pw_X8_findMay_224 dd_X8_findMay_224b) rfl, ?_⟩
  exact fun _ h => absurd h List.not_mem_nil
theorem sn_tX8_findMay : ∀ q ∈ tX8_findMay, am_Snd am_P0 RX8 cX8_findMay 5 (Option.none : Option FieldType) "findMay" q.1 q.2 := by
  unfold tX8_findMay
  exact List.forall_mem_append.mpr ⟨List.forall_mem_append.mpr ⟨sn_tX8_findMay_0, sn_tX8_findMay_1⟩, sn_tX8_findMay_2⟩
theorem sn_tX8_mayBe : ∀ q ∈ tX8_mayBe, am_Snd am_P0 RX8 cX8_mayBe 3 (Option.some FieldType.boolean) "mayBe" q.1 q.2 := by
  unfold tX8_mayBe
  refine List.forall_mem_cons.mpr ⟨(s_aloadn (am_dp pw_X8_mayBe_0 dd_X8_mayBe_0a.1) rfl).to, ?_⟩
  refine List.forall_mem_cons.mpr ⟨(s_get (ci := 8) (k := 12) (am_dp pw_X8_mayBe_0 dd_X8_mayBe_0a.2.1) rfl (by decide) wd536 inX8 rfl).to, ?_⟩
  refine List.forall_mem_cons.mpr ⟨(s_iloadn (am_dp pw_X8_mayBe_0 dd_X8_mayBe_0a.2.2.1) rfl).to, ?_⟩
  refine List.forall_mem_cons.mpr ⟨(s_iconst (am_dp pw_X8_mayBe_0 dd_X8_mayBe_0a.2.2.2.1) (by decide)).to, ?_⟩
  refine List.forall_mem_cons.mpr ⟨(s_imul (am_dp pw_X8_mayBe_0 dd_X8_mayBe_0a.2.2.2.2.1)).to, ?_⟩
  refine List.forall_mem_cons.mpr ⟨(s_iloadn (am_dp pw_X8_mayBe_0 dd_X8_mayBe_0a.2.2.2.2.2.1) rfl).to, ?_⟩
  refine List.forall_mem_cons.mpr ⟨(s_bipush (am_dp pw_X8_mayBe_0 dd_X8_mayBe_0a.2.2.2.2.2.2.1) (by decide)).to, ?_⟩
  refine List.forall_mem_cons.mpr ⟨(s_ishr (am_dp pw_X8_mayBe_0 dd_X8_mayBe_0a.2.2.2.2.2.2.2)).to, ?_⟩
  refine List.forall_mem_cons.mpr ⟨(s_iadd (am_dp pw_X8_mayBe_0 dd_X8_mayBe_0b.1)).to, ?_⟩
  refine List.forall_mem_cons.mpr ⟨(s_lald (am_dp pw_X8_mayBe_0 dd_X8_mayBe_0b.2.1)).to, ?_⟩
  refine List.forall_mem_cons.mpr ⟨(s_iloadn (am_dp pw_X8_mayBe_0 dd_X8_mayBe_0b.2.2.1) rfl).to, ?_⟩
  refine List.forall_mem_cons.mpr ⟨(s_bipush (am_dp pw_X8_mayBe_0 dd_X8_mayBe_0b.2.2.2.1) (by decide)).to, ?_⟩
  refine List.forall_mem_cons.mpr ⟨(s_iand (am_dp pw_X8_mayBe_0 dd_X8_mayBe_0b.2.2.2.2.1)).to, ?_⟩
  refine List.forall_mem_cons.mpr ⟨(s_lushr (am_dp pw_X8_mayBe_0 dd_X8_mayBe_0b.2.2.2.2.2.1)).to, ?_⟩
  refine List.forall_mem_cons.mpr ⟨(s_lconst (am_dp pw_X8_mayBe_0 dd_X8_mayBe_0b.2.2.2.2.2.2.1) (by decide)).to, ?_⟩
  refine List.forall_mem_cons.mpr ⟨(s_land (am_dp pw_X8_mayBe_0 dd_X8_mayBe_0b.2.2.2.2.2.2.2)).to, ?_⟩
  refine List.forall_mem_cons.mpr ⟨(s_lconst (am_dp pw_X8_mayBe_0 dd_X8_mayBe_0c.1) (by decide)).to, ?_⟩
  refine List.forall_mem_cons.mpr ⟨(s_lcmp (am_dp pw_X8_mayBe_0 dd_X8_mayBe_0c.2.1)).to, ?_⟩
  refine List.forall_mem_cons.mpr ⟨(s_if_eq (am_dp pw_X8_mayBe_0 dd_X8_mayBe_0c.2.2.1) (by decide)).to, ?_⟩
  refine List.forall_mem_cons.mpr ⟨(s_iconst (am_dp pw_X8_mayBe_0 dd_X8_mayBe_0c.2.2.2.1) (by decide)).to, ?_⟩
  refine List.forall_mem_cons.mpr ⟨(s_goto (am_dp pw_X8_mayBe_0 dd_X8_mayBe_0c.2.2.2.2.1) (by decide)).to, ?_⟩
  refine List.forall_mem_cons.mpr ⟨(s_iconst (am_dp pw_X8_mayBe_0 dd_X8_mayBe_0c.2.2.2.2.2.1) (by decide)).to, ?_⟩
  refine List.forall_mem_cons.mpr ⟨s_zret (am_dp pw_X8_mayBe_0 dd_X8_mayBe_0c.2.2.2.2.2.2) rfl, ?_⟩
  exact fun _ h => absurd h List.not_mem_nil
theorem sn_tX8_countMay : ∀ q ∈ tX8_countMay, am_Snd am_P0 RX8 cX8_countMay 2 (Option.some FieldType.int) "countMay" q.1 q.2 := by
  unfold tX8_countMay
  refine List.forall_mem_cons.mpr ⟨(s_aloadn (am_dp pw_X8_countMay_0 dd_X8_countMay_0a.1) rfl).to, ?_⟩
  refine List.forall_mem_cons.mpr ⟨(s_aloadn (am_dp pw_X8_countMay_0 dd_X8_countMay_0a.2.1) rfl).to, ?_⟩
  refine List.forall_mem_cons.mpr ⟨(s_iloadn (am_dp pw_X8_countMay_0 dd_X8_countMay_0a.2.2.1) rfl).to, ?_⟩
  refine List.forall_mem_cons.mpr ⟨zw_cv90 (am_dp pw_X8_countMay_0 dd_X8_countMay_0a.2.2.2.1) wd1068, ?_⟩
  refine List.forall_mem_cons.mpr ⟨s_iret (am_dp pw_X8_countMay_0 dd_X8_countMay_0a.2.2.2.2) rfl, ?_⟩
  exact fun _ h => absurd h List.not_mem_nil
theorem sn_tX8_countShared : ∀ q ∈ tX8_countShared, am_Snd am_P0 RX8 cX8_countShared 5 (Option.some FieldType.int) "countShared" q.1 q.2 := by
  unfold tX8_countShared
  refine List.forall_mem_cons.mpr ⟨(s_iconst (am_dp pw_X8_countShared_0 dd_X8_countShared_0a.1) (by decide)).to, ?_⟩
  refine List.forall_mem_cons.mpr ⟨(s_istoren (am_dp pw_X8_countShared_0 dd_X8_countShared_0a.2.1) rfl (by decide)).to, ?_⟩
  refine List.forall_mem_cons.mpr ⟨(s_iloadn (am_dp pw_X8_countShared_0 dd_X8_countShared_0a.2.2.1) rfl).to, ?_⟩
  refine List.forall_mem_cons.mpr ⟨(s_iconst (am_dp pw_X8_countShared_0 dd_X8_countShared_0a.2.2.2.1) (by decide)).to, ?_⟩
  refine List.forall_mem_cons.mpr ⟨(s_imul (am_dp pw_X8_countShared_0 dd_X8_countShared_0a.2.2.2.2.1)).to, ?_⟩
  refine List.forall_mem_cons.mpr ⟨(s_istore (am_dp pw_X8_countShared_0 dd_X8_countShared_0a.2.2.2.2.2.1) (by decide)).to, ?_⟩
  refine List.forall_mem_cons.mpr ⟨(s_iload (am_dp pw_X8_countShared_0 dd_X8_countShared_0a.2.2.2.2.2.2.1)).to, ?_⟩
  refine List.forall_mem_cons.mpr ⟨(s_iloadn (am_dp pw_X8_countShared_0 dd_X8_countShared_0a.2.2.2.2.2.2.2) rfl).to, ?_⟩
  refine List.forall_mem_cons.mpr ⟨(s_iconst (am_dp pw_X8_countShared_0 dd_X8_countShared_0b.1) (by decide)).to, ?_⟩
  refine List.forall_mem_cons.mpr ⟨(s_iadd (am_dp pw_X8_countShared_0 dd_X8_countShared_0b.2.1)).to, ?_⟩
  refine List.forall_mem_cons.mpr ⟨(s_iconst (am_dp pw_X8_countShared_0 dd_X8_countShared_0b.2.2.1) (by decide)).to, ?_⟩
  refine List.forall_mem_cons.mpr ⟨(s_imul (am_dp pw_X8_countShared_0 dd_X8_countShared_0b.2.2.2.1)).to, ?_⟩
  refine List.forall_mem_cons.mpr ⟨(s_icmp_ge (am_dp pw_X8_countShared_0 dd_X8_countShared_0b.2.2.2.2.1) (by decide)).to, ?_⟩
  refine List.forall_mem_cons.mpr ⟨(s_iloadn (am_dp pw_X8_countShared_0 dd_X8_countShared_0b.2.2.2.2.2.1) rfl).to, ?_⟩
  refine List.forall_mem_cons.mpr ⟨(s_aloadn (am_dp pw_X8_countShared_0 dd_X8_countShared_0b.2.2.2.2.2.2.1) rfl).to, ?_⟩
  refine List.forall_mem_cons.mpr ⟨(s_get (ci := 8) (k := 12) (am_dp pw_X8_countShared_0 dd_X8_countShared_0b.2.2.2.2.2.2.2) rfl (by decide) wd536 inX8 rfl).to, ?_⟩
  refine List.forall_mem_cons.mpr ⟨(s_iload (am_dp pw_X8_countShared_0 dd_X8_countShared_0c.1)).to, ?_⟩
  refine List.forall_mem_cons.mpr ⟨(s_lald (am_dp pw_X8_countShared_0 dd_X8_countShared_0c.2.1)).to, ?_⟩
  refine List.forall_mem_cons.mpr ⟨(s_aloadn (am_dp pw_X8_countShared_0 dd_X8_countShared_0c.2.2.1) rfl).to, ?_⟩
  refine List.forall_mem_cons.mpr ⟨(s_get (ci := 8) (k := 12) (am_dp pw_X8_countShared_0 dd_X8_countShared_0c.2.2.2.1) rfl (by decide) wd536 inX8 rfl).to, ?_⟩
  refine List.forall_mem_cons.mpr ⟨(s_iload (am_dp pw_X8_countShared_0 dd_X8_countShared_0c.2.2.2.2.1)).to, ?_⟩
  refine List.forall_mem_cons.mpr ⟨(s_lald (am_dp pw_X8_countShared_0 dd_X8_countShared_0c.2.2.2.2.2)).to, ?_⟩
  refine List.forall_mem_cons.mpr ⟨(s_land (am_dp pw_X8_countShared_32 dd_X8_countShared_32a.1)).to, ?_⟩
  refine List.forall_mem_cons.mpr ⟨zw_cs303 (am_dp pw_X8_countShared_32 dd_X8_countShared_32a.2.1) wd1072, ?_⟩
  refine List.forall_mem_cons.mpr ⟨(s_iadd (am_dp pw_X8_countShared_32 dd_X8_countShared_32a.2.2.1)).to, ?_⟩
  refine List.forall_mem_cons.mpr ⟨(s_istoren (am_dp pw_X8_countShared_32 dd_X8_countShared_32a.2.2.2.1) rfl (by decide)).to, ?_⟩
  refine List.forall_mem_cons.mpr ⟨(s_iinc (am_dp pw_X8_countShared_32 dd_X8_countShared_32a.2.2.2.2.1) (by decide) (by decide)).to, ?_⟩
  refine List.forall_mem_cons.mpr ⟨(s_goto (am_dp pw_X8_countShared_32 dd_X8_countShared_32a.2.2.2.2.2.1) (by decide)).to, ?_⟩
  refine List.forall_mem_cons.mpr ⟨(s_iloadn (am_dp pw_X8_countShared_32 dd_X8_countShared_32a.2.2.2.2.2.2.1) rfl).to, ?_⟩
  refine List.forall_mem_cons.mpr ⟨s_iret (am_dp pw_X8_countShared_32 dd_X8_countShared_32a.2.2.2.2.2.2.2) rfl, ?_⟩
  exact fun _ h => absurd h List.not_mem_nil
theorem sn_tX8_clashAlone : ∀ q ∈ tX8_clashAlone, am_Snd am_P0 RX8 cX8_clashAlone 2 (Option.some FieldType.int) "clashAlone" q.1 q.2 := by
  unfold tX8_clashAlone
  refine List.forall_mem_cons.mpr ⟨(s_iconst (am_dp pw_X8_clashAlone_0 dd_X8_clashAlone_0a.1) (by decide)).to, ?_⟩
  refine List.forall_mem_cons.mpr ⟨(s_istoren (am_dp pw_X8_clashAlone_0 dd_X8_clashAlone_0a.2.1) rfl (by decide)).to, ?_⟩
  refine List.forall_mem_cons.mpr ⟨(s_iloadn (am_dp pw_X8_clashAlone_0 dd_X8_clashAlone_0a.2.2.1) rfl).to, ?_⟩
  refine List.forall_mem_cons.mpr ⟨(s_aloadn (am_dp pw_X8_clashAlone_0 dd_X8_clashAlone_0a.2.2.2.1) rfl).to, ?_⟩
  refine List.forall_mem_cons.mpr ⟨(s_get (ci := 8) (k := 0) (am_dp pw_X8_clashAlone_0 dd_X8_clashAlone_0a.2.2.2.2.1) rfl (by decide) wd518 inX8 rfl).to, ?_⟩
  refine List.forall_mem_cons.mpr ⟨(s_get (ci := 6) (k := 5) (am_dp pw_X8_clashAlone_0 dd_X8_clashAlone_0a.2.2.2.2.2.1) rfl (by decide) wd254 inX6 rfl).to, ?_⟩
  refine List.forall_mem_cons.mpr ⟨(s_icmp_ge (am_dp pw_X8_clashAlone_0 dd_X8_clashAlone_0a.2.2.2.2.2.2.1) (by decide)).to, ?_⟩
  refine List.forall_mem_cons.mpr ⟨(s_aloadn (am_dp pw_X8_clashAlone_0 dd_X8_clashAlone_0a.2.2.2.2.2.2.2) rfl).to, ?_⟩
  refine List.forall_mem_cons.mpr ⟨(s_get (ci := 8) (k := 9) (am_dp pw_X8_clashAlone_0 dd_X8_clashAlone_0b.1) rfl (by decide) wd531 inX8 rfl).to, ?_⟩
  refine List.forall_mem_cons.mpr ⟨(s_iloadn (am_dp pw_X8_clashAlone_0 dd_X8_clashAlone_0b.2.1) rfl).to, ?_⟩
  refine List.forall_mem_cons.mpr ⟨(s_zald (am_dp pw_X8_clashAlone_0 dd_X8_clashAlone_0b.2.2.1)).to, ?_⟩
  refine List.forall_mem_cons.mpr ⟨(s_if_ne (am_dp pw_X8_clashAlone_0 dd_X8_clashAlone_0b.2.2.2.1) (by decide)).to, ?_⟩
  refine List.forall_mem_cons.mpr ⟨(s_iloadn (am_dp pw_X8_clashAlone_0 dd_X8_clashAlone_0b.2.2.2.2.1) rfl).to, ?_⟩
  refine List.forall_mem_cons.mpr ⟨s_iret (am_dp pw_X8_clashAlone_0 dd_X8_clashAlone_0b.2.2.2.2.2.1) rfl, ?_⟩
  refine List.forall_mem_cons.mpr ⟨(s_iinc (am_dp pw_X8_clashAlone_0 dd_X8_clashAlone_0b.2.2.2.2.2.2.1) (by decide) (by decide)).to, ?_⟩
  refine List.forall_mem_cons.mpr ⟨(s_goto (am_dp pw_X8_clashAlone_0 dd_X8_clashAlone_0b.2.2.2.2.2.2.2) (by decide)).to, ?_⟩
  refine List.forall_mem_cons.mpr ⟨(s_iconst (am_dp pw_X8_clashAlone_0 dd_X8_clashAlone_0c.1) (by decide)).to, ?_⟩
  refine List.forall_mem_cons.mpr ⟨s_iret (am_dp pw_X8_clashAlone_0 dd_X8_clashAlone_0c.2) rfl, ?_⟩
  exact fun _ h => absurd h List.not_mem_nil
theorem sn_tX8_clashOfTwo : ∀ q ∈ tX8_clashOfTwo, am_Snd am_P0 RX8 cX8_clashOfTwo 5 (Option.some FieldType.int) "clashOfTwo" q.1 q.2 := by
  unfold tX8_clashOfTwo
  refine List.forall_mem_cons.mpr ⟨(s_iloadn (am_dp pw_X8_clashOfTwo_0 dd_X8_clashOfTwo_0a.1) rfl).to, ?_⟩
  refine List.forall_mem_cons.mpr ⟨(s_iconst (am_dp pw_X8_clashOfTwo_0 dd_X8_clashOfTwo_0a.2.1) (by decide)).to, ?_⟩
  refine List.forall_mem_cons.mpr ⟨(s_icmp_ne (am_dp pw_X8_clashOfTwo_0 dd_X8_clashOfTwo_0a.2.2.1) (by decide)).to, ?_⟩
  refine List.forall_mem_cons.mpr ⟨(s_aloadn (am_dp pw_X8_clashOfTwo_0 dd_X8_clashOfTwo_0a.2.2.2.1) rfl).to, ?_⟩
  refine List.forall_mem_cons.mpr ⟨(s_get (ci := 8) (k := 0) (am_dp pw_X8_clashOfTwo_0 dd_X8_clashOfTwo_0a.2.2.2.2.1) rfl (by decide) wd518 inX8 rfl).to, ?_⟩
  refine List.forall_mem_cons.mpr ⟨(s_get (ci := 6) (k := 5) (am_dp pw_X8_clashOfTwo_0 dd_X8_clashOfTwo_0a.2.2.2.2.2.1) rfl (by decide) wd254 inX6 rfl).to, ?_⟩
  refine List.forall_mem_cons.mpr ⟨(s_goto (am_dp pw_X8_clashOfTwo_0 dd_X8_clashOfTwo_0a.2.2.2.2.2.2.1) (by decide)).to, ?_⟩
  refine List.forall_mem_cons.mpr ⟨(s_iloadn (am_dp pw_X8_clashOfTwo_0 dd_X8_clashOfTwo_0a.2.2.2.2.2.2.2) rfl).to, ?_⟩
  refine List.forall_mem_cons.mpr ⟨(s_istoren (am_dp pw_X8_clashOfTwo_0 dd_X8_clashOfTwo_0b.1) rfl (by decide)).to, ?_⟩
  refine List.forall_mem_cons.mpr ⟨(s_iconst (am_dp pw_X8_clashOfTwo_0 dd_X8_clashOfTwo_0b.2.1) (by decide)).to, ?_⟩
  refine List.forall_mem_cons.mpr ⟨(s_istoren (am_dp pw_X8_clashOfTwo_0 dd_X8_clashOfTwo_0b.2.2.1) rfl (by decide)).to, ?_⟩
  refine List.forall_mem_cons.mpr ⟨(s_iloadn (am_dp pw_X8_clashOfTwo_0 dd_X8_clashOfTwo_0b.2.2.2.1) rfl).to, ?_⟩
  refine List.forall_mem_cons.mpr ⟨(s_iloadn (am_dp pw_X8_clashOfTwo_0 dd_X8_clashOfTwo_0b.2.2.2.2.1) rfl).to, ?_⟩
  refine List.forall_mem_cons.mpr ⟨(s_icmp_ge (am_dp pw_X8_clashOfTwo_0 dd_X8_clashOfTwo_0b.2.2.2.2.2.1) (by decide)).to, ?_⟩
  refine List.forall_mem_cons.mpr ⟨(s_iconst (am_dp pw_X8_clashOfTwo_0 dd_X8_clashOfTwo_0b.2.2.2.2.2.2.1) (by decide)).to, ?_⟩
  refine List.forall_mem_cons.mpr ⟨(s_istore (am_dp pw_X8_clashOfTwo_0 dd_X8_clashOfTwo_0b.2.2.2.2.2.2.2) (by decide)).to, ?_⟩
  refine List.forall_mem_cons.mpr ⟨(s_iload (am_dp pw_X8_clashOfTwo_0 dd_X8_clashOfTwo_0c.1)).to, ?_⟩
  refine List.forall_mem_cons.mpr ⟨(s_iloadn (am_dp pw_X8_clashOfTwo_0 dd_X8_clashOfTwo_0c.2.1) rfl).to, ?_⟩
  refine List.forall_mem_cons.mpr ⟨(s_icmp_ge (am_dp pw_X8_clashOfTwo_0 dd_X8_clashOfTwo_0c.2.2) (by decide)).to, ?_⟩
  refine List.forall_mem_cons.mpr ⟨(s_aloadn (am_dp pw_X8_clashOfTwo_32 dd_X8_clashOfTwo_32a.1) rfl).to, ?_⟩
  refine List.forall_mem_cons.mpr ⟨(s_iload (am_dp pw_X8_clashOfTwo_32 dd_X8_clashOfTwo_32a.2.1)).to, ?_⟩
  refine List.forall_mem_cons.mpr ⟨(s_iloadn (am_dp pw_X8_clashOfTwo_32 dd_X8_clashOfTwo_32a.2.2.1) rfl).to, ?_⟩
  refine List.forall_mem_cons.mpr ⟨zw_cv76 (am_dp pw_X8_clashOfTwo_32 dd_X8_clashOfTwo_32a.2.2.2.1) wd1157, ?_⟩
  refine List.forall_mem_cons.mpr ⟨(s_if_ne (am_dp pw_X8_clashOfTwo_32 dd_X8_clashOfTwo_32a.2.2.2.2.1) (by decide)).to, ?_⟩
  refine List.forall_mem_cons.mpr ⟨(s_iloadn (am_dp pw_X8_clashOfTwo_32 dd_X8_clashOfTwo_32a.2.2.2.2.2.1) rfl).to, ?_⟩
  refine List.forall_mem_cons.mpr ⟨(s_bipush (am_dp pw_X8_clashOfTwo_32 dd_X8_clashOfTwo_32a.2.2.2.2.2.2.1) (by decide)).to, ?_⟩
  refine List.forall_mem_cons.mpr ⟨(s_imul (am_dp pw_X8_clashOfTwo_32 dd_X8_clashOfTwo_32a.2.2.2.2.2.2.2)).to, ?_⟩
  refine List.forall_mem_cons.mpr ⟨(s_iload (am_dp pw_X8_clashOfTwo_32 dd_X8_clashOfTwo_32b.1)).to, ?_⟩
  refine List.forall_mem_cons.mpr ⟨(s_iadd (am_dp pw_X8_clashOfTwo_32 dd_X8_clashOfTwo_32b.2.1)).to, ?_⟩
  refine List.forall_mem_cons.mpr ⟨s_iret (am_dp pw_X8_clashOfTwo_32 dd_X8_clashOfTwo_32b.2.2.1) rfl, ?_⟩
  refine List.forall_mem_cons.mpr ⟨(s_iinc (am_dp pw_X8_clashOfTwo_32 dd_X8_clashOfTwo_32b.2.2.2.1) (by decide) (by decide)).to, ?_⟩
  refine List.forall_mem_cons.mpr ⟨(s_goto (am_dp pw_X8_clashOfTwo_32 dd_X8_clashOfTwo_32b.2.2.2.2.1) (by decide)).to, ?_⟩
  refine List.forall_mem_cons.mpr ⟨(s_iinc (am_dp pw_X8_clashOfTwo_32 dd_X8_clashOfTwo_32b.2.2.2.2.2.1) (by decide) (by decide)).to, ?_⟩
  refine List.forall_mem_cons.mpr ⟨(s_goto (am_dp pw_X8_clashOfTwo_32 dd_X8_clashOfTwo_32b.2.2.2.2.2.2.1) (by decide)).to, ?_⟩
  refine List.forall_mem_cons.mpr ⟨(s_iconst (am_dp pw_X8_clashOfTwo_32 dd_X8_clashOfTwo_32b.2.2.2.2.2.2.2) (by decide)).to, ?_⟩
  refine List.forall_mem_cons.mpr ⟨s_iret (am_dp pw_X8_clashOfTwo_64 dd_X8_clashOfTwo_64a) rfl, ?_⟩
  exact fun _ h => absurd h List.not_mem_nil
theorem sn_tX8_ownKinds : ∀ q ∈ tX8_ownKinds, am_Snd am_P0 RX8 cX8_ownKinds 2 (Option.some FieldType.int) "ownKinds" q.1 q.2 := by
  unfold tX8_ownKinds
  refine List.forall_mem_cons.mpr ⟨(s_aloadn (am_dp pw_X8_ownKinds_0 dd_X8_ownKinds_0a.1) rfl).to, ?_⟩
  refine List.forall_mem_cons.mpr ⟨(s_get (ci := 8) (k := 0) (am_dp pw_X8_ownKinds_0 dd_X8_ownKinds_0a.2.1) rfl (by decide) wd518 inX8 rfl).to, ?_⟩
  refine List.forall_mem_cons.mpr ⟨(s_get (ci := 6) (k := 5) (am_dp pw_X8_ownKinds_0 dd_X8_ownKinds_0a.2.2.1) rfl (by decide) wd254 inX6 rfl).to, ?_⟩
  refine List.forall_mem_cons.mpr ⟨(s_if_ne (am_dp pw_X8_ownKinds_0 dd_X8_ownKinds_0a.2.2.2.1) (by decide)).to, ?_⟩
  refine List.forall_mem_cons.mpr ⟨(s_iconst (am_dp pw_X8_ownKinds_0 dd_X8_ownKinds_0a.2.2.2.2.1) (by decide)).to, ?_⟩
  refine List.forall_mem_cons.mpr ⟨s_iret (am_dp pw_X8_ownKinds_0 dd_X8_ownKinds_0a.2.2.2.2.2.1) rfl, ?_⟩
  refine List.forall_mem_cons.mpr ⟨(s_aloadn (am_dp pw_X8_ownKinds_0 dd_X8_ownKinds_0a.2.2.2.2.2.2.1) rfl).to, ?_⟩
  refine List.forall_mem_cons.mpr ⟨(s_get (ci := 8) (k := 11) (am_dp pw_X8_ownKinds_0 dd_X8_ownKinds_0a.2.2.2.2.2.2.2) rfl (by decide) wd535 inX8 rfl).to, ?_⟩
  refine List.forall_mem_cons.mpr ⟨(s_aloadn (am_dp pw_X8_ownKinds_0 dd_X8_ownKinds_0b.1) rfl).to, ?_⟩
  refine List.forall_mem_cons.mpr ⟨(s_get (ci := 8) (k := 0) (am_dp pw_X8_ownKinds_0 dd_X8_ownKinds_0b.2.1) rfl (by decide) wd518 inX8 rfl).to, ?_⟩
  refine List.forall_mem_cons.mpr ⟨(s_get (ci := 6) (k := 5) (am_dp pw_X8_ownKinds_0 dd_X8_ownKinds_0b.2.2.1) rfl (by decide) wd254 inX6 rfl).to, ?_⟩
  refine List.forall_mem_cons.mpr ⟨(s_icmp_ne (am_dp pw_X8_ownKinds_0 dd_X8_ownKinds_0b.2.2.2.1) (by decide)).to, ?_⟩
  refine List.forall_mem_cons.mpr ⟨(s_iconst (am_dp pw_X8_ownKinds_0 dd_X8_ownKinds_0b.2.2.2.2.1) (by decide)).to, ?_⟩
  refine List.forall_mem_cons.mpr ⟨(s_aloadn (am_dp pw_X8_ownKinds_0 dd_X8_ownKinds_0b.2.2.2.2.2.1) rfl).to, ?_⟩
  refine List.forall_mem_cons.mpr ⟨(s_get (ci := 8) (k := 14) (am_dp pw_X8_ownKinds_0 dd_X8_ownKinds_0b.2.2.2.2.2.2.1) rfl (by decide) wd540 inX8 rfl).to, ?_⟩
  refine List.forall_mem_cons.mpr ⟨(s_if_ne (am_dp pw_X8_ownKinds_0 dd_X8_ownKinds_0b.2.2.2.2.2.2.2) (by decide)).to, ?_⟩
  refine List.forall_mem_cons.mpr ⟨(s_iconst (am_dp pw_X8_ownKinds_32 dd_X8_ownKinds_32a.1) (by decide)).to, ?_⟩
  refine List.forall_mem_cons.mpr ⟨(s_goto (am_dp pw_X8_ownKinds_32 dd_X8_ownKinds_32a.2.1) (by decide)).to, ?_⟩
  refine List.forall_mem_cons.mpr ⟨(s_iconst (am_dp pw_X8_ownKinds_32 dd_X8_ownKinds_32a.2.2.1) (by decide)).to, ?_⟩
  refine List.forall_mem_cons.mpr ⟨(s_ishl (am_dp pw_X8_ownKinds_32 dd_X8_ownKinds_32a.2.2.2.1)).to, ?_⟩
  refine List.forall_mem_cons.mpr ⟨s_iret (am_dp pw_X8_ownKinds_32 dd_X8_ownKinds_32a.2.2.2.2.1) rfl, ?_⟩
  refine List.forall_mem_cons.mpr ⟨(s_aloadn (am_dp pw_X8_ownKinds_32 dd_X8_ownKinds_32a.2.2.2.2.2.1) rfl).to, ?_⟩
  refine List.forall_mem_cons.mpr ⟨(s_get (ci := 8) (k := 11) (am_dp pw_X8_ownKinds_32 dd_X8_ownKinds_32a.2.2.2.2.2.2.1) rfl (by decide) wd535 inX8 rfl).to, ?_⟩
  refine List.forall_mem_cons.mpr ⟨(s_if_le (am_dp pw_X8_ownKinds_32 dd_X8_ownKinds_32a.2.2.2.2.2.2.2) (by decide)).to, ?_⟩
  refine List.forall_mem_cons.mpr ⟨(s_bipush (am_dp pw_X8_ownKinds_32 dd_X8_ownKinds_32b.1) (by decide)).to, ?_⟩
  refine List.forall_mem_cons.mpr ⟨(s_goto (am_dp pw_X8_ownKinds_32 dd_X8_ownKinds_32b.2.1) (by decide)).to, ?_⟩
  refine List.forall_mem_cons.mpr ⟨(s_iconst (am_dp pw_X8_ownKinds_32 dd_X8_ownKinds_32b.2.2.1) (by decide)).to, ?_⟩
  refine List.forall_mem_cons.mpr ⟨(s_istoren (am_dp pw_X8_ownKinds_32 dd_X8_ownKinds_32b.2.2.2.1) rfl (by decide)).to, ?_⟩
  refine List.forall_mem_cons.mpr ⟨(s_iloadn (am_dp pw_X8_ownKinds_32 dd_X8_ownKinds_32b.2.2.2.2.1) rfl).to, ?_⟩
  refine List.forall_mem_cons.mpr ⟨(s_aloadn (am_dp pw_X8_ownKinds_32 dd_X8_ownKinds_32b.2.2.2.2.2.1) rfl).to, ?_⟩
  refine List.forall_mem_cons.mpr ⟨zw_cv94 (am_dp pw_X8_ownKinds_32 dd_X8_ownKinds_32b.2.2.2.2.2.2.1) wd1108, ?_⟩
  refine List.forall_mem_cons.mpr ⟨(s_if_eq (am_dp pw_X8_ownKinds_32 dd_X8_ownKinds_32b.2.2.2.2.2.2.2) (by decide)).to, ?_⟩
  refine List.forall_mem_cons.mpr ⟨(s_bipush (am_dp pw_X8_ownKinds_32 dd_X8_ownKinds_32c) (by decide)).to, ?_⟩
  refine List.forall_mem_cons.mpr ⟨(s_goto (am_dp pw_X8_ownKinds_64 dd_X8_ownKinds_64a.1) (by decide)).to, ?_⟩
  refine List.forall_mem_cons.mpr ⟨(s_iconst (am_dp pw_X8_ownKinds_64 dd_X8_ownKinds_64a.2.1) (by decide)).to, ?_⟩
  refine List.forall_mem_cons.mpr ⟨(s_ior (am_dp pw_X8_ownKinds_64 dd_X8_ownKinds_64a.2.2.1)).to, ?_⟩
  refine List.forall_mem_cons.mpr ⟨s_iret (am_dp pw_X8_ownKinds_64 dd_X8_ownKinds_64a.2.2.2) rfl, ?_⟩
  exact fun _ h => absurd h List.not_mem_nil
theorem sn_tX8_canPart_0 : ∀ q ∈ tX8_canPart_0, am_Snd am_P0 RX8 cX8_canPart 3 (Option.some FieldType.boolean) "canPart" q.1 q.2 := by
  unfold tX8_canPart_0
  refine List.forall_mem_cons.mpr ⟨(s_iconst (am_dp pw_X8_canPart_0 dd_X8_canPart_0a.1) (by decide)).to, ?_⟩
  refine List.forall_mem_cons.mpr ⟨(s_istoren (am_dp pw_X8_canPart_0 dd_X8_canPart_0a.2.1) rfl (by decide)).to, ?_⟩
  refine List.forall_mem_cons.mpr ⟨(s_iconst (am_dp pw_X8_canPart_0 dd_X8_canPart_0a.2.2.1) (by decide)).to, ?_⟩
  refine List.forall_mem_cons.mpr ⟨(s_istoren (am_dp pw_X8_canPart_0 dd_X8_canPart_0a.2.2.2.1) rfl (by decide)).to, ?_⟩
  refine List.forall_mem_cons.mpr ⟨(s_iloadn (am_dp pw_X8_canPart_0 dd_X8_canPart_0a.2.2.2.2.1) rfl).to, ?_⟩
  refine List.forall_mem_cons.mpr ⟨(s_aloadn (am_dp pw_X8_canPart_0 dd_X8_canPart_0a.2.2.2.2.2.1) rfl).to, ?_⟩
  refine List.forall_mem_cons.mpr ⟨(s_get (ci := 8) (k := 0) (am_dp pw_X8_canPart_0 dd_X8_canPart_0a.2.2.2.2.2.2.1) rfl (by decide) wd518 inX8 rfl).to, ?_⟩
  refine List.forall_mem_cons.mpr ⟨(s_get (ci := 6) (k := 5) (am_dp pw_X8_canPart_0 dd_X8_canPart_0a.2.2.2.2.2.2.2) rfl (by decide) wd254 inX6 rfl).to, ?_⟩
  refine List.forall_mem_cons.mpr ⟨(s_icmp_ge (am_dp pw_X8_canPart_0 dd_X8_canPart_0b.1) (by decide)).to, ?_⟩
  refine List.forall_mem_cons.mpr ⟨(s_aloadn (am_dp pw_X8_canPart_0 dd_X8_canPart_0b.2.1) rfl).to, ?_⟩
  refine List.forall_mem_cons.mpr ⟨(s_get (ci := 8) (k := 8) (am_dp pw_X8_canPart_0 dd_X8_canPart_0b.2.2.1) rfl (by decide) wd530 inX8 rfl).to, ?_⟩
  refine List.forall_mem_cons.mpr ⟨(s_if_eq (am_dp pw_X8_canPart_0 dd_X8_canPart_0b.2.2.2.1) (by decide)).to, ?_⟩
  refine List.forall_mem_cons.mpr ⟨(s_aloadn (am_dp pw_X8_canPart_0 dd_X8_canPart_0b.2.2.2.2.1) rfl).to, ?_⟩
  refine List.forall_mem_cons.mpr ⟨(s_aloadn (am_dp pw_X8_canPart_0 dd_X8_canPart_0b.2.2.2.2.2.1) rfl).to, ?_⟩
  refine List.forall_mem_cons.mpr ⟨(s_get (ci := 8) (k := 0) (am_dp pw_X8_canPart_0 dd_X8_canPart_0b.2.2.2.2.2.2.1) rfl (by decide) wd518 inX8 rfl).to, ?_⟩
  refine List.forall_mem_cons.mpr ⟨(s_get (ci := 6) (k := 7) (am_dp pw_X8_canPart_0 dd_X8_canPart_0b.2.2.2.2.2.2.2) rfl (by decide) wd261 inX6 rfl).to, ?_⟩
  refine List.forall_mem_cons.mpr ⟨(s_iloadn (am_dp pw_X8_canPart_0 dd_X8_canPart_0c.1) rfl).to, ?_⟩
  refine List.forall_mem_cons.mpr ⟨(s_iald (am_dp pw_X8_canPart_0 dd_X8_canPart_0c.2)).to, ?_⟩
  refine List.forall_mem_cons.mpr ⟨(s_aloadn (am_dp pw_X8_canPart_32 dd_X8_canPart_32a.1) rfl).to, ?_⟩
  refine List.forall_mem_cons.mpr ⟨(s_get (ci := 8) (k := 0) (am_dp pw_X8_canPart_32 dd_X8_canPart_32a.2.1) rfl (by decide) wd518 inX8 rfl).to, ?_⟩
  refine List.forall_mem_cons.mpr ⟨(s_get (ci := 6) (k := 8) (am_dp pw_X8_canPart_32 dd_X8_canPart_32a.2.2.1) rfl (by decide) wd264 inX6 rfl).to, ?_⟩
  refine List.forall_mem_cons.mpr ⟨(s_iloadn (am_dp pw_X8_canPart_32 dd_X8_canPart_32a.2.2.2.1) rfl).to, ?_⟩
  refine List.forall_mem_cons.mpr ⟨(s_zald (am_dp pw_X8_canPart_32 dd_X8_canPart_32a.2.2.2.2.1)).to, ?_⟩
  refine List.forall_mem_cons.mpr ⟨zw_cv75 (am_dp pw_X8_canPart_32 dd_X8_canPart_32a.2.2.2.2.2.1) wd979, ?_⟩
  refine List.forall_mem_cons.mpr ⟨(s_if_ne (am_dp pw_X8_canPart_32 dd_X8_canPart_32a.2.2.2.2.2.2.1) (by decide)).to, ?_⟩
  refine List.forall_mem_cons.mpr ⟨(s_iconst (am_dp pw_X8_canPart_32 dd_X8_canPart_32a.2.2.2.2.2.2.2) (by decide)).to, ?_⟩
  refine List.forall_mem_cons.mpr ⟨s_zret (am_dp pw_X8_canPart_32 dd_X8_canPart_32b.1) rfl, ?_⟩
  refine List.forall_mem_cons.mpr ⟨(s_aloadn (am_dp pw_X8_canPart_32 dd_X8_canPart_32b.2.1) rfl).to, ?_⟩
  refine List.forall_mem_cons.mpr ⟨(s_get (ci := 8) (k := 15) (am_dp pw_X8_canPart_32 dd_X8_canPart_32b.2.2.1) rfl (by decide) wd542 inX8 rfl).to, ?_⟩
  refine List.forall_mem_cons.mpr ⟨(s_iloadn (am_dp pw_X8_canPart_32 dd_X8_canPart_32b.2.2.2.1) rfl).to, ?_⟩
  refine List.forall_mem_cons.mpr ⟨(s_aloadn (am_dp pw_X8_canPart_32 dd_X8_canPart_32b.2.2.2.2.1) rfl).to, ?_⟩
  refine List.forall_mem_cons.mpr ⟨(s_get (ci := 8) (k := 9) (am_dp pw_X8_canPart_32 dd_X8_canPart_32b.2.2.2.2.2.1) rfl (by decide) wd531 inX8 rfl).to, ?_⟩
  refine List.forall_mem_cons.mpr ⟨(s_iloadn (am_dp pw_X8_canPart_32 dd_X8_canPart_32b.2.2.2.2.2.2.1) rfl).to, ?_⟩
  refine List.forall_mem_cons.mpr ⟨(s_zald (am_dp pw_X8_canPart_32 dd_X8_canPart_32b.2.2.2.2.2.2.2)).to, ?_⟩
  refine List.forall_mem_cons.mpr ⟨(s_if_eq (am_dp pw_X8_canPart_32 dd_X8_canPart_32c.1) (by decide)).to, ?_⟩
  refine List.forall_mem_cons.mpr ⟨(s_iconst (am_dp pw_X8_canPart_32 dd_X8_canPart_32c.2) (by decide)).to, ?_⟩
  refine List.forall_mem_cons.mpr ⟨(s_goto (am_dp pw_X8_canPart_64 dd_X8_canPart_64a.1) (by decide)).to, ?_⟩
  refine List.forall_mem_cons.mpr ⟨(s_iconst (am_dp pw_X8_canPart_64 dd_X8_canPart_64a.2.1) (by decide)).to, ?_⟩
  refine List.forall_mem_cons.mpr ⟨(s_iast (am_dp pw_X8_canPart_64 dd_X8_canPart_64a.2.2.1)).to, ?_⟩
  refine List.forall_mem_cons.mpr ⟨(s_aloadn (am_dp pw_X8_canPart_64 dd_X8_canPart_64a.2.2.2.1) rfl).to, ?_⟩
  refine List.forall_mem_cons.mpr ⟨(s_get (ci := 8) (k := 9) (am_dp pw_X8_canPart_64 dd_X8_canPart_64a.2.2.2.2.1) rfl (by decide) wd531 inX8 rfl).to, ?_⟩
  refine List.forall_mem_cons.mpr ⟨(s_iloadn (am_dp pw_X8_canPart_64 dd_X8_canPart_64a.2.2.2.2.2.1) rfl).to, ?_⟩
  refine List.forall_mem_cons.mpr ⟨(s_zald (am_dp pw_X8_canPart_64 dd_X8_canPart_64a.2.2.2.2.2.2.1)).to, ?_⟩
  refine List.forall_mem_cons.mpr ⟨(s_if_ne (am_dp pw_X8_canPart_64 dd_X8_canPart_64a.2.2.2.2.2.2.2) (by decide)).to, ?_⟩
  refine List.forall_mem_cons.mpr ⟨(s_aloadn (am_dp pw_X8_canPart_64 dd_X8_canPart_64b.1) rfl).to, ?_⟩
  refine List.forall_mem_cons.mpr ⟨(s_get (ci := 8) (k := 16) (am_dp pw_X8_canPart_64 dd_X8_canPart_64b.2.1) rfl (by decide) wd543 inX8 rfl).to, ?_⟩
  refine List.forall_mem_cons.mpr ⟨(s_iloadn (am_dp pw_X8_canPart_64 dd_X8_canPart_64b.2.2.1) rfl).to, ?_⟩
  refine List.forall_mem_cons.mpr ⟨(s_iloadn (am_dp pw_X8_canPart_64 dd_X8_canPart_64b.2.2.2.1) rfl).to, ?_⟩
  refine List.forall_mem_cons.mpr ⟨(s_iast (am_dp pw_X8_canPart_64 dd_X8_canPart_64b.2.2.2.2.1)).to, ?_⟩
  refine List.forall_mem_cons.mpr ⟨(s_iinc (am_dp pw_X8_canPart_64 dd_X8_canPart_64b.2.2.2.2.2.1) (by decide) (by decide)).to, ?_⟩
  refine List.forall_mem_cons.mpr ⟨(s_iinc (am_dp pw_X8_canPart_64 dd_X8_canPart_64b.2.2.2.2.2.2.1) (by decide) (by decide)).to, ?_⟩
  refine List.forall_mem_cons.mpr ⟨(s_goto (am_dp pw_X8_canPart_64 dd_X8_canPart_64b.2.2.2.2.2.2.2) (by decide)).to, ?_⟩
  refine List.forall_mem_cons.mpr ⟨(s_aloadn (am_dp pw_X8_canPart_64 dd_X8_canPart_64c.1) rfl).to, ?_⟩
  refine List.forall_mem_cons.mpr ⟨(s_iconst (am_dp pw_X8_canPart_64 dd_X8_canPart_64c.2) (by decide)).to, ?_⟩
  refine List.forall_mem_cons.mpr ⟨(s_iloadn (am_dp pw_X8_canPart_96 dd_X8_canPart_96a.1) rfl).to, ?_⟩
  refine List.forall_mem_cons.mpr ⟨zw_cv95 (am_dp pw_X8_canPart_96 dd_X8_canPart_96a.2.1) wd1112, ?_⟩
  refine List.forall_mem_cons.mpr ⟨(s_istoren (am_dp pw_X8_canPart_96 dd_X8_canPart_96a.2.2.1) rfl (by decide)).to, ?_⟩
  refine List.forall_mem_cons.mpr ⟨(s_iconst (am_dp pw_X8_canPart_96 dd_X8_canPart_96a.2.2.2.1) (by decide)).to, ?_⟩
  refine List.forall_mem_cons.mpr ⟨(s_istoren (am_dp pw_X8_canPart_96 dd_X8_canPart_96a.2.2.2.2.1) rfl (by decide)).to, ?_⟩
  refine List.forall_mem_cons.mpr ⟨(s_iloadn (am_dp pw_X8_canPart_96 dd_X8_canPart_96a.2.2.2.2.2.1) rfl).to, ?_⟩
  exact fun _ h => absurd h List.not_mem_nil
theorem sn_tX8_canPart_1 : ∀ q ∈ tX8_canPart_1, am_Snd am_P0 RX8 cX8_canPart 3 (Option.some FieldType.boolean) "canPart" q.1 q.2 := by
  unfold tX8_canPart_1
  refine List.forall_mem_cons.mpr ⟨(s_aloadn (am_dp pw_X8_canPart_96 dd_X8_canPart_96a.2.2.2.2.2.2.1) rfl).to, ?_⟩
  refine List.forall_mem_cons.mpr ⟨(s_get (ci := 8) (k := 0) (am_dp pw_X8_canPart_96 dd_X8_canPart_96a.2.2.2.2.2.2.2) rfl (by decide) wd518 inX8 rfl).to, ?_⟩
  refine List.forall_mem_cons.mpr ⟨(s_get (ci := 6) (k := 5) (am_dp pw_X8_canPart_96 dd_X8_canPart_96b.1) rfl (by decide) wd254 inX6 rfl).to, ?_⟩
  refine List.forall_mem_cons.mpr ⟨(s_icmp_ge (am_dp pw_X8_canPart_96 dd_X8_canPart_96b.2.1) (by decide)).to, ?_⟩
  refine List.forall_mem_cons.mpr ⟨(s_iloadn (am_dp pw_X8_canPart_96 dd_X8_canPart_96b.2.2.1) rfl).to, ?_⟩
  refine List.forall_mem_cons.mpr ⟨(s_iconst (am_dp pw_X8_canPart_96 dd_X8_canPart_96b.2.2.2.1) (by decide)).to, ?_⟩
  refine List.forall_mem_cons.mpr ⟨(s_icmp_eq (am_dp pw_X8_canPart_96 dd_X8_canPart_96b.2.2.2.2.1) (by decide)).to, ?_⟩
  refine List.forall_mem_cons.mpr ⟨(s_aloadn (am_dp pw_X8_canPart_96 dd_X8_canPart_96b.2.2.2.2.2.1) rfl).to, ?_⟩
  refine List.forall_mem_cons.mpr ⟨(s_get (ci := 8) (k := 15) (am_dp pw_X8_canPart_96 dd_X8_canPart_96b.2.2.2.2.2.2.1) rfl (by decide) wd542 inX8 rfl).to, ?_⟩
  refine List.forall_mem_cons.mpr ⟨(s_iloadn (am_dp pw_X8_canPart_96 dd_X8_canPart_96b.2.2.2.2.2.2.2) rfl).to, ?_⟩
  refine List.forall_mem_cons.mpr ⟨(s_iald (am_dp pw_X8_canPart_96 dd_X8_canPart_96c.1)).to, ?_⟩
  refine List.forall_mem_cons.mpr ⟨(s_if_ne (am_dp pw_X8_canPart_96 dd_X8_canPart_96c.2) (by decide)).to, ?_⟩
  refine List.forall_mem_cons.mpr ⟨(s_aloadn (am_dp pw_X8_canPart_128 dd_X8_canPart_128a.1) rfl).to, ?_⟩
  refine List.forall_mem_cons.mpr ⟨(s_get (ci := 8) (k := 15) (am_dp pw_X8_canPart_128 dd_X8_canPart_128a.2.1) rfl (by decide) wd542 inX8 rfl).to, ?_⟩
  refine List.forall_mem_cons.mpr ⟨(s_iloadn (am_dp pw_X8_canPart_128 dd_X8_canPart_128a.2.2.1) rfl).to, ?_⟩
  refine List.forall_mem_cons.mpr ⟨(s_iconst (am_dp pw_X8_canPart_128 dd_X8_canPart_128a.2.2.2.1) (by decide)).to, ?_⟩
  refine List.forall_mem_cons.mpr ⟨(s_iast (am_dp pw_X8_canPart_128 dd_X8_canPart_128a.2.2.2.2.1)).to, ?_⟩
  refine List.forall_mem_cons.mpr ⟨(s_aloadn (am_dp pw_X8_canPart_128 dd_X8_canPart_128a.2.2.2.2.2.1) rfl).to, ?_⟩
  refine List.forall_mem_cons.mpr ⟨(s_get (ci := 8) (k := 16) (am_dp pw_X8_canPart_128 dd_X8_canPart_128a.2.2.2.2.2.2.1) rfl (by decide) wd543 inX8 rfl).to, ?_⟩
  refine List.forall_mem_cons.mpr ⟨(s_iloadn (am_dp pw_X8_canPart_128 dd_X8_canPart_128a.2.2.2.2.2.2.2) rfl).to, ?_⟩
  refine List.forall_mem_cons.mpr ⟨(s_iloadn (am_dp pw_X8_canPart_128 dd_X8_canPart_128b.1) rfl).to, ?_⟩
  refine List.forall_mem_cons.mpr ⟨(s_iast (am_dp pw_X8_canPart_128 dd_X8_canPart_128b.2.1)).to, ?_⟩
  refine List.forall_mem_cons.mpr ⟨(s_aloadn (am_dp pw_X8_canPart_128 dd_X8_canPart_128b.2.2.1) rfl).to, ?_⟩
  refine List.forall_mem_cons.mpr ⟨(s_iloadn (am_dp pw_X8_canPart_128 dd_X8_canPart_128b.2.2.2.1) rfl).to, ?_⟩
  refine List.forall_mem_cons.mpr ⟨(s_iloadn (am_dp pw_X8_canPart_128 dd_X8_canPart_128b.2.2.2.2.1) rfl).to, ?_⟩
  refine List.forall_mem_cons.mpr ⟨(s_iconst (am_dp pw_X8_canPart_128 dd_X8_canPart_128b.2.2.2.2.2.1) (by decide)).to, ?_⟩
  refine List.forall_mem_cons.mpr ⟨(s_iadd (am_dp pw_X8_canPart_128 dd_X8_canPart_128b.2.2.2.2.2.2.1)).to, ?_⟩
  refine List.forall_mem_cons.mpr ⟨zw_cv95 (am_dp pw_X8_canPart_128 dd_X8_canPart_128b.2.2.2.2.2.2.2) wd1112, ?_⟩
  refine List.forall_mem_cons.mpr ⟨(s_istoren (am_dp pw_X8_canPart_128 dd_X8_canPart_128c.1) rfl (by decide)).to, ?_⟩
  refine List.forall_mem_cons.mpr ⟨(s_iinc (am_dp pw_X8_canPart_128 dd_X8_canPart_128c.2.1) (by decide) (by decide)).to, ?_⟩
  refine List.forall_mem_cons.mpr ⟨(s_goto (am_dp pw_X8_canPart_128 dd_X8_canPart_128c.2.2.1) (by decide)).to, ?_⟩
  refine List.forall_mem_cons.mpr ⟨(s_iloadn (am_dp pw_X8_canPart_128 dd_X8_canPart_128c.2.2.2.1) rfl).to, ?_⟩
  refine List.forall_mem_cons.mpr ⟨(s_iconst (am_dp pw_X8_canPart_128 dd_X8_canPart_128c.2.2.2.2.1) (by decide)).to, ?_⟩
  refine List.forall_mem_cons.mpr ⟨(s_icmp_eq (am_dp pw_X8_canPart_128 dd_X8_canPart_128c.2.2.2.2.2) (by decide)).to, ?_⟩
  refine List.forall_mem_cons.mpr ⟨(s_aloadn (am_dp pw_X8_canPart_160 dd_X8_canPart_160a.1) rfl).to, ?_⟩
  refine List.forall_mem_cons.mpr ⟨(s_iconst (am_dp pw_X8_canPart_160 dd_X8_canPart_160a.2.1) (by decide)).to, ?_⟩
  refine List.forall_mem_cons.mpr ⟨zw_cv96 (am_dp pw_X8_canPart_160 dd_X8_canPart_160a.2.2.1) wd1116, ?_⟩
  refine List.forall_mem_cons.mpr ⟨(s_if_eq (am_dp pw_X8_canPart_160 dd_X8_canPart_160a.2.2.2.1) (by decide)).to, ?_⟩
  refine List.forall_mem_cons.mpr ⟨(s_aloadn (am_dp pw_X8_canPart_160 dd_X8_canPart_160a.2.2.2.2.1) rfl).to, ?_⟩
  refine List.forall_mem_cons.mpr ⟨(s_iconst (am_dp pw_X8_canPart_160 dd_X8_canPart_160a.2.2.2.2.2.1) (by decide)).to, ?_⟩
  refine List.forall_mem_cons.mpr ⟨zw_cv96 (am_dp pw_X8_canPart_160 dd_X8_canPart_160a.2.2.2.2.2.2.1) wd1116, ?_⟩
  refine List.forall_mem_cons.mpr ⟨(s_if_eq (am_dp pw_X8_canPart_160 dd_X8_canPart_160a.2.2.2.2.2.2.2) (by decide)).to, ?_⟩
  refine List.forall_mem_cons.mpr ⟨(s_iconst (am_dp pw_X8_canPart_160 dd_X8_canPart_160b.1) (by decide)).to, ?_⟩
  refine List.forall_mem_cons.mpr ⟨(s_goto (am_dp pw_X8_canPart_160 dd_X8_canPart_160b.2.1) (by decide)).to, ?_⟩
  refine List.forall_mem_cons.mpr ⟨(s_iconst (am_dp pw_X8_canPart_160 dd_X8_canPart_160b.2.2.1) (by decide)).to, ?_⟩
  refine List.forall_mem_cons.mpr ⟨s_zret (am_dp pw_X8_canPart_160 dd_X8_canPart_160b.2.2.2) rfl, ?_⟩
  exact fun _ h => absurd h List.not_mem_nil
theorem sn_tX8_canPart : ∀ q ∈ tX8_canPart, am_Snd am_P0 RX8 cX8_canPart 3 (Option.some FieldType.boolean) "canPart" q.1 q.2 := by
  unfold tX8_canPart
  exact List.forall_mem_append.mpr ⟨sn_tX8_canPart_0, sn_tX8_canPart_1⟩
