/-! the machine follows each instruction (by program: gen_prog.py) -/
theorem sn_tX11_sighting : ∀ q ∈ tX11_sighting, am_Snd am_P0 RX11 cX11_sighting 4 (Option.some FieldType.int) "sighting" q.1 q.2 := by
  unfold tX11_sighting
  refine List.forall_mem_cons.mpr ⟨(s_iloadn (am_dp pw_X11_sighting_0 dd_X11_sighting_0a.1) rfl).to, ?_⟩
  refine List.forall_mem_cons.mpr ⟨(s_iconst (am_dp pw_X11_sighting_0 dd_X11_sighting_0a.2.1) (by decide)).to, ?_⟩
  refine List.forall_mem_cons.mpr ⟨(s_aloadn (am_dp pw_X11_sighting_0 dd_X11_sighting_0a.2.2.1) rfl).to, ?_⟩
  refine List.forall_mem_cons.mpr ⟨(s_get (ci := 11) (k := 33) (am_dp pw_X11_sighting_0 dd_X11_sighting_0a.2.2.2.1) rfl (by decide) wd1366 inX11 rfl).to, ?_⟩
  refine List.forall_mem_cons.mpr ⟨(s_aloadn (am_dp pw_X11_sighting_0 dd_X11_sighting_0a.2.2.2.2.1) rfl).to, ?_⟩
  refine List.forall_mem_cons.mpr ⟨(s_get (ci := 11) (k := 12) (am_dp pw_X11_sighting_0 dd_X11_sighting_0a.2.2.2.2.2.1) rfl (by decide) wd1345 inX11 rfl).to, ?_⟩
  refine List.forall_mem_cons.mpr ⟨(s_iald (am_dp pw_X11_sighting_0 dd_X11_sighting_0a.2.2.2.2.2.2.1)).to, ?_⟩
  refine List.forall_mem_cons.mpr ⟨(s_iconst (am_dp pw_X11_sighting_0 dd_X11_sighting_0a.2.2.2.2.2.2.2) (by decide)).to, ?_⟩
  refine List.forall_mem_cons.mpr ⟨(s_isub (am_dp pw_X11_sighting_0 dd_X11_sighting_0b.1)).to, ?_⟩
  refine List.forall_mem_cons.mpr ⟨zw_cs167 (am_dp pw_X11_sighting_0 dd_X11_sighting_0b.2.1) wd1630, ?_⟩
  refine List.forall_mem_cons.mpr ⟨(s_if_eq (am_dp pw_X11_sighting_0 dd_X11_sighting_0b.2.2.1) (by decide)).to, ?_⟩
  refine List.forall_mem_cons.mpr ⟨(s_iloadn (am_dp pw_X11_sighting_0 dd_X11_sighting_0b.2.2.2.1) rfl).to, ?_⟩
  refine List.forall_mem_cons.mpr ⟨(s_iconst (am_dp pw_X11_sighting_0 dd_X11_sighting_0b.2.2.2.2.1) (by decide)).to, ?_⟩
  refine List.forall_mem_cons.mpr ⟨(s_iconst (am_dp pw_X11_sighting_0 dd_X11_sighting_0b.2.2.2.2.2.1) (by decide)).to, ?_⟩
  refine List.forall_mem_cons.mpr ⟨zw_cs167 (am_dp pw_X11_sighting_0 dd_X11_sighting_0b.2.2.2.2.2.2.1) wd1630, ?_⟩
  refine List.forall_mem_cons.mpr ⟨(s_if_ne (am_dp pw_X11_sighting_0 dd_X11_sighting_0b.2.2.2.2.2.2.2) (by decide)).to, ?_⟩
  refine List.forall_mem_cons.mpr ⟨(s_iconst (am_dp pw_X11_sighting_0 dd_X11_sighting_0c.1) (by decide)).to, ?_⟩
  refine List.forall_mem_cons.mpr ⟨s_iret (am_dp pw_X11_sighting_0 dd_X11_sighting_0c.2.1) rfl, ?_⟩
  refine List.forall_mem_cons.mpr ⟨(s_bipush (am_dp pw_X11_sighting_0 dd_X11_sighting_0c.2.2) (by decide)).to, ?_⟩
  refine List.forall_mem_cons.mpr ⟨(s_aloadn (am_dp pw_X11_sighting_32 dd_X11_sighting_32a.1) rfl).to, ?_⟩
  refine List.forall_mem_cons.mpr ⟨(s_get (ci := 11) (k := 12) (am_dp pw_X11_sighting_32 dd_X11_sighting_32a.2.1) rfl (by decide) wd1345 inX11 rfl).to, ?_⟩
  refine List.forall_mem_cons.mpr ⟨(s_imul (am_dp pw_X11_sighting_32 dd_X11_sighting_32a.2.2.1)).to, ?_⟩
  refine List.forall_mem_cons.mpr ⟨(s_iloadn (am_dp pw_X11_sighting_32 dd_X11_sighting_32a.2.2.2.1) rfl).to, ?_⟩
  refine List.forall_mem_cons.mpr ⟨(s_iadd (am_dp pw_X11_sighting_32 dd_X11_sighting_32a.2.2.2.2.1)).to, ?_⟩
  refine List.forall_mem_cons.mpr ⟨(s_istoren (am_dp pw_X11_sighting_32 dd_X11_sighting_32a.2.2.2.2.2.1) rfl (by decide)).to, ?_⟩
  refine List.forall_mem_cons.mpr ⟨(s_iloadn (am_dp pw_X11_sighting_32 dd_X11_sighting_32a.2.2.2.2.2.2.1) rfl).to, ?_⟩
  refine List.forall_mem_cons.mpr ⟨(s_iconst (am_dp pw_X11_sighting_32 dd_X11_sighting_32a.2.2.2.2.2.2.2) (by decide)).to, ?_⟩
  refine List.forall_mem_cons.mpr ⟨(s_icmp_ge (am_dp pw_X11_sighting_32 dd_X11_sighting_32b.1) (by decide)).to, ?_⟩
  refine List.forall_mem_cons.mpr ⟨(s_iloadn (am_dp pw_X11_sighting_32 dd_X11_sighting_32b.2.1) rfl).to, ?_⟩
  refine List.forall_mem_cons.mpr ⟨(s_if_ne (am_dp pw_X11_sighting_32 dd_X11_sighting_32b.2.2.1) (by decide)).to, ?_⟩
  refine List.forall_mem_cons.mpr ⟨(s_aloadn (am_dp pw_X11_sighting_32 dd_X11_sighting_32b.2.2.2.1) rfl).to, ?_⟩
  refine List.forall_mem_cons.mpr ⟨(s_get (ci := 11) (k := 34) (am_dp pw_X11_sighting_32 dd_X11_sighting_32b.2.2.2.2.1) rfl (by decide) wd1367 inX11 rfl).to, ?_⟩
  refine List.forall_mem_cons.mpr ⟨(s_iloadn (am_dp pw_X11_sighting_32 dd_X11_sighting_32b.2.2.2.2.2.1) rfl).to, ?_⟩
  refine List.forall_mem_cons.mpr ⟨(s_iald (am_dp pw_X11_sighting_32 dd_X11_sighting_32b.2.2.2.2.2.2.1)).to, ?_⟩
  refine List.forall_mem_cons.mpr ⟨(s_goto (am_dp pw_X11_sighting_32 dd_X11_sighting_32b.2.2.2.2.2.2.2) (by decide)).to, ?_⟩
  refine List.forall_mem_cons.mpr ⟨(s_iloadn (am_dp pw_X11_sighting_32 dd_X11_sighting_32c.1) rfl).to, ?_⟩
  refine List.forall_mem_cons.mpr ⟨(s_iconst (am_dp pw_X11_sighting_32 dd_X11_sighting_32c.2.1) (by decide)).to, ?_⟩
  refine List.forall_mem_cons.mpr ⟨(s_icmp_ne (am_dp pw_X11_sighting_32 dd_X11_sighting_32c.2.2.1) (by decide)).to, ?_⟩
  refine List.forall_mem_cons.mpr ⟨(s_aloadn (am_dp pw_X11_sighting_32 dd_X11_sighting_32c.2.2.2) rfl).to, ?_⟩
  refine List.forall_mem_cons.mpr ⟨(s_get (ci := 11) (k := 35) (am_dp pw_X11_sighting_64 dd_X11_sighting_64a.1) rfl (by decide) wd1368 inX11 rfl).to, ?_⟩
  refine List.forall_mem_cons.mpr ⟨(s_iloadn (am_dp pw_X11_sighting_64 dd_X11_sighting_64a.2.1) rfl).to, ?_⟩
  refine List.forall_mem_cons.mpr ⟨(s_iald (am_dp pw_X11_sighting_64 dd_X11_sighting_64a.2.2.1)).to, ?_⟩
  refine List.forall_mem_cons.mpr ⟨(s_goto (am_dp pw_X11_sighting_64 dd_X11_sighting_64a.2.2.2.1) (by decide)).to, ?_⟩
  refine List.forall_mem_cons.mpr ⟨(s_aloadn (am_dp pw_X11_sighting_64 dd_X11_sighting_64a.2.2.2.2.1) rfl).to, ?_⟩
  refine List.forall_mem_cons.mpr ⟨(s_get (ci := 11) (k := 36) (am_dp pw_X11_sighting_64 dd_X11_sighting_64a.2.2.2.2.2.1) rfl (by decide) wd1369 inX11 rfl).to, ?_⟩
  refine List.forall_mem_cons.mpr ⟨(s_iloadn (am_dp pw_X11_sighting_64 dd_X11_sighting_64a.2.2.2.2.2.2.1) rfl).to, ?_⟩
  refine List.forall_mem_cons.mpr ⟨(s_iald (am_dp pw_X11_sighting_64 dd_X11_sighting_64a.2.2.2.2.2.2.2)).to, ?_⟩
  refine List.forall_mem_cons.mpr ⟨s_iret (am_dp pw_X11_sighting_64 dd_X11_sighting_64b.1) rfl, ?_⟩
  refine List.forall_mem_cons.mpr ⟨(s_aloadn (am_dp pw_X11_sighting_64 dd_X11_sighting_64b.2.1) rfl).to, ?_⟩
  refine List.forall_mem_cons.mpr ⟨zw_cv279 (am_dp pw_X11_sighting_64 dd_X11_sighting_64b.2.2.1) wd2050, ?_⟩
  refine List.forall_mem_cons.mpr ⟨(s_aloadn (am_dp pw_X11_sighting_64 dd_X11_sighting_64b.2.2.2.1) rfl).to, ?_⟩
  refine List.forall_mem_cons.mpr ⟨(s_get (ci := 11) (k := 78) (am_dp pw_X11_sighting_64 dd_X11_sighting_64b.2.2.2.2.1) rfl (by decide) wd1411 inX11 rfl).to, ?_⟩
  refine List.forall_mem_cons.mpr ⟨(s_iloadn (am_dp pw_X11_sighting_64 dd_X11_sighting_64b.2.2.2.2.2.1) rfl).to, ?_⟩
  refine List.forall_mem_cons.mpr ⟨(s_iald (am_dp pw_X11_sighting_64 dd_X11_sighting_64b.2.2.2.2.2.2.1)).to, ?_⟩
  refine List.forall_mem_cons.mpr ⟨s_iret (am_dp pw_X11_sighting_64 dd_X11_sighting_64b.2.2.2.2.2.2.2) rfl, ?_⟩
  exact fun _ h => absurd h List.not_mem_nil
theorem sn_tX11_strange : ∀ q ∈ tX11_strange, am_Snd am_P0 RX11 cX11_strange 3 (Option.some FieldType.int) "strange" q.1 q.2 := by
  unfold tX11_strange
  refine List.forall_mem_cons.mpr ⟨(s_aloadn (am_dp pw_X11_strange_0 dd_X11_strange_0a.1) rfl).to, ?_⟩
  refine List.forall_mem_cons.mpr ⟨zw_cv279 (am_dp pw_X11_strange_0 dd_X11_strange_0a.2.1) wd2050, ?_⟩
  refine List.forall_mem_cons.mpr ⟨(s_iconst (am_dp pw_X11_strange_0 dd_X11_strange_0a.2.2.1) (by decide)).to, ?_⟩
  refine List.forall_mem_cons.mpr ⟨(s_istoren (am_dp pw_X11_strange_0 dd_X11_strange_0a.2.2.2.1) rfl (by decide)).to, ?_⟩
  refine List.forall_mem_cons.mpr ⟨(s_iconst (am_dp pw_X11_strange_0 dd_X11_strange_0a.2.2.2.2.1) (by decide)).to, ?_⟩
  refine List.forall_mem_cons.mpr ⟨(s_istoren (am_dp pw_X11_strange_0 dd_X11_strange_0a.2.2.2.2.2.1) rfl (by decide)).to, ?_⟩
  refine List.forall_mem_cons.mpr ⟨(s_iloadn (am_dp pw_X11_strange_0 dd_X11_strange_0a.2.2.2.2.2.2.1) rfl).to, ?_⟩
  refine List.forall_mem_cons.mpr ⟨(s_aloadn (am_dp pw_X11_strange_0 dd_X11_strange_0a.2.2.2.2.2.2.2) rfl).to, ?_⟩
  refine List.forall_mem_cons.mpr ⟨(s_get (ci := 11) (k := 33) (am_dp pw_X11_strange_0 dd_X11_strange_0b.1) rfl (by decide) wd1366 inX11 rfl).to, ?_⟩
  refine List.forall_mem_cons.mpr ⟨(s_aloadn (am_dp pw_X11_strange_0 dd_X11_strange_0b.2.1) rfl).to, ?_⟩
  refine List.forall_mem_cons.mpr ⟨(s_get (ci := 11) (k := 12) (am_dp pw_X11_strange_0 dd_X11_strange_0b.2.2.1) rfl (by decide) wd1345 inX11 rfl).to, ?_⟩
  refine List.forall_mem_cons.mpr ⟨(s_iald (am_dp pw_X11_strange_0 dd_X11_strange_0b.2.2.2.1)).to, ?_⟩
  refine List.forall_mem_cons.mpr ⟨(s_icmp_ge (am_dp pw_X11_strange_0 dd_X11_strange_0b.2.2.2.2.1) (by decide)).to, ?_⟩
  refine List.forall_mem_cons.mpr ⟨(s_iloadn (am_dp pw_X11_strange_0 dd_X11_strange_0b.2.2.2.2.2.1) rfl).to, ?_⟩
  refine List.forall_mem_cons.mpr ⟨(s_aloadn (am_dp pw_X11_strange_0 dd_X11_strange_0b.2.2.2.2.2.2.1) rfl).to, ?_⟩
  refine List.forall_mem_cons.mpr ⟨(s_get (ci := 11) (k := 78) (am_dp pw_X11_strange_0 dd_X11_strange_0b.2.2.2.2.2.2.2) rfl (by decide) wd1411 inX11 rfl).to, ?_⟩
  refine List.forall_mem_cons.mpr ⟨(s_iloadn (am_dp pw_X11_strange_0 dd_X11_strange_0c.1) rfl).to, ?_⟩
  refine List.forall_mem_cons.mpr ⟨(s_iald (am_dp pw_X11_strange_0 dd_X11_strange_0c.2.1)).to, ?_⟩
  refine List.forall_mem_cons.mpr ⟨(s_if_ne (am_dp pw_X11_strange_0 dd_X11_strange_0c.2.2.1) (by decide)).to, ?_⟩
  refine List.forall_mem_cons.mpr ⟨(s_iconst (am_dp pw_X11_strange_0 dd_X11_strange_0c.2.2.2) (by decide)).to, ?_⟩
  refine List.forall_mem_cons.mpr ⟨(s_goto (am_dp pw_X11_strange_32 dd_X11_strange_32a.1) (by decide)).to, ?_⟩
  refine List.forall_mem_cons.mpr ⟨(s_iconst (am_dp pw_X11_strange_32 dd_X11_strange_32a.2.1) (by decide)).to, ?_⟩
  refine List.forall_mem_cons.mpr ⟨(s_iadd (am_dp pw_X11_strange_32 dd_X11_strange_32a.2.2.1)).to, ?_⟩
  refine List.forall_mem_cons.mpr ⟨(s_istoren (am_dp pw_X11_strange_32 dd_X11_strange_32a.2.2.2.1) rfl (by decide)).to, ?_⟩
  refine List.forall_mem_cons.mpr ⟨(s_iinc (am_dp pw_X11_strange_32 dd_X11_strange_32a.2.2.2.2.1) (by decide) (by decide)).to, ?_⟩
  refine List.forall_mem_cons.mpr ⟨(s_goto (am_dp pw_X11_strange_32 dd_X11_strange_32a.2.2.2.2.2.1) (by decide)).to, ?_⟩
  refine List.forall_mem_cons.mpr ⟨(s_iloadn (am_dp pw_X11_strange_32 dd_X11_strange_32a.2.2.2.2.2.2.1) rfl).to, ?_⟩
  refine List.forall_mem_cons.mpr ⟨s_iret (am_dp pw_X11_strange_32 dd_X11_strange_32a.2.2.2.2.2.2.2) rfl, ?_⟩
  exact fun _ h => absurd h List.not_mem_nil
theorem sn_tX11_doubted_0 : ∀ q ∈ tX11_doubted_0, am_Snd am_P0 RX11 cX11_doubted 5 (Option.some FieldType.int) "doubted" q.1 q.2 := by
  unfold tX11_doubted_0
  refine List.forall_mem_cons.mpr ⟨(s_aloadn (am_dp pw_X11_doubted_0 dd_X11_doubted_0a.1) rfl).to, ?_⟩
  refine List.forall_mem_cons.mpr ⟨zw_cv279 (am_dp pw_X11_doubted_0 dd_X11_doubted_0a.2.1) wd2050, ?_⟩
  refine List.forall_mem_cons.mpr ⟨(s_iconst (am_dp pw_X11_doubted_0 dd_X11_doubted_0a.2.2.1) (by decide)).to, ?_⟩
  refine List.forall_mem_cons.mpr ⟨(s_istoren (am_dp pw_X11_doubted_0 dd_X11_doubted_0a.2.2.2.1) rfl (by decide)).to, ?_⟩
  refine List.forall_mem_cons.mpr ⟨(s_iconst (am_dp pw_X11_doubted_0 dd_X11_doubted_0a.2.2.2.2.1) (by decide)).to, ?_⟩
  refine List.forall_mem_cons.mpr ⟨(s_istoren (am_dp pw_X11_doubted_0 dd_X11_doubted_0a.2.2.2.2.2.1) rfl (by decide)).to, ?_⟩
  refine List.forall_mem_cons.mpr ⟨(s_iloadn (am_dp pw_X11_doubted_0 dd_X11_doubted_0a.2.2.2.2.2.2.1) rfl).to, ?_⟩
  refine List.forall_mem_cons.mpr ⟨(s_aloadn (am_dp pw_X11_doubted_0 dd_X11_doubted_0a.2.2.2.2.2.2.2) rfl).to, ?_⟩
  refine List.forall_mem_cons.mpr ⟨(s_get (ci := 11) (k := 19) (am_dp pw_X11_doubted_0 dd_X11_doubted_0b.1) rfl (by decide) wd1352 inX11 rfl).to, ?_⟩
  refine List.forall_mem_cons.mpr ⟨(s_aloadn (am_dp pw_X11_doubted_0 dd_X11_doubted_0b.2.1) rfl).to, ?_⟩
  refine List.forall_mem_cons.mpr ⟨(s_get (ci := 11) (k := 12) (am_dp pw_X11_doubted_0 dd_X11_doubted_0b.2.2.1) rfl (by decide) wd1345 inX11 rfl).to, ?_⟩
  refine List.forall_mem_cons.mpr ⟨(s_iald (am_dp pw_X11_doubted_0 dd_X11_doubted_0b.2.2.2.1)).to, ?_⟩
  refine List.forall_mem_cons.mpr ⟨(s_icmp_ge (am_dp pw_X11_doubted_0 dd_X11_doubted_0b.2.2.2.2.1) (by decide)).to, ?_⟩
  refine List.forall_mem_cons.mpr ⟨(s_iconst (am_dp pw_X11_doubted_0 dd_X11_doubted_0b.2.2.2.2.2.1) (by decide)).to, ?_⟩
  refine List.forall_mem_cons.mpr ⟨(s_istoren (am_dp pw_X11_doubted_0 dd_X11_doubted_0b.2.2.2.2.2.2.1) rfl (by decide)).to, ?_⟩
  refine List.forall_mem_cons.mpr ⟨(s_iconst (am_dp pw_X11_doubted_0 dd_X11_doubted_0b.2.2.2.2.2.2.2) (by decide)).to, ?_⟩
  refine List.forall_mem_cons.mpr ⟨(s_istore (am_dp pw_X11_doubted_0 dd_X11_doubted_0c.1) (by decide)).to, ?_⟩
  refine List.forall_mem_cons.mpr ⟨(s_iload (am_dp pw_X11_doubted_0 dd_X11_doubted_0c.2.1)).to, ?_⟩
  refine List.forall_mem_cons.mpr ⟨(s_aloadn (am_dp pw_X11_doubted_0 dd_X11_doubted_0c.2.2.1) rfl).to, ?_⟩
  refine List.forall_mem_cons.mpr ⟨(s_get (ci := 11) (k := 33) (am_dp pw_X11_doubted_0 dd_X11_doubted_0c.2.2.2) rfl (by decide) wd1366 inX11 rfl).to, ?_⟩
  refine List.forall_mem_cons.mpr ⟨(s_aloadn (am_dp pw_X11_doubted_32 dd_X11_doubted_32a.1) rfl).to, ?_⟩
  refine List.forall_mem_cons.mpr ⟨(s_get (ci := 11) (k := 12) (am_dp pw_X11_doubted_32 dd_X11_doubted_32a.2.1) rfl (by decide) wd1345 inX11 rfl).to, ?_⟩
  refine List.forall_mem_cons.mpr ⟨(s_iald (am_dp pw_X11_doubted_32 dd_X11_doubted_32a.2.2.1)).to, ?_⟩
  refine List.forall_mem_cons.mpr ⟨(s_icmp_ge (am_dp pw_X11_doubted_32 dd_X11_doubted_32a.2.2.2.1) (by decide)).to, ?_⟩
  refine List.forall_mem_cons.mpr ⟨(s_iloadn (am_dp pw_X11_doubted_32 dd_X11_doubted_32a.2.2.2.2.1) rfl).to, ?_⟩
  refine List.forall_mem_cons.mpr ⟨(s_if_ne (am_dp pw_X11_doubted_32 dd_X11_doubted_32a.2.2.2.2.2.1) (by decide)).to, ?_⟩
  refine List.forall_mem_cons.mpr ⟨(s_aloadn (am_dp pw_X11_doubted_32 dd_X11_doubted_32a.2.2.2.2.2.2.1) rfl).to, ?_⟩
  refine List.forall_mem_cons.mpr ⟨(s_get (ci := 11) (k := 78) (am_dp pw_X11_doubted_32 dd_X11_doubted_32a.2.2.2.2.2.2.2) rfl (by decide) wd1411 inX11 rfl).to, ?_⟩
  refine List.forall_mem_cons.mpr ⟨(s_iload (am_dp pw_X11_doubted_32 dd_X11_doubted_32b.1)).to, ?_⟩
  refine List.forall_mem_cons.mpr ⟨(s_iald (am_dp pw_X11_doubted_32 dd_X11_doubted_32b.2.1)).to, ?_⟩
  refine List.forall_mem_cons.mpr ⟨(s_if_ne (am_dp pw_X11_doubted_32 dd_X11_doubted_32b.2.2.1) (by decide)).to, ?_⟩
  refine List.forall_mem_cons.mpr ⟨(s_aloadn (am_dp pw_X11_doubted_32 dd_X11_doubted_32b.2.2.2.1) rfl).to, ?_⟩
  refine List.forall_mem_cons.mpr ⟨(s_get (ci := 11) (k := 34) (am_dp pw_X11_doubted_32 dd_X11_doubted_32b.2.2.2.2.1) rfl (by decide) wd1367 inX11 rfl).to, ?_⟩
  refine List.forall_mem_cons.mpr ⟨(s_bipush (am_dp pw_X11_doubted_32 dd_X11_doubted_32b.2.2.2.2.2.1) (by decide)).to, ?_⟩
  refine List.forall_mem_cons.mpr ⟨(s_aloadn (am_dp pw_X11_doubted_32 dd_X11_doubted_32b.2.2.2.2.2.2.1) rfl).to, ?_⟩
  refine List.forall_mem_cons.mpr ⟨(s_get (ci := 11) (k := 12) (am_dp pw_X11_doubted_32 dd_X11_doubted_32b.2.2.2.2.2.2.2) rfl (by decide) wd1345 inX11 rfl).to, ?_⟩
  refine List.forall_mem_cons.mpr ⟨(s_imul (am_dp pw_X11_doubted_64 dd_X11_doubted_64a.1)).to, ?_⟩
  refine List.forall_mem_cons.mpr ⟨(s_iload (am_dp pw_X11_doubted_64 dd_X11_doubted_64a.2.1)).to, ?_⟩
  refine List.forall_mem_cons.mpr ⟨(s_iadd (am_dp pw_X11_doubted_64 dd_X11_doubted_64a.2.2.1)).to, ?_⟩
  refine List.forall_mem_cons.mpr ⟨(s_iald (am_dp pw_X11_doubted_64 dd_X11_doubted_64a.2.2.2.1)).to, ?_⟩
  refine List.forall_mem_cons.mpr ⟨(s_aloadn (am_dp pw_X11_doubted_64 dd_X11_doubted_64a.2.2.2.2.1) rfl).to, ?_⟩
  refine List.forall_mem_cons.mpr ⟨(s_get (ci := 11) (k := 21) (am_dp pw_X11_doubted_64 dd_X11_doubted_64a.2.2.2.2.2.1) rfl (by decide) wd1354 inX11 rfl).to, ?_⟩
  refine List.forall_mem_cons.mpr ⟨(s_bipush (am_dp pw_X11_doubted_64 dd_X11_doubted_64a.2.2.2.2.2.2.1) (by decide)).to, ?_⟩
  refine List.forall_mem_cons.mpr ⟨(s_aloadn (am_dp pw_X11_doubted_64 dd_X11_doubted_64a.2.2.2.2.2.2.2) rfl).to, ?_⟩
  refine List.forall_mem_cons.mpr ⟨(s_get (ci := 11) (k := 12) (am_dp pw_X11_doubted_64 dd_X11_doubted_64b.1) rfl (by decide) wd1345 inX11 rfl).to, ?_⟩
  refine List.forall_mem_cons.mpr ⟨(s_imul (am_dp pw_X11_doubted_64 dd_X11_doubted_64b.2.1)).to, ?_⟩
  refine List.forall_mem_cons.mpr ⟨(s_iloadn (am_dp pw_X11_doubted_64 dd_X11_doubted_64b.2.2.1) rfl).to, ?_⟩
  refine List.forall_mem_cons.mpr ⟨(s_iadd (am_dp pw_X11_doubted_64 dd_X11_doubted_64b.2.2.2.1)).to, ?_⟩
  refine List.forall_mem_cons.mpr ⟨(s_iald (am_dp pw_X11_doubted_64 dd_X11_doubted_64b.2.2.2.2.1)).to, ?_⟩
  refine List.forall_mem_cons.mpr ⟨(s_icmp_ne (am_dp pw_X11_doubted_64 dd_X11_doubted_64b.2.2.2.2.2.1) (by decide)).to, ?_⟩
  refine List.forall_mem_cons.mpr ⟨(s_iconst (am_dp pw_X11_doubted_64 dd_X11_doubted_64b.2.2.2.2.2.2.1) (by decide)).to, ?_⟩
  refine List.forall_mem_cons.mpr ⟨(s_goto (am_dp pw_X11_doubted_64 dd_X11_doubted_64b.2.2.2.2.2.2.2) (by decide)).to, ?_⟩
  refine List.forall_mem_cons.mpr ⟨(s_iconst (am_dp pw_X11_doubted_64 dd_X11_doubted_64c.1) (by decide)).to, ?_⟩
  refine List.forall_mem_cons.mpr ⟨(s_istoren (am_dp pw_X11_doubted_64 dd_X11_doubted_64c.2.1) rfl (by decide)).to, ?_⟩
  refine List.forall_mem_cons.mpr ⟨(s_iinc (am_dp pw_X11_doubted_64 dd_X11_doubted_64c.2.2.1) (by decide) (by decide)).to, ?_⟩
  refine List.forall_mem_cons.mpr ⟨(s_goto (am_dp pw_X11_doubted_64 dd_X11_doubted_64c.2.2.2) (by decide)).to, ?_⟩
  refine List.forall_mem_cons.mpr ⟨(s_iloadn (am_dp pw_X11_doubted_96 dd_X11_doubted_96a.1) rfl).to, ?_⟩
  refine List.forall_mem_cons.mpr ⟨(s_iloadn (am_dp pw_X11_doubted_96 dd_X11_doubted_96a.2.1) rfl).to, ?_⟩
  refine List.forall_mem_cons.mpr ⟨(s_if_eq (am_dp pw_X11_doubted_96 dd_X11_doubted_96a.2.2.1) (by decide)).to, ?_⟩
  refine List.forall_mem_cons.mpr ⟨(s_aloadn (am_dp pw_X11_doubted_96 dd_X11_doubted_96a.2.2.2.1) rfl).to, ?_⟩
  exact fun _ h => absurd h List.not_mem_nil
theorem sn_tX11_doubted_1 : ∀ q ∈ tX11_doubted_1, am_Snd am_P0 RX11 cX11_doubted 5 (Option.some FieldType.int) "doubted" q.1 q.2 := by
  unfold tX11_doubted_1
  refine List.forall_mem_cons.mpr ⟨(s_iloadn (am_dp pw_X11_doubted_96 dd_X11_doubted_96a.2.2.2.2.1) rfl).to, ?_⟩
  refine List.forall_mem_cons.mpr ⟨(s_iconst (am_dp pw_X11_doubted_96 dd_X11_doubted_96a.2.2.2.2.2.1) (by decide)).to, ?_⟩
  refine List.forall_mem_cons.mpr ⟨zw_cv265 (am_dp pw_X11_doubted_96 dd_X11_doubted_96a.2.2.2.2.2.2.1) wd1958, ?_⟩
  refine List.forall_mem_cons.mpr ⟨(s_if_eq (am_dp pw_X11_doubted_96 dd_X11_doubted_96a.2.2.2.2.2.2.2) (by decide)).to, ?_⟩
  refine List.forall_mem_cons.mpr ⟨(s_iconst (am_dp pw_X11_doubted_96 dd_X11_doubted_96b.1) (by decide)).to, ?_⟩
  refine List.forall_mem_cons.mpr ⟨(s_iloadn (am_dp pw_X11_doubted_96 dd_X11_doubted_96b.2.1) rfl).to, ?_⟩
  refine List.forall_mem_cons.mpr ⟨(s_ishl (am_dp pw_X11_doubted_96 dd_X11_doubted_96b.2.2.1)).to, ?_⟩
  refine List.forall_mem_cons.mpr ⟨(s_goto (am_dp pw_X11_doubted_96 dd_X11_doubted_96b.2.2.2.1) (by decide)).to, ?_⟩
  refine List.forall_mem_cons.mpr ⟨(s_iconst (am_dp pw_X11_doubted_96 dd_X11_doubted_96b.2.2.2.2.1) (by decide)).to, ?_⟩
  refine List.forall_mem_cons.mpr ⟨(s_ior (am_dp pw_X11_doubted_96 dd_X11_doubted_96b.2.2.2.2.2.1)).to, ?_⟩
  refine List.forall_mem_cons.mpr ⟨(s_istoren (am_dp pw_X11_doubted_96 dd_X11_doubted_96b.2.2.2.2.2.2.1) rfl (by decide)).to, ?_⟩
  refine List.forall_mem_cons.mpr ⟨(s_iinc (am_dp pw_X11_doubted_96 dd_X11_doubted_96b.2.2.2.2.2.2.2) (by decide) (by decide)).to, ?_⟩
  refine List.forall_mem_cons.mpr ⟨(s_goto (am_dp pw_X11_doubted_96 dd_X11_doubted_96c.1) (by decide)).to, ?_⟩
  refine List.forall_mem_cons.mpr ⟨(s_iloadn (am_dp pw_X11_doubted_96 dd_X11_doubted_96c.2) rfl).to, ?_⟩
  refine List.forall_mem_cons.mpr ⟨s_iret (am_dp pw_X11_doubted_128 dd_X11_doubted_128a) rfl, ?_⟩
  exact fun _ h => absurd h List.not_mem_nil
theorem sn_tX11_doubted : ∀ q ∈ tX11_doubted, am_Snd am_P0 RX11 cX11_doubted 5 (Option.some FieldType.int) "doubted" q.1 q.2 := by
  unfold tX11_doubted
  exact List.forall_mem_append.mpr ⟨sn_tX11_doubted_0, sn_tX11_doubted_1⟩
theorem sn_tX11_gaps : ∀ q ∈ tX11_gaps, am_Snd am_P0 RX11 cX11_gaps 4 (Option.some FieldType.int) "gaps" q.1 q.2 := by
  unfold tX11_gaps
  refine List.forall_mem_cons.mpr ⟨(s_aloadn (am_dp pw_X11_gaps_0 dd_X11_gaps_0a.1) rfl).to, ?_⟩
  refine List.forall_mem_cons.mpr ⟨(s_iloadn (am_dp pw_X11_gaps_0 dd_X11_gaps_0a.2.1) rfl).to, ?_⟩
  refine List.forall_mem_cons.mpr ⟨zw_cv220 (am_dp pw_X11_gaps_0 dd_X11_gaps_0a.2.2.1) wd1850, ?_⟩
  refine List.forall_mem_cons.mpr ⟨(s_if_eq (am_dp pw_X11_gaps_0 dd_X11_gaps_0a.2.2.2.1) (by decide)).to, ?_⟩
  refine List.forall_mem_cons.mpr ⟨(s_iloadn (am_dp pw_X11_gaps_0 dd_X11_gaps_0a.2.2.2.2.1) rfl).to, ?_⟩
  refine List.forall_mem_cons.mpr ⟨(s_if_eq (am_dp pw_X11_gaps_0 dd_X11_gaps_0a.2.2.2.2.2.1) (by decide)).to, ?_⟩
  refine List.forall_mem_cons.mpr ⟨(s_iloadn (am_dp pw_X11_gaps_0 dd_X11_gaps_0a.2.2.2.2.2.2.1) rfl).to, ?_⟩
  refine List.forall_mem_cons.mpr ⟨(s_iconst (am_dp pw_X11_gaps_0 dd_X11_gaps_0a.2.2.2.2.2.2.2) (by decide)).to, ?_⟩
  refine List.forall_mem_cons.mpr ⟨(s_icmp_eq (am_dp pw_X11_gaps_0 dd_X11_gaps_0b.1) (by decide)).to, ?_⟩
  refine List.forall_mem_cons.mpr ⟨(s_iconst (am_dp pw_X11_gaps_0 dd_X11_gaps_0b.2.1) (by decide)).to, ?_⟩
  refine List.forall_mem_cons.mpr ⟨s_iret (am_dp pw_X11_gaps_0 dd_X11_gaps_0b.2.2.1) rfl, ?_⟩
  refine List.forall_mem_cons.mpr ⟨(s_aloadn (am_dp pw_X11_gaps_0 dd_X11_gaps_0b.2.2.2.1) rfl).to, ?_⟩
  refine List.forall_mem_cons.mpr ⟨(s_iloadn (am_dp pw_X11_gaps_0 dd_X11_gaps_0b.2.2.2.2.1) rfl).to, ?_⟩
  refine List.forall_mem_cons.mpr ⟨zw_cv258 (am_dp pw_X11_gaps_0 dd_X11_gaps_0b.2.2.2.2.2.1) wd1990, ?_⟩
  refine List.forall_mem_cons.mpr ⟨(s_istoren (am_dp pw_X11_gaps_0 dd_X11_gaps_0b.2.2.2.2.2.2.1) rfl (by decide)).to, ?_⟩
  refine List.forall_mem_cons.mpr ⟨(s_iloadn (am_dp pw_X11_gaps_0 dd_X11_gaps_0b.2.2.2.2.2.2.2) rfl).to, ?_⟩
  refine List.forall_mem_cons.mpr ⟨(s_if_ne (am_dp pw_X11_gaps_0 dd_X11_gaps_0c.1) (by decide)).to, ?_⟩
  refine List.forall_mem_cons.mpr ⟨(s_aloadn (am_dp pw_X11_gaps_0 dd_X11_gaps_0c.2.1) rfl).to, ?_⟩
  refine List.forall_mem_cons.mpr ⟨(s_get (ci := 11) (k := 73) (am_dp pw_X11_gaps_0 dd_X11_gaps_0c.2.2) rfl (by decide) wd1406 inX11 rfl).to, ?_⟩
  refine List.forall_mem_cons.mpr ⟨(s_goto (am_dp pw_X11_gaps_32 dd_X11_gaps_32a.1) (by decide)).to, ?_⟩
  refine List.forall_mem_cons.mpr ⟨(s_iloadn (am_dp pw_X11_gaps_32 dd_X11_gaps_32a.2.1) rfl).to, ?_⟩
  refine List.forall_mem_cons.mpr ⟨s_iret (am_dp pw_X11_gaps_32 dd_X11_gaps_32a.2.2) rfl, ?_⟩
  exact fun _ h => absurd h List.not_mem_nil
theorem sn_tX11_chanceOf_0 : ∀ q ∈ tX11_chanceOf_0, am_Snd am_P0 RX11 cX11_chanceOf 7 (Option.some FieldType.long) "chanceOf" q.1 q.2 := by
  unfold tX11_chanceOf_0
  refine List.forall_mem_cons.mpr ⟨(s_aloadn (am_dp pw_X11_chanceOf_0 dd_X11_chanceOf_0a.1) rfl).to, ?_⟩
  refine List.forall_mem_cons.mpr ⟨(s_iloadn (am_dp pw_X11_chanceOf_0 dd_X11_chanceOf_0a.2.1) rfl).to, ?_⟩
  refine List.forall_mem_cons.mpr ⟨zw_cv258 (am_dp pw_X11_chanceOf_0 dd_X11_chanceOf_0a.2.2.1) wd1990, ?_⟩
  refine List.forall_mem_cons.mpr ⟨(s_istoren (am_dp pw_X11_chanceOf_0 dd_X11_chanceOf_0a.2.2.2.1) rfl (by decide)).to, ?_⟩
  refine List.forall_mem_cons.mpr ⟨(s_aloadn (am_dp pw_X11_chanceOf_0 dd_X11_chanceOf_0a.2.2.2.2.1) rfl).to, ?_⟩
  refine List.forall_mem_cons.mpr ⟨(s_get (ci := 11) (k := 65) (am_dp pw_X11_chanceOf_0 dd_X11_chanceOf_0a.2.2.2.2.2.1) rfl (by decide) wd1398 inX11 rfl).to, ?_⟩
  refine List.forall_mem_cons.mpr ⟨(s_iconst (am_dp pw_X11_chanceOf_0 dd_X11_chanceOf_0a.2.2.2.2.2.2.1) (by decide)).to, ?_⟩
  refine List.forall_mem_cons.mpr ⟨(s_icmp_ge (am_dp pw_X11_chanceOf_0 dd_X11_chanceOf_0a.2.2.2.2.2.2.2) (by decide)).to, ?_⟩
  refine List.forall_mem_cons.mpr ⟨(s_iconst (am_dp pw_X11_chanceOf_0 dd_X11_chanceOf_0b.1) (by decide)).to, ?_⟩
  refine List.forall_mem_cons.mpr ⟨(s_goto (am_dp pw_X11_chanceOf_0 dd_X11_chanceOf_0b.2.1) (by decide)).to, ?_⟩
  refine List.forall_mem_cons.mpr ⟨(s_aloadn (am_dp pw_X11_chanceOf_0 dd_X11_chanceOf_0b.2.2.1) rfl).to, ?_⟩
  refine List.forall_mem_cons.mpr ⟨(s_get (ci := 11) (k := 67) (am_dp pw_X11_chanceOf_0 dd_X11_chanceOf_0b.2.2.2.1) rfl (by decide) wd1400 inX11 rfl).to, ?_⟩
  refine List.forall_mem_cons.mpr ⟨(s_aloadn (am_dp pw_X11_chanceOf_0 dd_X11_chanceOf_0b.2.2.2.2.1) rfl).to, ?_⟩
  refine List.forall_mem_cons.mpr ⟨(s_get (ci := 11) (k := 65) (am_dp pw_X11_chanceOf_0 dd_X11_chanceOf_0b.2.2.2.2.2.1) rfl (by decide) wd1398 inX11 rfl).to, ?_⟩
  refine List.forall_mem_cons.mpr ⟨(s_iconst (am_dp pw_X11_chanceOf_0 dd_X11_chanceOf_0b.2.2.2.2.2.2.1) (by decide)).to, ?_⟩
  refine List.forall_mem_cons.mpr ⟨(s_isub (am_dp pw_X11_chanceOf_0 dd_X11_chanceOf_0b.2.2.2.2.2.2.2)).to, ?_⟩
  refine List.forall_mem_cons.mpr ⟨(s_iald (am_dp pw_X11_chanceOf_0 dd_X11_chanceOf_0c.1)).to, ?_⟩
  refine List.forall_mem_cons.mpr ⟨(s_aloadn (am_dp pw_X11_chanceOf_0 dd_X11_chanceOf_0c.2.1) rfl).to, ?_⟩
  refine List.forall_mem_cons.mpr ⟨(s_get (ci := 11) (k := 67) (am_dp pw_X11_chanceOf_0 dd_X11_chanceOf_0c.2.2) rfl (by decide) wd1400 inX11 rfl).to, ?_⟩
  refine List.forall_mem_cons.mpr ⟨(s_iconst (am_dp pw_X11_chanceOf_32 dd_X11_chanceOf_32a.1) (by decide)).to, ?_⟩
  refine List.forall_mem_cons.mpr ⟨(s_iald (am_dp pw_X11_chanceOf_32 dd_X11_chanceOf_32a.2.1)).to, ?_⟩
  refine List.forall_mem_cons.mpr ⟨(s_isub (am_dp pw_X11_chanceOf_32 dd_X11_chanceOf_32a.2.2.1)).to, ?_⟩
  refine List.forall_mem_cons.mpr ⟨(s_iconst (am_dp pw_X11_chanceOf_32 dd_X11_chanceOf_32a.2.2.2.1) (by decide)).to, ?_⟩
  refine List.forall_mem_cons.mpr ⟨(s_isub (am_dp pw_X11_chanceOf_32 dd_X11_chanceOf_32a.2.2.2.2.1)).to, ?_⟩
  refine List.forall_mem_cons.mpr ⟨(s_istoren (am_dp pw_X11_chanceOf_32 dd_X11_chanceOf_32a.2.2.2.2.2.1) rfl (by decide)).to, ?_⟩
  refine List.forall_mem_cons.mpr ⟨(s_iconst (am_dp pw_X11_chanceOf_32 dd_X11_chanceOf_32a.2.2.2.2.2.2.1) (by decide)).to, ?_⟩
  refine List.forall_mem_cons.mpr ⟨(s_istore (am_dp pw_X11_chanceOf_32 dd_X11_chanceOf_32a.2.2.2.2.2.2.2) (by decide)).to, ?_⟩
  refine List.forall_mem_cons.mpr ⟨(s_iload (am_dp pw_X11_chanceOf_32 dd_X11_chanceOf_32b.1)).to, ?_⟩
  refine List.forall_mem_cons.mpr ⟨(s_bipush (am_dp pw_X11_chanceOf_32 dd_X11_chanceOf_32b.2.1) (by decide)).to, ?_⟩
  refine List.forall_mem_cons.mpr ⟨(s_icmp_ge (am_dp pw_X11_chanceOf_32 dd_X11_chanceOf_32b.2.2.1) (by decide)).to, ?_⟩
  refine List.forall_mem_cons.mpr ⟨(s_aloadn (am_dp pw_X11_chanceOf_32 dd_X11_chanceOf_32b.2.2.2.1) rfl).to, ?_⟩
  refine List.forall_mem_cons.mpr ⟨(s_get (ci := 11) (k := 79) (am_dp pw_X11_chanceOf_32 dd_X11_chanceOf_32b.2.2.2.2.1) rfl (by decide) wd1412 inX11 rfl).to, ?_⟩
  refine List.forall_mem_cons.mpr ⟨(s_iload (am_dp pw_X11_chanceOf_32 dd_X11_chanceOf_32b.2.2.2.2.2.1)).to, ?_⟩
  refine List.forall_mem_cons.mpr ⟨(s_iload (am_dp pw_X11_chanceOf_32 dd_X11_chanceOf_32b.2.2.2.2.2.2.1)).to, ?_⟩
  refine List.forall_mem_cons.mpr ⟨(s_if_ne (am_dp pw_X11_chanceOf_32 dd_X11_chanceOf_32b.2.2.2.2.2.2.2) (by decide)).to, ?_⟩
  refine List.forall_mem_cons.mpr ⟨(s_ldc2 (am_dp pw_X11_chanceOf_32 dd_X11_chanceOf_32c.1) wd2074).to, ?_⟩
  refine List.forall_mem_cons.mpr ⟨(s_goto (am_dp pw_X11_chanceOf_32 dd_X11_chanceOf_32c.2) (by decide)).to, ?_⟩
  refine List.forall_mem_cons.mpr ⟨(s_lconst (am_dp pw_X11_chanceOf_64 dd_X11_chanceOf_64a.1) (by decide)).to, ?_⟩
  refine List.forall_mem_cons.mpr ⟨(s_last (am_dp pw_X11_chanceOf_64 dd_X11_chanceOf_64a.2.1)).to, ?_⟩
  refine List.forall_mem_cons.mpr ⟨(s_iinc (am_dp pw_X11_chanceOf_64 dd_X11_chanceOf_64a.2.2.1) (by decide) (by decide)).to, ?_⟩
  refine List.forall_mem_cons.mpr ⟨(s_goto (am_dp pw_X11_chanceOf_64 dd_X11_chanceOf_64a.2.2.2.1) (by decide)).to, ?_⟩
  refine List.forall_mem_cons.mpr ⟨(s_iconst (am_dp pw_X11_chanceOf_64 dd_X11_chanceOf_64a.2.2.2.2.1) (by decide)).to, ?_⟩
  refine List.forall_mem_cons.mpr ⟨(s_istore (am_dp pw_X11_chanceOf_64 dd_X11_chanceOf_64a.2.2.2.2.2.1) (by decide)).to, ?_⟩
  refine List.forall_mem_cons.mpr ⟨(s_iload (am_dp pw_X11_chanceOf_64 dd_X11_chanceOf_64a.2.2.2.2.2.2.1)).to, ?_⟩
  refine List.forall_mem_cons.mpr ⟨(s_iloadn (am_dp pw_X11_chanceOf_64 dd_X11_chanceOf_64a.2.2.2.2.2.2.2) rfl).to, ?_⟩
  refine List.forall_mem_cons.mpr ⟨(s_icmp_ge (am_dp pw_X11_chanceOf_64 dd_X11_chanceOf_64b.1) (by decide)).to, ?_⟩
  refine List.forall_mem_cons.mpr ⟨(s_bipush (am_dp pw_X11_chanceOf_64 dd_X11_chanceOf_64b.2.1) (by decide)).to, ?_⟩
  refine List.forall_mem_cons.mpr ⟨(s_istore (am_dp pw_X11_chanceOf_64 dd_X11_chanceOf_64b.2.2.1) (by decide)).to, ?_⟩
  refine List.forall_mem_cons.mpr ⟨(s_iload (am_dp pw_X11_chanceOf_64 dd_X11_chanceOf_64b.2.2.2.1)).to, ?_⟩
  refine List.forall_mem_cons.mpr ⟨(s_if_lt (am_dp pw_X11_chanceOf_64 dd_X11_chanceOf_64b.2.2.2.2.1) (by decide)).to, ?_⟩
  refine List.forall_mem_cons.mpr ⟨(s_aloadn (am_dp pw_X11_chanceOf_64 dd_X11_chanceOf_64b.2.2.2.2.2.1) rfl).to, ?_⟩
  refine List.forall_mem_cons.mpr ⟨(s_get (ci := 11) (k := 79) (am_dp pw_X11_chanceOf_64 dd_X11_chanceOf_64b.2.2.2.2.2.2) rfl (by decide) wd1412 inX11 rfl).to, ?_⟩
  refine List.forall_mem_cons.mpr ⟨(s_iload (am_dp pw_X11_chanceOf_96 dd_X11_chanceOf_96a.1)).to, ?_⟩
  refine List.forall_mem_cons.mpr ⟨(s_aloadn (am_dp pw_X11_chanceOf_96 dd_X11_chanceOf_96a.2.1) rfl).to, ?_⟩
  refine List.forall_mem_cons.mpr ⟨(s_get (ci := 11) (k := 79) (am_dp pw_X11_chanceOf_96 dd_X11_chanceOf_96a.2.2.1) rfl (by decide) wd1412 inX11 rfl).to, ?_⟩
  refine List.forall_mem_cons.mpr ⟨(s_iload (am_dp pw_X11_chanceOf_96 dd_X11_chanceOf_96a.2.2.2.1)).to, ?_⟩
  refine List.forall_mem_cons.mpr ⟨(s_lald (am_dp pw_X11_chanceOf_96 dd_X11_chanceOf_96a.2.2.2.2.1)).to, ?_⟩
  refine List.forall_mem_cons.mpr ⟨(s_bipush (am_dp pw_X11_chanceOf_96 dd_X11_chanceOf_96a.2.2.2.2.2.1) (by decide)).to, ?_⟩
  refine List.forall_mem_cons.mpr ⟨(s_aloadn (am_dp pw_X11_chanceOf_96 dd_X11_chanceOf_96a.2.2.2.2.2.2.1) rfl).to, ?_⟩
  refine List.forall_mem_cons.mpr ⟨(s_get (ci := 11) (k := 37) (am_dp pw_X11_chanceOf_96 dd_X11_chanceOf_96a.2.2.2.2.2.2.2) rfl (by decide) wd1370 inX11 rfl).to, ?_⟩
  exact fun _ h => absurd h List.not_mem_nil
theorem sn_tX11_chanceOf_1 : ∀ q ∈ tX11_chanceOf_1, am_Snd am_P0 RX11 cX11_chanceOf 7 (Option.some FieldType.long) "chanceOf" q.1 q.2 := by
  unfold tX11_chanceOf_1
  refine List.forall_mem_cons.mpr ⟨(s_aloadn (am_dp pw_X11_chanceOf_96 dd_X11_chanceOf_96b.1) rfl).to, ?_⟩
  refine List.forall_mem_cons.mpr ⟨(s_get (ci := 11) (k := 12) (am_dp pw_X11_chanceOf_96 dd_X11_chanceOf_96b.2.1) rfl (by decide) wd1345 inX11 rfl).to, ?_⟩
  refine List.forall_mem_cons.mpr ⟨(s_iald (am_dp pw_X11_chanceOf_96 dd_X11_chanceOf_96b.2.2.1)).to, ?_⟩
  refine List.forall_mem_cons.mpr ⟨(s_isub (am_dp pw_X11_chanceOf_96 dd_X11_chanceOf_96b.2.2.2.1)).to, ?_⟩
  refine List.forall_mem_cons.mpr ⟨(s_i2l (am_dp pw_X11_chanceOf_96 dd_X11_chanceOf_96b.2.2.2.2.1)).to, ?_⟩
  refine List.forall_mem_cons.mpr ⟨(s_lmul (am_dp pw_X11_chanceOf_96 dd_X11_chanceOf_96b.2.2.2.2.2.1)).to, ?_⟩
  refine List.forall_mem_cons.mpr ⟨(s_iload (am_dp pw_X11_chanceOf_96 dd_X11_chanceOf_96b.2.2.2.2.2.2.1)).to, ?_⟩
  refine List.forall_mem_cons.mpr ⟨(s_if_le (am_dp pw_X11_chanceOf_96 dd_X11_chanceOf_96b.2.2.2.2.2.2.2) (by decide)).to, ?_⟩
  refine List.forall_mem_cons.mpr ⟨(s_aloadn (am_dp pw_X11_chanceOf_96 dd_X11_chanceOf_96c.1) rfl).to, ?_⟩
  refine List.forall_mem_cons.mpr ⟨(s_get (ci := 11) (k := 79) (am_dp pw_X11_chanceOf_96 dd_X11_chanceOf_96c.2) rfl (by decide) wd1412 inX11 rfl).to, ?_⟩
  refine List.forall_mem_cons.mpr ⟨(s_iload (am_dp pw_X11_chanceOf_128 dd_X11_chanceOf_128a.1)).to, ?_⟩
  refine List.forall_mem_cons.mpr ⟨(s_iconst (am_dp pw_X11_chanceOf_128 dd_X11_chanceOf_128a.2.1) (by decide)).to, ?_⟩
  refine List.forall_mem_cons.mpr ⟨(s_isub (am_dp pw_X11_chanceOf_128 dd_X11_chanceOf_128a.2.2.1)).to, ?_⟩
  refine List.forall_mem_cons.mpr ⟨(s_lald (am_dp pw_X11_chanceOf_128 dd_X11_chanceOf_128a.2.2.2.1)).to, ?_⟩
  refine List.forall_mem_cons.mpr ⟨(s_aloadn (am_dp pw_X11_chanceOf_128 dd_X11_chanceOf_128a.2.2.2.2.1) rfl).to, ?_⟩
  refine List.forall_mem_cons.mpr ⟨(s_get (ci := 11) (k := 37) (am_dp pw_X11_chanceOf_128 dd_X11_chanceOf_128a.2.2.2.2.2.1) rfl (by decide) wd1370 inX11 rfl).to, ?_⟩
  refine List.forall_mem_cons.mpr ⟨(s_aloadn (am_dp pw_X11_chanceOf_128 dd_X11_chanceOf_128a.2.2.2.2.2.2.1) rfl).to, ?_⟩
  refine List.forall_mem_cons.mpr ⟨(s_get (ci := 11) (k := 12) (am_dp pw_X11_chanceOf_128 dd_X11_chanceOf_128a.2.2.2.2.2.2.2) rfl (by decide) wd1345 inX11 rfl).to, ?_⟩
  refine List.forall_mem_cons.mpr ⟨(s_iald (am_dp pw_X11_chanceOf_128 dd_X11_chanceOf_128b.1)).to, ?_⟩
  refine List.forall_mem_cons.mpr ⟨(s_i2l (am_dp pw_X11_chanceOf_128 dd_X11_chanceOf_128b.2.1)).to, ?_⟩
  refine List.forall_mem_cons.mpr ⟨(s_lmul (am_dp pw_X11_chanceOf_128 dd_X11_chanceOf_128b.2.2.1)).to, ?_⟩
  refine List.forall_mem_cons.mpr ⟨(s_goto (am_dp pw_X11_chanceOf_128 dd_X11_chanceOf_128b.2.2.2.1) (by decide)).to, ?_⟩
  refine List.forall_mem_cons.mpr ⟨(s_lconst (am_dp pw_X11_chanceOf_128 dd_X11_chanceOf_128b.2.2.2.2.1) (by decide)).to, ?_⟩
  refine List.forall_mem_cons.mpr ⟨(s_ladd (am_dp pw_X11_chanceOf_128 dd_X11_chanceOf_128b.2.2.2.2.2.1)).to, ?_⟩
  refine List.forall_mem_cons.mpr ⟨(s_ldc2 (am_dp pw_X11_chanceOf_128 dd_X11_chanceOf_128b.2.2.2.2.2.2.1) wd2075).to, ?_⟩
  refine List.forall_mem_cons.mpr ⟨(s_ldiv (am_dp pw_X11_chanceOf_128 dd_X11_chanceOf_128b.2.2.2.2.2.2.2)).to, ?_⟩
  refine List.forall_mem_cons.mpr ⟨(s_last (am_dp pw_X11_chanceOf_128 dd_X11_chanceOf_128c.1)).to, ?_⟩
  refine List.forall_mem_cons.mpr ⟨(s_iinc (am_dp pw_X11_chanceOf_128 dd_X11_chanceOf_128c.2.1) (by decide) (by decide)).to, ?_⟩
  refine List.forall_mem_cons.mpr ⟨(s_goto (am_dp pw_X11_chanceOf_128 dd_X11_chanceOf_128c.2.2) (by decide)).to, ?_⟩
  refine List.forall_mem_cons.mpr ⟨(s_iinc (am_dp pw_X11_chanceOf_160 dd_X11_chanceOf_160a.1) (by decide) (by decide)).to, ?_⟩
  refine List.forall_mem_cons.mpr ⟨(s_goto (am_dp pw_X11_chanceOf_160 dd_X11_chanceOf_160a.2.1) (by decide)).to, ?_⟩
  refine List.forall_mem_cons.mpr ⟨(s_lconst (am_dp pw_X11_chanceOf_160 dd_X11_chanceOf_160a.2.2.1) (by decide)).to, ?_⟩
  refine List.forall_mem_cons.mpr ⟨(s_lstore (am_dp pw_X11_chanceOf_160 dd_X11_chanceOf_160a.2.2.2.1) (by decide)).to, ?_⟩
  refine List.forall_mem_cons.mpr ⟨(s_iloadn (am_dp pw_X11_chanceOf_160 dd_X11_chanceOf_160a.2.2.2.2.1) rfl).to, ?_⟩
  refine List.forall_mem_cons.mpr ⟨(s_istore (am_dp pw_X11_chanceOf_160 dd_X11_chanceOf_160a.2.2.2.2.2.1) (by decide)).to, ?_⟩
  refine List.forall_mem_cons.mpr ⟨(s_iload (am_dp pw_X11_chanceOf_160 dd_X11_chanceOf_160a.2.2.2.2.2.2.1)).to, ?_⟩
  refine List.forall_mem_cons.mpr ⟨(s_bipush (am_dp pw_X11_chanceOf_160 dd_X11_chanceOf_160a.2.2.2.2.2.2.2) (by decide)).to, ?_⟩
  refine List.forall_mem_cons.mpr ⟨(s_icmp_ge (am_dp pw_X11_chanceOf_160 dd_X11_chanceOf_160b.1) (by decide)).to, ?_⟩
  refine List.forall_mem_cons.mpr ⟨(s_lload (am_dp pw_X11_chanceOf_160 dd_X11_chanceOf_160b.2.1)).to, ?_⟩
  refine List.forall_mem_cons.mpr ⟨(s_aloadn (am_dp pw_X11_chanceOf_160 dd_X11_chanceOf_160b.2.2.1) rfl).to, ?_⟩
  refine List.forall_mem_cons.mpr ⟨(s_get (ci := 11) (k := 79) (am_dp pw_X11_chanceOf_160 dd_X11_chanceOf_160b.2.2.2.1) rfl (by decide) wd1412 inX11 rfl).to, ?_⟩
  refine List.forall_mem_cons.mpr ⟨(s_iload (am_dp pw_X11_chanceOf_160 dd_X11_chanceOf_160b.2.2.2.2.1)).to, ?_⟩
  refine List.forall_mem_cons.mpr ⟨(s_lald (am_dp pw_X11_chanceOf_160 dd_X11_chanceOf_160b.2.2.2.2.2.1)).to, ?_⟩
  refine List.forall_mem_cons.mpr ⟨(s_ladd (am_dp pw_X11_chanceOf_160 dd_X11_chanceOf_160b.2.2.2.2.2.2.1)).to, ?_⟩
  refine List.forall_mem_cons.mpr ⟨(s_lstore (am_dp pw_X11_chanceOf_160 dd_X11_chanceOf_160b.2.2.2.2.2.2.2) (by decide)).to, ?_⟩
  refine List.forall_mem_cons.mpr ⟨(s_iinc (am_dp pw_X11_chanceOf_160 dd_X11_chanceOf_160c) (by decide) (by decide)).to, ?_⟩
  refine List.forall_mem_cons.mpr ⟨(s_goto (am_dp pw_X11_chanceOf_192 dd_X11_chanceOf_192a.1) (by decide)).to, ?_⟩
  refine List.forall_mem_cons.mpr ⟨(s_lload (am_dp pw_X11_chanceOf_192 dd_X11_chanceOf_192a.2.1)).to, ?_⟩
  refine List.forall_mem_cons.mpr ⟨s_lret (am_dp pw_X11_chanceOf_192 dd_X11_chanceOf_192a.2.2) rfl, ?_⟩
  exact fun _ h => absurd h List.not_mem_nil
theorem sn_tX11_chanceOf : ∀ q ∈ tX11_chanceOf, am_Snd am_P0 RX11 cX11_chanceOf 7 (Option.some FieldType.long) "chanceOf" q.1 q.2 := by
  unfold tX11_chanceOf
  exact List.forall_mem_append.mpr ⟨sn_tX11_chanceOf_0, sn_tX11_chanceOf_1⟩
theorem sn_tX11_chance : ∀ q ∈ tX11_chance, am_Snd am_P0 RX11 cX11_chance 2 (Option.some FieldType.long) "chance" q.1 q.2 := by
  unfold tX11_chance
  refine List.forall_mem_cons.mpr ⟨(s_aloadn (am_dp pw_X11_chance_0 dd_X11_chance_0a.1) rfl).to, ?_⟩
  refine List.forall_mem_cons.mpr ⟨(s_iloadn (am_dp pw_X11_chance_0 dd_X11_chance_0a.2.1) rfl).to, ?_⟩
  refine List.forall_mem_cons.mpr ⟨zw_cv220 (am_dp pw_X11_chance_0 dd_X11_chance_0a.2.2.1) wd1850, ?_⟩
  refine List.forall_mem_cons.mpr ⟨(s_if_eq (am_dp pw_X11_chance_0 dd_X11_chance_0a.2.2.2.1) (by decide)).to, ?_⟩
  refine List.forall_mem_cons.mpr ⟨(s_aloadn (am_dp pw_X11_chance_0 dd_X11_chance_0a.2.2.2.2.1) rfl).to, ?_⟩
  refine List.forall_mem_cons.mpr ⟨(s_iloadn (am_dp pw_X11_chance_0 dd_X11_chance_0a.2.2.2.2.2.1) rfl).to, ?_⟩
  refine List.forall_mem_cons.mpr ⟨zw_cv284 (am_dp pw_X11_chance_0 dd_X11_chance_0a.2.2.2.2.2.2.1) wd2070, ?_⟩
  refine List.forall_mem_cons.mpr ⟨(s_goto (am_dp pw_X11_chance_0 dd_X11_chance_0a.2.2.2.2.2.2.2) (by decide)).to, ?_⟩
  refine List.forall_mem_cons.mpr ⟨(s_ldc2 (am_dp pw_X11_chance_0 dd_X11_chance_0b.1) wd2076).to, ?_⟩
  refine List.forall_mem_cons.mpr ⟨s_lret (am_dp pw_X11_chance_0 dd_X11_chance_0b.2) rfl, ?_⟩
  exact fun _ h => absurd h List.not_mem_nil
theorem sn_tX11_beyond : ∀ q ∈ tX11_beyond, am_Snd am_P0 RX11 cX11_beyond 3 (Option.some FieldType.int) "beyond" q.1 q.2 := by
  unfold tX11_beyond
  refine List.forall_mem_cons.mpr ⟨(s_iconst (am_dp pw_X11_beyond_0 dd_X11_beyond_0a.1) (by decide)).to, ?_⟩
  refine List.forall_mem_cons.mpr ⟨(s_istoren (am_dp pw_X11_beyond_0 dd_X11_beyond_0a.2.1) rfl (by decide)).to, ?_⟩
  refine List.forall_mem_cons.mpr ⟨(s_iconst (am_dp pw_X11_beyond_0 dd_X11_beyond_0a.2.2.1) (by decide)).to, ?_⟩
  refine List.forall_mem_cons.mpr ⟨(s_istoren (am_dp pw_X11_beyond_0 dd_X11_beyond_0a.2.2.2.1) rfl (by decide)).to, ?_⟩
  refine List.forall_mem_cons.mpr ⟨(s_iloadn (am_dp pw_X11_beyond_0 dd_X11_beyond_0a.2.2.2.2.1) rfl).to, ?_⟩
  refine List.forall_mem_cons.mpr ⟨(s_aloadn (am_dp pw_X11_beyond_0 dd_X11_beyond_0a.2.2.2.2.2.1) rfl).to, ?_⟩
  refine List.forall_mem_cons.mpr ⟨(s_get (ci := 11) (k := 19) (am_dp pw_X11_beyond_0 dd_X11_beyond_0a.2.2.2.2.2.2.1) rfl (by decide) wd1352 inX11 rfl).to, ?_⟩
  refine List.forall_mem_cons.mpr ⟨(s_aloadn (am_dp pw_X11_beyond_0 dd_X11_beyond_0a.2.2.2.2.2.2.2) rfl).to, ?_⟩
  refine List.forall_mem_cons.mpr ⟨(s_get (ci := 11) (k := 12) (am_dp pw_X11_beyond_0 dd_X11_beyond_0b.1) rfl (by decide) wd1345 inX11 rfl).to, ?_⟩
  refine List.forall_mem_cons.mpr ⟨(s_iald (am_dp pw_X11_beyond_0 dd_X11_beyond_0b.2.1)).to, ?_⟩
  refine List.forall_mem_cons.mpr ⟨(s_icmp_ge (am_dp pw_X11_beyond_0 dd_X11_beyond_0b.2.2.1) (by decide)).to, ?_⟩
  refine List.forall_mem_cons.mpr ⟨(s_iloadn (am_dp pw_X11_beyond_0 dd_X11_beyond_0b.2.2.2.1) rfl).to, ?_⟩
  refine List.forall_mem_cons.mpr ⟨(s_aloadn (am_dp pw_X11_beyond_0 dd_X11_beyond_0b.2.2.2.2.1) rfl).to, ?_⟩
  refine List.forall_mem_cons.mpr ⟨(s_iloadn (am_dp pw_X11_beyond_0 dd_X11_beyond_0b.2.2.2.2.2.1) rfl).to, ?_⟩
  refine List.forall_mem_cons.mpr ⟨zw_cv258 (am_dp pw_X11_beyond_0 dd_X11_beyond_0b.2.2.2.2.2.2.1) wd1990, ?_⟩
  refine List.forall_mem_cons.mpr ⟨(s_if_le (am_dp pw_X11_beyond_0 dd_X11_beyond_0b.2.2.2.2.2.2.2) (by decide)).to, ?_⟩
  refine List.forall_mem_cons.mpr ⟨(s_aloadn (am_dp pw_X11_beyond_0 dd_X11_beyond_0c.1) rfl).to, ?_⟩
  refine List.forall_mem_cons.mpr ⟨(s_iloadn (am_dp pw_X11_beyond_0 dd_X11_beyond_0c.2.1) rfl).to, ?_⟩
  refine List.forall_mem_cons.mpr ⟨zw_cv284 (am_dp pw_X11_beyond_0 dd_X11_beyond_0c.2.2.1) wd2070, ?_⟩
  refine List.forall_mem_cons.mpr ⟨(s_aloadn (am_dp pw_X11_beyond_0 dd_X11_beyond_0c.2.2.2) rfl).to, ?_⟩
  refine List.forall_mem_cons.mpr ⟨(s_get (ci := 11) (k := 19) (am_dp pw_X11_beyond_32 dd_X11_beyond_32a.1) rfl (by decide) wd1352 inX11 rfl).to, ?_⟩
  refine List.forall_mem_cons.mpr ⟨(s_aloadn (am_dp pw_X11_beyond_32 dd_X11_beyond_32a.2.1) rfl).to, ?_⟩
  refine List.forall_mem_cons.mpr ⟨(s_get (ci := 11) (k := 12) (am_dp pw_X11_beyond_32 dd_X11_beyond_32a.2.2.1) rfl (by decide) wd1345 inX11 rfl).to, ?_⟩
  refine List.forall_mem_cons.mpr ⟨(s_iald (am_dp pw_X11_beyond_32 dd_X11_beyond_32a.2.2.2.1)).to, ?_⟩
  refine List.forall_mem_cons.mpr ⟨(s_i2l (am_dp pw_X11_beyond_32 dd_X11_beyond_32a.2.2.2.2.1)).to, ?_⟩
  refine List.forall_mem_cons.mpr ⟨(s_lmul (am_dp pw_X11_beyond_32 dd_X11_beyond_32a.2.2.2.2.2.1)).to, ?_⟩
  refine List.forall_mem_cons.mpr ⟨(s_ldc2 (am_dp pw_X11_beyond_32 dd_X11_beyond_32a.2.2.2.2.2.2.1) wd2081).to, ?_⟩
  refine List.forall_mem_cons.mpr ⟨(s_lcmp (am_dp pw_X11_beyond_32 dd_X11_beyond_32a.2.2.2.2.2.2.2)).to, ?_⟩
  refine List.forall_mem_cons.mpr ⟨(s_if_ge (am_dp pw_X11_beyond_32 dd_X11_beyond_32b.1) (by decide)).to, ?_⟩
  refine List.forall_mem_cons.mpr ⟨(s_iconst (am_dp pw_X11_beyond_32 dd_X11_beyond_32b.2.1) (by decide)).to, ?_⟩
  refine List.forall_mem_cons.mpr ⟨(s_iloadn (am_dp pw_X11_beyond_32 dd_X11_beyond_32b.2.2.1) rfl).to, ?_⟩
  refine List.forall_mem_cons.mpr ⟨(s_ishl (am_dp pw_X11_beyond_32 dd_X11_beyond_32b.2.2.2.1)).to, ?_⟩
  refine List.forall_mem_cons.mpr ⟨(s_goto (am_dp pw_X11_beyond_32 dd_X11_beyond_32b.2.2.2.2.1) (by decide)).to, ?_⟩
  refine List.forall_mem_cons.mpr ⟨(s_iconst (am_dp pw_X11_beyond_32 dd_X11_beyond_32b.2.2.2.2.2.1) (by decide)).to, ?_⟩
  refine List.forall_mem_cons.mpr ⟨(s_ior (am_dp pw_X11_beyond_32 dd_X11_beyond_32b.2.2.2.2.2.2.1)).to, ?_⟩
  refine List.forall_mem_cons.mpr ⟨(s_istoren (am_dp pw_X11_beyond_32 dd_X11_beyond_32b.2.2.2.2.2.2.2) rfl (by decide)).to, ?_⟩
  refine List.forall_mem_cons.mpr ⟨(s_iinc (am_dp pw_X11_beyond_32 dd_X11_beyond_32c.1) (by decide) (by decide)).to, ?_⟩
  refine List.forall_mem_cons.mpr ⟨(s_goto (am_dp pw_X11_beyond_32 dd_X11_beyond_32c.2) (by decide)).to, ?_⟩
  refine List.forall_mem_cons.mpr ⟨(s_iloadn (am_dp pw_X11_beyond_64 dd_X11_beyond_64a.1) rfl).to, ?_⟩
  refine List.forall_mem_cons.mpr ⟨s_iret (am_dp pw_X11_beyond_64 dd_X11_beyond_64a.2) rfl, ?_⟩
  exact fun _ h => absurd h List.not_mem_nil
theorem sn_tX11_settlesAll_0 : ∀ q ∈ tX11_settlesAll_0, am_Snd am_P0 RX11 cX11_settlesAll 4 (Option.none : Option FieldType) "settlesAll" q.1 q.2 := by
  unfold tX11_settlesAll_0
  refine List.forall_mem_cons.mpr ⟨(s_iconst (am_dp pw_X11_settlesAll_0 dd_X11_settlesAll_0a.1) (by decide)).to, ?_⟩
  refine List.forall_mem_cons.mpr ⟨(s_istoren (am_dp pw_X11_settlesAll_0 dd_X11_settlesAll_0a.2.1) rfl (by decide)).to, ?_⟩
  refine List.forall_mem_cons.mpr ⟨(s_iloadn (am_dp pw_X11_settlesAll_0 dd_X11_settlesAll_0a.2.2.1) rfl).to, ?_⟩
  refine List.forall_mem_cons.mpr ⟨(s_sipush (am_dp pw_X11_settlesAll_0 dd_X11_settlesAll_0a.2.2.2.1) (by decide)).to, ?_⟩
  refine List.forall_mem_cons.mpr ⟨(s_icmp_ge (am_dp pw_X11_settlesAll_0 dd_X11_settlesAll_0a.2.2.2.2.1) (by decide)).to, ?_⟩
  refine List.forall_mem_cons.mpr ⟨(s_aloadn (am_dp pw_X11_settlesAll_0 dd_X11_settlesAll_0a.2.2.2.2.2.1) rfl).to, ?_⟩
  refine List.forall_mem_cons.mpr ⟨(s_get (ci := 11) (k := 80) (am_dp pw_X11_settlesAll_0 dd_X11_settlesAll_0a.2.2.2.2.2.2.1) rfl (by decide) wd1413 inX11 rfl).to, ?_⟩
  refine List.forall_mem_cons.mpr ⟨(s_iloadn (am_dp pw_X11_settlesAll_0 dd_X11_settlesAll_0a.2.2.2.2.2.2.2) rfl).to, ?_⟩
  refine List.forall_mem_cons.mpr ⟨(s_iconst (am_dp pw_X11_settlesAll_0 dd_X11_settlesAll_0b.1) (by decide)).to, ?_⟩
  refine List.forall_mem_cons.mpr ⟨(s_iast (am_dp pw_X11_settlesAll_0 dd_X11_settlesAll_0b.2.1)).to, ?_⟩
  refine List.forall_mem_cons.mpr ⟨(s_iinc (am_dp pw_X11_settlesAll_0 dd_X11_settlesAll_0b.2.2.1) (by decide) (by decide)).to, ?_⟩
  refine List.forall_mem_cons.mpr ⟨(s_goto (am_dp pw_X11_settlesAll_0 dd_X11_settlesAll_0b.2.2.2.1) (by decide)).to, ?_⟩
  refine List.forall_mem_cons.mpr ⟨(s_iconst (am_dp pw_X11_settlesAll_0 dd_X11_settlesAll_0b.2.2.2.2.1) (by decide)).to, ?_⟩
  refine List.forall_mem_cons.mpr ⟨(s_istoren (am_dp pw_X11_settlesAll_0 dd_X11_settlesAll_0b.2.2.2.2.2.1) rfl (by decide)).to, ?_⟩
  refine List.forall_mem_cons.mpr ⟨(s_iloadn (am_dp pw_X11_settlesAll_0 dd_X11_settlesAll_0b.2.2.2.2.2.2.1) rfl).to, ?_⟩
  refine List.forall_mem_cons.mpr ⟨(s_aloadn (am_dp pw_X11_settlesAll_0 dd_X11_settlesAll_0b.2.2.2.2.2.2.2) rfl).to, ?_⟩
  refine List.forall_mem_cons.mpr ⟨(s_get (ci := 11) (k := 19) (am_dp pw_X11_settlesAll_0 dd_X11_settlesAll_0c.1) rfl (by decide) wd1352 inX11 rfl).to, ?_⟩
  refine List.forall_mem_cons.mpr ⟨(s_aloadn (am_dp pw_X11_settlesAll_0 dd_X11_settlesAll_0c.2.1) rfl).to, ?_⟩
  refine List.forall_mem_cons.mpr ⟨(s_get (ci := 11) (k := 12) (am_dp pw_X11_settlesAll_0 dd_X11_settlesAll_0c.2.2) rfl (by decide) wd1345 inX11 rfl).to, ?_⟩
  refine List.forall_mem_cons.mpr ⟨(s_iald (am_dp pw_X11_settlesAll_32 dd_X11_settlesAll_32a.1)).to, ?_⟩
  refine List.forall_mem_cons.mpr ⟨(s_icmp_ge (am_dp pw_X11_settlesAll_32 dd_X11_settlesAll_32a.2.1) (by decide)).to, ?_⟩
  refine List.forall_mem_cons.mpr ⟨(s_aloadn (am_dp pw_X11_settlesAll_32 dd_X11_settlesAll_32a.2.2.1) rfl).to, ?_⟩
  refine List.forall_mem_cons.mpr ⟨(s_iloadn (am_dp pw_X11_settlesAll_32 dd_X11_settlesAll_32a.2.2.2.1) rfl).to, ?_⟩
  refine List.forall_mem_cons.mpr ⟨zw_cv228 (am_dp pw_X11_settlesAll_32 dd_X11_settlesAll_32a.2.2.2.2.1) wd1838, ?_⟩
  refine List.forall_mem_cons.mpr ⟨(s_if_ne (am_dp pw_X11_settlesAll_32 dd_X11_settlesAll_32a.2.2.2.2.2.1) (by decide)).to, ?_⟩
  refine List.forall_mem_cons.mpr ⟨(s_goto (am_dp pw_X11_settlesAll_32 dd_X11_settlesAll_32a.2.2.2.2.2.2.1) (by decide)).to, ?_⟩
  refine List.forall_mem_cons.mpr ⟨(s_aloadn (am_dp pw_X11_settlesAll_32 dd_X11_settlesAll_32a.2.2.2.2.2.2.2) rfl).to, ?_⟩
  refine List.forall_mem_cons.mpr ⟨(s_iloadn (am_dp pw_X11_settlesAll_32 dd_X11_settlesAll_32b.1) rfl).to, ?_⟩
  refine List.forall_mem_cons.mpr ⟨zw_cv249 (am_dp pw_X11_settlesAll_32 dd_X11_settlesAll_32b.2.1) wd1938, ?_⟩
  refine List.forall_mem_cons.mpr ⟨(s_iconst (am_dp pw_X11_settlesAll_32 dd_X11_settlesAll_32b.2.2.1) (by decide)).to, ?_⟩
  refine List.forall_mem_cons.mpr ⟨(s_istoren (am_dp pw_X11_settlesAll_32 dd_X11_settlesAll_32b.2.2.2.1) rfl (by decide)).to, ?_⟩
  refine List.forall_mem_cons.mpr ⟨(s_iloadn (am_dp pw_X11_settlesAll_32 dd_X11_settlesAll_32b.2.2.2.2.1) rfl).to, ?_⟩
  refine List.forall_mem_cons.mpr ⟨(s_bipush (am_dp pw_X11_settlesAll_32 dd_X11_settlesAll_32b.2.2.2.2.2.1) (by decide)).to, ?_⟩
  refine List.forall_mem_cons.mpr ⟨(s_icmp_ge (am_dp pw_X11_settlesAll_32 dd_X11_settlesAll_32b.2.2.2.2.2.2.1) (by decide)).to, ?_⟩
  refine List.forall_mem_cons.mpr ⟨(s_aloadn (am_dp pw_X11_settlesAll_32 dd_X11_settlesAll_32b.2.2.2.2.2.2.2) rfl).to, ?_⟩
  refine List.forall_mem_cons.mpr ⟨(s_iloadn (am_dp pw_X11_settlesAll_32 dd_X11_settlesAll_32c.1) rfl).to, ?_⟩
  refine List.forall_mem_cons.mpr ⟨(s_iloadn (am_dp pw_X11_settlesAll_32 dd_X11_settlesAll_32c.2) rfl).to, ?_⟩
  refine List.forall_mem_cons.mpr ⟨zw_cv251 (am_dp pw_X11_settlesAll_64 dd_X11_settlesAll_64a.1) wd1942, ?_⟩
  refine List.forall_mem_cons.mpr ⟨(s_iconst (am_dp pw_X11_settlesAll_64 dd_X11_settlesAll_64a.2.1) (by decide)).to, ?_⟩
  refine List.forall_mem_cons.mpr ⟨(s_icmp_ge (am_dp pw_X11_settlesAll_64 dd_X11_settlesAll_64a.2.2.1) (by decide)).to, ?_⟩
  refine List.forall_mem_cons.mpr ⟨(s_goto (am_dp pw_X11_settlesAll_64 dd_X11_settlesAll_64a.2.2.2.1) (by decide)).to, ?_⟩
  refine List.forall_mem_cons.mpr ⟨(s_iconst (am_dp pw_X11_settlesAll_64 dd_X11_settlesAll_64a.2.2.2.2.1) (by decide)).to, ?_⟩
  refine List.forall_mem_cons.mpr ⟨(s_istoren (am_dp pw_X11_settlesAll_64 dd_X11_settlesAll_64a.2.2.2.2.2.1) rfl (by decide)).to, ?_⟩
  refine List.forall_mem_cons.mpr ⟨(s_iloadn (am_dp pw_X11_settlesAll_64 dd_X11_settlesAll_64a.2.2.2.2.2.2.1) rfl).to, ?_⟩
  refine List.forall_mem_cons.mpr ⟨(s_aloadn (am_dp pw_X11_settlesAll_64 dd_X11_settlesAll_64a.2.2.2.2.2.2.2) rfl).to, ?_⟩
  refine List.forall_mem_cons.mpr ⟨zw_cv214 (am_dp pw_X11_settlesAll_64 dd_X11_settlesAll_64b.1) wd1771, ?_⟩
  refine List.forall_mem_cons.mpr ⟨(s_icmp_ge (am_dp pw_X11_settlesAll_64 dd_X11_settlesAll_64b.2.1) (by decide)).to, ?_⟩
  refine List.forall_mem_cons.mpr ⟨(s_aloadn (am_dp pw_X11_settlesAll_64 dd_X11_settlesAll_64b.2.2.1) rfl).to, ?_⟩
  refine List.forall_mem_cons.mpr ⟨(s_get (ci := 11) (k := 80) (am_dp pw_X11_settlesAll_64 dd_X11_settlesAll_64b.2.2.2.1) rfl (by decide) wd1413 inX11 rfl).to, ?_⟩
  refine List.forall_mem_cons.mpr ⟨(s_sipush (am_dp pw_X11_settlesAll_64 dd_X11_settlesAll_64b.2.2.2.2.1) (by decide)).to, ?_⟩
  refine List.forall_mem_cons.mpr ⟨(s_iloadn (am_dp pw_X11_settlesAll_64 dd_X11_settlesAll_64b.2.2.2.2.2.1) rfl).to, ?_⟩
  refine List.forall_mem_cons.mpr ⟨(s_imul (am_dp pw_X11_settlesAll_64 dd_X11_settlesAll_64b.2.2.2.2.2.2.1)).to, ?_⟩
  refine List.forall_mem_cons.mpr ⟨(s_iloadn (am_dp pw_X11_settlesAll_64 dd_X11_settlesAll_64b.2.2.2.2.2.2.2) rfl).to, ?_⟩
  refine List.forall_mem_cons.mpr ⟨(s_iadd (am_dp pw_X11_settlesAll_64 dd_X11_settlesAll_64c.1)).to, ?_⟩
  refine List.forall_mem_cons.mpr ⟨(s_dup2 (am_dp pw_X11_settlesAll_64 dd_X11_settlesAll_64c.2)).to, ?_⟩
  refine List.forall_mem_cons.mpr ⟨(s_iald (am_dp pw_X11_settlesAll_96 dd_X11_settlesAll_96a.1)).to, ?_⟩
  refine List.forall_mem_cons.mpr ⟨(s_aloadn (am_dp pw_X11_settlesAll_96 dd_X11_settlesAll_96a.2.1) rfl).to, ?_⟩
  refine List.forall_mem_cons.mpr ⟨(s_iloadn (am_dp pw_X11_settlesAll_96 dd_X11_settlesAll_96a.2.2.1) rfl).to, ?_⟩
  refine List.forall_mem_cons.mpr ⟨(s_iloadn (am_dp pw_X11_settlesAll_96 dd_X11_settlesAll_96a.2.2.2.1) rfl).to, ?_⟩
  refine List.forall_mem_cons.mpr ⟨(s_iloadn (am_dp pw_X11_settlesAll_96 dd_X11_settlesAll_96a.2.2.2.2.1) rfl).to, ?_⟩
  exact fun _ h => absurd h List.not_mem_nil
theorem sn_tX11_settlesAll_1 : ∀ q ∈ tX11_settlesAll_1, am_Snd am_P0 RX11 cX11_settlesAll 4 (Option.none : Option FieldType) "settlesAll" q.1 q.2 := by
  unfold tX11_settlesAll_1
  refine List.forall_mem_cons.mpr ⟨zw_cv250 (am_dp pw_X11_settlesAll_96 dd_X11_settlesAll_96a.2.2.2.2.2.1) wd1946, ?_⟩
  refine List.forall_mem_cons.mpr ⟨(s_if_eq (am_dp pw_X11_settlesAll_96 dd_X11_settlesAll_96a.2.2.2.2.2.2.1) (by decide)).to, ?_⟩
  refine List.forall_mem_cons.mpr ⟨(s_iconst (am_dp pw_X11_settlesAll_96 dd_X11_settlesAll_96a.2.2.2.2.2.2.2) (by decide)).to, ?_⟩
  refine List.forall_mem_cons.mpr ⟨(s_goto (am_dp pw_X11_settlesAll_96 dd_X11_settlesAll_96b.1) (by decide)).to, ?_⟩
  refine List.forall_mem_cons.mpr ⟨(s_iconst (am_dp pw_X11_settlesAll_96 dd_X11_settlesAll_96b.2.1) (by decide)).to, ?_⟩
  refine List.forall_mem_cons.mpr ⟨(s_iadd (am_dp pw_X11_settlesAll_96 dd_X11_settlesAll_96b.2.2.1)).to, ?_⟩
  refine List.forall_mem_cons.mpr ⟨(s_iast (am_dp pw_X11_settlesAll_96 dd_X11_settlesAll_96b.2.2.2.1)).to, ?_⟩
  refine List.forall_mem_cons.mpr ⟨(s_iinc (am_dp pw_X11_settlesAll_96 dd_X11_settlesAll_96b.2.2.2.2.1) (by decide) (by decide)).to, ?_⟩
  refine List.forall_mem_cons.mpr ⟨(s_goto (am_dp pw_X11_settlesAll_96 dd_X11_settlesAll_96b.2.2.2.2.2.1) (by decide)).to, ?_⟩
  refine List.forall_mem_cons.mpr ⟨(s_iinc (am_dp pw_X11_settlesAll_96 dd_X11_settlesAll_96b.2.2.2.2.2.2.1) (by decide) (by decide)).to, ?_⟩
  refine List.forall_mem_cons.mpr ⟨(s_goto (am_dp pw_X11_settlesAll_96 dd_X11_settlesAll_96b.2.2.2.2.2.2.2) (by decide)).to, ?_⟩
  refine List.forall_mem_cons.mpr ⟨(s_iinc (am_dp pw_X11_settlesAll_96 dd_X11_settlesAll_96c) (by decide) (by decide)).to, ?_⟩
  refine List.forall_mem_cons.mpr ⟨(s_goto (am_dp pw_X11_settlesAll_128 dd_X11_settlesAll_128a.1) (by decide)).to, ?_⟩
  refine List.forall_mem_cons.mpr ⟨s_vret (am_dp pw_X11_settlesAll_128 dd_X11_settlesAll_128a.2) rfl, ?_⟩
  exact fun _ h => absurd h List.not_mem_nil
theorem sn_tX11_settlesAll : ∀ q ∈ tX11_settlesAll, am_Snd am_P0 RX11 cX11_settlesAll 4 (Option.none : Option FieldType) "settlesAll" q.1 q.2 := by
  unfold tX11_settlesAll
  exact List.forall_mem_append.mpr ⟨sn_tX11_settlesAll_0, sn_tX11_settlesAll_1⟩
theorem sn_tX11_settles : ∀ q ∈ tX11_settles, am_Snd am_P0 RX11 cX11_settles 4 (Option.some FieldType.int) "settles" q.1 q.2 := by
  unfold tX11_settles
  refine List.forall_mem_cons.mpr ⟨(s_iloadn (am_dp pw_X11_settles_0 dd_X11_settles_0a.1) rfl).to, ?_⟩
  refine List.forall_mem_cons.mpr ⟨zw_cs219 (am_dp pw_X11_settles_0 dd_X11_settles_0a.2.1) wd1823, ?_⟩
  refine List.forall_mem_cons.mpr ⟨(s_if_eq (am_dp pw_X11_settles_0 dd_X11_settles_0a.2.2.1) (by decide)).to, ?_⟩
  refine List.forall_mem_cons.mpr ⟨(s_aloadn (am_dp pw_X11_settles_0 dd_X11_settles_0a.2.2.2.1) rfl).to, ?_⟩
  refine List.forall_mem_cons.mpr ⟨(s_iloadn (am_dp pw_X11_settles_0 dd_X11_settles_0a.2.2.2.2.1) rfl).to, ?_⟩
  refine List.forall_mem_cons.mpr ⟨(s_iloadn (am_dp pw_X11_settles_0 dd_X11_settles_0a.2.2.2.2.2.1) rfl).to, ?_⟩
  refine List.forall_mem_cons.mpr ⟨zw_cv217 (am_dp pw_X11_settles_0 dd_X11_settles_0a.2.2.2.2.2.2.1) wd1819, ?_⟩
  refine List.forall_mem_cons.mpr ⟨(s_if_ne (am_dp pw_X11_settles_0 dd_X11_settles_0a.2.2.2.2.2.2.2) (by decide)).to, ?_⟩
  refine List.forall_mem_cons.mpr ⟨(s_iconst (am_dp pw_X11_settles_0 dd_X11_settles_0b.1) (by decide)).to, ?_⟩
  refine List.forall_mem_cons.mpr ⟨s_iret (am_dp pw_X11_settles_0 dd_X11_settles_0b.2.1) rfl, ?_⟩
  refine List.forall_mem_cons.mpr ⟨(s_aloadn (am_dp pw_X11_settles_0 dd_X11_settles_0b.2.2.1) rfl).to, ?_⟩
  refine List.forall_mem_cons.mpr ⟨zw_cv287 (am_dp pw_X11_settles_0 dd_X11_settles_0b.2.2.2.1) wd2086, ?_⟩
  refine List.forall_mem_cons.mpr ⟨(s_aloadn (am_dp pw_X11_settles_0 dd_X11_settles_0b.2.2.2.2.1) rfl).to, ?_⟩
  refine List.forall_mem_cons.mpr ⟨(s_get (ci := 11) (k := 80) (am_dp pw_X11_settles_0 dd_X11_settles_0b.2.2.2.2.2.1) rfl (by decide) wd1413 inX11 rfl).to, ?_⟩
  refine List.forall_mem_cons.mpr ⟨(s_sipush (am_dp pw_X11_settles_0 dd_X11_settles_0b.2.2.2.2.2.2.1) (by decide)).to, ?_⟩
  refine List.forall_mem_cons.mpr ⟨(s_iloadn (am_dp pw_X11_settles_0 dd_X11_settles_0b.2.2.2.2.2.2.2) rfl).to, ?_⟩
  refine List.forall_mem_cons.mpr ⟨(s_imul (am_dp pw_X11_settles_0 dd_X11_settles_0c.1)).to, ?_⟩
  refine List.forall_mem_cons.mpr ⟨(s_aloadn (am_dp pw_X11_settles_0 dd_X11_settles_0c.2) rfl).to, ?_⟩
  refine List.forall_mem_cons.mpr ⟨(s_iloadn (am_dp pw_X11_settles_32 dd_X11_settles_32a.1) rfl).to, ?_⟩
  refine List.forall_mem_cons.mpr ⟨(s_iloadn (am_dp pw_X11_settles_32 dd_X11_settles_32a.2.1) rfl).to, ?_⟩
  refine List.forall_mem_cons.mpr ⟨zw_cv218 (am_dp pw_X11_settles_32 dd_X11_settles_32a.2.2.1) wd1826, ?_⟩
  refine List.forall_mem_cons.mpr ⟨(s_iadd (am_dp pw_X11_settles_32 dd_X11_settles_32a.2.2.2.1)).to, ?_⟩
  refine List.forall_mem_cons.mpr ⟨(s_iald (am_dp pw_X11_settles_32 dd_X11_settles_32a.2.2.2.2.1)).to, ?_⟩
  refine List.forall_mem_cons.mpr ⟨s_iret (am_dp pw_X11_settles_32 dd_X11_settles_32a.2.2.2.2.2) rfl, ?_⟩
  exact fun _ h => absurd h List.not_mem_nil
theorem sn_tX11_next_0 : ∀ q ∈ tX11_next_0, am_Snd am_P0 RX11 cX11_next 7 (Option.some FieldType.int) "next" q.1 q.2 := by
  unfold tX11_next_0
  refine List.forall_mem_cons.mpr ⟨(s_iloadn (am_dp pw_X11_next_0 dd_X11_next_0a.1) rfl).to, ?_⟩
  refine List.forall_mem_cons.mpr ⟨(s_iconst (am_dp pw_X11_next_0 dd_X11_next_0a.2.1) (by decide)).to, ?_⟩
  refine List.forall_mem_cons.mpr ⟨(s_iconst (am_dp pw_X11_next_0 dd_X11_next_0a.2.2.1) (by decide)).to, ?_⟩
  refine List.forall_mem_cons.mpr ⟨zw_cs167 (am_dp pw_X11_next_0 dd_X11_next_0a.2.2.2.1) wd1630, ?_⟩
  refine List.forall_mem_cons.mpr ⟨(s_if_ne (am_dp pw_X11_next_0 dd_X11_next_0a.2.2.2.2.1) (by decide)).to, ?_⟩
  refine List.forall_mem_cons.mpr ⟨(s_iconst (am_dp pw_X11_next_0 dd_X11_next_0a.2.2.2.2.2.1) (by decide)).to, ?_⟩
  refine List.forall_mem_cons.mpr ⟨s_iret (am_dp pw_X11_next_0 dd_X11_next_0a.2.2.2.2.2.2.1) rfl, ?_⟩
  refine List.forall_mem_cons.mpr ⟨(s_aloadn (am_dp pw_X11_next_0 dd_X11_next_0a.2.2.2.2.2.2.2) rfl).to, ?_⟩
  refine List.forall_mem_cons.mpr ⟨zw_cv287 (am_dp pw_X11_next_0 dd_X11_next_0b.1) wd2086, ?_⟩
  refine List.forall_mem_cons.mpr ⟨(s_iconst (am_dp pw_X11_next_0 dd_X11_next_0b.2.1) (by decide)).to, ?_⟩
  refine List.forall_mem_cons.mpr ⟨(s_istoren (am_dp pw_X11_next_0 dd_X11_next_0b.2.2.1) rfl (by decide)).to, ?_⟩
  refine List.forall_mem_cons.mpr ⟨(s_iconst (am_dp pw_X11_next_0 dd_X11_next_0b.2.2.2.1) (by decide)).to, ?_⟩
  refine List.forall_mem_cons.mpr ⟨(s_istoren (am_dp pw_X11_next_0 dd_X11_next_0b.2.2.2.2.1) rfl (by decide)).to, ?_⟩
  refine List.forall_mem_cons.mpr ⟨(s_iloadn (am_dp pw_X11_next_0 dd_X11_next_0b.2.2.2.2.2.1) rfl).to, ?_⟩
  refine List.forall_mem_cons.mpr ⟨(s_bipush (am_dp pw_X11_next_0 dd_X11_next_0b.2.2.2.2.2.2.1) (by decide)).to, ?_⟩
  refine List.forall_mem_cons.mpr ⟨(s_icmp_ge (am_dp pw_X11_next_0 dd_X11_next_0b.2.2.2.2.2.2.2) (by decide)).to, ?_⟩
  refine List.forall_mem_cons.mpr ⟨(s_iconst (am_dp pw_X11_next_0 dd_X11_next_0c.1) (by decide)).to, ?_⟩
  refine List.forall_mem_cons.mpr ⟨(s_istore (am_dp pw_X11_next_0 dd_X11_next_0c.2.1) (by decide)).to, ?_⟩
  refine List.forall_mem_cons.mpr ⟨(s_iload (am_dp pw_X11_next_0 dd_X11_next_0c.2.2.1)).to, ?_⟩
  refine List.forall_mem_cons.mpr ⟨(s_aloadn (am_dp pw_X11_next_0 dd_X11_next_0c.2.2.2.1) rfl).to, ?_⟩
  refine List.forall_mem_cons.mpr ⟨zw_cv214 (am_dp pw_X11_next_0 dd_X11_next_0c.2.2.2.2) wd1771, ?_⟩
  refine List.forall_mem_cons.mpr ⟨(s_icmp_ge (am_dp pw_X11_next_32 dd_X11_next_32a.1) (by decide)).to, ?_⟩
  refine List.forall_mem_cons.mpr ⟨(s_sipush (am_dp pw_X11_next_32 dd_X11_next_32a.2.1) (by decide)).to, ?_⟩
  refine List.forall_mem_cons.mpr ⟨(s_iloadn (am_dp pw_X11_next_32 dd_X11_next_32a.2.2.1) rfl).to, ?_⟩
  refine List.forall_mem_cons.mpr ⟨(s_imul (am_dp pw_X11_next_32 dd_X11_next_32a.2.2.2.1)).to, ?_⟩
  refine List.forall_mem_cons.mpr ⟨(s_iload (am_dp pw_X11_next_32 dd_X11_next_32a.2.2.2.2.1)).to, ?_⟩
  refine List.forall_mem_cons.mpr ⟨(s_iadd (am_dp pw_X11_next_32 dd_X11_next_32a.2.2.2.2.2.1)).to, ?_⟩
  refine List.forall_mem_cons.mpr ⟨(s_istore (am_dp pw_X11_next_32 dd_X11_next_32a.2.2.2.2.2.2.1) (by decide)).to, ?_⟩
  refine List.forall_mem_cons.mpr ⟨(s_iloadn (am_dp pw_X11_next_32 dd_X11_next_32a.2.2.2.2.2.2.2) rfl).to, ?_⟩
  refine List.forall_mem_cons.mpr ⟨(s_iconst (am_dp pw_X11_next_32 dd_X11_next_32b.1) (by decide)).to, ?_⟩
  refine List.forall_mem_cons.mpr ⟨(s_icmp_ne (am_dp pw_X11_next_32 dd_X11_next_32b.2.1) (by decide)).to, ?_⟩
  refine List.forall_mem_cons.mpr ⟨(s_aloadn (am_dp pw_X11_next_32 dd_X11_next_32b.2.2.1) rfl).to, ?_⟩
  refine List.forall_mem_cons.mpr ⟨(s_get (ci := 11) (k := 80) (am_dp pw_X11_next_32 dd_X11_next_32b.2.2.2.1) rfl (by decide) wd1413 inX11 rfl).to, ?_⟩
  refine List.forall_mem_cons.mpr ⟨(s_iload (am_dp pw_X11_next_32 dd_X11_next_32b.2.2.2.2.1)).to, ?_⟩
  refine List.forall_mem_cons.mpr ⟨(s_iald (am_dp pw_X11_next_32 dd_X11_next_32b.2.2.2.2.2.1)).to, ?_⟩
  refine List.forall_mem_cons.mpr ⟨(s_if_le (am_dp pw_X11_next_32 dd_X11_next_32b.2.2.2.2.2.2.1) (by decide)).to, ?_⟩
  refine List.forall_mem_cons.mpr ⟨(s_iconst (am_dp pw_X11_next_32 dd_X11_next_32b.2.2.2.2.2.2.2) (by decide)).to, ?_⟩
  refine List.forall_mem_cons.mpr ⟨(s_goto (am_dp pw_X11_next_32 dd_X11_next_32c) (by decide)).to, ?_⟩
  refine List.forall_mem_cons.mpr ⟨(s_iconst (am_dp pw_X11_next_64 dd_X11_next_64a.1) (by decide)).to, ?_⟩
  refine List.forall_mem_cons.mpr ⟨(s_goto (am_dp pw_X11_next_64 dd_X11_next_64a.2.1) (by decide)).to, ?_⟩
  refine List.forall_mem_cons.mpr ⟨(s_aloadn (am_dp pw_X11_next_64 dd_X11_next_64a.2.2.1) rfl).to, ?_⟩
  refine List.forall_mem_cons.mpr ⟨(s_get (ci := 11) (k := 80) (am_dp pw_X11_next_64 dd_X11_next_64a.2.2.2.1) rfl (by decide) wd1413 inX11 rfl).to, ?_⟩
  refine List.forall_mem_cons.mpr ⟨(s_iload (am_dp pw_X11_next_64 dd_X11_next_64a.2.2.2.2.1)).to, ?_⟩
  refine List.forall_mem_cons.mpr ⟨(s_iald (am_dp pw_X11_next_64 dd_X11_next_64a.2.2.2.2.2.1)).to, ?_⟩
  refine List.forall_mem_cons.mpr ⟨(s_aloadn (am_dp pw_X11_next_64 dd_X11_next_64a.2.2.2.2.2.2.1) rfl).to, ?_⟩
  refine List.forall_mem_cons.mpr ⟨(s_get (ci := 11) (k := 80) (am_dp pw_X11_next_64 dd_X11_next_64a.2.2.2.2.2.2.2) rfl (by decide) wd1413 inX11 rfl).to, ?_⟩
  refine List.forall_mem_cons.mpr ⟨(s_iloadn (am_dp pw_X11_next_64 dd_X11_next_64b.1) rfl).to, ?_⟩
  refine List.forall_mem_cons.mpr ⟨(s_iald (am_dp pw_X11_next_64 dd_X11_next_64b.2.1)).to, ?_⟩
  refine List.forall_mem_cons.mpr ⟨(s_icmp_gt (am_dp pw_X11_next_64 dd_X11_next_64b.2.2.1) (by decide)).to, ?_⟩
  refine List.forall_mem_cons.mpr ⟨(s_aloadn (am_dp pw_X11_next_64 dd_X11_next_64b.2.2.2.1) rfl).to, ?_⟩
  refine List.forall_mem_cons.mpr ⟨(s_get (ci := 11) (k := 80) (am_dp pw_X11_next_64 dd_X11_next_64b.2.2.2.2.1) rfl (by decide) wd1413 inX11 rfl).to, ?_⟩
  refine List.forall_mem_cons.mpr ⟨(s_iload (am_dp pw_X11_next_64 dd_X11_next_64b.2.2.2.2.2.1)).to, ?_⟩
  refine List.forall_mem_cons.mpr ⟨(s_iald (am_dp pw_X11_next_64 dd_X11_next_64b.2.2.2.2.2.2.1)).to, ?_⟩
  refine List.forall_mem_cons.mpr ⟨(s_aloadn (am_dp pw_X11_next_64 dd_X11_next_64b.2.2.2.2.2.2.2) rfl).to, ?_⟩
  refine List.forall_mem_cons.mpr ⟨(s_get (ci := 11) (k := 80) (am_dp pw_X11_next_64 dd_X11_next_64c) rfl (by decide) wd1413 inX11 rfl).to, ?_⟩
  refine List.forall_mem_cons.mpr ⟨(s_iloadn (am_dp pw_X11_next_96 dd_X11_next_96a.1) rfl).to, ?_⟩
  refine List.forall_mem_cons.mpr ⟨(s_iald (am_dp pw_X11_next_96 dd_X11_next_96a.2.1)).to, ?_⟩
  refine List.forall_mem_cons.mpr ⟨(s_icmp_ne (am_dp pw_X11_next_96 dd_X11_next_96a.2.2.1) (by decide)).to, ?_⟩
  refine List.forall_mem_cons.mpr ⟨(s_aloadn (am_dp pw_X11_next_96 dd_X11_next_96a.2.2.2.1) rfl).to, ?_⟩
  refine List.forall_mem_cons.mpr ⟨(s_get (ci := 11) (k := 56) (am_dp pw_X11_next_96 dd_X11_next_96a.2.2.2.2.1) rfl (by decide) wd1389 inX11 rfl).to, ?_⟩
  exact fun _ h => absurd h List.not_mem_nil
theorem sn_tX11_next_1 : ∀ q ∈ tX11_next_1, am_Snd am_P0 RX11 cX11_next 7 (Option.some FieldType.int) "next" q.1 q.2 := by
  unfold tX11_next_1
  refine List.forall_mem_cons.mpr ⟨(s_iload (am_dp pw_X11_next_96 dd_X11_next_96a.2.2.2.2.2.1)).to, ?_⟩
  refine List.forall_mem_cons.mpr ⟨(s_iald (am_dp pw_X11_next_96 dd_X11_next_96a.2.2.2.2.2.2.1)).to, ?_⟩
  refine List.forall_mem_cons.mpr ⟨(s_aloadn (am_dp pw_X11_next_96 dd_X11_next_96a.2.2.2.2.2.2.2) rfl).to, ?_⟩
  refine List.forall_mem_cons.mpr ⟨(s_get (ci := 11) (k := 56) (am_dp pw_X11_next_96 dd_X11_next_96b.1) rfl (by decide) wd1389 inX11 rfl).to, ?_⟩
  refine List.forall_mem_cons.mpr ⟨(s_iloadn (am_dp pw_X11_next_96 dd_X11_next_96b.2.1) rfl).to, ?_⟩
  refine List.forall_mem_cons.mpr ⟨(s_sipush (am_dp pw_X11_next_96 dd_X11_next_96b.2.2.1) (by decide)).to, ?_⟩
  refine List.forall_mem_cons.mpr ⟨(s_irem (am_dp pw_X11_next_96 dd_X11_next_96b.2.2.2.1)).to, ?_⟩
  refine List.forall_mem_cons.mpr ⟨(s_iald (am_dp pw_X11_next_96 dd_X11_next_96b.2.2.2.2.1)).to, ?_⟩
  refine List.forall_mem_cons.mpr ⟨(s_icmp_ge (am_dp pw_X11_next_96 dd_X11_next_96b.2.2.2.2.2.1) (by decide)).to, ?_⟩
  refine List.forall_mem_cons.mpr ⟨(s_iconst (am_dp pw_X11_next_96 dd_X11_next_96b.2.2.2.2.2.2.1) (by decide)).to, ?_⟩
  refine List.forall_mem_cons.mpr ⟨(s_goto (am_dp pw_X11_next_96 dd_X11_next_96b.2.2.2.2.2.2.2) (by decide)).to, ?_⟩
  refine List.forall_mem_cons.mpr ⟨(s_iconst (am_dp pw_X11_next_96 dd_X11_next_96c.1) (by decide)).to, ?_⟩
  refine List.forall_mem_cons.mpr ⟨(s_istore (am_dp pw_X11_next_96 dd_X11_next_96c.2) (by decide)).to, ?_⟩
  refine List.forall_mem_cons.mpr ⟨(s_iload (am_dp pw_X11_next_128 dd_X11_next_128a.1)).to, ?_⟩
  refine List.forall_mem_cons.mpr ⟨(s_if_eq (am_dp pw_X11_next_128 dd_X11_next_128a.2.1) (by decide)).to, ?_⟩
  refine List.forall_mem_cons.mpr ⟨(s_iload (am_dp pw_X11_next_128 dd_X11_next_128a.2.2.1)).to, ?_⟩
  refine List.forall_mem_cons.mpr ⟨(s_goto (am_dp pw_X11_next_128 dd_X11_next_128a.2.2.2.1) (by decide)).to, ?_⟩
  refine List.forall_mem_cons.mpr ⟨(s_iloadn (am_dp pw_X11_next_128 dd_X11_next_128a.2.2.2.2.1) rfl).to, ?_⟩
  refine List.forall_mem_cons.mpr ⟨(s_istoren (am_dp pw_X11_next_128 dd_X11_next_128a.2.2.2.2.2.1) rfl (by decide)).to, ?_⟩
  refine List.forall_mem_cons.mpr ⟨(s_iinc (am_dp pw_X11_next_128 dd_X11_next_128a.2.2.2.2.2.2.1) (by decide) (by decide)).to, ?_⟩
  refine List.forall_mem_cons.mpr ⟨(s_goto (am_dp pw_X11_next_128 dd_X11_next_128a.2.2.2.2.2.2.2) (by decide)).to, ?_⟩
  refine List.forall_mem_cons.mpr ⟨(s_iinc (am_dp pw_X11_next_128 dd_X11_next_128b.1) (by decide) (by decide)).to, ?_⟩
  refine List.forall_mem_cons.mpr ⟨(s_goto (am_dp pw_X11_next_128 dd_X11_next_128b.2.1) (by decide)).to, ?_⟩
  refine List.forall_mem_cons.mpr ⟨(s_iloadn (am_dp pw_X11_next_128 dd_X11_next_128b.2.2.1) rfl).to, ?_⟩
  refine List.forall_mem_cons.mpr ⟨(s_iconst (am_dp pw_X11_next_128 dd_X11_next_128b.2.2.2.1) (by decide)).to, ?_⟩
  refine List.forall_mem_cons.mpr ⟨(s_icmp_ne (am_dp pw_X11_next_128 dd_X11_next_128b.2.2.2.2.1) (by decide)).to, ?_⟩
  refine List.forall_mem_cons.mpr ⟨(s_iconst (am_dp pw_X11_next_128 dd_X11_next_128b.2.2.2.2.2.1) (by decide)).to, ?_⟩
  refine List.forall_mem_cons.mpr ⟨s_iret (am_dp pw_X11_next_128 dd_X11_next_128b.2.2.2.2.2.2) rfl, ?_⟩
  refine List.forall_mem_cons.mpr ⟨(s_iloadn (am_dp pw_X11_next_160 dd_X11_next_160a.1) rfl).to, ?_⟩
  refine List.forall_mem_cons.mpr ⟨(s_if_ne (am_dp pw_X11_next_160 dd_X11_next_160a.2.1) (by decide)).to, ?_⟩
  refine List.forall_mem_cons.mpr ⟨(s_iloadn (am_dp pw_X11_next_160 dd_X11_next_160a.2.2.1) rfl).to, ?_⟩
  refine List.forall_mem_cons.mpr ⟨(s_sipush (am_dp pw_X11_next_160 dd_X11_next_160a.2.2.2.1) (by decide)).to, ?_⟩
  refine List.forall_mem_cons.mpr ⟨(s_idiv (am_dp pw_X11_next_160 dd_X11_next_160a.2.2.2.2.1)).to, ?_⟩
  refine List.forall_mem_cons.mpr ⟨(s_goto (am_dp pw_X11_next_160 dd_X11_next_160a.2.2.2.2.2.1) (by decide)).to, ?_⟩
  refine List.forall_mem_cons.mpr ⟨(s_iloadn (am_dp pw_X11_next_160 dd_X11_next_160a.2.2.2.2.2.2.1) rfl).to, ?_⟩
  refine List.forall_mem_cons.mpr ⟨(s_iconst (am_dp pw_X11_next_160 dd_X11_next_160a.2.2.2.2.2.2.2) (by decide)).to, ?_⟩
  refine List.forall_mem_cons.mpr ⟨(s_icmp_ne (am_dp pw_X11_next_160 dd_X11_next_160b.1) (by decide)).to, ?_⟩
  refine List.forall_mem_cons.mpr ⟨(s_iloadn (am_dp pw_X11_next_160 dd_X11_next_160b.2.1) rfl).to, ?_⟩
  refine List.forall_mem_cons.mpr ⟨(s_sipush (am_dp pw_X11_next_160 dd_X11_next_160b.2.2.1) (by decide)).to, ?_⟩
  refine List.forall_mem_cons.mpr ⟨(s_irem (am_dp pw_X11_next_160 dd_X11_next_160b.2.2.2.1)).to, ?_⟩
  refine List.forall_mem_cons.mpr ⟨(s_goto (am_dp pw_X11_next_160 dd_X11_next_160b.2.2.2.2.1) (by decide)).to, ?_⟩
  refine List.forall_mem_cons.mpr ⟨(s_aloadn (am_dp pw_X11_next_160 dd_X11_next_160b.2.2.2.2.2.1) rfl).to, ?_⟩
  refine List.forall_mem_cons.mpr ⟨(s_get (ci := 11) (k := 80) (am_dp pw_X11_next_160 dd_X11_next_160b.2.2.2.2.2.2.1) rfl (by decide) wd1413 inX11 rfl).to, ?_⟩
  refine List.forall_mem_cons.mpr ⟨(s_iloadn (am_dp pw_X11_next_160 dd_X11_next_160b.2.2.2.2.2.2.2) rfl).to, ?_⟩
  refine List.forall_mem_cons.mpr ⟨(s_iald (am_dp pw_X11_next_160 dd_X11_next_160c.1)).to, ?_⟩
  refine List.forall_mem_cons.mpr ⟨s_iret (am_dp pw_X11_next_160 dd_X11_next_160c.2) rfl, ?_⟩
  exact fun _ h => absurd h List.not_mem_nil
theorem sn_tX11_next : ∀ q ∈ tX11_next, am_Snd am_P0 RX11 cX11_next 7 (Option.some FieldType.int) "next" q.1 q.2 := by
  unfold tX11_next
  exact List.forall_mem_append.mpr ⟨sn_tX11_next_0, sn_tX11_next_1⟩
theorem sn_tX11_offOf : ∀ q ∈ tX11_offOf, am_Snd am_P0 RX11 cX11_offOf 6 (Option.some FieldType.int) "offOf" q.1 q.2 := by
  unfold tX11_offOf
  refine List.forall_mem_cons.mpr ⟨(s_iconst (am_dp pw_X11_offOf_0 dd_X11_offOf_0a.1) (by decide)).to, ?_⟩
  refine List.forall_mem_cons.mpr ⟨(s_istoren (am_dp pw_X11_offOf_0 dd_X11_offOf_0a.2.1) rfl (by decide)).to, ?_⟩
  refine List.forall_mem_cons.mpr ⟨(s_iloadn (am_dp pw_X11_offOf_0 dd_X11_offOf_0a.2.2.1) rfl).to, ?_⟩
  refine List.forall_mem_cons.mpr ⟨(s_bipush (am_dp pw_X11_offOf_0 dd_X11_offOf_0a.2.2.2.1) (by decide)).to, ?_⟩
  refine List.forall_mem_cons.mpr ⟨(s_icmp_gt (am_dp pw_X11_offOf_0 dd_X11_offOf_0a.2.2.2.2.1) (by decide)).to, ?_⟩
  refine List.forall_mem_cons.mpr ⟨(s_iloadn (am_dp pw_X11_offOf_0 dd_X11_offOf_0a.2.2.2.2.2.1) rfl).to, ?_⟩
  refine List.forall_mem_cons.mpr ⟨(s_iconst (am_dp pw_X11_offOf_0 dd_X11_offOf_0a.2.2.2.2.2.2.1) (by decide)).to, ?_⟩
  refine List.forall_mem_cons.mpr ⟨(s_irem (am_dp pw_X11_offOf_0 dd_X11_offOf_0a.2.2.2.2.2.2.2)).to, ?_⟩
  refine List.forall_mem_cons.mpr ⟨(s_if_ne (am_dp pw_X11_offOf_0 dd_X11_offOf_0b.1) (by decide)).to, ?_⟩
  refine List.forall_mem_cons.mpr ⟨(s_iloadn (am_dp pw_X11_offOf_0 dd_X11_offOf_0b.2.1) rfl).to, ?_⟩
  refine List.forall_mem_cons.mpr ⟨(s_iconst (am_dp pw_X11_offOf_0 dd_X11_offOf_0b.2.2.1) (by decide)).to, ?_⟩
  refine List.forall_mem_cons.mpr ⟨(s_idiv (am_dp pw_X11_offOf_0 dd_X11_offOf_0b.2.2.2.1)).to, ?_⟩
  refine List.forall_mem_cons.mpr ⟨(s_goto (am_dp pw_X11_offOf_0 dd_X11_offOf_0b.2.2.2.2.1) (by decide)).to, ?_⟩
  refine List.forall_mem_cons.mpr ⟨(s_iloadn (am_dp pw_X11_offOf_0 dd_X11_offOf_0b.2.2.2.2.2.1) rfl).to, ?_⟩
  refine List.forall_mem_cons.mpr ⟨(s_iconst (am_dp pw_X11_offOf_0 dd_X11_offOf_0b.2.2.2.2.2.2.1) (by decide)).to, ?_⟩
  refine List.forall_mem_cons.mpr ⟨(s_iadd (am_dp pw_X11_offOf_0 dd_X11_offOf_0b.2.2.2.2.2.2.2)).to, ?_⟩
  refine List.forall_mem_cons.mpr ⟨(s_ineg (am_dp pw_X11_offOf_0 dd_X11_offOf_0c.1)).to, ?_⟩
  refine List.forall_mem_cons.mpr ⟨(s_iconst (am_dp pw_X11_offOf_0 dd_X11_offOf_0c.2.1) (by decide)).to, ?_⟩
  refine List.forall_mem_cons.mpr ⟨(s_idiv (am_dp pw_X11_offOf_0 dd_X11_offOf_0c.2.2.1)).to, ?_⟩
  refine List.forall_mem_cons.mpr ⟨(s_istoren (am_dp pw_X11_offOf_0 dd_X11_offOf_0c.2.2.2.1) rfl (by decide)).to, ?_⟩
  refine List.forall_mem_cons.mpr ⟨(s_aloadn (am_dp pw_X11_offOf_0 dd_X11_offOf_0c.2.2.2.2.1) rfl).to, ?_⟩
  refine List.forall_mem_cons.mpr ⟨(s_iconst (am_dp pw_X11_offOf_0 dd_X11_offOf_0c.2.2.2.2.2.1) (by decide)).to, ?_⟩
  refine List.forall_mem_cons.mpr ⟨(s_put (ci := 11) (k := 60) (am_dp pw_X11_offOf_0 dd_X11_offOf_0c.2.2.2.2.2.2) rfl (by decide) wd1393 inX11 tyX11_ok nmX11 rfl rfl).to, ?_⟩
  refine List.forall_mem_cons.mpr ⟨(s_aloadn (am_dp pw_X11_offOf_32 dd_X11_offOf_32a.1) rfl).to, ?_⟩
  refine List.forall_mem_cons.mpr ⟨(s_iloadn (am_dp pw_X11_offOf_32 dd_X11_offOf_32a.2.1) rfl).to, ?_⟩
  refine List.forall_mem_cons.mpr ⟨(s_iloadn (am_dp pw_X11_offOf_32 dd_X11_offOf_32a.2.2.1) rfl).to, ?_⟩
  refine List.forall_mem_cons.mpr ⟨(s_iloadn (am_dp pw_X11_offOf_32 dd_X11_offOf_32a.2.2.2.1) rfl).to, ?_⟩
  refine List.forall_mem_cons.mpr ⟨zw_cv242 (am_dp pw_X11_offOf_32 dd_X11_offOf_32a.2.2.2.2.1) wd1970, ?_⟩
  refine List.forall_mem_cons.mpr ⟨(s_istore (am_dp pw_X11_offOf_32 dd_X11_offOf_32a.2.2.2.2.2.1) (by decide)).to, ?_⟩
  refine List.forall_mem_cons.mpr ⟨(s_aloadn (am_dp pw_X11_offOf_32 dd_X11_offOf_32a.2.2.2.2.2.2.1) rfl).to, ?_⟩
  refine List.forall_mem_cons.mpr ⟨(s_get (ci := 11) (k := 60) (am_dp pw_X11_offOf_32 dd_X11_offOf_32a.2.2.2.2.2.2.2) rfl (by decide) wd1393 inX11 rfl).to, ?_⟩
  refine List.forall_mem_cons.mpr ⟨(s_istore (am_dp pw_X11_offOf_32 dd_X11_offOf_32b.1) (by decide)).to, ?_⟩
  refine List.forall_mem_cons.mpr ⟨(s_aloadn (am_dp pw_X11_offOf_32 dd_X11_offOf_32b.2.1) rfl).to, ?_⟩
  refine List.forall_mem_cons.mpr ⟨(s_iloadn (am_dp pw_X11_offOf_32 dd_X11_offOf_32b.2.2.1) rfl).to, ?_⟩
  refine List.forall_mem_cons.mpr ⟨zw_cv241 (am_dp pw_X11_offOf_32 dd_X11_offOf_32b.2.2.2.1) wd1887, ?_⟩
  refine List.forall_mem_cons.mpr ⟨(s_iload (am_dp pw_X11_offOf_32 dd_X11_offOf_32b.2.2.2.2.1)).to, ?_⟩
  refine List.forall_mem_cons.mpr ⟨(s_if_le (am_dp pw_X11_offOf_32 dd_X11_offOf_32b.2.2.2.2.2.1) (by decide)).to, ?_⟩
  refine List.forall_mem_cons.mpr ⟨(s_iload (am_dp pw_X11_offOf_32 dd_X11_offOf_32b.2.2.2.2.2.2.1)).to, ?_⟩
  refine List.forall_mem_cons.mpr ⟨(s_if_eq (am_dp pw_X11_offOf_32 dd_X11_offOf_32b.2.2.2.2.2.2.2) (by decide)).to, ?_⟩
  refine List.forall_mem_cons.mpr ⟨(s_aloadn (am_dp pw_X11_offOf_32 dd_X11_offOf_32c.1) rfl).to, ?_⟩
  refine List.forall_mem_cons.mpr ⟨(s_iloadn (am_dp pw_X11_offOf_32 dd_X11_offOf_32c.2) rfl).to, ?_⟩
  refine List.forall_mem_cons.mpr ⟨zw_cv244 (am_dp pw_X11_offOf_64 dd_X11_offOf_64a.1) wd1895, ?_⟩
  refine List.forall_mem_cons.mpr ⟨(s_if_eq (am_dp pw_X11_offOf_64 dd_X11_offOf_64a.2.1) (by decide)).to, ?_⟩
  refine List.forall_mem_cons.mpr ⟨(s_iloadn (am_dp pw_X11_offOf_64 dd_X11_offOf_64a.2.2.1) rfl).to, ?_⟩
  refine List.forall_mem_cons.mpr ⟨s_iret (am_dp pw_X11_offOf_64 dd_X11_offOf_64a.2.2.2.1) rfl, ?_⟩
  refine List.forall_mem_cons.mpr ⟨(s_iinc (am_dp pw_X11_offOf_64 dd_X11_offOf_64a.2.2.2.2.1) (by decide) (by decide)).to, ?_⟩
  refine List.forall_mem_cons.mpr ⟨(s_goto (am_dp pw_X11_offOf_64 dd_X11_offOf_64a.2.2.2.2.2.1) (by decide)).to, ?_⟩
  refine List.forall_mem_cons.mpr ⟨(s_bipush (am_dp pw_X11_offOf_64 dd_X11_offOf_64a.2.2.2.2.2.2.1) (by decide)).to, ?_⟩
  refine List.forall_mem_cons.mpr ⟨s_iret (am_dp pw_X11_offOf_64 dd_X11_offOf_64a.2.2.2.2.2.2.2) rfl, ?_⟩
  exact fun _ h => absurd h List.not_mem_nil
theorem sn_tX11_off : ∀ q ∈ tX11_off, am_Snd am_P0 RX11 cX11_off 2 (Option.some FieldType.int) "off" q.1 q.2 := by
  unfold tX11_off
  refine List.forall_mem_cons.mpr ⟨(s_aloadn (am_dp pw_X11_off_0 dd_X11_off_0a.1) rfl).to, ?_⟩
  refine List.forall_mem_cons.mpr ⟨(s_iloadn (am_dp pw_X11_off_0 dd_X11_off_0a.2.1) rfl).to, ?_⟩
  refine List.forall_mem_cons.mpr ⟨zw_cv220 (am_dp pw_X11_off_0 dd_X11_off_0a.2.2.1) wd1850, ?_⟩
  refine List.forall_mem_cons.mpr ⟨(s_if_eq (am_dp pw_X11_off_0 dd_X11_off_0a.2.2.2.1) (by decide)).to, ?_⟩
  refine List.forall_mem_cons.mpr ⟨(s_aloadn (am_dp pw_X11_off_0 dd_X11_off_0a.2.2.2.2.1) rfl).to, ?_⟩
  refine List.forall_mem_cons.mpr ⟨(s_iloadn (am_dp pw_X11_off_0 dd_X11_off_0a.2.2.2.2.2.1) rfl).to, ?_⟩
  refine List.forall_mem_cons.mpr ⟨zw_cv290 (am_dp pw_X11_off_0 dd_X11_off_0a.2.2.2.2.2.2.1) wd2098, ?_⟩
  refine List.forall_mem_cons.mpr ⟨(s_goto (am_dp pw_X11_off_0 dd_X11_off_0a.2.2.2.2.2.2.2) (by decide)).to, ?_⟩
  refine List.forall_mem_cons.mpr ⟨(s_bipush (am_dp pw_X11_off_0 dd_X11_off_0b.1) (by decide)).to, ?_⟩
  refine List.forall_mem_cons.mpr ⟨s_iret (am_dp pw_X11_off_0 dd_X11_off_0b.2) rfl, ?_⟩
  exact fun _ h => absurd h List.not_mem_nil
theorem sn_tX11_whose : ∀ q ∈ tX11_whose, am_Snd am_P0 RX11 cX11_whose 4 (Option.some FieldType.int) "whose" q.1 q.2 := by
  unfold tX11_whose
  refine List.forall_mem_cons.mpr ⟨(s_iconst (am_dp pw_X11_whose_0 dd_X11_whose_0a.1) (by decide)).to, ?_⟩
  refine List.forall_mem_cons.mpr ⟨(s_istoren (am_dp pw_X11_whose_0 dd_X11_whose_0a.2.1) rfl (by decide)).to, ?_⟩
  refine List.forall_mem_cons.mpr ⟨(s_iconst (am_dp pw_X11_whose_0 dd_X11_whose_0a.2.2.1) (by decide)).to, ?_⟩
  refine List.forall_mem_cons.mpr ⟨(s_istoren (am_dp pw_X11_whose_0 dd_X11_whose_0a.2.2.2.1) rfl (by decide)).to, ?_⟩
  refine List.forall_mem_cons.mpr ⟨(s_iloadn (am_dp pw_X11_whose_0 dd_X11_whose_0a.2.2.2.2.1) rfl).to, ?_⟩
  refine List.forall_mem_cons.mpr ⟨(s_aloadn (am_dp pw_X11_whose_0 dd_X11_whose_0a.2.2.2.2.2.1) rfl).to, ?_⟩
  refine List.forall_mem_cons.mpr ⟨(s_get (ci := 11) (k := 19) (am_dp pw_X11_whose_0 dd_X11_whose_0a.2.2.2.2.2.2.1) rfl (by decide) wd1352 inX11 rfl).to, ?_⟩
  refine List.forall_mem_cons.mpr ⟨(s_aloadn (am_dp pw_X11_whose_0 dd_X11_whose_0a.2.2.2.2.2.2.2) rfl).to, ?_⟩
  refine List.forall_mem_cons.mpr ⟨(s_get (ci := 11) (k := 12) (am_dp pw_X11_whose_0 dd_X11_whose_0b.1) rfl (by decide) wd1345 inX11 rfl).to, ?_⟩
  refine List.forall_mem_cons.mpr ⟨(s_iald (am_dp pw_X11_whose_0 dd_X11_whose_0b.2.1)).to, ?_⟩
  refine List.forall_mem_cons.mpr ⟨(s_icmp_ge (am_dp pw_X11_whose_0 dd_X11_whose_0b.2.2.1) (by decide)).to, ?_⟩
  refine List.forall_mem_cons.mpr ⟨(s_aloadn (am_dp pw_X11_whose_0 dd_X11_whose_0b.2.2.2.1) rfl).to, ?_⟩
  refine List.forall_mem_cons.mpr ⟨(s_iloadn (am_dp pw_X11_whose_0 dd_X11_whose_0b.2.2.2.2.1) rfl).to, ?_⟩
  refine List.forall_mem_cons.mpr ⟨zw_cv275 (am_dp pw_X11_whose_0 dd_X11_whose_0b.2.2.2.2.2.1) wd2034, ?_⟩
  refine List.forall_mem_cons.mpr ⟨(s_if_le (am_dp pw_X11_whose_0 dd_X11_whose_0b.2.2.2.2.2.2.1) (by decide)).to, ?_⟩
  refine List.forall_mem_cons.mpr ⟨(s_aloadn (am_dp pw_X11_whose_0 dd_X11_whose_0b.2.2.2.2.2.2.2) rfl).to, ?_⟩
  refine List.forall_mem_cons.mpr ⟨(s_iloadn (am_dp pw_X11_whose_0 dd_X11_whose_0c.1) rfl).to, ?_⟩
  refine List.forall_mem_cons.mpr ⟨zw_cv290 (am_dp pw_X11_whose_0 dd_X11_whose_0c.2.1) wd2098, ?_⟩
  refine List.forall_mem_cons.mpr ⟨(s_goto (am_dp pw_X11_whose_0 dd_X11_whose_0c.2.2) (by decide)).to, ?_⟩
  refine List.forall_mem_cons.mpr ⟨(s_bipush (am_dp pw_X11_whose_32 dd_X11_whose_32a.1) (by decide)).to, ?_⟩
  refine List.forall_mem_cons.mpr ⟨(s_istoren (am_dp pw_X11_whose_32 dd_X11_whose_32a.2.1) rfl (by decide)).to, ?_⟩
  refine List.forall_mem_cons.mpr ⟨(s_iloadn (am_dp pw_X11_whose_32 dd_X11_whose_32a.2.2.1) rfl).to, ?_⟩
  refine List.forall_mem_cons.mpr ⟨(s_iloadn (am_dp pw_X11_whose_32 dd_X11_whose_32a.2.2.2.1) rfl).to, ?_⟩
  refine List.forall_mem_cons.mpr ⟨(s_bipush (am_dp pw_X11_whose_32 dd_X11_whose_32a.2.2.2.2.1) (by decide)).to, ?_⟩
  refine List.forall_mem_cons.mpr ⟨(s_icmp_eq (am_dp pw_X11_whose_32 dd_X11_whose_32a.2.2.2.2.2.1) (by decide)).to, ?_⟩
  refine List.forall_mem_cons.mpr ⟨(s_iloadn (am_dp pw_X11_whose_32 dd_X11_whose_32a.2.2.2.2.2.2.1) rfl).to, ?_⟩
  refine List.forall_mem_cons.mpr ⟨(s_if_eq (am_dp pw_X11_whose_32 dd_X11_whose_32a.2.2.2.2.2.2.2) (by decide)).to, ?_⟩
  refine List.forall_mem_cons.mpr ⟨(s_iconst (am_dp pw_X11_whose_32 dd_X11_whose_32b.1) (by decide)).to, ?_⟩
  refine List.forall_mem_cons.mpr ⟨(s_iloadn (am_dp pw_X11_whose_32 dd_X11_whose_32b.2.1) rfl).to, ?_⟩
  refine List.forall_mem_cons.mpr ⟨(s_ishl (am_dp pw_X11_whose_32 dd_X11_whose_32b.2.2.1)).to, ?_⟩
  refine List.forall_mem_cons.mpr ⟨(s_goto (am_dp pw_X11_whose_32 dd_X11_whose_32b.2.2.2.1) (by decide)).to, ?_⟩
  refine List.forall_mem_cons.mpr ⟨(s_iconst (am_dp pw_X11_whose_32 dd_X11_whose_32b.2.2.2.2.1) (by decide)).to, ?_⟩
  refine List.forall_mem_cons.mpr ⟨(s_ior (am_dp pw_X11_whose_32 dd_X11_whose_32b.2.2.2.2.2.1)).to, ?_⟩
  refine List.forall_mem_cons.mpr ⟨(s_istoren (am_dp pw_X11_whose_32 dd_X11_whose_32b.2.2.2.2.2.2.1) rfl (by decide)).to, ?_⟩
  refine List.forall_mem_cons.mpr ⟨(s_iinc (am_dp pw_X11_whose_32 dd_X11_whose_32b.2.2.2.2.2.2.2) (by decide) (by decide)).to, ?_⟩
  refine List.forall_mem_cons.mpr ⟨(s_goto (am_dp pw_X11_whose_32 dd_X11_whose_32c.1) (by decide)).to, ?_⟩
  refine List.forall_mem_cons.mpr ⟨(s_iloadn (am_dp pw_X11_whose_32 dd_X11_whose_32c.2.1) rfl).to, ?_⟩
  refine List.forall_mem_cons.mpr ⟨s_iret (am_dp pw_X11_whose_32 dd_X11_whose_32c.2.2) rfl, ?_⟩
  exact fun _ h => absurd h List.not_mem_nil
theorem sn_tX11_says_ : ∀ q ∈ tX11_says_, am_Snd am_P0 RX11 cX11_says_ 5 (Option.none : Option FieldType) "says" q.1 q.2 := by
  unfold tX11_says_
  refine List.forall_mem_cons.mpr ⟨(s_aloadn (am_dp pw_X11_says__0 dd_X11_says__0a.1) rfl).to, ?_⟩
  refine List.forall_mem_cons.mpr ⟨(s_get (ci := 11) (k := 26) (am_dp pw_X11_says__0 dd_X11_says__0a.2.1) rfl (by decide) wd1359 inX11 rfl).to, ?_⟩
  refine List.forall_mem_cons.mpr ⟨(s_sipush (am_dp pw_X11_says__0 dd_X11_says__0a.2.2.1) (by decide)).to, ?_⟩
  refine List.forall_mem_cons.mpr ⟨(s_aloadn (am_dp pw_X11_says__0 dd_X11_says__0a.2.2.2.1) rfl).to, ?_⟩
  refine List.forall_mem_cons.mpr ⟨(s_get (ci := 11) (k := 12) (am_dp pw_X11_says__0 dd_X11_says__0a.2.2.2.2.1) rfl (by decide) wd1345 inX11 rfl).to, ?_⟩
  refine List.forall_mem_cons.mpr ⟨(s_imul (am_dp pw_X11_says__0 dd_X11_says__0a.2.2.2.2.2.1)).to, ?_⟩
  refine List.forall_mem_cons.mpr ⟨(s_bipush (am_dp pw_X11_says__0 dd_X11_says__0a.2.2.2.2.2.2.1) (by decide)).to, ?_⟩
  refine List.forall_mem_cons.mpr ⟨(s_iloadn (am_dp pw_X11_says__0 dd_X11_says__0a.2.2.2.2.2.2.2) rfl).to, ?_⟩
  refine List.forall_mem_cons.mpr ⟨(s_imul (am_dp pw_X11_says__0 dd_X11_says__0b.1)).to, ?_⟩
  refine List.forall_mem_cons.mpr ⟨(s_iadd (am_dp pw_X11_says__0 dd_X11_says__0b.2.1)).to, ?_⟩
  refine List.forall_mem_cons.mpr ⟨(s_iloadn (am_dp pw_X11_says__0 dd_X11_says__0b.2.2.1) rfl).to, ?_⟩
  refine List.forall_mem_cons.mpr ⟨(s_iadd (am_dp pw_X11_says__0 dd_X11_says__0b.2.2.2.1)).to, ?_⟩
  refine List.forall_mem_cons.mpr ⟨(s_iloadn (am_dp pw_X11_says__0 dd_X11_says__0b.2.2.2.2.1) rfl).to, ?_⟩
  refine List.forall_mem_cons.mpr ⟨(s_iast (am_dp pw_X11_says__0 dd_X11_says__0b.2.2.2.2.2.1)).to, ?_⟩
  refine List.forall_mem_cons.mpr ⟨(s_aloadn (am_dp pw_X11_says__0 dd_X11_says__0b.2.2.2.2.2.2.1) rfl).to, ?_⟩
  refine List.forall_mem_cons.mpr ⟨(s_get (ci := 11) (k := 27) (am_dp pw_X11_says__0 dd_X11_says__0b.2.2.2.2.2.2.2) rfl (by decide) wd1360 inX11 rfl).to, ?_⟩
  refine List.forall_mem_cons.mpr ⟨(s_sipush (am_dp pw_X11_says__0 dd_X11_says__0c.1) (by decide)).to, ?_⟩
  refine List.forall_mem_cons.mpr ⟨(s_aloadn (am_dp pw_X11_says__0 dd_X11_says__0c.2.1) rfl).to, ?_⟩
  refine List.forall_mem_cons.mpr ⟨(s_get (ci := 11) (k := 12) (am_dp pw_X11_says__0 dd_X11_says__0c.2.2) rfl (by decide) wd1345 inX11 rfl).to, ?_⟩
  refine List.forall_mem_cons.mpr ⟨(s_imul (am_dp pw_X11_says__32 dd_X11_says__32a.1)).to, ?_⟩
  refine List.forall_mem_cons.mpr ⟨(s_bipush (am_dp pw_X11_says__32 dd_X11_says__32a.2.1) (by decide)).to, ?_⟩
  refine List.forall_mem_cons.mpr ⟨(s_iloadn (am_dp pw_X11_says__32 dd_X11_says__32a.2.2.1) rfl).to, ?_⟩
  refine List.forall_mem_cons.mpr ⟨(s_imul (am_dp pw_X11_says__32 dd_X11_says__32a.2.2.2.1)).to, ?_⟩
  refine List.forall_mem_cons.mpr ⟨(s_iadd (am_dp pw_X11_says__32 dd_X11_says__32a.2.2.2.2.1)).to, ?_⟩
  refine List.forall_mem_cons.mpr ⟨(s_iloadn (am_dp pw_X11_says__32 dd_X11_says__32a.2.2.2.2.2.1) rfl).to, ?_⟩
  refine List.forall_mem_cons.mpr ⟨(s_iadd (am_dp pw_X11_says__32 dd_X11_says__32a.2.2.2.2.2.2.1)).to, ?_⟩
  refine List.forall_mem_cons.mpr ⟨(s_iload (am_dp pw_X11_says__32 dd_X11_says__32a.2.2.2.2.2.2.2)).to, ?_⟩
  refine List.forall_mem_cons.mpr ⟨(s_zast (am_dp pw_X11_says__32 dd_X11_says__32b.1)).to, ?_⟩
  refine List.forall_mem_cons.mpr ⟨(s_aloadn (am_dp pw_X11_says__32 dd_X11_says__32b.2.1) rfl).to, ?_⟩
  refine List.forall_mem_cons.mpr ⟨(s_get (ci := 11) (k := 25) (am_dp pw_X11_says__32 dd_X11_says__32b.2.2.1) rfl (by decide) wd1358 inX11 rfl).to, ?_⟩
  refine List.forall_mem_cons.mpr ⟨(s_aloadn (am_dp pw_X11_says__32 dd_X11_says__32b.2.2.2.1) rfl).to, ?_⟩
  refine List.forall_mem_cons.mpr ⟨(s_get (ci := 11) (k := 12) (am_dp pw_X11_says__32 dd_X11_says__32b.2.2.2.2.1) rfl (by decide) wd1345 inX11 rfl).to, ?_⟩
  refine List.forall_mem_cons.mpr ⟨(s_dup2 (am_dp pw_X11_says__32 dd_X11_says__32b.2.2.2.2.2.1)).to, ?_⟩
  refine List.forall_mem_cons.mpr ⟨(s_iald (am_dp pw_X11_says__32 dd_X11_says__32b.2.2.2.2.2.2.1)).to, ?_⟩
  refine List.forall_mem_cons.mpr ⟨(s_iconst (am_dp pw_X11_says__32 dd_X11_says__32b.2.2.2.2.2.2.2) (by decide)).to, ?_⟩
  refine List.forall_mem_cons.mpr ⟨(s_iadd (am_dp pw_X11_says__32 dd_X11_says__32c.1)).to, ?_⟩
  refine List.forall_mem_cons.mpr ⟨(s_iast (am_dp pw_X11_says__32 dd_X11_says__32c.2.1)).to, ?_⟩
  refine List.forall_mem_cons.mpr ⟨s_vret (am_dp pw_X11_says__32 dd_X11_says__32c.2.2) rfl, ?_⟩
  exact fun _ h => absurd h List.not_mem_nil
theorem sn_tX11_add_ : ∀ q ∈ tX11_add_, am_Snd am_P0 RX11 cX11_add_ 6 (Option.some FieldType.int) "add" q.1 q.2 := by
  unfold tX11_add_
  refine List.forall_mem_cons.mpr ⟨(s_aloadn (am_dp pw_X11_add__0 dd_X11_add__0a.1) rfl).to, ?_⟩
  refine List.forall_mem_cons.mpr ⟨(s_iloadn (am_dp pw_X11_add__0 dd_X11_add__0a.2.1) rfl).to, ?_⟩
  refine List.forall_mem_cons.mpr ⟨zw_cv220 (am_dp pw_X11_add__0 dd_X11_add__0a.2.2.1) wd1850, ?_⟩
  refine List.forall_mem_cons.mpr ⟨(s_if_eq (am_dp pw_X11_add__0 dd_X11_add__0a.2.2.2.1) (by decide)).to, ?_⟩
  refine List.forall_mem_cons.mpr ⟨(s_iloadn (am_dp pw_X11_add__0 dd_X11_add__0a.2.2.2.2.1) rfl).to, ?_⟩
  refine List.forall_mem_cons.mpr ⟨zw_cs219 (am_dp pw_X11_add__0 dd_X11_add__0a.2.2.2.2.2.1) wd1823, ?_⟩
  refine List.forall_mem_cons.mpr ⟨(s_if_eq (am_dp pw_X11_add__0 dd_X11_add__0a.2.2.2.2.2.2.1) (by decide)).to, ?_⟩
  refine List.forall_mem_cons.mpr ⟨(s_aloadn (am_dp pw_X11_add__0 dd_X11_add__0a.2.2.2.2.2.2.2) rfl).to, ?_⟩
  refine List.forall_mem_cons.mpr ⟨(s_iloadn (am_dp pw_X11_add__0 dd_X11_add__0b.1) rfl).to, ?_⟩
  refine List.forall_mem_cons.mpr ⟨(s_iload (am_dp pw_X11_add__0 dd_X11_add__0b.2.1)).to, ?_⟩
  refine List.forall_mem_cons.mpr ⟨zw_cv217 (am_dp pw_X11_add__0 dd_X11_add__0b.2.2.1) wd1819, ?_⟩
  refine List.forall_mem_cons.mpr ⟨(s_if_eq (am_dp pw_X11_add__0 dd_X11_add__0b.2.2.2.1) (by decide)).to, ?_⟩
  refine List.forall_mem_cons.mpr ⟨(s_aloadn (am_dp pw_X11_add__0 dd_X11_add__0b.2.2.2.2.1) rfl).to, ?_⟩
  refine List.forall_mem_cons.mpr ⟨(s_iloadn (am_dp pw_X11_add__0 dd_X11_add__0b.2.2.2.2.2.1) rfl).to, ?_⟩
  refine List.forall_mem_cons.mpr ⟨(s_iloadn (am_dp pw_X11_add__0 dd_X11_add__0b.2.2.2.2.2.2.1) rfl).to, ?_⟩
  refine List.forall_mem_cons.mpr ⟨zw_cv226 (am_dp pw_X11_add__0 dd_X11_add__0b.2.2.2.2.2.2.2) wd1842, ?_⟩
  refine List.forall_mem_cons.mpr ⟨(s_iconst (am_dp pw_X11_add__0 dd_X11_add__0c) (by decide)).to, ?_⟩
  refine List.forall_mem_cons.mpr ⟨(s_icmp_ne (am_dp pw_X11_add__32 dd_X11_add__32a.1) (by decide)).to, ?_⟩
  refine List.forall_mem_cons.mpr ⟨(s_aloadn (am_dp pw_X11_add__32 dd_X11_add__32a.2.1) rfl).to, ?_⟩
  refine List.forall_mem_cons.mpr ⟨(s_get (ci := 11) (k := 25) (am_dp pw_X11_add__32 dd_X11_add__32a.2.2.1) rfl (by decide) wd1358 inX11 rfl).to, ?_⟩
  refine List.forall_mem_cons.mpr ⟨(s_aloadn (am_dp pw_X11_add__32 dd_X11_add__32a.2.2.2.1) rfl).to, ?_⟩
  refine List.forall_mem_cons.mpr ⟨(s_get (ci := 11) (k := 12) (am_dp pw_X11_add__32 dd_X11_add__32a.2.2.2.2.1) rfl (by decide) wd1345 inX11 rfl).to, ?_⟩
  refine List.forall_mem_cons.mpr ⟨(s_iald (am_dp pw_X11_add__32 dd_X11_add__32a.2.2.2.2.2.1)).to, ?_⟩
  refine List.forall_mem_cons.mpr ⟨(s_bipush (am_dp pw_X11_add__32 dd_X11_add__32a.2.2.2.2.2.2.1) (by decide)).to, ?_⟩
  refine List.forall_mem_cons.mpr ⟨(s_icmp_ne (am_dp pw_X11_add__32 dd_X11_add__32a.2.2.2.2.2.2.2) (by decide)).to, ?_⟩
  refine List.forall_mem_cons.mpr ⟨(s_aloadn (am_dp pw_X11_add__32 dd_X11_add__32b.1) rfl).to, ?_⟩
  refine List.forall_mem_cons.mpr ⟨(s_iconst (am_dp pw_X11_add__32 dd_X11_add__32b.2.1) (by decide)).to, ?_⟩
  refine List.forall_mem_cons.mpr ⟨zw_cv208 (am_dp pw_X11_add__32 dd_X11_add__32b.2.2.1) wd1587, ?_⟩
  refine List.forall_mem_cons.mpr ⟨s_iret (am_dp pw_X11_add__32 dd_X11_add__32b.2.2.2.1) rfl, ?_⟩
  refine List.forall_mem_cons.mpr ⟨(s_aloadn (am_dp pw_X11_add__32 dd_X11_add__32b.2.2.2.2.1) rfl).to, ?_⟩
  refine List.forall_mem_cons.mpr ⟨(s_iloadn (am_dp pw_X11_add__32 dd_X11_add__32b.2.2.2.2.2.1) rfl).to, ?_⟩
  refine List.forall_mem_cons.mpr ⟨(s_iloadn (am_dp pw_X11_add__32 dd_X11_add__32b.2.2.2.2.2.2.1) rfl).to, ?_⟩
  refine List.forall_mem_cons.mpr ⟨(s_aloadn (am_dp pw_X11_add__32 dd_X11_add__32b.2.2.2.2.2.2.2) rfl).to, ?_⟩
  refine List.forall_mem_cons.mpr ⟨(s_iloadn (am_dp pw_X11_add__32 dd_X11_add__32c.1) rfl).to, ?_⟩
  refine List.forall_mem_cons.mpr ⟨(s_iload (am_dp pw_X11_add__32 dd_X11_add__32c.2.1)).to, ?_⟩
  refine List.forall_mem_cons.mpr ⟨zw_cv218 (am_dp pw_X11_add__32 dd_X11_add__32c.2.2) wd1826, ?_⟩
  refine List.forall_mem_cons.mpr ⟨(s_iload (am_dp pw_X11_add__64 dd_X11_add__64a.1)).to, ?_⟩
  refine List.forall_mem_cons.mpr ⟨zw_cv293 (am_dp pw_X11_add__64 dd_X11_add__64a.2.1) wd2110, ?_⟩
  refine List.forall_mem_cons.mpr ⟨(s_aloadn (am_dp pw_X11_add__64 dd_X11_add__64a.2.2.1) rfl).to, ?_⟩
  refine List.forall_mem_cons.mpr ⟨(s_iloadn (am_dp pw_X11_add__64 dd_X11_add__64a.2.2.2.1) rfl).to, ?_⟩
  refine List.forall_mem_cons.mpr ⟨(s_iloadn (am_dp pw_X11_add__64 dd_X11_add__64a.2.2.2.2.1) rfl).to, ?_⟩
  refine List.forall_mem_cons.mpr ⟨zw_cv230 (am_dp pw_X11_add__64 dd_X11_add__64a.2.2.2.2.2.1) wd2114, ?_⟩
  refine List.forall_mem_cons.mpr ⟨s_iret (am_dp pw_X11_add__64 dd_X11_add__64a.2.2.2.2.2.2) rfl, ?_⟩
  exact fun _ h => absurd h List.not_mem_nil
theorem sn_tX11_drop : ∀ q ∈ tX11_drop, am_Snd am_P0 RX11 cX11_drop 4 (Option.some FieldType.int) "drop" q.1 q.2 := by
  unfold tX11_drop
  refine List.forall_mem_cons.mpr ⟨(s_aloadn (am_dp pw_X11_drop_0 dd_X11_drop_0a.1) rfl).to, ?_⟩
  refine List.forall_mem_cons.mpr ⟨(s_iloadn (am_dp pw_X11_drop_0 dd_X11_drop_0a.2.1) rfl).to, ?_⟩
  refine List.forall_mem_cons.mpr ⟨zw_cv220 (am_dp pw_X11_drop_0 dd_X11_drop_0a.2.2.1) wd1850, ?_⟩
  refine List.forall_mem_cons.mpr ⟨(s_if_eq (am_dp pw_X11_drop_0 dd_X11_drop_0a.2.2.2.1) (by decide)).to, ?_⟩
  refine List.forall_mem_cons.mpr ⟨(s_aloadn (am_dp pw_X11_drop_0 dd_X11_drop_0a.2.2.2.2.1) rfl).to, ?_⟩
  refine List.forall_mem_cons.mpr ⟨(s_iloadn (am_dp pw_X11_drop_0 dd_X11_drop_0a.2.2.2.2.2.1) rfl).to, ?_⟩
  refine List.forall_mem_cons.mpr ⟨(s_iloadn (am_dp pw_X11_drop_0 dd_X11_drop_0a.2.2.2.2.2.2.1) rfl).to, ?_⟩
  refine List.forall_mem_cons.mpr ⟨zw_cv229 (am_dp pw_X11_drop_0 dd_X11_drop_0a.2.2.2.2.2.2.2) wd1926, ?_⟩
  refine List.forall_mem_cons.mpr ⟨(s_goto (am_dp pw_X11_drop_0 dd_X11_drop_0b.1) (by decide)).to, ?_⟩
  refine List.forall_mem_cons.mpr ⟨(s_iconst (am_dp pw_X11_drop_0 dd_X11_drop_0b.2.1) (by decide)).to, ?_⟩
  refine List.forall_mem_cons.mpr ⟨(s_istoren (am_dp pw_X11_drop_0 dd_X11_drop_0b.2.2.1) rfl (by decide)).to, ?_⟩
  refine List.forall_mem_cons.mpr ⟨(s_iloadn (am_dp pw_X11_drop_0 dd_X11_drop_0b.2.2.2.1) rfl).to, ?_⟩
  refine List.forall_mem_cons.mpr ⟨(s_iconst (am_dp pw_X11_drop_0 dd_X11_drop_0b.2.2.2.2.1) (by decide)).to, ?_⟩
  refine List.forall_mem_cons.mpr ⟨(s_icmp_ne (am_dp pw_X11_drop_0 dd_X11_drop_0b.2.2.2.2.2.1) (by decide)).to, ?_⟩
  refine List.forall_mem_cons.mpr ⟨(s_aloadn (am_dp pw_X11_drop_0 dd_X11_drop_0b.2.2.2.2.2.2.1) rfl).to, ?_⟩
  refine List.forall_mem_cons.mpr ⟨(s_iconst (am_dp pw_X11_drop_0 dd_X11_drop_0b.2.2.2.2.2.2.2) (by decide)).to, ?_⟩
  refine List.forall_mem_cons.mpr ⟨zw_cv208 (am_dp pw_X11_drop_0 dd_X11_drop_0c.1) wd1587, ?_⟩
  refine List.forall_mem_cons.mpr ⟨s_iret (am_dp pw_X11_drop_0 dd_X11_drop_0c.2.1) rfl, ?_⟩
  refine List.forall_mem_cons.mpr ⟨(s_aloadn (am_dp pw_X11_drop_0 dd_X11_drop_0c.2.2.1) rfl).to, ?_⟩
  refine List.forall_mem_cons.mpr ⟨(s_get (ci := 11) (k := 26) (am_dp pw_X11_drop_0 dd_X11_drop_0c.2.2.2) rfl (by decide) wd1359 inX11 rfl).to, ?_⟩
  refine List.forall_mem_cons.mpr ⟨(s_sipush (am_dp pw_X11_drop_32 dd_X11_drop_32a.1) (by decide)).to, ?_⟩
  refine List.forall_mem_cons.mpr ⟨(s_aloadn (am_dp pw_X11_drop_32 dd_X11_drop_32a.2.1) rfl).to, ?_⟩
  refine List.forall_mem_cons.mpr ⟨(s_get (ci := 11) (k := 12) (am_dp pw_X11_drop_32 dd_X11_drop_32a.2.2.1) rfl (by decide) wd1345 inX11 rfl).to, ?_⟩
  refine List.forall_mem_cons.mpr ⟨(s_imul (am_dp pw_X11_drop_32 dd_X11_drop_32a.2.2.2.1)).to, ?_⟩
  refine List.forall_mem_cons.mpr ⟨(s_bipush (am_dp pw_X11_drop_32 dd_X11_drop_32a.2.2.2.2.1) (by decide)).to, ?_⟩
  refine List.forall_mem_cons.mpr ⟨(s_iloadn (am_dp pw_X11_drop_32 dd_X11_drop_32a.2.2.2.2.2.1) rfl).to, ?_⟩
  refine List.forall_mem_cons.mpr ⟨(s_imul (am_dp pw_X11_drop_32 dd_X11_drop_32a.2.2.2.2.2.2.1)).to, ?_⟩
  refine List.forall_mem_cons.mpr ⟨(s_iadd (am_dp pw_X11_drop_32 dd_X11_drop_32a.2.2.2.2.2.2.2)).to, ?_⟩
  refine List.forall_mem_cons.mpr ⟨(s_iloadn (am_dp pw_X11_drop_32 dd_X11_drop_32b.1) rfl).to, ?_⟩
  refine List.forall_mem_cons.mpr ⟨(s_iadd (am_dp pw_X11_drop_32 dd_X11_drop_32b.2.1)).to, ?_⟩
  refine List.forall_mem_cons.mpr ⟨(s_iconst (am_dp pw_X11_drop_32 dd_X11_drop_32b.2.2.1) (by decide)).to, ?_⟩
  refine List.forall_mem_cons.mpr ⟨(s_iast (am_dp pw_X11_drop_32 dd_X11_drop_32b.2.2.2.1)).to, ?_⟩
  refine List.forall_mem_cons.mpr ⟨(s_aloadn (am_dp pw_X11_drop_32 dd_X11_drop_32b.2.2.2.2.1) rfl).to, ?_⟩
  refine List.forall_mem_cons.mpr ⟨(s_get (ci := 11) (k := 25) (am_dp pw_X11_drop_32 dd_X11_drop_32b.2.2.2.2.2.1) rfl (by decide) wd1358 inX11 rfl).to, ?_⟩
  refine List.forall_mem_cons.mpr ⟨(s_aloadn (am_dp pw_X11_drop_32 dd_X11_drop_32b.2.2.2.2.2.2.1) rfl).to, ?_⟩
  refine List.forall_mem_cons.mpr ⟨(s_get (ci := 11) (k := 12) (am_dp pw_X11_drop_32 dd_X11_drop_32b.2.2.2.2.2.2.2) rfl (by decide) wd1345 inX11 rfl).to, ?_⟩
  refine List.forall_mem_cons.mpr ⟨(s_dup2 (am_dp pw_X11_drop_32 dd_X11_drop_32c.1)).to, ?_⟩
  refine List.forall_mem_cons.mpr ⟨(s_iald (am_dp pw_X11_drop_32 dd_X11_drop_32c.2.1)).to, ?_⟩
  refine List.forall_mem_cons.mpr ⟨(s_iconst (am_dp pw_X11_drop_32 dd_X11_drop_32c.2.2.1) (by decide)).to, ?_⟩
  refine List.forall_mem_cons.mpr ⟨(s_isub (am_dp pw_X11_drop_32 dd_X11_drop_32c.2.2.2.1)).to, ?_⟩
  refine List.forall_mem_cons.mpr ⟨(s_iast (am_dp pw_X11_drop_32 dd_X11_drop_32c.2.2.2.2)).to, ?_⟩
  refine List.forall_mem_cons.mpr ⟨(s_aloadn (am_dp pw_X11_drop_64 dd_X11_drop_64a.1) rfl).to, ?_⟩
  refine List.forall_mem_cons.mpr ⟨(s_iloadn (am_dp pw_X11_drop_64 dd_X11_drop_64a.2.1) rfl).to, ?_⟩
  refine List.forall_mem_cons.mpr ⟨zw_cv228 (am_dp pw_X11_drop_64 dd_X11_drop_64a.2.2.1) wd1838, ?_⟩
  refine List.forall_mem_cons.mpr ⟨s_iret (am_dp pw_X11_drop_64 dd_X11_drop_64a.2.2.2) rfl, ?_⟩
  exact fun _ h => absurd h List.not_mem_nil
theorem sn_tX11_spots : ∀ q ∈ tX11_spots, am_Snd am_P0 RX11 cX11_spots 5 (Option.none : Option FieldType) "spots" q.1 q.2 := by
  unfold tX11_spots
  refine List.forall_mem_cons.mpr ⟨(s_bipush (am_dp pw_X11_spots_0 dd_X11_spots_0a.1) (by decide)).to, ?_⟩
  refine List.forall_mem_cons.mpr ⟨(s_aloadn (am_dp pw_X11_spots_0 dd_X11_spots_0a.2.1) rfl).to, ?_⟩
  refine List.forall_mem_cons.mpr ⟨(s_get (ci := 11) (k := 12) (am_dp pw_X11_spots_0 dd_X11_spots_0a.2.2.1) rfl (by decide) wd1345 inX11 rfl).to, ?_⟩
  refine List.forall_mem_cons.mpr ⟨(s_imul (am_dp pw_X11_spots_0 dd_X11_spots_0a.2.2.2.1)).to, ?_⟩
  refine List.forall_mem_cons.mpr ⟨(s_aloadn (am_dp pw_X11_spots_0 dd_X11_spots_0a.2.2.2.2.1) rfl).to, ?_⟩
  refine List.forall_mem_cons.mpr ⟨(s_get (ci := 11) (k := 33) (am_dp pw_X11_spots_0 dd_X11_spots_0a.2.2.2.2.2.1) rfl (by decide) wd1366 inX11 rfl).to, ?_⟩
  refine List.forall_mem_cons.mpr ⟨(s_aloadn (am_dp pw_X11_spots_0 dd_X11_spots_0a.2.2.2.2.2.2.1) rfl).to, ?_⟩
  refine List.forall_mem_cons.mpr ⟨(s_get (ci := 11) (k := 12) (am_dp pw_X11_spots_0 dd_X11_spots_0a.2.2.2.2.2.2.2) rfl (by decide) wd1345 inX11 rfl).to, ?_⟩
  refine List.forall_mem_cons.mpr ⟨(s_iald (am_dp pw_X11_spots_0 dd_X11_spots_0b.1)).to, ?_⟩
  refine List.forall_mem_cons.mpr ⟨(s_iadd (am_dp pw_X11_spots_0 dd_X11_spots_0b.2.1)).to, ?_⟩
  refine List.forall_mem_cons.mpr ⟨(s_istore (am_dp pw_X11_spots_0 dd_X11_spots_0b.2.2.1) (by decide)).to, ?_⟩
  refine List.forall_mem_cons.mpr ⟨(s_aloadn (am_dp pw_X11_spots_0 dd_X11_spots_0b.2.2.2.1) rfl).to, ?_⟩
  refine List.forall_mem_cons.mpr ⟨(s_get (ci := 11) (k := 34) (am_dp pw_X11_spots_0 dd_X11_spots_0b.2.2.2.2.1) rfl (by decide) wd1367 inX11 rfl).to, ?_⟩
  refine List.forall_mem_cons.mpr ⟨(s_iload (am_dp pw_X11_spots_0 dd_X11_spots_0b.2.2.2.2.2.1)).to, ?_⟩
  refine List.forall_mem_cons.mpr ⟨(s_iloadn (am_dp pw_X11_spots_0 dd_X11_spots_0b.2.2.2.2.2.2.1) rfl).to, ?_⟩
  refine List.forall_mem_cons.mpr ⟨(s_iast (am_dp pw_X11_spots_0 dd_X11_spots_0b.2.2.2.2.2.2.2)).to, ?_⟩
  refine List.forall_mem_cons.mpr ⟨(s_aloadn (am_dp pw_X11_spots_0 dd_X11_spots_0c.1) rfl).to, ?_⟩
  refine List.forall_mem_cons.mpr ⟨(s_get (ci := 11) (k := 35) (am_dp pw_X11_spots_0 dd_X11_spots_0c.2.1) rfl (by decide) wd1368 inX11 rfl).to, ?_⟩
  refine List.forall_mem_cons.mpr ⟨(s_iload (am_dp pw_X11_spots_0 dd_X11_spots_0c.2.2)).to, ?_⟩
  refine List.forall_mem_cons.mpr ⟨(s_iloadn (am_dp pw_X11_spots_32 dd_X11_spots_32a.1) rfl).to, ?_⟩
  refine List.forall_mem_cons.mpr ⟨(s_iast (am_dp pw_X11_spots_32 dd_X11_spots_32a.2.1)).to, ?_⟩
  refine List.forall_mem_cons.mpr ⟨(s_aloadn (am_dp pw_X11_spots_32 dd_X11_spots_32a.2.2.1) rfl).to, ?_⟩
  refine List.forall_mem_cons.mpr ⟨(s_get (ci := 11) (k := 36) (am_dp pw_X11_spots_32 dd_X11_spots_32a.2.2.2.1) rfl (by decide) wd1369 inX11 rfl).to, ?_⟩
  refine List.forall_mem_cons.mpr ⟨(s_iload (am_dp pw_X11_spots_32 dd_X11_spots_32a.2.2.2.2.1)).to, ?_⟩
  refine List.forall_mem_cons.mpr ⟨(s_iloadn (am_dp pw_X11_spots_32 dd_X11_spots_32a.2.2.2.2.2.1) rfl).to, ?_⟩
  refine List.forall_mem_cons.mpr ⟨(s_iast (am_dp pw_X11_spots_32 dd_X11_spots_32a.2.2.2.2.2.2.1)).to, ?_⟩
  refine List.forall_mem_cons.mpr ⟨(s_aloadn (am_dp pw_X11_spots_32 dd_X11_spots_32a.2.2.2.2.2.2.2) rfl).to, ?_⟩
  refine List.forall_mem_cons.mpr ⟨(s_get (ci := 11) (k := 33) (am_dp pw_X11_spots_32 dd_X11_spots_32b.1) rfl (by decide) wd1366 inX11 rfl).to, ?_⟩
  refine List.forall_mem_cons.mpr ⟨(s_aloadn (am_dp pw_X11_spots_32 dd_X11_spots_32b.2.1) rfl).to, ?_⟩
  refine List.forall_mem_cons.mpr ⟨(s_get (ci := 11) (k := 12) (am_dp pw_X11_spots_32 dd_X11_spots_32b.2.2.1) rfl (by decide) wd1345 inX11 rfl).to, ?_⟩
  refine List.forall_mem_cons.mpr ⟨(s_dup2 (am_dp pw_X11_spots_32 dd_X11_spots_32b.2.2.2.1)).to, ?_⟩
  refine List.forall_mem_cons.mpr ⟨(s_iald (am_dp pw_X11_spots_32 dd_X11_spots_32b.2.2.2.2.1)).to, ?_⟩
  refine List.forall_mem_cons.mpr ⟨(s_iconst (am_dp pw_X11_spots_32 dd_X11_spots_32b.2.2.2.2.2.1) (by decide)).to, ?_⟩
  refine List.forall_mem_cons.mpr ⟨(s_iadd (am_dp pw_X11_spots_32 dd_X11_spots_32b.2.2.2.2.2.2.1)).to, ?_⟩
  refine List.forall_mem_cons.mpr ⟨(s_iast (am_dp pw_X11_spots_32 dd_X11_spots_32b.2.2.2.2.2.2.2)).to, ?_⟩
  refine List.forall_mem_cons.mpr ⟨s_vret (am_dp pw_X11_spots_32 dd_X11_spots_32c) rfl, ?_⟩
  exact fun _ h => absurd h List.not_mem_nil
theorem sn_tX11_spot : ∀ q ∈ tX11_spot, am_Snd am_P0 RX11 cX11_spot 5 (Option.some FieldType.int) "spot" q.1 q.2 := by
  unfold tX11_spot
  refine List.forall_mem_cons.mpr ⟨(s_iloadn (am_dp pw_X11_spot_0 dd_X11_spot_0a.1) rfl).to, ?_⟩
  refine List.forall_mem_cons.mpr ⟨(s_iconst (am_dp pw_X11_spot_0 dd_X11_spot_0a.2.1) (by decide)).to, ?_⟩
  refine List.forall_mem_cons.mpr ⟨(s_iconst (am_dp pw_X11_spot_0 dd_X11_spot_0a.2.2.1) (by decide)).to, ?_⟩
  refine List.forall_mem_cons.mpr ⟨zw_cs167 (am_dp pw_X11_spot_0 dd_X11_spot_0a.2.2.2.1) wd1630, ?_⟩
  refine List.forall_mem_cons.mpr ⟨(s_if_eq (am_dp pw_X11_spot_0 dd_X11_spot_0a.2.2.2.2.1) (by decide)).to, ?_⟩
  refine List.forall_mem_cons.mpr ⟨(s_aloadn (am_dp pw_X11_spot_0 dd_X11_spot_0a.2.2.2.2.2.1) rfl).to, ?_⟩
  refine List.forall_mem_cons.mpr ⟨(s_iloadn (am_dp pw_X11_spot_0 dd_X11_spot_0a.2.2.2.2.2.2.1) rfl).to, ?_⟩
  refine List.forall_mem_cons.mpr ⟨(s_iloadn (am_dp pw_X11_spot_0 dd_X11_spot_0a.2.2.2.2.2.2.2) rfl).to, ?_⟩
  refine List.forall_mem_cons.mpr ⟨zw_cv217 (am_dp pw_X11_spot_0 dd_X11_spot_0b.1) wd1819, ?_⟩
  refine List.forall_mem_cons.mpr ⟨(s_if_eq (am_dp pw_X11_spot_0 dd_X11_spot_0b.2.1) (by decide)).to, ?_⟩
  refine List.forall_mem_cons.mpr ⟨(s_iload (am_dp pw_X11_spot_0 dd_X11_spot_0b.2.2.1)).to, ?_⟩
  refine List.forall_mem_cons.mpr ⟨zw_cs219 (am_dp pw_X11_spot_0 dd_X11_spot_0b.2.2.2.1) wd1823, ?_⟩
  refine List.forall_mem_cons.mpr ⟨(s_if_eq (am_dp pw_X11_spot_0 dd_X11_spot_0b.2.2.2.2.1) (by decide)).to, ?_⟩
  refine List.forall_mem_cons.mpr ⟨(s_aloadn (am_dp pw_X11_spot_0 dd_X11_spot_0b.2.2.2.2.2.1) rfl).to, ?_⟩
  refine List.forall_mem_cons.mpr ⟨(s_get (ci := 11) (k := 33) (am_dp pw_X11_spot_0 dd_X11_spot_0b.2.2.2.2.2.2.1) rfl (by decide) wd1366 inX11 rfl).to, ?_⟩
  refine List.forall_mem_cons.mpr ⟨(s_aloadn (am_dp pw_X11_spot_0 dd_X11_spot_0b.2.2.2.2.2.2.2) rfl).to, ?_⟩
  refine List.forall_mem_cons.mpr ⟨(s_get (ci := 11) (k := 12) (am_dp pw_X11_spot_0 dd_X11_spot_0c) rfl (by decide) wd1345 inX11 rfl).to, ?_⟩
  refine List.forall_mem_cons.mpr ⟨(s_iald (am_dp pw_X11_spot_32 dd_X11_spot_32a.1)).to, ?_⟩
  refine List.forall_mem_cons.mpr ⟨(s_bipush (am_dp pw_X11_spot_32 dd_X11_spot_32a.2.1) (by decide)).to, ?_⟩
  refine List.forall_mem_cons.mpr ⟨(s_icmp_ne (am_dp pw_X11_spot_32 dd_X11_spot_32a.2.2.1) (by decide)).to, ?_⟩
  refine List.forall_mem_cons.mpr ⟨(s_aloadn (am_dp pw_X11_spot_32 dd_X11_spot_32a.2.2.2.1) rfl).to, ?_⟩
  refine List.forall_mem_cons.mpr ⟨(s_iconst (am_dp pw_X11_spot_32 dd_X11_spot_32a.2.2.2.2.1) (by decide)).to, ?_⟩
  refine List.forall_mem_cons.mpr ⟨zw_cv208 (am_dp pw_X11_spot_32 dd_X11_spot_32a.2.2.2.2.2.1) wd1587, ?_⟩
  refine List.forall_mem_cons.mpr ⟨s_iret (am_dp pw_X11_spot_32 dd_X11_spot_32a.2.2.2.2.2.2.1) rfl, ?_⟩
  refine List.forall_mem_cons.mpr ⟨(s_aloadn (am_dp pw_X11_spot_32 dd_X11_spot_32a.2.2.2.2.2.2.2) rfl).to, ?_⟩
  refine List.forall_mem_cons.mpr ⟨(s_iloadn (am_dp pw_X11_spot_32 dd_X11_spot_32b.1) rfl).to, ?_⟩
  refine List.forall_mem_cons.mpr ⟨(s_aloadn (am_dp pw_X11_spot_32 dd_X11_spot_32b.2.1) rfl).to, ?_⟩
  refine List.forall_mem_cons.mpr ⟨(s_iloadn (am_dp pw_X11_spot_32 dd_X11_spot_32b.2.2.1) rfl).to, ?_⟩
  refine List.forall_mem_cons.mpr ⟨(s_iloadn (am_dp pw_X11_spot_32 dd_X11_spot_32b.2.2.2.1) rfl).to, ?_⟩
  refine List.forall_mem_cons.mpr ⟨zw_cv218 (am_dp pw_X11_spot_32 dd_X11_spot_32b.2.2.2.2.1) wd1826, ?_⟩
  refine List.forall_mem_cons.mpr ⟨(s_iload (am_dp pw_X11_spot_32 dd_X11_spot_32b.2.2.2.2.2.1)).to, ?_⟩
  refine List.forall_mem_cons.mpr ⟨zw_cv296 (am_dp pw_X11_spot_32 dd_X11_spot_32b.2.2.2.2.2.2.1) wd2126, ?_⟩
  refine List.forall_mem_cons.mpr ⟨(s_aloadn (am_dp pw_X11_spot_32 dd_X11_spot_32b.2.2.2.2.2.2.2) rfl).to, ?_⟩
  refine List.forall_mem_cons.mpr ⟨(s_get (ci := 11) (k := 33) (am_dp pw_X11_spot_32 dd_X11_spot_32c.1) rfl (by decide) wd1366 inX11 rfl).to, ?_⟩
  refine List.forall_mem_cons.mpr ⟨(s_aloadn (am_dp pw_X11_spot_32 dd_X11_spot_32c.2) rfl).to, ?_⟩
  refine List.forall_mem_cons.mpr ⟨(s_get (ci := 11) (k := 12) (am_dp pw_X11_spot_64 dd_X11_spot_64a.1) rfl (by decide) wd1345 inX11 rfl).to, ?_⟩
  refine List.forall_mem_cons.mpr ⟨(s_iald (am_dp pw_X11_spot_64 dd_X11_spot_64a.2.1)).to, ?_⟩
  refine List.forall_mem_cons.mpr ⟨s_iret (am_dp pw_X11_spot_64 dd_X11_spot_64a.2.2) rfl, ?_⟩
  exact fun _ h => absurd h List.not_mem_nil
theorem sn_tX11_writes : ∀ q ∈ tX11_writes, am_Snd am_P0 RX11 cX11_writes 2 (Option.none : Option FieldType) "writes" q.1 q.2 := by
  unfold tX11_writes
  refine List.forall_mem_cons.mpr ⟨(s_aloadn (am_dp pw_X11_writes_0 dd_X11_writes_0a.1) rfl).to, ?_⟩
  refine List.forall_mem_cons.mpr ⟨(s_get (ci := 11) (k := 81) (am_dp pw_X11_writes_0 dd_X11_writes_0a.2.1) rfl (by decide) wd1414 inX11 rfl).to, ?_⟩
  refine List.forall_mem_cons.mpr ⟨(s_aloadn (am_dp pw_X11_writes_0 dd_X11_writes_0a.2.2.1) rfl).to, ?_⟩
  refine List.forall_mem_cons.mpr ⟨(s_get (ci := 11) (k := 82) (am_dp pw_X11_writes_0 dd_X11_writes_0a.2.2.2.1) rfl (by decide) wd1415 inX11 rfl).to, ?_⟩
  refine List.forall_mem_cons.mpr ⟨(s_iloadn (am_dp pw_X11_writes_0 dd_X11_writes_0a.2.2.2.2.1) rfl).to, ?_⟩
  refine List.forall_mem_cons.mpr ⟨(s_sipush (am_dp pw_X11_writes_0 dd_X11_writes_0a.2.2.2.2.2.1) (by decide)).to, ?_⟩
  refine List.forall_mem_cons.mpr ⟨(s_iand (am_dp pw_X11_writes_0 dd_X11_writes_0a.2.2.2.2.2.2.1)).to, ?_⟩
  refine List.forall_mem_cons.mpr ⟨(s_iast (am_dp pw_X11_writes_0 dd_X11_writes_0a.2.2.2.2.2.2.2)).to, ?_⟩
  refine List.forall_mem_cons.mpr ⟨(s_aloadn (am_dp pw_X11_writes_0 dd_X11_writes_0b.1) rfl).to, ?_⟩
  refine List.forall_mem_cons.mpr ⟨(s_dup (am_dp pw_X11_writes_0 dd_X11_writes_0b.2.1)).to, ?_⟩
  refine List.forall_mem_cons.mpr ⟨(s_get (ci := 11) (k := 82) (am_dp pw_X11_writes_0 dd_X11_writes_0b.2.2.1) rfl (by decide) wd1415 inX11 rfl).to, ?_⟩
  refine List.forall_mem_cons.mpr ⟨(s_iconst (am_dp pw_X11_writes_0 dd_X11_writes_0b.2.2.2.1) (by decide)).to, ?_⟩
  refine List.forall_mem_cons.mpr ⟨(s_iadd (am_dp pw_X11_writes_0 dd_X11_writes_0b.2.2.2.2.1)).to, ?_⟩
  refine List.forall_mem_cons.mpr ⟨(s_put (ci := 11) (k := 82) (am_dp pw_X11_writes_0 dd_X11_writes_0b.2.2.2.2.2.1) rfl (by decide) wd1415 inX11 tyX11_ok nmX11 rfl rfl).to, ?_⟩
  refine List.forall_mem_cons.mpr ⟨s_vret (am_dp pw_X11_writes_0 dd_X11_writes_0b.2.2.2.2.2.2) rfl, ?_⟩
  exact fun _ h => absurd h List.not_mem_nil
theorem sn_tX11_image_0 : ∀ q ∈ tX11_image_0, am_Snd am_P0 RX11 cX11_image 3 (Option.some FieldType.int) "image" q.1 q.2 := by
  unfold tX11_image_0
  refine List.forall_mem_cons.mpr ⟨(s_aloadn (am_dp pw_X11_image_0 dd_X11_image_0a.1) rfl).to, ?_⟩
  refine List.forall_mem_cons.mpr ⟨(s_iconst (am_dp pw_X11_image_0 dd_X11_image_0a.2.1) (by decide)).to, ?_⟩
  refine List.forall_mem_cons.mpr ⟨(s_put (ci := 11) (k := 82) (am_dp pw_X11_image_0 dd_X11_image_0a.2.2.1) rfl (by decide) wd1415 inX11 tyX11_ok nmX11 rfl rfl).to, ?_⟩
  refine List.forall_mem_cons.mpr ⟨(s_aloadn (am_dp pw_X11_image_0 dd_X11_image_0a.2.2.2.1) rfl).to, ?_⟩
  refine List.forall_mem_cons.mpr ⟨(s_aloadn (am_dp pw_X11_image_0 dd_X11_image_0a.2.2.2.2.1) rfl).to, ?_⟩
  refine List.forall_mem_cons.mpr ⟨(s_get (ci := 11) (k := 25) (am_dp pw_X11_image_0 dd_X11_image_0a.2.2.2.2.2.1) rfl (by decide) wd1358 inX11 rfl).to, ?_⟩
  refine List.forall_mem_cons.mpr ⟨(s_aloadn (am_dp pw_X11_image_0 dd_X11_image_0a.2.2.2.2.2.2.1) rfl).to, ?_⟩
  refine List.forall_mem_cons.mpr ⟨(s_get (ci := 11) (k := 12) (am_dp pw_X11_image_0 dd_X11_image_0a.2.2.2.2.2.2.2) rfl (by decide) wd1345 inX11 rfl).to, ?_⟩
  refine List.forall_mem_cons.mpr ⟨(s_iald (am_dp pw_X11_image_0 dd_X11_image_0b.1)).to, ?_⟩
  refine List.forall_mem_cons.mpr ⟨zw_cv298 (am_dp pw_X11_image_0 dd_X11_image_0b.2.1) wd2134, ?_⟩
  refine List.forall_mem_cons.mpr ⟨(s_iconst (am_dp pw_X11_image_0 dd_X11_image_0b.2.2.1) (by decide)).to, ?_⟩
  refine List.forall_mem_cons.mpr ⟨(s_istoren (am_dp pw_X11_image_0 dd_X11_image_0b.2.2.2.1) rfl (by decide)).to, ?_⟩
  refine List.forall_mem_cons.mpr ⟨(s_iloadn (am_dp pw_X11_image_0 dd_X11_image_0b.2.2.2.2.1) rfl).to, ?_⟩
  refine List.forall_mem_cons.mpr ⟨(s_aloadn (am_dp pw_X11_image_0 dd_X11_image_0b.2.2.2.2.2.1) rfl).to, ?_⟩
  refine List.forall_mem_cons.mpr ⟨(s_get (ci := 11) (k := 19) (am_dp pw_X11_image_0 dd_X11_image_0b.2.2.2.2.2.2.1) rfl (by decide) wd1352 inX11 rfl).to, ?_⟩
  refine List.forall_mem_cons.mpr ⟨(s_aloadn (am_dp pw_X11_image_0 dd_X11_image_0b.2.2.2.2.2.2.2) rfl).to, ?_⟩
  refine List.forall_mem_cons.mpr ⟨(s_get (ci := 11) (k := 12) (am_dp pw_X11_image_0 dd_X11_image_0c.1) rfl (by decide) wd1345 inX11 rfl).to, ?_⟩
  refine List.forall_mem_cons.mpr ⟨(s_iald (am_dp pw_X11_image_0 dd_X11_image_0c.2.1)).to, ?_⟩
  refine List.forall_mem_cons.mpr ⟨(s_icmp_ge (am_dp pw_X11_image_0 dd_X11_image_0c.2.2) (by decide)).to, ?_⟩
  refine List.forall_mem_cons.mpr ⟨(s_iconst (am_dp pw_X11_image_32 dd_X11_image_32a.1) (by decide)).to, ?_⟩
  refine List.forall_mem_cons.mpr ⟨(s_istoren (am_dp pw_X11_image_32 dd_X11_image_32a.2.1) rfl (by decide)).to, ?_⟩
  refine List.forall_mem_cons.mpr ⟨(s_iloadn (am_dp pw_X11_image_32 dd_X11_image_32a.2.2.1) rfl).to, ?_⟩
  refine List.forall_mem_cons.mpr ⟨(s_bipush (am_dp pw_X11_image_32 dd_X11_image_32a.2.2.2.1) (by decide)).to, ?_⟩
  refine List.forall_mem_cons.mpr ⟨(s_icmp_ge (am_dp pw_X11_image_32 dd_X11_image_32a.2.2.2.2.1) (by decide)).to, ?_⟩
  refine List.forall_mem_cons.mpr ⟨(s_aloadn (am_dp pw_X11_image_32 dd_X11_image_32a.2.2.2.2.2.1) rfl).to, ?_⟩
  refine List.forall_mem_cons.mpr ⟨(s_iloadn (am_dp pw_X11_image_32 dd_X11_image_32a.2.2.2.2.2.2.1) rfl).to, ?_⟩
  refine List.forall_mem_cons.mpr ⟨(s_iloadn (am_dp pw_X11_image_32 dd_X11_image_32a.2.2.2.2.2.2.2) rfl).to, ?_⟩
  refine List.forall_mem_cons.mpr ⟨zw_cv226 (am_dp pw_X11_image_32 dd_X11_image_32b.1) wd1842, ?_⟩
  refine List.forall_mem_cons.mpr ⟨(s_iconst (am_dp pw_X11_image_32 dd_X11_image_32b.2.1) (by decide)).to, ?_⟩
  refine List.forall_mem_cons.mpr ⟨(s_icmp_ne (am_dp pw_X11_image_32 dd_X11_image_32b.2.2.1) (by decide)).to, ?_⟩
  refine List.forall_mem_cons.mpr ⟨(s_goto (am_dp pw_X11_image_32 dd_X11_image_32b.2.2.2.1) (by decide)).to, ?_⟩
  refine List.forall_mem_cons.mpr ⟨(s_aloadn (am_dp pw_X11_image_32 dd_X11_image_32b.2.2.2.2.1) rfl).to, ?_⟩
  refine List.forall_mem_cons.mpr ⟨(s_iloadn (am_dp pw_X11_image_32 dd_X11_image_32b.2.2.2.2.2.1) rfl).to, ?_⟩
  refine List.forall_mem_cons.mpr ⟨zw_cv298 (am_dp pw_X11_image_32 dd_X11_image_32b.2.2.2.2.2.2.1) wd2134, ?_⟩
  refine List.forall_mem_cons.mpr ⟨(s_aloadn (am_dp pw_X11_image_32 dd_X11_image_32b.2.2.2.2.2.2.2) rfl).to, ?_⟩
  refine List.forall_mem_cons.mpr ⟨(s_iloadn (am_dp pw_X11_image_32 dd_X11_image_32c.1) rfl).to, ?_⟩
  refine List.forall_mem_cons.mpr ⟨zw_cv298 (am_dp pw_X11_image_32 dd_X11_image_32c.2) wd2134, ?_⟩
  refine List.forall_mem_cons.mpr ⟨(s_aloadn (am_dp pw_X11_image_64 dd_X11_image_64a.1) rfl).to, ?_⟩
  refine List.forall_mem_cons.mpr ⟨(s_aloadn (am_dp pw_X11_image_64 dd_X11_image_64a.2.1) rfl).to, ?_⟩
  refine List.forall_mem_cons.mpr ⟨(s_iloadn (am_dp pw_X11_image_64 dd_X11_image_64a.2.2.1) rfl).to, ?_⟩
  refine List.forall_mem_cons.mpr ⟨(s_iloadn (am_dp pw_X11_image_64 dd_X11_image_64a.2.2.2.1) rfl).to, ?_⟩
  refine List.forall_mem_cons.mpr ⟨zw_cv226 (am_dp pw_X11_image_64 dd_X11_image_64a.2.2.2.2.1) wd1842, ?_⟩
  refine List.forall_mem_cons.mpr ⟨zw_cv298 (am_dp pw_X11_image_64 dd_X11_image_64a.2.2.2.2.2.1) wd2134, ?_⟩
  refine List.forall_mem_cons.mpr ⟨(s_aloadn (am_dp pw_X11_image_64 dd_X11_image_64a.2.2.2.2.2.2.1) rfl).to, ?_⟩
  refine List.forall_mem_cons.mpr ⟨(s_aloadn (am_dp pw_X11_image_64 dd_X11_image_64a.2.2.2.2.2.2.2) rfl).to, ?_⟩
  refine List.forall_mem_cons.mpr ⟨(s_iloadn (am_dp pw_X11_image_64 dd_X11_image_64b.1) rfl).to, ?_⟩
  refine List.forall_mem_cons.mpr ⟨(s_iloadn (am_dp pw_X11_image_64 dd_X11_image_64b.2.1) rfl).to, ?_⟩
  refine List.forall_mem_cons.mpr ⟨zw_cv227 (am_dp pw_X11_image_64 dd_X11_image_64b.2.2.1) wd1910, ?_⟩
  refine List.forall_mem_cons.mpr ⟨(s_if_eq (am_dp pw_X11_image_64 dd_X11_image_64b.2.2.2.1) (by decide)).to, ?_⟩
  refine List.forall_mem_cons.mpr ⟨(s_iconst (am_dp pw_X11_image_64 dd_X11_image_64b.2.2.2.2.1) (by decide)).to, ?_⟩
  refine List.forall_mem_cons.mpr ⟨(s_goto (am_dp pw_X11_image_64 dd_X11_image_64b.2.2.2.2.2.1) (by decide)).to, ?_⟩
  refine List.forall_mem_cons.mpr ⟨(s_iconst (am_dp pw_X11_image_64 dd_X11_image_64b.2.2.2.2.2.2.1) (by decide)).to, ?_⟩
  refine List.forall_mem_cons.mpr ⟨zw_cv298 (am_dp pw_X11_image_64 dd_X11_image_64b.2.2.2.2.2.2.2) wd2134, ?_⟩
  refine List.forall_mem_cons.mpr ⟨(s_iinc (am_dp pw_X11_image_64 dd_X11_image_64c.1) (by decide) (by decide)).to, ?_⟩
  refine List.forall_mem_cons.mpr ⟨(s_goto (am_dp pw_X11_image_64 dd_X11_image_64c.2) (by decide)).to, ?_⟩
  refine List.forall_mem_cons.mpr ⟨(s_iinc (am_dp pw_X11_image_96 dd_X11_image_96a.1) (by decide) (by decide)).to, ?_⟩
  refine List.forall_mem_cons.mpr ⟨(s_goto (am_dp pw_X11_image_96 dd_X11_image_96a.2.1) (by decide)).to, ?_⟩
  refine List.forall_mem_cons.mpr ⟨(s_aloadn (am_dp pw_X11_image_96 dd_X11_image_96a.2.2.1) rfl).to, ?_⟩
  refine List.forall_mem_cons.mpr ⟨(s_aloadn (am_dp pw_X11_image_96 dd_X11_image_96a.2.2.2.1) rfl).to, ?_⟩
  refine List.forall_mem_cons.mpr ⟨(s_get (ci := 11) (k := 33) (am_dp pw_X11_image_96 dd_X11_image_96a.2.2.2.2.1) rfl (by decide) wd1366 inX11 rfl).to, ?_⟩
  exact fun _ h => absurd h List.not_mem_nil
theorem sn_tX11_image_1 : ∀ q ∈ tX11_image_1, am_Snd am_P0 RX11 cX11_image 3 (Option.some FieldType.int) "image" q.1 q.2 := by
  unfold tX11_image_1
  refine List.forall_mem_cons.mpr ⟨(s_aloadn (am_dp pw_X11_image_96 dd_X11_image_96a.2.2.2.2.2.1) rfl).to, ?_⟩
  refine List.forall_mem_cons.mpr ⟨(s_get (ci := 11) (k := 12) (am_dp pw_X11_image_96 dd_X11_image_96a.2.2.2.2.2.2.1) rfl (by decide) wd1345 inX11 rfl).to, ?_⟩
  refine List.forall_mem_cons.mpr ⟨(s_iald (am_dp pw_X11_image_96 dd_X11_image_96a.2.2.2.2.2.2.2)).to, ?_⟩
  refine List.forall_mem_cons.mpr ⟨zw_cv298 (am_dp pw_X11_image_96 dd_X11_image_96b.1) wd2134, ?_⟩
  refine List.forall_mem_cons.mpr ⟨(s_bipush (am_dp pw_X11_image_96 dd_X11_image_96b.2.1) (by decide)).to, ?_⟩
  refine List.forall_mem_cons.mpr ⟨(s_aloadn (am_dp pw_X11_image_96 dd_X11_image_96b.2.2.1) rfl).to, ?_⟩
  refine List.forall_mem_cons.mpr ⟨(s_get (ci := 11) (k := 12) (am_dp pw_X11_image_96 dd_X11_image_96b.2.2.2.1) rfl (by decide) wd1345 inX11 rfl).to, ?_⟩
  refine List.forall_mem_cons.mpr ⟨(s_imul (am_dp pw_X11_image_96 dd_X11_image_96b.2.2.2.2.1)).to, ?_⟩
  refine List.forall_mem_cons.mpr ⟨(s_istoren (am_dp pw_X11_image_96 dd_X11_image_96b.2.2.2.2.2.1) rfl (by decide)).to, ?_⟩
  refine List.forall_mem_cons.mpr ⟨(s_iloadn (am_dp pw_X11_image_96 dd_X11_image_96b.2.2.2.2.2.2.1) rfl).to, ?_⟩
  refine List.forall_mem_cons.mpr ⟨(s_bipush (am_dp pw_X11_image_96 dd_X11_image_96b.2.2.2.2.2.2.2) (by decide)).to, ?_⟩
  refine List.forall_mem_cons.mpr ⟨(s_aloadn (am_dp pw_X11_image_128 dd_X11_image_128a.1) rfl).to, ?_⟩
  refine List.forall_mem_cons.mpr ⟨(s_get (ci := 11) (k := 12) (am_dp pw_X11_image_128 dd_X11_image_128a.2.1) rfl (by decide) wd1345 inX11 rfl).to, ?_⟩
  refine List.forall_mem_cons.mpr ⟨(s_imul (am_dp pw_X11_image_128 dd_X11_image_128a.2.2.1)).to, ?_⟩
  refine List.forall_mem_cons.mpr ⟨(s_aloadn (am_dp pw_X11_image_128 dd_X11_image_128a.2.2.2.1) rfl).to, ?_⟩
  refine List.forall_mem_cons.mpr ⟨(s_get (ci := 11) (k := 33) (am_dp pw_X11_image_128 dd_X11_image_128a.2.2.2.2.1) rfl (by decide) wd1366 inX11 rfl).to, ?_⟩
  refine List.forall_mem_cons.mpr ⟨(s_aloadn (am_dp pw_X11_image_128 dd_X11_image_128a.2.2.2.2.2.1) rfl).to, ?_⟩
  refine List.forall_mem_cons.mpr ⟨(s_get (ci := 11) (k := 12) (am_dp pw_X11_image_128 dd_X11_image_128a.2.2.2.2.2.2.1) rfl (by decide) wd1345 inX11 rfl).to, ?_⟩
  refine List.forall_mem_cons.mpr ⟨(s_iald (am_dp pw_X11_image_128 dd_X11_image_128a.2.2.2.2.2.2.2)).to, ?_⟩
  refine List.forall_mem_cons.mpr ⟨(s_iadd (am_dp pw_X11_image_128 dd_X11_image_128b.1)).to, ?_⟩
  refine List.forall_mem_cons.mpr ⟨(s_icmp_ge (am_dp pw_X11_image_128 dd_X11_image_128b.2.1) (by decide)).to, ?_⟩
  refine List.forall_mem_cons.mpr ⟨(s_aloadn (am_dp pw_X11_image_128 dd_X11_image_128b.2.2.1) rfl).to, ?_⟩
  refine List.forall_mem_cons.mpr ⟨(s_aloadn (am_dp pw_X11_image_128 dd_X11_image_128b.2.2.2.1) rfl).to, ?_⟩
  refine List.forall_mem_cons.mpr ⟨(s_get (ci := 11) (k := 34) (am_dp pw_X11_image_128 dd_X11_image_128b.2.2.2.2.1) rfl (by decide) wd1367 inX11 rfl).to, ?_⟩
  refine List.forall_mem_cons.mpr ⟨(s_iloadn (am_dp pw_X11_image_128 dd_X11_image_128b.2.2.2.2.2.1) rfl).to, ?_⟩
  refine List.forall_mem_cons.mpr ⟨(s_iald (am_dp pw_X11_image_128 dd_X11_image_128b.2.2.2.2.2.2.1)).to, ?_⟩
  refine List.forall_mem_cons.mpr ⟨zw_cv298 (am_dp pw_X11_image_128 dd_X11_image_128b.2.2.2.2.2.2.2) wd2134, ?_⟩
  refine List.forall_mem_cons.mpr ⟨(s_aloadn (am_dp pw_X11_image_128 dd_X11_image_128c.1) rfl).to, ?_⟩
  refine List.forall_mem_cons.mpr ⟨(s_aloadn (am_dp pw_X11_image_128 dd_X11_image_128c.2.1) rfl).to, ?_⟩
  refine List.forall_mem_cons.mpr ⟨(s_get (ci := 11) (k := 35) (am_dp pw_X11_image_128 dd_X11_image_128c.2.2) rfl (by decide) wd1368 inX11 rfl).to, ?_⟩
  refine List.forall_mem_cons.mpr ⟨(s_iloadn (am_dp pw_X11_image_160 dd_X11_image_160a.1) rfl).to, ?_⟩
  refine List.forall_mem_cons.mpr ⟨(s_iald (am_dp pw_X11_image_160 dd_X11_image_160a.2.1)).to, ?_⟩
  refine List.forall_mem_cons.mpr ⟨zw_cv298 (am_dp pw_X11_image_160 dd_X11_image_160a.2.2.1) wd2134, ?_⟩
  refine List.forall_mem_cons.mpr ⟨(s_aloadn (am_dp pw_X11_image_160 dd_X11_image_160a.2.2.2.1) rfl).to, ?_⟩
  refine List.forall_mem_cons.mpr ⟨(s_aloadn (am_dp pw_X11_image_160 dd_X11_image_160a.2.2.2.2.1) rfl).to, ?_⟩
  refine List.forall_mem_cons.mpr ⟨(s_get (ci := 11) (k := 36) (am_dp pw_X11_image_160 dd_X11_image_160a.2.2.2.2.2.1) rfl (by decide) wd1369 inX11 rfl).to, ?_⟩
  refine List.forall_mem_cons.mpr ⟨(s_iloadn (am_dp pw_X11_image_160 dd_X11_image_160a.2.2.2.2.2.2.1) rfl).to, ?_⟩
  refine List.forall_mem_cons.mpr ⟨(s_iald (am_dp pw_X11_image_160 dd_X11_image_160a.2.2.2.2.2.2.2)).to, ?_⟩
  refine List.forall_mem_cons.mpr ⟨zw_cv298 (am_dp pw_X11_image_160 dd_X11_image_160b.1) wd2134, ?_⟩
  refine List.forall_mem_cons.mpr ⟨(s_iinc (am_dp pw_X11_image_160 dd_X11_image_160b.2.1) (by decide) (by decide)).to, ?_⟩
  refine List.forall_mem_cons.mpr ⟨(s_goto (am_dp pw_X11_image_160 dd_X11_image_160b.2.2.1) (by decide)).to, ?_⟩
  refine List.forall_mem_cons.mpr ⟨(s_bipush (am_dp pw_X11_image_160 dd_X11_image_160b.2.2.2.1) (by decide)).to, ?_⟩
  refine List.forall_mem_cons.mpr ⟨(s_istoren (am_dp pw_X11_image_160 dd_X11_image_160b.2.2.2.2.1) rfl (by decide)).to, ?_⟩
  refine List.forall_mem_cons.mpr ⟨(s_iconst (am_dp pw_X11_image_160 dd_X11_image_160b.2.2.2.2.2.1) (by decide)).to, ?_⟩
  refine List.forall_mem_cons.mpr ⟨(s_istoren (am_dp pw_X11_image_160 dd_X11_image_160b.2.2.2.2.2.2.1) rfl (by decide)).to, ?_⟩
  refine List.forall_mem_cons.mpr ⟨(s_iloadn (am_dp pw_X11_image_160 dd_X11_image_160b.2.2.2.2.2.2.2) rfl).to, ?_⟩
  refine List.forall_mem_cons.mpr ⟨(s_aloadn (am_dp pw_X11_image_160 dd_X11_image_160c.1) rfl).to, ?_⟩
  refine List.forall_mem_cons.mpr ⟨(s_get (ci := 11) (k := 82) (am_dp pw_X11_image_160 dd_X11_image_160c.2) rfl (by decide) wd1415 inX11 rfl).to, ?_⟩
  refine List.forall_mem_cons.mpr ⟨(s_icmp_ge (am_dp pw_X11_image_192 dd_X11_image_192a.1) (by decide)).to, ?_⟩
  refine List.forall_mem_cons.mpr ⟨(s_iconst (am_dp pw_X11_image_192 dd_X11_image_192a.2.1) (by decide)).to, ?_⟩
  refine List.forall_mem_cons.mpr ⟨(s_iloadn (am_dp pw_X11_image_192 dd_X11_image_192a.2.2.1) rfl).to, ?_⟩
  refine List.forall_mem_cons.mpr ⟨(s_imul (am_dp pw_X11_image_192 dd_X11_image_192a.2.2.2.1)).to, ?_⟩
  refine List.forall_mem_cons.mpr ⟨(s_aloadn (am_dp pw_X11_image_192 dd_X11_image_192a.2.2.2.2.1) rfl).to, ?_⟩
  refine List.forall_mem_cons.mpr ⟨(s_get (ci := 11) (k := 81) (am_dp pw_X11_image_192 dd_X11_image_192a.2.2.2.2.2.1) rfl (by decide) wd1414 inX11 rfl).to, ?_⟩
  refine List.forall_mem_cons.mpr ⟨(s_iloadn (am_dp pw_X11_image_192 dd_X11_image_192a.2.2.2.2.2.2.1) rfl).to, ?_⟩
  refine List.forall_mem_cons.mpr ⟨(s_iald (am_dp pw_X11_image_192 dd_X11_image_192a.2.2.2.2.2.2.2)).to, ?_⟩
  refine List.forall_mem_cons.mpr ⟨(s_iadd (am_dp pw_X11_image_192 dd_X11_image_192b.1)).to, ?_⟩
  refine List.forall_mem_cons.mpr ⟨(s_sipush (am_dp pw_X11_image_192 dd_X11_image_192b.2.1) (by decide)).to, ?_⟩
  refine List.forall_mem_cons.mpr ⟨(s_irem (am_dp pw_X11_image_192 dd_X11_image_192b.2.2.1)).to, ?_⟩
  refine List.forall_mem_cons.mpr ⟨(s_istoren (am_dp pw_X11_image_192 dd_X11_image_192b.2.2.2.1) rfl (by decide)).to, ?_⟩
  exact fun _ h => absurd h List.not_mem_nil
theorem sn_tX11_image_2 : ∀ q ∈ tX11_image_2, am_Snd am_P0 RX11 cX11_image 3 (Option.some FieldType.int) "image" q.1 q.2 := by
  unfold tX11_image_2
  refine List.forall_mem_cons.mpr ⟨(s_iinc (am_dp pw_X11_image_192 dd_X11_image_192b.2.2.2.2.1) (by decide) (by decide)).to, ?_⟩
  refine List.forall_mem_cons.mpr ⟨(s_goto (am_dp pw_X11_image_192 dd_X11_image_192b.2.2.2.2.2.1) (by decide)).to, ?_⟩
  refine List.forall_mem_cons.mpr ⟨(s_aloadn (am_dp pw_X11_image_192 dd_X11_image_192b.2.2.2.2.2.2.1) rfl).to, ?_⟩
  refine List.forall_mem_cons.mpr ⟨(s_iloadn (am_dp pw_X11_image_192 dd_X11_image_192b.2.2.2.2.2.2.2) rfl).to, ?_⟩
  refine List.forall_mem_cons.mpr ⟨zw_cv298 (am_dp pw_X11_image_192 dd_X11_image_192c.1) wd2134, ?_⟩
  refine List.forall_mem_cons.mpr ⟨(s_aloadn (am_dp pw_X11_image_192 dd_X11_image_192c.2.1) rfl).to, ?_⟩
  refine List.forall_mem_cons.mpr ⟨(s_get (ci := 11) (k := 82) (am_dp pw_X11_image_192 dd_X11_image_192c.2.2) rfl (by decide) wd1415 inX11 rfl).to, ?_⟩
  refine List.forall_mem_cons.mpr ⟨s_iret (am_dp pw_X11_image_224 dd_X11_image_224a) rfl, ?_⟩
  exact fun _ h => absurd h List.not_mem_nil
theorem sn_tX11_image : ∀ q ∈ tX11_image, am_Snd am_P0 RX11 cX11_image 3 (Option.some FieldType.int) "image" q.1 q.2 := by
  unfold tX11_image
  exact List.forall_mem_append.mpr ⟨List.forall_mem_append.mpr ⟨sn_tX11_image_0, sn_tX11_image_1⟩, sn_tX11_image_2⟩
theorem sn_tX11_octet : ∀ q ∈ tX11_octet, am_Snd am_P0 RX11 cX11_octet 2 (Option.some FieldType.int) "octet" q.1 q.2 := by
  unfold tX11_octet
  refine List.forall_mem_cons.mpr ⟨(s_iloadn (am_dp pw_X11_octet_0 dd_X11_octet_0a.1) rfl).to, ?_⟩
  refine List.forall_mem_cons.mpr ⟨(s_if_lt (am_dp pw_X11_octet_0 dd_X11_octet_0a.2.1) (by decide)).to, ?_⟩
  refine List.forall_mem_cons.mpr ⟨(s_iloadn (am_dp pw_X11_octet_0 dd_X11_octet_0a.2.2.1) rfl).to, ?_⟩
  refine List.forall_mem_cons.mpr ⟨(s_aloadn (am_dp pw_X11_octet_0 dd_X11_octet_0a.2.2.2.1) rfl).to, ?_⟩
  refine List.forall_mem_cons.mpr ⟨(s_get (ci := 11) (k := 82) (am_dp pw_X11_octet_0 dd_X11_octet_0a.2.2.2.2.1) rfl (by decide) wd1415 inX11 rfl).to, ?_⟩
  refine List.forall_mem_cons.mpr ⟨(s_icmp_ge (am_dp pw_X11_octet_0 dd_X11_octet_0a.2.2.2.2.2.1) (by decide)).to, ?_⟩
  refine List.forall_mem_cons.mpr ⟨(s_aloadn (am_dp pw_X11_octet_0 dd_X11_octet_0a.2.2.2.2.2.2.1) rfl).to, ?_⟩
  refine List.forall_mem_cons.mpr ⟨(s_get (ci := 11) (k := 81) (am_dp pw_X11_octet_0 dd_X11_octet_0a.2.2.2.2.2.2.2) rfl (by decide) wd1414 inX11 rfl).to, ?_⟩
  refine List.forall_mem_cons.mpr ⟨(s_iloadn (am_dp pw_X11_octet_0 dd_X11_octet_0b.1) rfl).to, ?_⟩
  refine List.forall_mem_cons.mpr ⟨(s_iald (am_dp pw_X11_octet_0 dd_X11_octet_0b.2.1)).to, ?_⟩
  refine List.forall_mem_cons.mpr ⟨(s_goto (am_dp pw_X11_octet_0 dd_X11_octet_0b.2.2.1) (by decide)).to, ?_⟩
  refine List.forall_mem_cons.mpr ⟨(s_iconst (am_dp pw_X11_octet_0 dd_X11_octet_0b.2.2.2.1) (by decide)).to, ?_⟩
  refine List.forall_mem_cons.mpr ⟨s_iret (am_dp pw_X11_octet_0 dd_X11_octet_0b.2.2.2.2) rfl, ?_⟩
  exact fun _ h => absurd h List.not_mem_nil
theorem sn_tX11_isWhole_0 : ∀ q ∈ tX11_isWhole_0, am_Snd am_P0 RX11 cX11_isWhole 7 (Option.some FieldType.boolean) "isWhole" q.1 q.2 := by
  unfold tX11_isWhole_0
  refine List.forall_mem_cons.mpr ⟨(s_iloadn (am_dp pw_X11_isWhole_0 dd_X11_isWhole_0a.1) rfl).to, ?_⟩
  refine List.forall_mem_cons.mpr ⟨(s_iconst (am_dp pw_X11_isWhole_0 dd_X11_isWhole_0a.2.1) (by decide)).to, ?_⟩
  refine List.forall_mem_cons.mpr ⟨(s_icmp_lt (am_dp pw_X11_isWhole_0 dd_X11_isWhole_0a.2.2.1) (by decide)).to, ?_⟩
  refine List.forall_mem_cons.mpr ⟨(s_aloadn (am_dp pw_X11_isWhole_0 dd_X11_isWhole_0a.2.2.2.1) rfl).to, ?_⟩
  refine List.forall_mem_cons.mpr ⟨(s_get (ci := 11) (k := 0) (am_dp pw_X11_isWhole_0 dd_X11_isWhole_0a.2.2.2.2.1) rfl (by decide) wd1333 inX11 rfl).to, ?_⟩
  refine List.forall_mem_cons.mpr ⟨(s_iconst (am_dp pw_X11_isWhole_0 dd_X11_isWhole_0a.2.2.2.2.2.1) (by decide)).to, ?_⟩
  refine List.forall_mem_cons.mpr ⟨(s_iald (am_dp pw_X11_isWhole_0 dd_X11_isWhole_0a.2.2.2.2.2.2.1)).to, ?_⟩
  refine List.forall_mem_cons.mpr ⟨(s_bipush (am_dp pw_X11_isWhole_0 dd_X11_isWhole_0a.2.2.2.2.2.2.2) (by decide)).to, ?_⟩
  refine List.forall_mem_cons.mpr ⟨(s_icmp_le (am_dp pw_X11_isWhole_0 dd_X11_isWhole_0b.1) (by decide)).to, ?_⟩
  refine List.forall_mem_cons.mpr ⟨(s_iconst (am_dp pw_X11_isWhole_0 dd_X11_isWhole_0b.2.1) (by decide)).to, ?_⟩
  refine List.forall_mem_cons.mpr ⟨s_zret (am_dp pw_X11_isWhole_0 dd_X11_isWhole_0b.2.2.1) rfl, ?_⟩
  refine List.forall_mem_cons.mpr ⟨(s_iconst (am_dp pw_X11_isWhole_0 dd_X11_isWhole_0b.2.2.2.1) (by decide)).to, ?_⟩
  refine List.forall_mem_cons.mpr ⟨(s_iconst (am_dp pw_X11_isWhole_0 dd_X11_isWhole_0b.2.2.2.2.1) (by decide)).to, ?_⟩
  refine List.forall_mem_cons.mpr ⟨(s_aloadn (am_dp pw_X11_isWhole_0 dd_X11_isWhole_0b.2.2.2.2.2.1) rfl).to, ?_⟩
  refine List.forall_mem_cons.mpr ⟨(s_get (ci := 11) (k := 0) (am_dp pw_X11_isWhole_0 dd_X11_isWhole_0b.2.2.2.2.2.2.1) rfl (by decide) wd1333 inX11 rfl).to, ?_⟩
  refine List.forall_mem_cons.mpr ⟨(s_iconst (am_dp pw_X11_isWhole_0 dd_X11_isWhole_0b.2.2.2.2.2.2.2) (by decide)).to, ?_⟩
  refine List.forall_mem_cons.mpr ⟨(s_iald (am_dp pw_X11_isWhole_0 dd_X11_isWhole_0c.1)).to, ?_⟩
  refine List.forall_mem_cons.mpr ⟨(s_imul (am_dp pw_X11_isWhole_0 dd_X11_isWhole_0c.2.1)).to, ?_⟩
  refine List.forall_mem_cons.mpr ⟨(s_iadd (am_dp pw_X11_isWhole_0 dd_X11_isWhole_0c.2.2.1)).to, ?_⟩
  refine List.forall_mem_cons.mpr ⟨(s_istoren (am_dp pw_X11_isWhole_0 dd_X11_isWhole_0c.2.2.2.1) rfl (by decide)).to, ?_⟩
  refine List.forall_mem_cons.mpr ⟨(s_iloadn (am_dp pw_X11_isWhole_0 dd_X11_isWhole_0c.2.2.2.2.1) rfl).to, ?_⟩
  refine List.forall_mem_cons.mpr ⟨(s_iloadn (am_dp pw_X11_isWhole_0 dd_X11_isWhole_0c.2.2.2.2.2.1) rfl).to, ?_⟩
  refine List.forall_mem_cons.mpr ⟨(s_iconst (am_dp pw_X11_isWhole_0 dd_X11_isWhole_0c.2.2.2.2.2.2) (by decide)).to, ?_⟩
  refine List.forall_mem_cons.mpr ⟨(s_isub (am_dp pw_X11_isWhole_32 dd_X11_isWhole_32a.1)).to, ?_⟩
  refine List.forall_mem_cons.mpr ⟨(s_icmp_ge (am_dp pw_X11_isWhole_32 dd_X11_isWhole_32a.2.1) (by decide)).to, ?_⟩
  refine List.forall_mem_cons.mpr ⟨(s_aloadn (am_dp pw_X11_isWhole_32 dd_X11_isWhole_32a.2.2.1) rfl).to, ?_⟩
  refine List.forall_mem_cons.mpr ⟨(s_get (ci := 11) (k := 0) (am_dp pw_X11_isWhole_32 dd_X11_isWhole_32a.2.2.2.1) rfl (by decide) wd1333 inX11 rfl).to, ?_⟩
  refine List.forall_mem_cons.mpr ⟨(s_iloadn (am_dp pw_X11_isWhole_32 dd_X11_isWhole_32a.2.2.2.2.1) rfl).to, ?_⟩
  refine List.forall_mem_cons.mpr ⟨(s_iald (am_dp pw_X11_isWhole_32 dd_X11_isWhole_32a.2.2.2.2.2.1)).to, ?_⟩
  refine List.forall_mem_cons.mpr ⟨(s_bipush (am_dp pw_X11_isWhole_32 dd_X11_isWhole_32a.2.2.2.2.2.2.1) (by decide)).to, ?_⟩
  refine List.forall_mem_cons.mpr ⟨(s_icmp_gt (am_dp pw_X11_isWhole_32 dd_X11_isWhole_32a.2.2.2.2.2.2.2) (by decide)).to, ?_⟩
  refine List.forall_mem_cons.mpr ⟨(s_iloadn (am_dp pw_X11_isWhole_32 dd_X11_isWhole_32b.1) rfl).to, ?_⟩
  refine List.forall_mem_cons.mpr ⟨(s_iloadn (am_dp pw_X11_isWhole_32 dd_X11_isWhole_32b.2.1) rfl).to, ?_⟩
  refine List.forall_mem_cons.mpr ⟨(s_iconst (am_dp pw_X11_isWhole_32 dd_X11_isWhole_32b.2.2.1) (by decide)).to, ?_⟩
  refine List.forall_mem_cons.mpr ⟨(s_iadd (am_dp pw_X11_isWhole_32 dd_X11_isWhole_32b.2.2.2.1)).to, ?_⟩
  refine List.forall_mem_cons.mpr ⟨(s_iconst (am_dp pw_X11_isWhole_32 dd_X11_isWhole_32b.2.2.2.2.1) (by decide)).to, ?_⟩
  refine List.forall_mem_cons.mpr ⟨(s_aloadn (am_dp pw_X11_isWhole_32 dd_X11_isWhole_32b.2.2.2.2.2.1) rfl).to, ?_⟩
  refine List.forall_mem_cons.mpr ⟨(s_get (ci := 11) (k := 0) (am_dp pw_X11_isWhole_32 dd_X11_isWhole_32b.2.2.2.2.2.2.1) rfl (by decide) wd1333 inX11 rfl).to, ?_⟩
  refine List.forall_mem_cons.mpr ⟨(s_iloadn (am_dp pw_X11_isWhole_32 dd_X11_isWhole_32b.2.2.2.2.2.2.2) rfl).to, ?_⟩
  refine List.forall_mem_cons.mpr ⟨(s_iald (am_dp pw_X11_isWhole_32 dd_X11_isWhole_32c.1)).to, ?_⟩
  refine List.forall_mem_cons.mpr ⟨(s_imul (am_dp pw_X11_isWhole_32 dd_X11_isWhole_32c.2.1)).to, ?_⟩
  refine List.forall_mem_cons.mpr ⟨(s_iadd (am_dp pw_X11_isWhole_32 dd_X11_isWhole_32c.2.2.1)).to, ?_⟩
  refine List.forall_mem_cons.mpr ⟨(s_icmp_eq (am_dp pw_X11_isWhole_32 dd_X11_isWhole_32c.2.2.2.1) (by decide)).to, ?_⟩
  refine List.forall_mem_cons.mpr ⟨(s_iconst (am_dp pw_X11_isWhole_32 dd_X11_isWhole_32c.2.2.2.2) (by decide)).to, ?_⟩
  refine List.forall_mem_cons.mpr ⟨s_zret (am_dp pw_X11_isWhole_64 dd_X11_isWhole_64a.1) rfl, ?_⟩
  refine List.forall_mem_cons.mpr ⟨(s_bipush (am_dp pw_X11_isWhole_64 dd_X11_isWhole_64a.2.1) (by decide)).to, ?_⟩
  refine List.forall_mem_cons.mpr ⟨(s_istoren (am_dp pw_X11_isWhole_64 dd_X11_isWhole_64a.2.2.1) rfl (by decide)).to, ?_⟩
  refine List.forall_mem_cons.mpr ⟨(s_iconst (am_dp pw_X11_isWhole_64 dd_X11_isWhole_64a.2.2.2.1) (by decide)).to, ?_⟩
  refine List.forall_mem_cons.mpr ⟨(s_istore (am_dp pw_X11_isWhole_64 dd_X11_isWhole_64a.2.2.2.2.1) (by decide)).to, ?_⟩
  refine List.forall_mem_cons.mpr ⟨(s_iload (am_dp pw_X11_isWhole_64 dd_X11_isWhole_64a.2.2.2.2.2.1)).to, ?_⟩
  refine List.forall_mem_cons.mpr ⟨(s_iloadn (am_dp pw_X11_isWhole_64 dd_X11_isWhole_64a.2.2.2.2.2.2.1) rfl).to, ?_⟩
  refine List.forall_mem_cons.mpr ⟨(s_iconst (am_dp pw_X11_isWhole_64 dd_X11_isWhole_64a.2.2.2.2.2.2.2) (by decide)).to, ?_⟩
  refine List.forall_mem_cons.mpr ⟨(s_isub (am_dp pw_X11_isWhole_64 dd_X11_isWhole_64b.1)).to, ?_⟩
  refine List.forall_mem_cons.mpr ⟨(s_icmp_ge (am_dp pw_X11_isWhole_64 dd_X11_isWhole_64b.2.1) (by decide)).to, ?_⟩
  refine List.forall_mem_cons.mpr ⟨(s_iconst (am_dp pw_X11_isWhole_64 dd_X11_isWhole_64b.2.2.1) (by decide)).to, ?_⟩
  refine List.forall_mem_cons.mpr ⟨(s_iloadn (am_dp pw_X11_isWhole_64 dd_X11_isWhole_64b.2.2.2.1) rfl).to, ?_⟩
  refine List.forall_mem_cons.mpr ⟨(s_imul (am_dp pw_X11_isWhole_64 dd_X11_isWhole_64b.2.2.2.2.1)).to, ?_⟩
  refine List.forall_mem_cons.mpr ⟨(s_aloadn (am_dp pw_X11_isWhole_64 dd_X11_isWhole_64b.2.2.2.2.2.1) rfl).to, ?_⟩
  refine List.forall_mem_cons.mpr ⟨(s_get (ci := 11) (k := 0) (am_dp pw_X11_isWhole_64 dd_X11_isWhole_64b.2.2.2.2.2.2.1) rfl (by decide) wd1333 inX11 rfl).to, ?_⟩
  refine List.forall_mem_cons.mpr ⟨(s_iload (am_dp pw_X11_isWhole_64 dd_X11_isWhole_64b.2.2.2.2.2.2.2)).to, ?_⟩
  exact fun _ h => absurd h List.not_mem_nil
theorem sn_tX11_isWhole_1 : ∀ q ∈ tX11_isWhole_1, am_Snd am_P0 RX11 cX11_isWhole 7 (Option.some FieldType.boolean) "isWhole" q.1 q.2 := by
  unfold tX11_isWhole_1
  refine List.forall_mem_cons.mpr ⟨(s_iald (am_dp pw_X11_isWhole_64 dd_X11_isWhole_64c.1)).to, ?_⟩
  refine List.forall_mem_cons.mpr ⟨(s_iadd (am_dp pw_X11_isWhole_64 dd_X11_isWhole_64c.2.1)).to, ?_⟩
  refine List.forall_mem_cons.mpr ⟨(s_sipush (am_dp pw_X11_isWhole_64 dd_X11_isWhole_64c.2.2.1) (by decide)).to, ?_⟩
  refine List.forall_mem_cons.mpr ⟨(s_irem (am_dp pw_X11_isWhole_64 dd_X11_isWhole_64c.2.2.2.1)).to, ?_⟩
  refine List.forall_mem_cons.mpr ⟨(s_istoren (am_dp pw_X11_isWhole_64 dd_X11_isWhole_64c.2.2.2.2.1) rfl (by decide)).to, ?_⟩
  refine List.forall_mem_cons.mpr ⟨(s_iinc (am_dp pw_X11_isWhole_64 dd_X11_isWhole_64c.2.2.2.2.2) (by decide) (by decide)).to, ?_⟩
  refine List.forall_mem_cons.mpr ⟨(s_goto (am_dp pw_X11_isWhole_96 dd_X11_isWhole_96a.1) (by decide)).to, ?_⟩
  refine List.forall_mem_cons.mpr ⟨(s_aloadn (am_dp pw_X11_isWhole_96 dd_X11_isWhole_96a.2.1) rfl).to, ?_⟩
  refine List.forall_mem_cons.mpr ⟨(s_get (ci := 11) (k := 0) (am_dp pw_X11_isWhole_96 dd_X11_isWhole_96a.2.2.1) rfl (by decide) wd1333 inX11 rfl).to, ?_⟩
  refine List.forall_mem_cons.mpr ⟨(s_iloadn (am_dp pw_X11_isWhole_96 dd_X11_isWhole_96a.2.2.2.1) rfl).to, ?_⟩
  refine List.forall_mem_cons.mpr ⟨(s_iconst (am_dp pw_X11_isWhole_96 dd_X11_isWhole_96a.2.2.2.2.1) (by decide)).to, ?_⟩
  refine List.forall_mem_cons.mpr ⟨(s_isub (am_dp pw_X11_isWhole_96 dd_X11_isWhole_96a.2.2.2.2.2.1)).to, ?_⟩
  refine List.forall_mem_cons.mpr ⟨(s_iald (am_dp pw_X11_isWhole_96 dd_X11_isWhole_96a.2.2.2.2.2.2.1)).to, ?_⟩
  refine List.forall_mem_cons.mpr ⟨(s_iloadn (am_dp pw_X11_isWhole_96 dd_X11_isWhole_96a.2.2.2.2.2.2.2) rfl).to, ?_⟩
  refine List.forall_mem_cons.mpr ⟨(s_icmp_eq (am_dp pw_X11_isWhole_96 dd_X11_isWhole_96b.1) (by decide)).to, ?_⟩
  refine List.forall_mem_cons.mpr ⟨(s_iconst (am_dp pw_X11_isWhole_96 dd_X11_isWhole_96b.2.1) (by decide)).to, ?_⟩
  refine List.forall_mem_cons.mpr ⟨s_zret (am_dp pw_X11_isWhole_96 dd_X11_isWhole_96b.2.2.1) rfl, ?_⟩
  refine List.forall_mem_cons.mpr ⟨(s_iconst (am_dp pw_X11_isWhole_96 dd_X11_isWhole_96b.2.2.2.1) (by decide)).to, ?_⟩
  refine List.forall_mem_cons.mpr ⟨(s_istore (am_dp pw_X11_isWhole_96 dd_X11_isWhole_96b.2.2.2.2.1) (by decide)).to, ?_⟩
  refine List.forall_mem_cons.mpr ⟨(s_iconst (am_dp pw_X11_isWhole_96 dd_X11_isWhole_96b.2.2.2.2.2.1) (by decide)).to, ?_⟩
  refine List.forall_mem_cons.mpr ⟨(s_istore (am_dp pw_X11_isWhole_96 dd_X11_isWhole_96b.2.2.2.2.2.2.1) (by decide)).to, ?_⟩
  refine List.forall_mem_cons.mpr ⟨(s_iload (am_dp pw_X11_isWhole_96 dd_X11_isWhole_96b.2.2.2.2.2.2.2)).to, ?_⟩
  refine List.forall_mem_cons.mpr ⟨(s_iloadn (am_dp pw_X11_isWhole_96 dd_X11_isWhole_96c.1) rfl).to, ?_⟩
  refine List.forall_mem_cons.mpr ⟨(s_icmp_ge (am_dp pw_X11_isWhole_96 dd_X11_isWhole_96c.2.1) (by decide)).to, ?_⟩
  refine List.forall_mem_cons.mpr ⟨(s_bipush (am_dp pw_X11_isWhole_96 dd_X11_isWhole_96c.2.2) (by decide)).to, ?_⟩
  refine List.forall_mem_cons.mpr ⟨(s_aloadn (am_dp pw_X11_isWhole_128 dd_X11_isWhole_128a.1) rfl).to, ?_⟩
  refine List.forall_mem_cons.mpr ⟨(s_get (ci := 11) (k := 0) (am_dp pw_X11_isWhole_128 dd_X11_isWhole_128a.2.1) rfl (by decide) wd1333 inX11 rfl).to, ?_⟩
  refine List.forall_mem_cons.mpr ⟨(s_iload (am_dp pw_X11_isWhole_128 dd_X11_isWhole_128a.2.2.1)).to, ?_⟩
  refine List.forall_mem_cons.mpr ⟨(s_iald (am_dp pw_X11_isWhole_128 dd_X11_isWhole_128a.2.2.2.1)).to, ?_⟩
  refine List.forall_mem_cons.mpr ⟨(s_imul (am_dp pw_X11_isWhole_128 dd_X11_isWhole_128a.2.2.2.2.1)).to, ?_⟩
  refine List.forall_mem_cons.mpr ⟨(s_aloadn (am_dp pw_X11_isWhole_128 dd_X11_isWhole_128a.2.2.2.2.2.1) rfl).to, ?_⟩
  refine List.forall_mem_cons.mpr ⟨(s_get (ci := 11) (k := 0) (am_dp pw_X11_isWhole_128 dd_X11_isWhole_128a.2.2.2.2.2.2.1) rfl (by decide) wd1333 inX11 rfl).to, ?_⟩
  refine List.forall_mem_cons.mpr ⟨(s_iload (am_dp pw_X11_isWhole_128 dd_X11_isWhole_128a.2.2.2.2.2.2.2)).to, ?_⟩
  refine List.forall_mem_cons.mpr ⟨(s_iconst (am_dp pw_X11_isWhole_128 dd_X11_isWhole_128b.1) (by decide)).to, ?_⟩
  refine List.forall_mem_cons.mpr ⟨(s_iadd (am_dp pw_X11_isWhole_128 dd_X11_isWhole_128b.2.1)).to, ?_⟩
  refine List.forall_mem_cons.mpr ⟨(s_iald (am_dp pw_X11_isWhole_128 dd_X11_isWhole_128b.2.2.1)).to, ?_⟩
  refine List.forall_mem_cons.mpr ⟨(s_iadd (am_dp pw_X11_isWhole_128 dd_X11_isWhole_128b.2.2.2.1)).to, ?_⟩
  refine List.forall_mem_cons.mpr ⟨(s_istore (am_dp pw_X11_isWhole_128 dd_X11_isWhole_128b.2.2.2.2.1) (by decide)).to, ?_⟩
  refine List.forall_mem_cons.mpr ⟨(s_aloadn (am_dp pw_X11_isWhole_128 dd_X11_isWhole_128b.2.2.2.2.2.1) rfl).to, ?_⟩
  refine List.forall_mem_cons.mpr ⟨(s_aloadn (am_dp pw_X11_isWhole_128 dd_X11_isWhole_128b.2.2.2.2.2.2.1) rfl).to, ?_⟩
  refine List.forall_mem_cons.mpr ⟨(s_get (ci := 11) (k := 0) (am_dp pw_X11_isWhole_128 dd_X11_isWhole_128b.2.2.2.2.2.2.2) rfl (by decide) wd1333 inX11 rfl).to, ?_⟩
  refine List.forall_mem_cons.mpr ⟨(s_iload (am_dp pw_X11_isWhole_128 dd_X11_isWhole_128c.1)).to, ?_⟩
  refine List.forall_mem_cons.mpr ⟨(s_iald (am_dp pw_X11_isWhole_128 dd_X11_isWhole_128c.2.1)).to, ?_⟩
  refine List.forall_mem_cons.mpr ⟨zw_cv220 (am_dp pw_X11_isWhole_128 dd_X11_isWhole_128c.2.2) wd1850, ?_⟩
  refine List.forall_mem_cons.mpr ⟨(s_if_eq (am_dp pw_X11_isWhole_160 dd_X11_isWhole_160a.1) (by decide)).to, ?_⟩
  refine List.forall_mem_cons.mpr ⟨(s_aloadn (am_dp pw_X11_isWhole_160 dd_X11_isWhole_160a.2.1) rfl).to, ?_⟩
  refine List.forall_mem_cons.mpr ⟨(s_get (ci := 11) (k := 0) (am_dp pw_X11_isWhole_160 dd_X11_isWhole_160a.2.2.1) rfl (by decide) wd1333 inX11 rfl).to, ?_⟩
  refine List.forall_mem_cons.mpr ⟨(s_iload (am_dp pw_X11_isWhole_160 dd_X11_isWhole_160a.2.2.2.1)).to, ?_⟩
  refine List.forall_mem_cons.mpr ⟨(s_iconst (am_dp pw_X11_isWhole_160 dd_X11_isWhole_160a.2.2.2.2.1) (by decide)).to, ?_⟩
  refine List.forall_mem_cons.mpr ⟨(s_iadd (am_dp pw_X11_isWhole_160 dd_X11_isWhole_160a.2.2.2.2.2.1)).to, ?_⟩
  refine List.forall_mem_cons.mpr ⟨(s_iald (am_dp pw_X11_isWhole_160 dd_X11_isWhole_160a.2.2.2.2.2.2.1)).to, ?_⟩
  refine List.forall_mem_cons.mpr ⟨zw_cs219 (am_dp pw_X11_isWhole_160 dd_X11_isWhole_160a.2.2.2.2.2.2.2) wd1823, ?_⟩
  refine List.forall_mem_cons.mpr ⟨(s_if_eq (am_dp pw_X11_isWhole_160 dd_X11_isWhole_160b.1) (by decide)).to, ?_⟩
  refine List.forall_mem_cons.mpr ⟨(s_iload (am_dp pw_X11_isWhole_160 dd_X11_isWhole_160b.2.1)).to, ?_⟩
  refine List.forall_mem_cons.mpr ⟨(s_iload (am_dp pw_X11_isWhole_160 dd_X11_isWhole_160b.2.2.1)).to, ?_⟩
  refine List.forall_mem_cons.mpr ⟨(s_icmp_le (am_dp pw_X11_isWhole_160 dd_X11_isWhole_160b.2.2.2.1) (by decide)).to, ?_⟩
  refine List.forall_mem_cons.mpr ⟨(s_aloadn (am_dp pw_X11_isWhole_160 dd_X11_isWhole_160b.2.2.2.2.1) rfl).to, ?_⟩
  refine List.forall_mem_cons.mpr ⟨(s_get (ci := 11) (k := 0) (am_dp pw_X11_isWhole_160 dd_X11_isWhole_160b.2.2.2.2.2.1) rfl (by decide) wd1333 inX11 rfl).to, ?_⟩
  refine List.forall_mem_cons.mpr ⟨(s_iload (am_dp pw_X11_isWhole_160 dd_X11_isWhole_160b.2.2.2.2.2.2.1)).to, ?_⟩
  refine List.forall_mem_cons.mpr ⟨(s_iconst (am_dp pw_X11_isWhole_160 dd_X11_isWhole_160b.2.2.2.2.2.2.2) (by decide)).to, ?_⟩
  exact fun _ h => absurd h List.not_mem_nil
theorem sn_tX11_isWhole_2 : ∀ q ∈ tX11_isWhole_2, am_Snd am_P0 RX11 cX11_isWhole 7 (Option.some FieldType.boolean) "isWhole" q.1 q.2 := by
  unfold tX11_isWhole_2
  refine List.forall_mem_cons.mpr ⟨(s_iadd (am_dp pw_X11_isWhole_192 dd_X11_isWhole_192a.1)).to, ?_⟩
  refine List.forall_mem_cons.mpr ⟨(s_iald (am_dp pw_X11_isWhole_192 dd_X11_isWhole_192a.2.1)).to, ?_⟩
  refine List.forall_mem_cons.mpr ⟨(s_aloadn (am_dp pw_X11_isWhole_192 dd_X11_isWhole_192a.2.2.1) rfl).to, ?_⟩
  refine List.forall_mem_cons.mpr ⟨zw_cv214 (am_dp pw_X11_isWhole_192 dd_X11_isWhole_192a.2.2.2.1) wd1771, ?_⟩
  refine List.forall_mem_cons.mpr ⟨(s_icmp_ge (am_dp pw_X11_isWhole_192 dd_X11_isWhole_192a.2.2.2.2.1) (by decide)).to, ?_⟩
  refine List.forall_mem_cons.mpr ⟨(s_aloadn (am_dp pw_X11_isWhole_192 dd_X11_isWhole_192a.2.2.2.2.2.1) rfl).to, ?_⟩
  refine List.forall_mem_cons.mpr ⟨(s_get (ci := 11) (k := 0) (am_dp pw_X11_isWhole_192 dd_X11_isWhole_192a.2.2.2.2.2.2.1) rfl (by decide) wd1333 inX11 rfl).to, ?_⟩
  refine List.forall_mem_cons.mpr ⟨(s_iload (am_dp pw_X11_isWhole_192 dd_X11_isWhole_192a.2.2.2.2.2.2.2)).to, ?_⟩
  refine List.forall_mem_cons.mpr ⟨(s_iconst (am_dp pw_X11_isWhole_192 dd_X11_isWhole_192b.1) (by decide)).to, ?_⟩
  refine List.forall_mem_cons.mpr ⟨(s_iadd (am_dp pw_X11_isWhole_192 dd_X11_isWhole_192b.2.1)).to, ?_⟩
  refine List.forall_mem_cons.mpr ⟨(s_iald (am_dp pw_X11_isWhole_192 dd_X11_isWhole_192b.2.2.1)).to, ?_⟩
  refine List.forall_mem_cons.mpr ⟨(s_iconst (am_dp pw_X11_isWhole_192 dd_X11_isWhole_192b.2.2.2.1) (by decide)).to, ?_⟩
  refine List.forall_mem_cons.mpr ⟨(s_icmp_le (am_dp pw_X11_isWhole_192 dd_X11_isWhole_192b.2.2.2.2.1) (by decide)).to, ?_⟩
  refine List.forall_mem_cons.mpr ⟨(s_iconst (am_dp pw_X11_isWhole_192 dd_X11_isWhole_192b.2.2.2.2.2.1) (by decide)).to, ?_⟩
  refine List.forall_mem_cons.mpr ⟨s_zret (am_dp pw_X11_isWhole_192 dd_X11_isWhole_192b.2.2.2.2.2.2.1) rfl, ?_⟩
  refine List.forall_mem_cons.mpr ⟨(s_iload (am_dp pw_X11_isWhole_192 dd_X11_isWhole_192b.2.2.2.2.2.2.2)).to, ?_⟩
  refine List.forall_mem_cons.mpr ⟨(s_istore (am_dp pw_X11_isWhole_192 dd_X11_isWhole_192c.1) (by decide)).to, ?_⟩
  refine List.forall_mem_cons.mpr ⟨(s_iinc (am_dp pw_X11_isWhole_192 dd_X11_isWhole_192c.2.1) (by decide) (by decide)).to, ?_⟩
  refine List.forall_mem_cons.mpr ⟨(s_goto (am_dp pw_X11_isWhole_192 dd_X11_isWhole_192c.2.2) (by decide)).to, ?_⟩
  refine List.forall_mem_cons.mpr ⟨(s_iloadn (am_dp pw_X11_isWhole_224 dd_X11_isWhole_224a.1) rfl).to, ?_⟩
  refine List.forall_mem_cons.mpr ⟨(s_iconst (am_dp pw_X11_isWhole_224 dd_X11_isWhole_224a.2.1) (by decide)).to, ?_⟩
  refine List.forall_mem_cons.mpr ⟨(s_iadd (am_dp pw_X11_isWhole_224 dd_X11_isWhole_224a.2.2.1)).to, ?_⟩
  refine List.forall_mem_cons.mpr ⟨(s_istore (am_dp pw_X11_isWhole_224 dd_X11_isWhole_224a.2.2.2.1) (by decide)).to, ?_⟩
  refine List.forall_mem_cons.mpr ⟨(s_iload (am_dp pw_X11_isWhole_224 dd_X11_isWhole_224a.2.2.2.2.1)).to, ?_⟩
  refine List.forall_mem_cons.mpr ⟨(s_iloadn (am_dp pw_X11_isWhole_224 dd_X11_isWhole_224a.2.2.2.2.2.1) rfl).to, ?_⟩
  refine List.forall_mem_cons.mpr ⟨(s_iconst (am_dp pw_X11_isWhole_224 dd_X11_isWhole_224a.2.2.2.2.2.2.1) (by decide)).to, ?_⟩
  refine List.forall_mem_cons.mpr ⟨(s_isub (am_dp pw_X11_isWhole_224 dd_X11_isWhole_224a.2.2.2.2.2.2.2)).to, ?_⟩
  refine List.forall_mem_cons.mpr ⟨(s_icmp_ge (am_dp pw_X11_isWhole_224 dd_X11_isWhole_224b.1) (by decide)).to, ?_⟩
  refine List.forall_mem_cons.mpr ⟨(s_aloadn (am_dp pw_X11_isWhole_224 dd_X11_isWhole_224b.2.1) rfl).to, ?_⟩
  refine List.forall_mem_cons.mpr ⟨(s_get (ci := 11) (k := 0) (am_dp pw_X11_isWhole_224 dd_X11_isWhole_224b.2.2.1) rfl (by decide) wd1333 inX11 rfl).to, ?_⟩
  refine List.forall_mem_cons.mpr ⟨(s_iload (am_dp pw_X11_isWhole_224 dd_X11_isWhole_224b.2.2.2.1)).to, ?_⟩
  refine List.forall_mem_cons.mpr ⟨(s_iald (am_dp pw_X11_isWhole_224 dd_X11_isWhole_224b.2.2.2.2.1)).to, ?_⟩
  refine List.forall_mem_cons.mpr ⟨(s_iconst (am_dp pw_X11_isWhole_224 dd_X11_isWhole_224b.2.2.2.2.2.1) (by decide)).to, ?_⟩
  refine List.forall_mem_cons.mpr ⟨(s_icmp_gt (am_dp pw_X11_isWhole_224 dd_X11_isWhole_224b.2.2.2.2.2.2.1) (by decide)).to, ?_⟩
  refine List.forall_mem_cons.mpr ⟨(s_aloadn (am_dp pw_X11_isWhole_224 dd_X11_isWhole_224b.2.2.2.2.2.2.2) rfl).to, ?_⟩
  refine List.forall_mem_cons.mpr ⟨(s_get (ci := 11) (k := 0) (am_dp pw_X11_isWhole_224 dd_X11_isWhole_224c.1) rfl (by decide) wd1333 inX11 rfl).to, ?_⟩
  refine List.forall_mem_cons.mpr ⟨(s_iload (am_dp pw_X11_isWhole_224 dd_X11_isWhole_224c.2)).to, ?_⟩
  refine List.forall_mem_cons.mpr ⟨(s_iconst (am_dp pw_X11_isWhole_256 dd_X11_isWhole_256a.1) (by decide)).to, ?_⟩
  refine List.forall_mem_cons.mpr ⟨(s_iadd (am_dp pw_X11_isWhole_256 dd_X11_isWhole_256a.2.1)).to, ?_⟩
  refine List.forall_mem_cons.mpr ⟨(s_iald (am_dp pw_X11_isWhole_256 dd_X11_isWhole_256a.2.2.1)).to, ?_⟩
  refine List.forall_mem_cons.mpr ⟨(s_aloadn (am_dp pw_X11_isWhole_256 dd_X11_isWhole_256a.2.2.2.1) rfl).to, ?_⟩
  refine List.forall_mem_cons.mpr ⟨zw_cv214 (am_dp pw_X11_isWhole_256 dd_X11_isWhole_256a.2.2.2.2.1) wd1771, ?_⟩
  refine List.forall_mem_cons.mpr ⟨(s_icmp_ge (am_dp pw_X11_isWhole_256 dd_X11_isWhole_256a.2.2.2.2.2.1) (by decide)).to, ?_⟩
  refine List.forall_mem_cons.mpr ⟨(s_aloadn (am_dp pw_X11_isWhole_256 dd_X11_isWhole_256a.2.2.2.2.2.2.1) rfl).to, ?_⟩
  refine List.forall_mem_cons.mpr ⟨(s_get (ci := 11) (k := 0) (am_dp pw_X11_isWhole_256 dd_X11_isWhole_256a.2.2.2.2.2.2.2) rfl (by decide) wd1333 inX11 rfl).to, ?_⟩
  refine List.forall_mem_cons.mpr ⟨(s_iload (am_dp pw_X11_isWhole_256 dd_X11_isWhole_256b.1)).to, ?_⟩
  refine List.forall_mem_cons.mpr ⟨(s_iconst (am_dp pw_X11_isWhole_256 dd_X11_isWhole_256b.2.1) (by decide)).to, ?_⟩
  refine List.forall_mem_cons.mpr ⟨(s_iadd (am_dp pw_X11_isWhole_256 dd_X11_isWhole_256b.2.2.1)).to, ?_⟩
  refine List.forall_mem_cons.mpr ⟨(s_iald (am_dp pw_X11_isWhole_256 dd_X11_isWhole_256b.2.2.2.1)).to, ?_⟩
  refine List.forall_mem_cons.mpr ⟨zw_cs219 (am_dp pw_X11_isWhole_256 dd_X11_isWhole_256b.2.2.2.2.1) wd1823, ?_⟩
  refine List.forall_mem_cons.mpr ⟨(s_if_ne (am_dp pw_X11_isWhole_256 dd_X11_isWhole_256b.2.2.2.2.2.1) (by decide)).to, ?_⟩
  refine List.forall_mem_cons.mpr ⟨(s_iconst (am_dp pw_X11_isWhole_256 dd_X11_isWhole_256b.2.2.2.2.2.2.1) (by decide)).to, ?_⟩
  refine List.forall_mem_cons.mpr ⟨s_zret (am_dp pw_X11_isWhole_256 dd_X11_isWhole_256b.2.2.2.2.2.2.2) rfl, ?_⟩
  refine List.forall_mem_cons.mpr ⟨(s_iinc (am_dp pw_X11_isWhole_256 dd_X11_isWhole_256c.1) (by decide) (by decide)).to, ?_⟩
  refine List.forall_mem_cons.mpr ⟨(s_goto (am_dp pw_X11_isWhole_256 dd_X11_isWhole_256c.2) (by decide)).to, ?_⟩
  refine List.forall_mem_cons.mpr ⟨(s_iconst (am_dp pw_X11_isWhole_288 dd_X11_isWhole_288a.1) (by decide)).to, ?_⟩
  refine List.forall_mem_cons.mpr ⟨s_zret (am_dp pw_X11_isWhole_288 dd_X11_isWhole_288a.2) rfl, ?_⟩
  exact fun _ h => absurd h List.not_mem_nil
theorem sn_tX11_isWhole : ∀ q ∈ tX11_isWhole, am_Snd am_P0 RX11 cX11_isWhole 7 (Option.some FieldType.boolean) "isWhole" q.1 q.2 := by
  unfold tX11_isWhole
  exact List.forall_mem_append.mpr ⟨List.forall_mem_append.mpr ⟨sn_tX11_isWhole_0, sn_tX11_isWhole_1⟩, sn_tX11_isWhole_2⟩
theorem sn_tX11_on_0 : ∀ q ∈ tX11_on_0, am_Snd am_P0 RX11 cX11_on 4 (Option.some FieldType.boolean) "on" q.1 q.2 := by
  unfold tX11_on_0
  refine List.forall_mem_cons.mpr ⟨(s_aloadn (am_dp pw_X11_on_0 dd_X11_on_0a.1) rfl).to, ?_⟩
  refine List.forall_mem_cons.mpr ⟨(s_get (ci := 11) (k := 1) (am_dp pw_X11_on_0 dd_X11_on_0a.2.1) rfl (by decide) wd1334 inX11 rfl).to, ?_⟩
  refine List.forall_mem_cons.mpr ⟨(s_istoren (am_dp pw_X11_on_0 dd_X11_on_0a.2.2.1) rfl (by decide)).to, ?_⟩
  refine List.forall_mem_cons.mpr ⟨(s_aloadn (am_dp pw_X11_on_0 dd_X11_on_0a.2.2.2.1) rfl).to, ?_⟩
  refine List.forall_mem_cons.mpr ⟨(s_iconst (am_dp pw_X11_on_0 dd_X11_on_0a.2.2.2.2.1) (by decide)).to, ?_⟩
  refine List.forall_mem_cons.mpr ⟨(s_put (ci := 11) (k := 1) (am_dp pw_X11_on_0 dd_X11_on_0a.2.2.2.2.2.1) rfl (by decide) wd1334 inX11 tyX11_ok nmX11 rfl rfl).to, ?_⟩
  refine List.forall_mem_cons.mpr ⟨(s_aloadn (am_dp pw_X11_on_0 dd_X11_on_0a.2.2.2.2.2.2.1) rfl).to, ?_⟩
  refine List.forall_mem_cons.mpr ⟨(s_iloadn (am_dp pw_X11_on_0 dd_X11_on_0a.2.2.2.2.2.2.2) rfl).to, ?_⟩
  refine List.forall_mem_cons.mpr ⟨zw_cv301 (am_dp pw_X11_on_0 dd_X11_on_0b.1) wd2146, ?_⟩
  refine List.forall_mem_cons.mpr ⟨(s_if_ne (am_dp pw_X11_on_0 dd_X11_on_0b.2.1) (by decide)).to, ?_⟩
  refine List.forall_mem_cons.mpr ⟨(s_aloadn (am_dp pw_X11_on_0 dd_X11_on_0b.2.2.1) rfl).to, ?_⟩
  refine List.forall_mem_cons.mpr ⟨(s_iconst (am_dp pw_X11_on_0 dd_X11_on_0b.2.2.2.1) (by decide)).to, ?_⟩
  refine List.forall_mem_cons.mpr ⟨zw_cv208 (am_dp pw_X11_on_0 dd_X11_on_0b.2.2.2.2.1) wd1587, ?_⟩
  refine List.forall_mem_cons.mpr ⟨(s_if_lt (am_dp pw_X11_on_0 dd_X11_on_0b.2.2.2.2.2.1) (by decide)).to, ?_⟩
  refine List.forall_mem_cons.mpr ⟨(s_iconst (am_dp pw_X11_on_0 dd_X11_on_0b.2.2.2.2.2.2.1) (by decide)).to, ?_⟩
  refine List.forall_mem_cons.mpr ⟨(s_goto (am_dp pw_X11_on_0 dd_X11_on_0b.2.2.2.2.2.2.2) (by decide)).to, ?_⟩
  refine List.forall_mem_cons.mpr ⟨(s_iconst (am_dp pw_X11_on_0 dd_X11_on_0c.1) (by decide)).to, ?_⟩
  refine List.forall_mem_cons.mpr ⟨s_zret (am_dp pw_X11_on_0 dd_X11_on_0c.2) rfl, ?_⟩
  refine List.forall_mem_cons.mpr ⟨(s_iconst (am_dp pw_X11_on_32 dd_X11_on_32a.1) (by decide)).to, ?_⟩
  refine List.forall_mem_cons.mpr ⟨(s_istoren (am_dp pw_X11_on_32 dd_X11_on_32a.2.1) rfl (by decide)).to, ?_⟩
  refine List.forall_mem_cons.mpr ⟨(s_iloadn (am_dp pw_X11_on_32 dd_X11_on_32a.2.2.1) rfl).to, ?_⟩
  refine List.forall_mem_cons.mpr ⟨(s_sipush (am_dp pw_X11_on_32 dd_X11_on_32a.2.2.2.1) (by decide)).to, ?_⟩
  refine List.forall_mem_cons.mpr ⟨(s_icmp_ge (am_dp pw_X11_on_32 dd_X11_on_32a.2.2.2.2.1) (by decide)).to, ?_⟩
  refine List.forall_mem_cons.mpr ⟨(s_aloadn (am_dp pw_X11_on_32 dd_X11_on_32a.2.2.2.2.2.1) rfl).to, ?_⟩
  refine List.forall_mem_cons.mpr ⟨(s_get (ci := 11) (k := 26) (am_dp pw_X11_on_32 dd_X11_on_32a.2.2.2.2.2.2.1) rfl (by decide) wd1359 inX11 rfl).to, ?_⟩
  refine List.forall_mem_cons.mpr ⟨(s_sipush (am_dp pw_X11_on_32 dd_X11_on_32a.2.2.2.2.2.2.2) (by decide)).to, ?_⟩
  refine List.forall_mem_cons.mpr ⟨(s_aloadn (am_dp pw_X11_on_32 dd_X11_on_32b.1) rfl).to, ?_⟩
  refine List.forall_mem_cons.mpr ⟨(s_get (ci := 11) (k := 12) (am_dp pw_X11_on_32 dd_X11_on_32b.2.1) rfl (by decide) wd1345 inX11 rfl).to, ?_⟩
  refine List.forall_mem_cons.mpr ⟨(s_imul (am_dp pw_X11_on_32 dd_X11_on_32b.2.2.1)).to, ?_⟩
  refine List.forall_mem_cons.mpr ⟨(s_iloadn (am_dp pw_X11_on_32 dd_X11_on_32b.2.2.2.1) rfl).to, ?_⟩
  refine List.forall_mem_cons.mpr ⟨(s_iadd (am_dp pw_X11_on_32 dd_X11_on_32b.2.2.2.2.1)).to, ?_⟩
  refine List.forall_mem_cons.mpr ⟨(s_iconst (am_dp pw_X11_on_32 dd_X11_on_32b.2.2.2.2.2.1) (by decide)).to, ?_⟩
  refine List.forall_mem_cons.mpr ⟨(s_iast (am_dp pw_X11_on_32 dd_X11_on_32b.2.2.2.2.2.2.1)).to, ?_⟩
  refine List.forall_mem_cons.mpr ⟨(s_iinc (am_dp pw_X11_on_32 dd_X11_on_32b.2.2.2.2.2.2.2) (by decide) (by decide)).to, ?_⟩
  refine List.forall_mem_cons.mpr ⟨(s_goto (am_dp pw_X11_on_32 dd_X11_on_32c.1) (by decide)).to, ?_⟩
  refine List.forall_mem_cons.mpr ⟨(s_aloadn (am_dp pw_X11_on_32 dd_X11_on_32c.2) rfl).to, ?_⟩
  refine List.forall_mem_cons.mpr ⟨(s_get (ci := 11) (k := 25) (am_dp pw_X11_on_64 dd_X11_on_64a.1) rfl (by decide) wd1358 inX11 rfl).to, ?_⟩
  refine List.forall_mem_cons.mpr ⟨(s_aloadn (am_dp pw_X11_on_64 dd_X11_on_64a.2.1) rfl).to, ?_⟩
  refine List.forall_mem_cons.mpr ⟨(s_get (ci := 11) (k := 12) (am_dp pw_X11_on_64 dd_X11_on_64a.2.2.1) rfl (by decide) wd1345 inX11 rfl).to, ?_⟩
  refine List.forall_mem_cons.mpr ⟨(s_iconst (am_dp pw_X11_on_64 dd_X11_on_64a.2.2.2.1) (by decide)).to, ?_⟩
  refine List.forall_mem_cons.mpr ⟨(s_iast (am_dp pw_X11_on_64 dd_X11_on_64a.2.2.2.2.1)).to, ?_⟩
  refine List.forall_mem_cons.mpr ⟨(s_aloadn (am_dp pw_X11_on_64 dd_X11_on_64a.2.2.2.2.2.1) rfl).to, ?_⟩
  refine List.forall_mem_cons.mpr ⟨(s_get (ci := 11) (k := 33) (am_dp pw_X11_on_64 dd_X11_on_64a.2.2.2.2.2.2.1) rfl (by decide) wd1366 inX11 rfl).to, ?_⟩
  refine List.forall_mem_cons.mpr ⟨(s_aloadn (am_dp pw_X11_on_64 dd_X11_on_64a.2.2.2.2.2.2.2) rfl).to, ?_⟩
  refine List.forall_mem_cons.mpr ⟨(s_get (ci := 11) (k := 12) (am_dp pw_X11_on_64 dd_X11_on_64b.1) rfl (by decide) wd1345 inX11 rfl).to, ?_⟩
  refine List.forall_mem_cons.mpr ⟨(s_iconst (am_dp pw_X11_on_64 dd_X11_on_64b.2.1) (by decide)).to, ?_⟩
  refine List.forall_mem_cons.mpr ⟨(s_iast (am_dp pw_X11_on_64 dd_X11_on_64b.2.2.1)).to, ?_⟩
  refine List.forall_mem_cons.mpr ⟨(s_iconst (am_dp pw_X11_on_64 dd_X11_on_64b.2.2.2.1) (by decide)).to, ?_⟩
  refine List.forall_mem_cons.mpr ⟨(s_iconst (am_dp pw_X11_on_64 dd_X11_on_64b.2.2.2.2.1) (by decide)).to, ?_⟩
  refine List.forall_mem_cons.mpr ⟨(s_aloadn (am_dp pw_X11_on_64 dd_X11_on_64b.2.2.2.2.2.1) rfl).to, ?_⟩
  refine List.forall_mem_cons.mpr ⟨(s_get (ci := 11) (k := 0) (am_dp pw_X11_on_64 dd_X11_on_64b.2.2.2.2.2.2.1) rfl (by decide) wd1333 inX11 rfl).to, ?_⟩
  refine List.forall_mem_cons.mpr ⟨(s_iconst (am_dp pw_X11_on_64 dd_X11_on_64b.2.2.2.2.2.2.2) (by decide)).to, ?_⟩
  refine List.forall_mem_cons.mpr ⟨(s_iald (am_dp pw_X11_on_64 dd_X11_on_64c.1)).to, ?_⟩
  refine List.forall_mem_cons.mpr ⟨(s_imul (am_dp pw_X11_on_64 dd_X11_on_64c.2.1)).to, ?_⟩
  refine List.forall_mem_cons.mpr ⟨(s_iadd (am_dp pw_X11_on_64 dd_X11_on_64c.2.2.1)).to, ?_⟩
  refine List.forall_mem_cons.mpr ⟨(s_istoren (am_dp pw_X11_on_64 dd_X11_on_64c.2.2.2.1) rfl (by decide)).to, ?_⟩
  refine List.forall_mem_cons.mpr ⟨(s_iconst (am_dp pw_X11_on_64 dd_X11_on_64c.2.2.2.2.1) (by decide)).to, ?_⟩
  refine List.forall_mem_cons.mpr ⟨(s_istoren (am_dp pw_X11_on_64 dd_X11_on_64c.2.2.2.2.2) rfl (by decide)).to, ?_⟩
  refine List.forall_mem_cons.mpr ⟨(s_iloadn (am_dp pw_X11_on_96 dd_X11_on_96a.1) rfl).to, ?_⟩
  refine List.forall_mem_cons.mpr ⟨(s_iloadn (am_dp pw_X11_on_96 dd_X11_on_96a.2.1) rfl).to, ?_⟩
  exact fun _ h => absurd h List.not_mem_nil
theorem sn_tX11_on_1 : ∀ q ∈ tX11_on_1, am_Snd am_P0 RX11 cX11_on 4 (Option.some FieldType.boolean) "on" q.1 q.2 := by
  unfold tX11_on_1
  refine List.forall_mem_cons.mpr ⟨(s_icmp_ge (am_dp pw_X11_on_96 dd_X11_on_96a.2.2.1) (by decide)).to, ?_⟩
  refine List.forall_mem_cons.mpr ⟨(s_aloadn (am_dp pw_X11_on_96 dd_X11_on_96a.2.2.2.1) rfl).to, ?_⟩
  refine List.forall_mem_cons.mpr ⟨(s_aloadn (am_dp pw_X11_on_96 dd_X11_on_96a.2.2.2.2.1) rfl).to, ?_⟩
  refine List.forall_mem_cons.mpr ⟨(s_get (ci := 11) (k := 0) (am_dp pw_X11_on_96 dd_X11_on_96a.2.2.2.2.2.1) rfl (by decide) wd1333 inX11 rfl).to, ?_⟩
  refine List.forall_mem_cons.mpr ⟨(s_iloadn (am_dp pw_X11_on_96 dd_X11_on_96a.2.2.2.2.2.2.1) rfl).to, ?_⟩
  refine List.forall_mem_cons.mpr ⟨(s_iald (am_dp pw_X11_on_96 dd_X11_on_96a.2.2.2.2.2.2.2)).to, ?_⟩
  refine List.forall_mem_cons.mpr ⟨(s_aloadn (am_dp pw_X11_on_96 dd_X11_on_96b.1) rfl).to, ?_⟩
  refine List.forall_mem_cons.mpr ⟨(s_get (ci := 11) (k := 0) (am_dp pw_X11_on_96 dd_X11_on_96b.2.1) rfl (by decide) wd1333 inX11 rfl).to, ?_⟩
  refine List.forall_mem_cons.mpr ⟨(s_iloadn (am_dp pw_X11_on_96 dd_X11_on_96b.2.2.1) rfl).to, ?_⟩
  refine List.forall_mem_cons.mpr ⟨(s_iconst (am_dp pw_X11_on_96 dd_X11_on_96b.2.2.2.1) (by decide)).to, ?_⟩
  refine List.forall_mem_cons.mpr ⟨(s_iadd (am_dp pw_X11_on_96 dd_X11_on_96b.2.2.2.2.1)).to, ?_⟩
  refine List.forall_mem_cons.mpr ⟨(s_iald (am_dp pw_X11_on_96 dd_X11_on_96b.2.2.2.2.2.1)).to, ?_⟩
  refine List.forall_mem_cons.mpr ⟨(s_aloadn (am_dp pw_X11_on_96 dd_X11_on_96b.2.2.2.2.2.2.1) rfl).to, ?_⟩
  refine List.forall_mem_cons.mpr ⟨(s_get (ci := 11) (k := 0) (am_dp pw_X11_on_96 dd_X11_on_96b.2.2.2.2.2.2.2) rfl (by decide) wd1333 inX11 rfl).to, ?_⟩
  refine List.forall_mem_cons.mpr ⟨(s_iloadn (am_dp pw_X11_on_96 dd_X11_on_96c.1) rfl).to, ?_⟩
  refine List.forall_mem_cons.mpr ⟨(s_iconst (am_dp pw_X11_on_96 dd_X11_on_96c.2.1) (by decide)).to, ?_⟩
  refine List.forall_mem_cons.mpr ⟨(s_iadd (am_dp pw_X11_on_96 dd_X11_on_96c.2.2.1)).to, ?_⟩
  refine List.forall_mem_cons.mpr ⟨(s_iald (am_dp pw_X11_on_96 dd_X11_on_96c.2.2.2.1)).to, ?_⟩
  refine List.forall_mem_cons.mpr ⟨(s_aloadn (am_dp pw_X11_on_96 dd_X11_on_96c.2.2.2.2.1) rfl).to, ?_⟩
  refine List.forall_mem_cons.mpr ⟨(s_get (ci := 11) (k := 0) (am_dp pw_X11_on_96 dd_X11_on_96c.2.2.2.2.2) rfl (by decide) wd1333 inX11 rfl).to, ?_⟩
  refine List.forall_mem_cons.mpr ⟨(s_iloadn (am_dp pw_X11_on_128 dd_X11_on_128a.1) rfl).to, ?_⟩
  refine List.forall_mem_cons.mpr ⟨(s_iconst (am_dp pw_X11_on_128 dd_X11_on_128a.2.1) (by decide)).to, ?_⟩
  refine List.forall_mem_cons.mpr ⟨(s_iadd (am_dp pw_X11_on_128 dd_X11_on_128a.2.2.1)).to, ?_⟩
  refine List.forall_mem_cons.mpr ⟨(s_iald (am_dp pw_X11_on_128 dd_X11_on_128a.2.2.2.1)).to, ?_⟩
  refine List.forall_mem_cons.mpr ⟨(s_iconst (am_dp pw_X11_on_128 dd_X11_on_128a.2.2.2.2.1) (by decide)).to, ?_⟩
  refine List.forall_mem_cons.mpr ⟨(s_icmp_ne (am_dp pw_X11_on_128 dd_X11_on_128a.2.2.2.2.2.1) (by decide)).to, ?_⟩
  refine List.forall_mem_cons.mpr ⟨(s_iconst (am_dp pw_X11_on_128 dd_X11_on_128a.2.2.2.2.2.2.1) (by decide)).to, ?_⟩
  refine List.forall_mem_cons.mpr ⟨(s_goto (am_dp pw_X11_on_128 dd_X11_on_128a.2.2.2.2.2.2.2) (by decide)).to, ?_⟩
  refine List.forall_mem_cons.mpr ⟨(s_iconst (am_dp pw_X11_on_128 dd_X11_on_128b.1) (by decide)).to, ?_⟩
  refine List.forall_mem_cons.mpr ⟨zw_cv293 (am_dp pw_X11_on_128 dd_X11_on_128b.2.1) wd2110, ?_⟩
  refine List.forall_mem_cons.mpr ⟨(s_iinc (am_dp pw_X11_on_128 dd_X11_on_128b.2.2.1) (by decide) (by decide)).to, ?_⟩
  refine List.forall_mem_cons.mpr ⟨(s_goto (am_dp pw_X11_on_128 dd_X11_on_128b.2.2.2.1) (by decide)).to, ?_⟩
  refine List.forall_mem_cons.mpr ⟨(s_iloadn (am_dp pw_X11_on_128 dd_X11_on_128b.2.2.2.2.1) rfl).to, ?_⟩
  refine List.forall_mem_cons.mpr ⟨(s_iconst (am_dp pw_X11_on_128 dd_X11_on_128b.2.2.2.2.2.1) (by decide)).to, ?_⟩
  refine List.forall_mem_cons.mpr ⟨(s_iadd (am_dp pw_X11_on_128 dd_X11_on_128b.2.2.2.2.2.2.1)).to, ?_⟩
  refine List.forall_mem_cons.mpr ⟨(s_istoren (am_dp pw_X11_on_128 dd_X11_on_128b.2.2.2.2.2.2.2) rfl (by decide)).to, ?_⟩
  refine List.forall_mem_cons.mpr ⟨(s_iloadn (am_dp pw_X11_on_128 dd_X11_on_128c.1) rfl).to, ?_⟩
  refine List.forall_mem_cons.mpr ⟨(s_iloadn (am_dp pw_X11_on_128 dd_X11_on_128c.2.1) rfl).to, ?_⟩
  refine List.forall_mem_cons.mpr ⟨(s_iconst (am_dp pw_X11_on_128 dd_X11_on_128c.2.2.1) (by decide)).to, ?_⟩
  refine List.forall_mem_cons.mpr ⟨(s_isub (am_dp pw_X11_on_128 dd_X11_on_128c.2.2.2.1)).to, ?_⟩
  refine List.forall_mem_cons.mpr ⟨(s_icmp_ge (am_dp pw_X11_on_128 dd_X11_on_128c.2.2.2.2) (by decide)).to, ?_⟩
  refine List.forall_mem_cons.mpr ⟨(s_aloadn (am_dp pw_X11_on_160 dd_X11_on_160a.1) rfl).to, ?_⟩
  refine List.forall_mem_cons.mpr ⟨(s_aloadn (am_dp pw_X11_on_160 dd_X11_on_160a.2.1) rfl).to, ?_⟩
  refine List.forall_mem_cons.mpr ⟨(s_get (ci := 11) (k := 0) (am_dp pw_X11_on_160 dd_X11_on_160a.2.2.1) rfl (by decide) wd1333 inX11 rfl).to, ?_⟩
  refine List.forall_mem_cons.mpr ⟨(s_iloadn (am_dp pw_X11_on_160 dd_X11_on_160a.2.2.2.1) rfl).to, ?_⟩
  refine List.forall_mem_cons.mpr ⟨(s_iald (am_dp pw_X11_on_160 dd_X11_on_160a.2.2.2.2.1)).to, ?_⟩
  refine List.forall_mem_cons.mpr ⟨(s_aloadn (am_dp pw_X11_on_160 dd_X11_on_160a.2.2.2.2.2.1) rfl).to, ?_⟩
  refine List.forall_mem_cons.mpr ⟨(s_get (ci := 11) (k := 0) (am_dp pw_X11_on_160 dd_X11_on_160a.2.2.2.2.2.2.1) rfl (by decide) wd1333 inX11 rfl).to, ?_⟩
  refine List.forall_mem_cons.mpr ⟨(s_iloadn (am_dp pw_X11_on_160 dd_X11_on_160a.2.2.2.2.2.2.2) rfl).to, ?_⟩
  refine List.forall_mem_cons.mpr ⟨(s_iconst (am_dp pw_X11_on_160 dd_X11_on_160b.1) (by decide)).to, ?_⟩
  refine List.forall_mem_cons.mpr ⟨(s_iadd (am_dp pw_X11_on_160 dd_X11_on_160b.2.1)).to, ?_⟩
  refine List.forall_mem_cons.mpr ⟨(s_iald (am_dp pw_X11_on_160 dd_X11_on_160b.2.2.1)).to, ?_⟩
  refine List.forall_mem_cons.mpr ⟨(s_aloadn (am_dp pw_X11_on_160 dd_X11_on_160b.2.2.2.1) rfl).to, ?_⟩
  refine List.forall_mem_cons.mpr ⟨(s_get (ci := 11) (k := 0) (am_dp pw_X11_on_160 dd_X11_on_160b.2.2.2.2.1) rfl (by decide) wd1333 inX11 rfl).to, ?_⟩
  refine List.forall_mem_cons.mpr ⟨(s_iloadn (am_dp pw_X11_on_160 dd_X11_on_160b.2.2.2.2.2.1) rfl).to, ?_⟩
  refine List.forall_mem_cons.mpr ⟨(s_iconst (am_dp pw_X11_on_160 dd_X11_on_160b.2.2.2.2.2.2.1) (by decide)).to, ?_⟩
  refine List.forall_mem_cons.mpr ⟨(s_iadd (am_dp pw_X11_on_160 dd_X11_on_160b.2.2.2.2.2.2.2)).to, ?_⟩
  refine List.forall_mem_cons.mpr ⟨(s_iald (am_dp pw_X11_on_160 dd_X11_on_160c.1)).to, ?_⟩
  refine List.forall_mem_cons.mpr ⟨zw_cv296 (am_dp pw_X11_on_160 dd_X11_on_160c.2.1) wd2126, ?_⟩
  refine List.forall_mem_cons.mpr ⟨(s_iinc (am_dp pw_X11_on_160 dd_X11_on_160c.2.2.1) (by decide) (by decide)).to, ?_⟩
  exact fun _ h => absurd h List.not_mem_nil
theorem sn_tX11_on_2 : ∀ q ∈ tX11_on_2, am_Snd am_P0 RX11 cX11_on 4 (Option.some FieldType.boolean) "on" q.1 q.2 := by
  unfold tX11_on_2
  refine List.forall_mem_cons.mpr ⟨(s_goto (am_dp pw_X11_on_160 dd_X11_on_160c.2.2.2) (by decide)).to, ?_⟩
  refine List.forall_mem_cons.mpr ⟨(s_iconst (am_dp pw_X11_on_192 dd_X11_on_192a.1) (by decide)).to, ?_⟩
  refine List.forall_mem_cons.mpr ⟨s_zret (am_dp pw_X11_on_192 dd_X11_on_192a.2) rfl, ?_⟩
  exact fun _ h => absurd h List.not_mem_nil
theorem sn_tX11_on : ∀ q ∈ tX11_on, am_Snd am_P0 RX11 cX11_on 4 (Option.some FieldType.boolean) "on" q.1 q.2 := by
  unfold tX11_on
  exact List.forall_mem_append.mpr ⟨List.forall_mem_append.mpr ⟨sn_tX11_on_0, sn_tX11_on_1⟩, sn_tX11_on_2⟩
