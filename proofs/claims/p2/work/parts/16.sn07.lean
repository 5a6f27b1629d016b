/-! the machine follows each instruction (by program: gen_prog.py) -/
theorem sn_tX11_ship_0 : ∀ q ∈ tX11_ship_0, am_Snd am_P0 RX11 cX11_ship 2 (Option.none : Option FieldType) "ship" q.1 q.2 := by
  unfold tX11_ship_0
  refine List.forall_mem_cons.mpr ⟨(s_aloadn (am_dp pw_X11_ship_0 dd_X11_ship_0a.1) rfl).to, ?_⟩
  refine List.forall_mem_cons.mpr ⟨(s_aloadn (am_dp pw_X11_ship_0 dd_X11_ship_0a.2.1) rfl).to, ?_⟩
  refine List.forall_mem_cons.mpr ⟨(s_get (ci := 11) (k := 19) (am_dp pw_X11_ship_0 dd_X11_ship_0a.2.2.1) rfl (by decide) wd1352 inX11 rfl).to, ?_⟩
  refine List.forall_mem_cons.mpr ⟨(s_aloadn (am_dp pw_X11_ship_0 dd_X11_ship_0a.2.2.2.1) rfl).to, ?_⟩
  refine List.forall_mem_cons.mpr ⟨(s_get (ci := 11) (k := 41) (am_dp pw_X11_ship_0 dd_X11_ship_0a.2.2.2.2.1) rfl (by decide) wd1374 inX11 rfl).to, ?_⟩
  refine List.forall_mem_cons.mpr ⟨(s_iald (am_dp pw_X11_ship_0 dd_X11_ship_0a.2.2.2.2.2.1)).to, ?_⟩
  refine List.forall_mem_cons.mpr ⟨(s_bipush (am_dp pw_X11_ship_0 dd_X11_ship_0a.2.2.2.2.2.2.1) (by decide)).to, ?_⟩
  refine List.forall_mem_cons.mpr ⟨(s_icmp_ne (am_dp pw_X11_ship_0 dd_X11_ship_0a.2.2.2.2.2.2.2) (by decide)).to, ?_⟩
  refine List.forall_mem_cons.mpr ⟨(s_iconst (am_dp pw_X11_ship_0 dd_X11_ship_0b.1) (by decide)).to, ?_⟩
  refine List.forall_mem_cons.mpr ⟨(s_goto (am_dp pw_X11_ship_0 dd_X11_ship_0b.2.1) (by decide)).to, ?_⟩
  refine List.forall_mem_cons.mpr ⟨(s_iconst (am_dp pw_X11_ship_0 dd_X11_ship_0b.2.2.1) (by decide)).to, ?_⟩
  refine List.forall_mem_cons.mpr ⟨zw_cv193 (am_dp pw_X11_ship_0 dd_X11_ship_0b.2.2.2.1) wd1653, ?_⟩
  refine List.forall_mem_cons.mpr ⟨(s_if_ne (am_dp pw_X11_ship_0 dd_X11_ship_0b.2.2.2.2.1) (by decide)).to, ?_⟩
  refine List.forall_mem_cons.mpr ⟨s_vret (am_dp pw_X11_ship_0 dd_X11_ship_0b.2.2.2.2.2.1) rfl, ?_⟩
  refine List.forall_mem_cons.mpr ⟨(s_bipush (am_dp pw_X11_ship_0 dd_X11_ship_0b.2.2.2.2.2.2.1) (by decide)).to, ?_⟩
  refine List.forall_mem_cons.mpr ⟨(s_aloadn (am_dp pw_X11_ship_0 dd_X11_ship_0b.2.2.2.2.2.2.2) rfl).to, ?_⟩
  refine List.forall_mem_cons.mpr ⟨(s_get (ci := 11) (k := 41) (am_dp pw_X11_ship_0 dd_X11_ship_0c) rfl (by decide) wd1374 inX11 rfl).to, ?_⟩
  refine List.forall_mem_cons.mpr ⟨(s_imul (am_dp pw_X11_ship_32 dd_X11_ship_32a.1)).to, ?_⟩
  refine List.forall_mem_cons.mpr ⟨(s_aloadn (am_dp pw_X11_ship_32 dd_X11_ship_32a.2.1) rfl).to, ?_⟩
  refine List.forall_mem_cons.mpr ⟨(s_get (ci := 11) (k := 19) (am_dp pw_X11_ship_32 dd_X11_ship_32a.2.2.1) rfl (by decide) wd1352 inX11 rfl).to, ?_⟩
  refine List.forall_mem_cons.mpr ⟨(s_aloadn (am_dp pw_X11_ship_32 dd_X11_ship_32a.2.2.2.1) rfl).to, ?_⟩
  refine List.forall_mem_cons.mpr ⟨(s_get (ci := 11) (k := 41) (am_dp pw_X11_ship_32 dd_X11_ship_32a.2.2.2.2.1) rfl (by decide) wd1374 inX11 rfl).to, ?_⟩
  refine List.forall_mem_cons.mpr ⟨(s_iald (am_dp pw_X11_ship_32 dd_X11_ship_32a.2.2.2.2.2.1)).to, ?_⟩
  refine List.forall_mem_cons.mpr ⟨(s_iadd (am_dp pw_X11_ship_32 dd_X11_ship_32a.2.2.2.2.2.2.1)).to, ?_⟩
  refine List.forall_mem_cons.mpr ⟨(s_istoren (am_dp pw_X11_ship_32 dd_X11_ship_32a.2.2.2.2.2.2.2) rfl (by decide)).to, ?_⟩
  refine List.forall_mem_cons.mpr ⟨(s_aloadn (am_dp pw_X11_ship_32 dd_X11_ship_32b.1) rfl).to, ?_⟩
  refine List.forall_mem_cons.mpr ⟨(s_get (ci := 11) (k := 20) (am_dp pw_X11_ship_32 dd_X11_ship_32b.2.1) rfl (by decide) wd1353 inX11 rfl).to, ?_⟩
  refine List.forall_mem_cons.mpr ⟨(s_iloadn (am_dp pw_X11_ship_32 dd_X11_ship_32b.2.2.1) rfl).to, ?_⟩
  refine List.forall_mem_cons.mpr ⟨(s_aloadn (am_dp pw_X11_ship_32 dd_X11_ship_32b.2.2.2.1) rfl).to, ?_⟩
  refine List.forall_mem_cons.mpr ⟨zw_cv195 (am_dp pw_X11_ship_32 dd_X11_ship_32b.2.2.2.2.1) wd1719, ?_⟩
  refine List.forall_mem_cons.mpr ⟨(s_last (am_dp pw_X11_ship_32 dd_X11_ship_32b.2.2.2.2.2.1)).to, ?_⟩
  refine List.forall_mem_cons.mpr ⟨(s_aloadn (am_dp pw_X11_ship_32 dd_X11_ship_32b.2.2.2.2.2.2.1) rfl).to, ?_⟩
  refine List.forall_mem_cons.mpr ⟨(s_ldc2 (am_dp pw_X11_ship_32 dd_X11_ship_32b.2.2.2.2.2.2.2) wd1727).to, ?_⟩
  refine List.forall_mem_cons.mpr ⟨zw_cv194 (am_dp pw_X11_ship_32 dd_X11_ship_32c.1) wd1708, ?_⟩
  refine List.forall_mem_cons.mpr ⟨(s_aloadn (am_dp pw_X11_ship_32 dd_X11_ship_32c.2.1) rfl).to, ?_⟩
  refine List.forall_mem_cons.mpr ⟨(s_get (ci := 11) (k := 21) (am_dp pw_X11_ship_32 dd_X11_ship_32c.2.2) rfl (by decide) wd1354 inX11 rfl).to, ?_⟩
  refine List.forall_mem_cons.mpr ⟨(s_iloadn (am_dp pw_X11_ship_64 dd_X11_ship_64a.1) rfl).to, ?_⟩
  refine List.forall_mem_cons.mpr ⟨(s_aloadn (am_dp pw_X11_ship_64 dd_X11_ship_64a.2.1) rfl).to, ?_⟩
  refine List.forall_mem_cons.mpr ⟨(s_iconst (am_dp pw_X11_ship_64 dd_X11_ship_64a.2.2.1) (by decide)).to, ?_⟩
  refine List.forall_mem_cons.mpr ⟨(s_iconst (am_dp pw_X11_ship_64 dd_X11_ship_64a.2.2.2.1) (by decide)).to, ?_⟩
  refine List.forall_mem_cons.mpr ⟨zw_cv182 (am_dp pw_X11_ship_64 dd_X11_ship_64a.2.2.2.2.1) wd1626, ?_⟩
  refine List.forall_mem_cons.mpr ⟨(s_iast (am_dp pw_X11_ship_64 dd_X11_ship_64a.2.2.2.2.2.1)).to, ?_⟩
  refine List.forall_mem_cons.mpr ⟨(s_aloadn (am_dp pw_X11_ship_64 dd_X11_ship_64a.2.2.2.2.2.2.1) rfl).to, ?_⟩
  refine List.forall_mem_cons.mpr ⟨(s_ldc2 (am_dp pw_X11_ship_64 dd_X11_ship_64a.2.2.2.2.2.2.2) wd1728).to, ?_⟩
  refine List.forall_mem_cons.mpr ⟨zw_cv194 (am_dp pw_X11_ship_64 dd_X11_ship_64b.1) wd1708, ?_⟩
  refine List.forall_mem_cons.mpr ⟨(s_aloadn (am_dp pw_X11_ship_64 dd_X11_ship_64b.2.1) rfl).to, ?_⟩
  refine List.forall_mem_cons.mpr ⟨(s_get (ci := 11) (k := 22) (am_dp pw_X11_ship_64 dd_X11_ship_64b.2.2.1) rfl (by decide) wd1355 inX11 rfl).to, ?_⟩
  refine List.forall_mem_cons.mpr ⟨(s_iloadn (am_dp pw_X11_ship_64 dd_X11_ship_64b.2.2.2.1) rfl).to, ?_⟩
  refine List.forall_mem_cons.mpr ⟨(s_aloadn (am_dp pw_X11_ship_64 dd_X11_ship_64b.2.2.2.2.1) rfl).to, ?_⟩
  refine List.forall_mem_cons.mpr ⟨(s_iconst (am_dp pw_X11_ship_64 dd_X11_ship_64b.2.2.2.2.2.1) (by decide)).to, ?_⟩
  refine List.forall_mem_cons.mpr ⟨(s_iconst (am_dp pw_X11_ship_64 dd_X11_ship_64b.2.2.2.2.2.2.1) (by decide)).to, ?_⟩
  refine List.forall_mem_cons.mpr ⟨zw_cv182 (am_dp pw_X11_ship_64 dd_X11_ship_64b.2.2.2.2.2.2.2) wd1626, ?_⟩
  refine List.forall_mem_cons.mpr ⟨(s_iast (am_dp pw_X11_ship_64 dd_X11_ship_64c.1)).to, ?_⟩
  refine List.forall_mem_cons.mpr ⟨(s_aloadn (am_dp pw_X11_ship_64 dd_X11_ship_64c.2.1) rfl).to, ?_⟩
  refine List.forall_mem_cons.mpr ⟨(s_ldc2 (am_dp pw_X11_ship_64 dd_X11_ship_64c.2.2) wd1729).to, ?_⟩
  refine List.forall_mem_cons.mpr ⟨zw_cv194 (am_dp pw_X11_ship_96 dd_X11_ship_96a.1) wd1708, ?_⟩
  refine List.forall_mem_cons.mpr ⟨(s_aloadn (am_dp pw_X11_ship_96 dd_X11_ship_96a.2.1) rfl).to, ?_⟩
  refine List.forall_mem_cons.mpr ⟨(s_get (ci := 11) (k := 23) (am_dp pw_X11_ship_96 dd_X11_ship_96a.2.2.1) rfl (by decide) wd1356 inX11 rfl).to, ?_⟩
  refine List.forall_mem_cons.mpr ⟨(s_iloadn (am_dp pw_X11_ship_96 dd_X11_ship_96a.2.2.2.1) rfl).to, ?_⟩
  refine List.forall_mem_cons.mpr ⟨(s_aloadn (am_dp pw_X11_ship_96 dd_X11_ship_96a.2.2.2.2.1) rfl).to, ?_⟩
  exact fun _ h => absurd h List.not_mem_nil
theorem sn_tX11_ship_1 : ∀ q ∈ tX11_ship_1, am_Snd am_P0 RX11 cX11_ship 2 (Option.none : Option FieldType) "ship" q.1 q.2 := by
  unfold tX11_ship_1
  refine List.forall_mem_cons.mpr ⟨(s_iconst (am_dp pw_X11_ship_96 dd_X11_ship_96a.2.2.2.2.2.1) (by decide)).to, ?_⟩
  refine List.forall_mem_cons.mpr ⟨(s_bipush (am_dp pw_X11_ship_96 dd_X11_ship_96a.2.2.2.2.2.2.1) (by decide)).to, ?_⟩
  refine List.forall_mem_cons.mpr ⟨zw_cv182 (am_dp pw_X11_ship_96 dd_X11_ship_96a.2.2.2.2.2.2.2) wd1626, ?_⟩
  refine List.forall_mem_cons.mpr ⟨(s_iast (am_dp pw_X11_ship_96 dd_X11_ship_96b.1)).to, ?_⟩
  refine List.forall_mem_cons.mpr ⟨(s_aloadn (am_dp pw_X11_ship_96 dd_X11_ship_96b.2.1) rfl).to, ?_⟩
  refine List.forall_mem_cons.mpr ⟨(s_ldc2 (am_dp pw_X11_ship_96 dd_X11_ship_96b.2.2.1) wd1730).to, ?_⟩
  refine List.forall_mem_cons.mpr ⟨zw_cv194 (am_dp pw_X11_ship_96 dd_X11_ship_96b.2.2.2.1) wd1708, ?_⟩
  refine List.forall_mem_cons.mpr ⟨(s_aloadn (am_dp pw_X11_ship_96 dd_X11_ship_96b.2.2.2.2.1) rfl).to, ?_⟩
  refine List.forall_mem_cons.mpr ⟨(s_get (ci := 11) (k := 24) (am_dp pw_X11_ship_96 dd_X11_ship_96b.2.2.2.2.2.1) rfl (by decide) wd1357 inX11 rfl).to, ?_⟩
  refine List.forall_mem_cons.mpr ⟨(s_iloadn (am_dp pw_X11_ship_96 dd_X11_ship_96b.2.2.2.2.2.2.1) rfl).to, ?_⟩
  refine List.forall_mem_cons.mpr ⟨(s_aloadn (am_dp pw_X11_ship_96 dd_X11_ship_96b.2.2.2.2.2.2.2) rfl).to, ?_⟩
  refine List.forall_mem_cons.mpr ⟨(s_iconst (am_dp pw_X11_ship_96 dd_X11_ship_96c.1) (by decide)).to, ?_⟩
  refine List.forall_mem_cons.mpr ⟨(s_bipush (am_dp pw_X11_ship_96 dd_X11_ship_96c.2) (by decide)).to, ?_⟩
  refine List.forall_mem_cons.mpr ⟨zw_cv182 (am_dp pw_X11_ship_128 dd_X11_ship_128a.1) wd1626, ?_⟩
  refine List.forall_mem_cons.mpr ⟨(s_iast (am_dp pw_X11_ship_128 dd_X11_ship_128a.2.1)).to, ?_⟩
  refine List.forall_mem_cons.mpr ⟨(s_aloadn (am_dp pw_X11_ship_128 dd_X11_ship_128a.2.2.1) rfl).to, ?_⟩
  refine List.forall_mem_cons.mpr ⟨(s_get (ci := 11) (k := 8) (am_dp pw_X11_ship_128 dd_X11_ship_128a.2.2.2.1) rfl (by decide) wd1341 inX11 rfl).to, ?_⟩
  refine List.forall_mem_cons.mpr ⟨(s_if_ne (am_dp pw_X11_ship_128 dd_X11_ship_128a.2.2.2.2.1) (by decide)).to, ?_⟩
  refine List.forall_mem_cons.mpr ⟨(s_aloadn (am_dp pw_X11_ship_128 dd_X11_ship_128a.2.2.2.2.2.1) rfl).to, ?_⟩
  refine List.forall_mem_cons.mpr ⟨(s_get (ci := 11) (k := 19) (am_dp pw_X11_ship_128 dd_X11_ship_128a.2.2.2.2.2.2.1) rfl (by decide) wd1352 inX11 rfl).to, ?_⟩
  refine List.forall_mem_cons.mpr ⟨(s_aloadn (am_dp pw_X11_ship_128 dd_X11_ship_128a.2.2.2.2.2.2.2) rfl).to, ?_⟩
  refine List.forall_mem_cons.mpr ⟨(s_get (ci := 11) (k := 41) (am_dp pw_X11_ship_128 dd_X11_ship_128b.1) rfl (by decide) wd1374 inX11 rfl).to, ?_⟩
  refine List.forall_mem_cons.mpr ⟨(s_dup2 (am_dp pw_X11_ship_128 dd_X11_ship_128b.2.1)).to, ?_⟩
  refine List.forall_mem_cons.mpr ⟨(s_iald (am_dp pw_X11_ship_128 dd_X11_ship_128b.2.2.1)).to, ?_⟩
  refine List.forall_mem_cons.mpr ⟨(s_iconst (am_dp pw_X11_ship_128 dd_X11_ship_128b.2.2.2.1) (by decide)).to, ?_⟩
  refine List.forall_mem_cons.mpr ⟨(s_iadd (am_dp pw_X11_ship_128 dd_X11_ship_128b.2.2.2.2.1)).to, ?_⟩
  refine List.forall_mem_cons.mpr ⟨(s_iast (am_dp pw_X11_ship_128 dd_X11_ship_128b.2.2.2.2.2.1)).to, ?_⟩
  refine List.forall_mem_cons.mpr ⟨s_vret (am_dp pw_X11_ship_128 dd_X11_ship_128b.2.2.2.2.2.2) rfl, ?_⟩
  exact fun _ h => absurd h List.not_mem_nil
theorem sn_tX11_ship : ∀ q ∈ tX11_ship, am_Snd am_P0 RX11 cX11_ship 2 (Option.none : Option FieldType) "ship" q.1 q.2 := by
  unfold tX11_ship
  exact List.forall_mem_append.mpr ⟨sn_tX11_ship_0, sn_tX11_ship_1⟩
theorem sn_tX11_cellHere : ∀ q ∈ tX11_cellHere, am_Snd am_P0 RX11 cX11_cellHere 3 (Option.some FieldType.int) "cellHere" q.1 q.2 := by
  unfold tX11_cellHere
  refine List.forall_mem_cons.mpr ⟨(s_aloadn (am_dp pw_X11_cellHere_0 dd_X11_cellHere_0a.1) rfl).to, ?_⟩
  refine List.forall_mem_cons.mpr ⟨(s_ldc2 (am_dp pw_X11_cellHere_0 dd_X11_cellHere_0a.2.1) wd1732).to, ?_⟩
  refine List.forall_mem_cons.mpr ⟨zw_cv194 (am_dp pw_X11_cellHere_0 dd_X11_cellHere_0a.2.2.1) wd1708, ?_⟩
  refine List.forall_mem_cons.mpr ⟨(s_aloadn (am_dp pw_X11_cellHere_0 dd_X11_cellHere_0a.2.2.2.1) rfl).to, ?_⟩
  refine List.forall_mem_cons.mpr ⟨(s_iconst (am_dp pw_X11_cellHere_0 dd_X11_cellHere_0a.2.2.2.2.1) (by decide)).to, ?_⟩
  refine List.forall_mem_cons.mpr ⟨(s_aloadn (am_dp pw_X11_cellHere_0 dd_X11_cellHere_0a.2.2.2.2.2.1) rfl).to, ?_⟩
  refine List.forall_mem_cons.mpr ⟨(s_get (ci := 11) (k := 13) (am_dp pw_X11_cellHere_0 dd_X11_cellHere_0a.2.2.2.2.2.2.1) rfl (by decide) wd1346 inX11 rfl).to, ?_⟩
  refine List.forall_mem_cons.mpr ⟨(s_aloadn (am_dp pw_X11_cellHere_0 dd_X11_cellHere_0a.2.2.2.2.2.2.2) rfl).to, ?_⟩
  refine List.forall_mem_cons.mpr ⟨(s_get (ci := 11) (k := 41) (am_dp pw_X11_cellHere_0 dd_X11_cellHere_0b.1) rfl (by decide) wd1374 inX11 rfl).to, ?_⟩
  refine List.forall_mem_cons.mpr ⟨(s_iald (am_dp pw_X11_cellHere_0 dd_X11_cellHere_0b.2.1)).to, ?_⟩
  refine List.forall_mem_cons.mpr ⟨(s_iconst (am_dp pw_X11_cellHere_0 dd_X11_cellHere_0b.2.2.1) (by decide)).to, ?_⟩
  refine List.forall_mem_cons.mpr ⟨(s_isub (am_dp pw_X11_cellHere_0 dd_X11_cellHere_0b.2.2.2.1)).to, ?_⟩
  refine List.forall_mem_cons.mpr ⟨zw_cv182 (am_dp pw_X11_cellHere_0 dd_X11_cellHere_0b.2.2.2.2.1) wd1626, ?_⟩
  refine List.forall_mem_cons.mpr ⟨(s_istoren (am_dp pw_X11_cellHere_0 dd_X11_cellHere_0b.2.2.2.2.2.1) rfl (by decide)).to, ?_⟩
  refine List.forall_mem_cons.mpr ⟨(s_aloadn (am_dp pw_X11_cellHere_0 dd_X11_cellHere_0b.2.2.2.2.2.2.1) rfl).to, ?_⟩
  refine List.forall_mem_cons.mpr ⟨(s_iconst (am_dp pw_X11_cellHere_0 dd_X11_cellHere_0b.2.2.2.2.2.2.2) (by decide)).to, ?_⟩
  refine List.forall_mem_cons.mpr ⟨(s_aloadn (am_dp pw_X11_cellHere_0 dd_X11_cellHere_0c.1) rfl).to, ?_⟩
  refine List.forall_mem_cons.mpr ⟨(s_get (ci := 11) (k := 14) (am_dp pw_X11_cellHere_0 dd_X11_cellHere_0c.2.1) rfl (by decide) wd1347 inX11 rfl).to, ?_⟩
  refine List.forall_mem_cons.mpr ⟨(s_aloadn (am_dp pw_X11_cellHere_0 dd_X11_cellHere_0c.2.2.1) rfl).to, ?_⟩
  refine List.forall_mem_cons.mpr ⟨(s_get (ci := 11) (k := 41) (am_dp pw_X11_cellHere_0 dd_X11_cellHere_0c.2.2.2) rfl (by decide) wd1374 inX11 rfl).to, ?_⟩
  refine List.forall_mem_cons.mpr ⟨(s_iald (am_dp pw_X11_cellHere_32 dd_X11_cellHere_32a.1)).to, ?_⟩
  refine List.forall_mem_cons.mpr ⟨(s_iconst (am_dp pw_X11_cellHere_32 dd_X11_cellHere_32a.2.1) (by decide)).to, ?_⟩
  refine List.forall_mem_cons.mpr ⟨(s_isub (am_dp pw_X11_cellHere_32 dd_X11_cellHere_32a.2.2.1)).to, ?_⟩
  refine List.forall_mem_cons.mpr ⟨zw_cv182 (am_dp pw_X11_cellHere_32 dd_X11_cellHere_32a.2.2.2.1) wd1626, ?_⟩
  refine List.forall_mem_cons.mpr ⟨(s_istoren (am_dp pw_X11_cellHere_32 dd_X11_cellHere_32a.2.2.2.2.1) rfl (by decide)).to, ?_⟩
  refine List.forall_mem_cons.mpr ⟨(s_aloadn (am_dp pw_X11_cellHere_32 dd_X11_cellHere_32a.2.2.2.2.2.1) rfl).to, ?_⟩
  refine List.forall_mem_cons.mpr ⟨(s_get (ci := 11) (k := 13) (am_dp pw_X11_cellHere_32 dd_X11_cellHere_32a.2.2.2.2.2.2.1) rfl (by decide) wd1346 inX11 rfl).to, ?_⟩
  refine List.forall_mem_cons.mpr ⟨(s_aloadn (am_dp pw_X11_cellHere_32 dd_X11_cellHere_32a.2.2.2.2.2.2.2) rfl).to, ?_⟩
  refine List.forall_mem_cons.mpr ⟨(s_get (ci := 11) (k := 41) (am_dp pw_X11_cellHere_32 dd_X11_cellHere_32b.1) rfl (by decide) wd1374 inX11 rfl).to, ?_⟩
  refine List.forall_mem_cons.mpr ⟨(s_iald (am_dp pw_X11_cellHere_32 dd_X11_cellHere_32b.2.1)).to, ?_⟩
  refine List.forall_mem_cons.mpr ⟨(s_iloadn (am_dp pw_X11_cellHere_32 dd_X11_cellHere_32b.2.2.1) rfl).to, ?_⟩
  refine List.forall_mem_cons.mpr ⟨(s_imul (am_dp pw_X11_cellHere_32 dd_X11_cellHere_32b.2.2.2.1)).to, ?_⟩
  refine List.forall_mem_cons.mpr ⟨(s_iloadn (am_dp pw_X11_cellHere_32 dd_X11_cellHere_32b.2.2.2.2.1) rfl).to, ?_⟩
  refine List.forall_mem_cons.mpr ⟨(s_iadd (am_dp pw_X11_cellHere_32 dd_X11_cellHere_32b.2.2.2.2.2.1)).to, ?_⟩
  refine List.forall_mem_cons.mpr ⟨s_iret (am_dp pw_X11_cellHere_32 dd_X11_cellHere_32b.2.2.2.2.2.2) rfl, ?_⟩
  exact fun _ h => absurd h List.not_mem_nil
theorem sn_tX11_says_0 : ∀ q ∈ tX11_says_0, am_Snd am_P0 RX11 cX11_says 6 (Option.none : Option FieldType) "says" q.1 q.2 := by
  unfold tX11_says_0
  refine List.forall_mem_cons.mpr ⟨(s_aloadn (am_dp pw_X11_says_0 dd_X11_says_0a.1) rfl).to, ?_⟩
  refine List.forall_mem_cons.mpr ⟨(s_aloadn (am_dp pw_X11_says_0 dd_X11_says_0a.2.1) rfl).to, ?_⟩
  refine List.forall_mem_cons.mpr ⟨(s_get (ci := 11) (k := 25) (am_dp pw_X11_says_0 dd_X11_says_0a.2.2.1) rfl (by decide) wd1358 inX11 rfl).to, ?_⟩
  refine List.forall_mem_cons.mpr ⟨(s_aloadn (am_dp pw_X11_says_0 dd_X11_says_0a.2.2.2.1) rfl).to, ?_⟩
  refine List.forall_mem_cons.mpr ⟨(s_get (ci := 11) (k := 41) (am_dp pw_X11_says_0 dd_X11_says_0a.2.2.2.2.1) rfl (by decide) wd1374 inX11 rfl).to, ?_⟩
  refine List.forall_mem_cons.mpr ⟨(s_iald (am_dp pw_X11_says_0 dd_X11_says_0a.2.2.2.2.2.1)).to, ?_⟩
  refine List.forall_mem_cons.mpr ⟨(s_bipush (am_dp pw_X11_says_0 dd_X11_says_0a.2.2.2.2.2.2.1) (by decide)).to, ?_⟩
  refine List.forall_mem_cons.mpr ⟨(s_icmp_ne (am_dp pw_X11_says_0 dd_X11_says_0a.2.2.2.2.2.2.2) (by decide)).to, ?_⟩
  refine List.forall_mem_cons.mpr ⟨(s_iconst (am_dp pw_X11_says_0 dd_X11_says_0b.1) (by decide)).to, ?_⟩
  refine List.forall_mem_cons.mpr ⟨(s_goto (am_dp pw_X11_says_0 dd_X11_says_0b.2.1) (by decide)).to, ?_⟩
  refine List.forall_mem_cons.mpr ⟨(s_iconst (am_dp pw_X11_says_0 dd_X11_says_0b.2.2.1) (by decide)).to, ?_⟩
  refine List.forall_mem_cons.mpr ⟨zw_cv193 (am_dp pw_X11_says_0 dd_X11_says_0b.2.2.2.1) wd1653, ?_⟩
  refine List.forall_mem_cons.mpr ⟨(s_if_ne (am_dp pw_X11_says_0 dd_X11_says_0b.2.2.2.2.1) (by decide)).to, ?_⟩
  refine List.forall_mem_cons.mpr ⟨s_vret (am_dp pw_X11_says_0 dd_X11_says_0b.2.2.2.2.2.1) rfl, ?_⟩
  refine List.forall_mem_cons.mpr ⟨(s_aloadn (am_dp pw_X11_says_0 dd_X11_says_0b.2.2.2.2.2.2.1) rfl).to, ?_⟩
  refine List.forall_mem_cons.mpr ⟨zw_cv196 (am_dp pw_X11_says_0 dd_X11_says_0b.2.2.2.2.2.2.2) wd1747, ?_⟩
  refine List.forall_mem_cons.mpr ⟨(s_istoren (am_dp pw_X11_says_0 dd_X11_says_0c) rfl (by decide)).to, ?_⟩
  refine List.forall_mem_cons.mpr ⟨(s_aloadn (am_dp pw_X11_says_32 dd_X11_says_32a.1) rfl).to, ?_⟩
  refine List.forall_mem_cons.mpr ⟨(s_get (ci := 11) (k := 8) (am_dp pw_X11_says_32 dd_X11_says_32a.2.1) rfl (by decide) wd1341 inX11 rfl).to, ?_⟩
  refine List.forall_mem_cons.mpr ⟨(s_if_ne (am_dp pw_X11_says_32 dd_X11_says_32a.2.2.1) (by decide)).to, ?_⟩
  refine List.forall_mem_cons.mpr ⟨(s_aloadn (am_dp pw_X11_says_32 dd_X11_says_32a.2.2.2.1) rfl).to, ?_⟩
  refine List.forall_mem_cons.mpr ⟨(s_get (ci := 11) (k := 3) (am_dp pw_X11_says_32 dd_X11_says_32a.2.2.2.2.1) rfl (by decide) wd1336 inX11 rfl).to, ?_⟩
  refine List.forall_mem_cons.mpr ⟨(s_iconst (am_dp pw_X11_says_32 dd_X11_says_32a.2.2.2.2.2.1) (by decide)).to, ?_⟩
  refine List.forall_mem_cons.mpr ⟨(s_icmp_ne (am_dp pw_X11_says_32 dd_X11_says_32a.2.2.2.2.2.2.1) (by decide)).to, ?_⟩
  refine List.forall_mem_cons.mpr ⟨(s_aloadn (am_dp pw_X11_says_32 dd_X11_says_32a.2.2.2.2.2.2.2) rfl).to, ?_⟩
  refine List.forall_mem_cons.mpr ⟨(s_get (ci := 11) (k := 6) (am_dp pw_X11_says_32 dd_X11_says_32b.1) rfl (by decide) wd1339 inX11 rfl).to, ?_⟩
  refine List.forall_mem_cons.mpr ⟨(s_iconst (am_dp pw_X11_says_32 dd_X11_says_32b.2.1) (by decide)).to, ?_⟩
  refine List.forall_mem_cons.mpr ⟨(s_bipush (am_dp pw_X11_says_32 dd_X11_says_32b.2.2.1) (by decide)).to, ?_⟩
  refine List.forall_mem_cons.mpr ⟨zw_cs167 (am_dp pw_X11_says_32 dd_X11_says_32b.2.2.2.1) wd1630, ?_⟩
  refine List.forall_mem_cons.mpr ⟨(s_if_eq (am_dp pw_X11_says_32 dd_X11_says_32b.2.2.2.2.1) (by decide)).to, ?_⟩
  refine List.forall_mem_cons.mpr ⟨(s_aloadn (am_dp pw_X11_says_32 dd_X11_says_32b.2.2.2.2.2.1) rfl).to, ?_⟩
  refine List.forall_mem_cons.mpr ⟨(s_get (ci := 11) (k := 26) (am_dp pw_X11_says_32 dd_X11_says_32b.2.2.2.2.2.2) rfl (by decide) wd1359 inX11 rfl).to, ?_⟩
  refine List.forall_mem_cons.mpr ⟨(s_sipush (am_dp pw_X11_says_64 dd_X11_says_64a.1) (by decide)).to, ?_⟩
  refine List.forall_mem_cons.mpr ⟨(s_aloadn (am_dp pw_X11_says_64 dd_X11_says_64a.2.1) rfl).to, ?_⟩
  refine List.forall_mem_cons.mpr ⟨(s_get (ci := 11) (k := 41) (am_dp pw_X11_says_64 dd_X11_says_64a.2.2.1) rfl (by decide) wd1374 inX11 rfl).to, ?_⟩
  refine List.forall_mem_cons.mpr ⟨(s_imul (am_dp pw_X11_says_64 dd_X11_says_64a.2.2.2.1)).to, ?_⟩
  refine List.forall_mem_cons.mpr ⟨(s_bipush (am_dp pw_X11_says_64 dd_X11_says_64a.2.2.2.2.1) (by decide)).to, ?_⟩
  refine List.forall_mem_cons.mpr ⟨(s_iloadn (am_dp pw_X11_says_64 dd_X11_says_64a.2.2.2.2.2.1) rfl).to, ?_⟩
  refine List.forall_mem_cons.mpr ⟨(s_imul (am_dp pw_X11_says_64 dd_X11_says_64a.2.2.2.2.2.2.1)).to, ?_⟩
  refine List.forall_mem_cons.mpr ⟨(s_iadd (am_dp pw_X11_says_64 dd_X11_says_64a.2.2.2.2.2.2.2)).to, ?_⟩
  refine List.forall_mem_cons.mpr ⟨(s_aloadn (am_dp pw_X11_says_64 dd_X11_says_64b.1) rfl).to, ?_⟩
  refine List.forall_mem_cons.mpr ⟨(s_get (ci := 11) (k := 6) (am_dp pw_X11_says_64 dd_X11_says_64b.2.1) rfl (by decide) wd1339 inX11 rfl).to, ?_⟩
  refine List.forall_mem_cons.mpr ⟨(s_iadd (am_dp pw_X11_says_64 dd_X11_says_64b.2.2.1)).to, ?_⟩
  refine List.forall_mem_cons.mpr ⟨(s_iald (am_dp pw_X11_says_64 dd_X11_says_64b.2.2.2.1)).to, ?_⟩
  refine List.forall_mem_cons.mpr ⟨(s_iconst (am_dp pw_X11_says_64 dd_X11_says_64b.2.2.2.2.1) (by decide)).to, ?_⟩
  refine List.forall_mem_cons.mpr ⟨(s_icmp_eq (am_dp pw_X11_says_64 dd_X11_says_64b.2.2.2.2.2.1) (by decide)).to, ?_⟩
  refine List.forall_mem_cons.mpr ⟨(s_aloadn (am_dp pw_X11_says_64 dd_X11_says_64b.2.2.2.2.2.2.1) rfl).to, ?_⟩
  refine List.forall_mem_cons.mpr ⟨(s_iconst (am_dp pw_X11_says_64 dd_X11_says_64b.2.2.2.2.2.2.2) (by decide)).to, ?_⟩
  refine List.forall_mem_cons.mpr ⟨(s_aloadn (am_dp pw_X11_says_64 dd_X11_says_64c.1) rfl).to, ?_⟩
  refine List.forall_mem_cons.mpr ⟨(s_get (ci := 11) (k := 4) (am_dp pw_X11_says_64 dd_X11_says_64c.2.1) rfl (by decide) wd1337 inX11 rfl).to, ?_⟩
  refine List.forall_mem_cons.mpr ⟨zw_cv171 (am_dp pw_X11_says_64 dd_X11_says_64c.2.2) wd1613, ?_⟩
  refine List.forall_mem_cons.mpr ⟨(s_aloadn (am_dp pw_X11_says_96 dd_X11_says_96a.1) rfl).to, ?_⟩
  refine List.forall_mem_cons.mpr ⟨(s_iconst (am_dp pw_X11_says_96 dd_X11_says_96a.2.1) (by decide)).to, ?_⟩
  refine List.forall_mem_cons.mpr ⟨(s_bipush (am_dp pw_X11_says_96 dd_X11_says_96a.2.2.1) (by decide)).to, ?_⟩
  refine List.forall_mem_cons.mpr ⟨zw_cv182 (am_dp pw_X11_says_96 dd_X11_says_96a.2.2.2.1) wd1626, ?_⟩
  refine List.forall_mem_cons.mpr ⟨(s_istoren (am_dp pw_X11_says_96 dd_X11_says_96a.2.2.2.2.1) rfl (by decide)).to, ?_⟩
  refine List.forall_mem_cons.mpr ⟨(s_sipush (am_dp pw_X11_says_96 dd_X11_says_96a.2.2.2.2.2.1) (by decide)).to, ?_⟩
  refine List.forall_mem_cons.mpr ⟨(s_aloadn (am_dp pw_X11_says_96 dd_X11_says_96a.2.2.2.2.2.2.1) rfl).to, ?_⟩
  refine List.forall_mem_cons.mpr ⟨(s_get (ci := 11) (k := 41) (am_dp pw_X11_says_96 dd_X11_says_96a.2.2.2.2.2.2.2) rfl (by decide) wd1374 inX11 rfl).to, ?_⟩
  refine List.forall_mem_cons.mpr ⟨(s_imul (am_dp pw_X11_says_96 dd_X11_says_96b.1)).to, ?_⟩
  exact fun _ h => absurd h List.not_mem_nil
theorem sn_tX11_says_1 : ∀ q ∈ tX11_says_1, am_Snd am_P0 RX11 cX11_says 6 (Option.none : Option FieldType) "says" q.1 q.2 := by
  unfold tX11_says_1
  refine List.forall_mem_cons.mpr ⟨(s_bipush (am_dp pw_X11_says_96 dd_X11_says_96b.2.1) (by decide)).to, ?_⟩
  refine List.forall_mem_cons.mpr ⟨(s_iloadn (am_dp pw_X11_says_96 dd_X11_says_96b.2.2.1) rfl).to, ?_⟩
  refine List.forall_mem_cons.mpr ⟨(s_imul (am_dp pw_X11_says_96 dd_X11_says_96b.2.2.2.1)).to, ?_⟩
  refine List.forall_mem_cons.mpr ⟨(s_iadd (am_dp pw_X11_says_96 dd_X11_says_96b.2.2.2.2.1)).to, ?_⟩
  refine List.forall_mem_cons.mpr ⟨(s_iloadn (am_dp pw_X11_says_96 dd_X11_says_96b.2.2.2.2.2.1) rfl).to, ?_⟩
  refine List.forall_mem_cons.mpr ⟨(s_iadd (am_dp pw_X11_says_96 dd_X11_says_96b.2.2.2.2.2.2.1)).to, ?_⟩
  refine List.forall_mem_cons.mpr ⟨(s_istoren (am_dp pw_X11_says_96 dd_X11_says_96b.2.2.2.2.2.2.2) rfl (by decide)).to, ?_⟩
  refine List.forall_mem_cons.mpr ⟨(s_aloadn (am_dp pw_X11_says_96 dd_X11_says_96c.1) rfl).to, ?_⟩
  refine List.forall_mem_cons.mpr ⟨zw_cv200 (am_dp pw_X11_says_96 dd_X11_says_96c.2.1) wd1751, ?_⟩
  refine List.forall_mem_cons.mpr ⟨(s_istore (am_dp pw_X11_says_96 dd_X11_says_96c.2.2.1) (by decide)).to, ?_⟩
  refine List.forall_mem_cons.mpr ⟨(s_aloadn (am_dp pw_X11_says_96 dd_X11_says_96c.2.2.2.1) rfl).to, ?_⟩
  refine List.forall_mem_cons.mpr ⟨(s_ldc2 (am_dp pw_X11_says_96 dd_X11_says_96c.2.2.2.2) wd1733).to, ?_⟩
  refine List.forall_mem_cons.mpr ⟨zw_cv194 (am_dp pw_X11_says_128 dd_X11_says_128a.1) wd1708, ?_⟩
  refine List.forall_mem_cons.mpr ⟨(s_aloadn (am_dp pw_X11_says_128 dd_X11_says_128a.2.1) rfl).to, ?_⟩
  refine List.forall_mem_cons.mpr ⟨(s_iconst (am_dp pw_X11_says_128 dd_X11_says_128a.2.2.1) (by decide)).to, ?_⟩
  refine List.forall_mem_cons.mpr ⟨(s_iconst (am_dp pw_X11_says_128 dd_X11_says_128a.2.2.2.1) (by decide)).to, ?_⟩
  refine List.forall_mem_cons.mpr ⟨zw_cv182 (am_dp pw_X11_says_128 dd_X11_says_128a.2.2.2.2.1) wd1626, ?_⟩
  refine List.forall_mem_cons.mpr ⟨(s_istore (am_dp pw_X11_says_128 dd_X11_says_128a.2.2.2.2.2.1) (by decide)).to, ?_⟩
  refine List.forall_mem_cons.mpr ⟨(s_aloadn (am_dp pw_X11_says_128 dd_X11_says_128a.2.2.2.2.2.2.1) rfl).to, ?_⟩
  refine List.forall_mem_cons.mpr ⟨(s_get (ci := 11) (k := 8) (am_dp pw_X11_says_128 dd_X11_says_128a.2.2.2.2.2.2.2) rfl (by decide) wd1341 inX11 rfl).to, ?_⟩
  refine List.forall_mem_cons.mpr ⟨(s_if_le (am_dp pw_X11_says_128 dd_X11_says_128b.1) (by decide)).to, ?_⟩
  refine List.forall_mem_cons.mpr ⟨s_vret (am_dp pw_X11_says_128 dd_X11_says_128b.2.1) rfl, ?_⟩
  refine List.forall_mem_cons.mpr ⟨(s_aloadn (am_dp pw_X11_says_128 dd_X11_says_128b.2.2.1) rfl).to, ?_⟩
  refine List.forall_mem_cons.mpr ⟨(s_get (ci := 11) (k := 26) (am_dp pw_X11_says_128 dd_X11_says_128b.2.2.2.1) rfl (by decide) wd1359 inX11 rfl).to, ?_⟩
  refine List.forall_mem_cons.mpr ⟨(s_iloadn (am_dp pw_X11_says_128 dd_X11_says_128b.2.2.2.2.1) rfl).to, ?_⟩
  refine List.forall_mem_cons.mpr ⟨(s_iload (am_dp pw_X11_says_128 dd_X11_says_128b.2.2.2.2.2.1)).to, ?_⟩
  refine List.forall_mem_cons.mpr ⟨(s_iast (am_dp pw_X11_says_128 dd_X11_says_128b.2.2.2.2.2.2.1)).to, ?_⟩
  refine List.forall_mem_cons.mpr ⟨(s_aloadn (am_dp pw_X11_says_128 dd_X11_says_128b.2.2.2.2.2.2.2) rfl).to, ?_⟩
  refine List.forall_mem_cons.mpr ⟨(s_get (ci := 11) (k := 27) (am_dp pw_X11_says_128 dd_X11_says_128c) rfl (by decide) wd1360 inX11 rfl).to, ?_⟩
  refine List.forall_mem_cons.mpr ⟨(s_iloadn (am_dp pw_X11_says_160 dd_X11_says_160a.1) rfl).to, ?_⟩
  refine List.forall_mem_cons.mpr ⟨(s_iload (am_dp pw_X11_says_160 dd_X11_says_160a.2.1)).to, ?_⟩
  refine List.forall_mem_cons.mpr ⟨(s_iconst (am_dp pw_X11_says_160 dd_X11_says_160a.2.2.1) (by decide)).to, ?_⟩
  refine List.forall_mem_cons.mpr ⟨(s_icmp_ne (am_dp pw_X11_says_160 dd_X11_says_160a.2.2.2.1) (by decide)).to, ?_⟩
  refine List.forall_mem_cons.mpr ⟨(s_iconst (am_dp pw_X11_says_160 dd_X11_says_160a.2.2.2.2.1) (by decide)).to, ?_⟩
  refine List.forall_mem_cons.mpr ⟨(s_goto (am_dp pw_X11_says_160 dd_X11_says_160a.2.2.2.2.2.1) (by decide)).to, ?_⟩
  refine List.forall_mem_cons.mpr ⟨(s_iconst (am_dp pw_X11_says_160 dd_X11_says_160a.2.2.2.2.2.2.1) (by decide)).to, ?_⟩
  refine List.forall_mem_cons.mpr ⟨(s_zast (am_dp pw_X11_says_160 dd_X11_says_160a.2.2.2.2.2.2.2)).to, ?_⟩
  refine List.forall_mem_cons.mpr ⟨(s_aloadn (am_dp pw_X11_says_160 dd_X11_says_160b.1) rfl).to, ?_⟩
  refine List.forall_mem_cons.mpr ⟨(s_get (ci := 11) (k := 25) (am_dp pw_X11_says_160 dd_X11_says_160b.2.1) rfl (by decide) wd1358 inX11 rfl).to, ?_⟩
  refine List.forall_mem_cons.mpr ⟨(s_aloadn (am_dp pw_X11_says_160 dd_X11_says_160b.2.2.1) rfl).to, ?_⟩
  refine List.forall_mem_cons.mpr ⟨(s_get (ci := 11) (k := 41) (am_dp pw_X11_says_160 dd_X11_says_160b.2.2.2.1) rfl (by decide) wd1374 inX11 rfl).to, ?_⟩
  refine List.forall_mem_cons.mpr ⟨(s_dup2 (am_dp pw_X11_says_160 dd_X11_says_160b.2.2.2.2.1)).to, ?_⟩
  refine List.forall_mem_cons.mpr ⟨(s_iald (am_dp pw_X11_says_160 dd_X11_says_160b.2.2.2.2.2.1)).to, ?_⟩
  refine List.forall_mem_cons.mpr ⟨(s_iconst (am_dp pw_X11_says_160 dd_X11_says_160b.2.2.2.2.2.2.1) (by decide)).to, ?_⟩
  refine List.forall_mem_cons.mpr ⟨(s_iadd (am_dp pw_X11_says_160 dd_X11_says_160b.2.2.2.2.2.2.2)).to, ?_⟩
  refine List.forall_mem_cons.mpr ⟨(s_iast (am_dp pw_X11_says_160 dd_X11_says_160c.1)).to, ?_⟩
  refine List.forall_mem_cons.mpr ⟨s_vret (am_dp pw_X11_says_160 dd_X11_says_160c.2) rfl, ?_⟩
  exact fun _ h => absurd h List.not_mem_nil
theorem sn_tX11_says : ∀ q ∈ tX11_says, am_Snd am_P0 RX11 cX11_says 6 (Option.none : Option FieldType) "says" q.1 q.2 := by
  unfold tX11_says
  exact List.forall_mem_append.mpr ⟨sn_tX11_says_0, sn_tX11_says_1⟩
theorem sn_tX11_book_0 : ∀ q ∈ tX11_book_0, am_Snd am_P0 RX11 cX11_book 2 (Option.none : Option FieldType) "book" q.1 q.2 := by
  unfold tX11_book_0
  refine List.forall_mem_cons.mpr ⟨(s_aloadn (am_dp pw_X11_book_0 dd_X11_book_0a.1) rfl).to, ?_⟩
  refine List.forall_mem_cons.mpr ⟨(s_aloadn (am_dp pw_X11_book_0 dd_X11_book_0a.2.1) rfl).to, ?_⟩
  refine List.forall_mem_cons.mpr ⟨(s_get (ci := 11) (k := 28) (am_dp pw_X11_book_0 dd_X11_book_0a.2.2.1) rfl (by decide) wd1361 inX11 rfl).to, ?_⟩
  refine List.forall_mem_cons.mpr ⟨(s_aloadn (am_dp pw_X11_book_0 dd_X11_book_0a.2.2.2.1) rfl).to, ?_⟩
  refine List.forall_mem_cons.mpr ⟨(s_get (ci := 11) (k := 41) (am_dp pw_X11_book_0 dd_X11_book_0a.2.2.2.2.1) rfl (by decide) wd1374 inX11 rfl).to, ?_⟩
  refine List.forall_mem_cons.mpr ⟨(s_iald (am_dp pw_X11_book_0 dd_X11_book_0a.2.2.2.2.2.1)).to, ?_⟩
  refine List.forall_mem_cons.mpr ⟨(s_bipush (am_dp pw_X11_book_0 dd_X11_book_0a.2.2.2.2.2.2.1) (by decide)).to, ?_⟩
  refine List.forall_mem_cons.mpr ⟨(s_icmp_ne (am_dp pw_X11_book_0 dd_X11_book_0a.2.2.2.2.2.2.2) (by decide)).to, ?_⟩
  refine List.forall_mem_cons.mpr ⟨(s_iconst (am_dp pw_X11_book_0 dd_X11_book_0b.1) (by decide)).to, ?_⟩
  refine List.forall_mem_cons.mpr ⟨(s_goto (am_dp pw_X11_book_0 dd_X11_book_0b.2.1) (by decide)).to, ?_⟩
  refine List.forall_mem_cons.mpr ⟨(s_iconst (am_dp pw_X11_book_0 dd_X11_book_0b.2.2.1) (by decide)).to, ?_⟩
  refine List.forall_mem_cons.mpr ⟨zw_cv193 (am_dp pw_X11_book_0 dd_X11_book_0b.2.2.2.1) wd1653, ?_⟩
  refine List.forall_mem_cons.mpr ⟨(s_if_ne (am_dp pw_X11_book_0 dd_X11_book_0b.2.2.2.2.1) (by decide)).to, ?_⟩
  refine List.forall_mem_cons.mpr ⟨s_vret (am_dp pw_X11_book_0 dd_X11_book_0b.2.2.2.2.2.1) rfl, ?_⟩
  refine List.forall_mem_cons.mpr ⟨(s_bipush (am_dp pw_X11_book_0 dd_X11_book_0b.2.2.2.2.2.2.1) (by decide)).to, ?_⟩
  refine List.forall_mem_cons.mpr ⟨(s_aloadn (am_dp pw_X11_book_0 dd_X11_book_0b.2.2.2.2.2.2.2) rfl).to, ?_⟩
  refine List.forall_mem_cons.mpr ⟨(s_get (ci := 11) (k := 41) (am_dp pw_X11_book_0 dd_X11_book_0c) rfl (by decide) wd1374 inX11 rfl).to, ?_⟩
  refine List.forall_mem_cons.mpr ⟨(s_imul (am_dp pw_X11_book_32 dd_X11_book_32a.1)).to, ?_⟩
  refine List.forall_mem_cons.mpr ⟨(s_aloadn (am_dp pw_X11_book_32 dd_X11_book_32a.2.1) rfl).to, ?_⟩
  refine List.forall_mem_cons.mpr ⟨(s_get (ci := 11) (k := 28) (am_dp pw_X11_book_32 dd_X11_book_32a.2.2.1) rfl (by decide) wd1361 inX11 rfl).to, ?_⟩
  refine List.forall_mem_cons.mpr ⟨(s_aloadn (am_dp pw_X11_book_32 dd_X11_book_32a.2.2.2.1) rfl).to, ?_⟩
  refine List.forall_mem_cons.mpr ⟨(s_get (ci := 11) (k := 41) (am_dp pw_X11_book_32 dd_X11_book_32a.2.2.2.2.1) rfl (by decide) wd1374 inX11 rfl).to, ?_⟩
  refine List.forall_mem_cons.mpr ⟨(s_iald (am_dp pw_X11_book_32 dd_X11_book_32a.2.2.2.2.2.1)).to, ?_⟩
  refine List.forall_mem_cons.mpr ⟨(s_iadd (am_dp pw_X11_book_32 dd_X11_book_32a.2.2.2.2.2.2.1)).to, ?_⟩
  refine List.forall_mem_cons.mpr ⟨(s_istoren (am_dp pw_X11_book_32 dd_X11_book_32a.2.2.2.2.2.2.2) rfl (by decide)).to, ?_⟩
  refine List.forall_mem_cons.mpr ⟨(s_aloadn (am_dp pw_X11_book_32 dd_X11_book_32b.1) rfl).to, ?_⟩
  refine List.forall_mem_cons.mpr ⟨(s_get (ci := 11) (k := 29) (am_dp pw_X11_book_32 dd_X11_book_32b.2.1) rfl (by decide) wd1362 inX11 rfl).to, ?_⟩
  refine List.forall_mem_cons.mpr ⟨(s_iloadn (am_dp pw_X11_book_32 dd_X11_book_32b.2.2.1) rfl).to, ?_⟩
  refine List.forall_mem_cons.mpr ⟨(s_aloadn (am_dp pw_X11_book_32 dd_X11_book_32b.2.2.2.1) rfl).to, ?_⟩
  refine List.forall_mem_cons.mpr ⟨zw_cv196 (am_dp pw_X11_book_32 dd_X11_book_32b.2.2.2.2.1) wd1747, ?_⟩
  refine List.forall_mem_cons.mpr ⟨(s_iast (am_dp pw_X11_book_32 dd_X11_book_32b.2.2.2.2.2.1)).to, ?_⟩
  refine List.forall_mem_cons.mpr ⟨(s_aloadn (am_dp pw_X11_book_32 dd_X11_book_32b.2.2.2.2.2.2.1) rfl).to, ?_⟩
  refine List.forall_mem_cons.mpr ⟨(s_get (ci := 11) (k := 30) (am_dp pw_X11_book_32 dd_X11_book_32b.2.2.2.2.2.2.2) rfl (by decide) wd1363 inX11 rfl).to, ?_⟩
  refine List.forall_mem_cons.mpr ⟨(s_iloadn (am_dp pw_X11_book_32 dd_X11_book_32c.1) rfl).to, ?_⟩
  refine List.forall_mem_cons.mpr ⟨(s_aloadn (am_dp pw_X11_book_32 dd_X11_book_32c.2.1) rfl).to, ?_⟩
  refine List.forall_mem_cons.mpr ⟨zw_cv200 (am_dp pw_X11_book_32 dd_X11_book_32c.2.2) wd1751, ?_⟩
  refine List.forall_mem_cons.mpr ⟨(s_iast (am_dp pw_X11_book_64 dd_X11_book_64a.1)).to, ?_⟩
  refine List.forall_mem_cons.mpr ⟨(s_aloadn (am_dp pw_X11_book_64 dd_X11_book_64a.2.1) rfl).to, ?_⟩
  refine List.forall_mem_cons.mpr ⟨(s_ldc2 (am_dp pw_X11_book_64 dd_X11_book_64a.2.2.1) wd1735).to, ?_⟩
  refine List.forall_mem_cons.mpr ⟨zw_cv194 (am_dp pw_X11_book_64 dd_X11_book_64a.2.2.2.1) wd1708, ?_⟩
  refine List.forall_mem_cons.mpr ⟨(s_aloadn (am_dp pw_X11_book_64 dd_X11_book_64a.2.2.2.2.1) rfl).to, ?_⟩
  refine List.forall_mem_cons.mpr ⟨(s_get (ci := 11) (k := 31) (am_dp pw_X11_book_64 dd_X11_book_64a.2.2.2.2.2.1) rfl (by decide) wd1364 inX11 rfl).to, ?_⟩
  refine List.forall_mem_cons.mpr ⟨(s_iloadn (am_dp pw_X11_book_64 dd_X11_book_64a.2.2.2.2.2.2.1) rfl).to, ?_⟩
  refine List.forall_mem_cons.mpr ⟨(s_aloadn (am_dp pw_X11_book_64 dd_X11_book_64a.2.2.2.2.2.2.2) rfl).to, ?_⟩
  refine List.forall_mem_cons.mpr ⟨(s_iconst (am_dp pw_X11_book_64 dd_X11_book_64b.1) (by decide)).to, ?_⟩
  refine List.forall_mem_cons.mpr ⟨(s_bipush (am_dp pw_X11_book_64 dd_X11_book_64b.2.1) (by decide)).to, ?_⟩
  refine List.forall_mem_cons.mpr ⟨zw_cv182 (am_dp pw_X11_book_64 dd_X11_book_64b.2.2.1) wd1626, ?_⟩
  refine List.forall_mem_cons.mpr ⟨(s_iast (am_dp pw_X11_book_64 dd_X11_book_64b.2.2.2.1)).to, ?_⟩
  refine List.forall_mem_cons.mpr ⟨(s_aloadn (am_dp pw_X11_book_64 dd_X11_book_64b.2.2.2.2.1) rfl).to, ?_⟩
  refine List.forall_mem_cons.mpr ⟨(s_ldc2 (am_dp pw_X11_book_64 dd_X11_book_64b.2.2.2.2.2.1) wd1736).to, ?_⟩
  refine List.forall_mem_cons.mpr ⟨zw_cv194 (am_dp pw_X11_book_64 dd_X11_book_64b.2.2.2.2.2.2.1) wd1708, ?_⟩
  refine List.forall_mem_cons.mpr ⟨(s_aloadn (am_dp pw_X11_book_64 dd_X11_book_64b.2.2.2.2.2.2.2) rfl).to, ?_⟩
  refine List.forall_mem_cons.mpr ⟨(s_get (ci := 11) (k := 32) (am_dp pw_X11_book_64 dd_X11_book_64c) rfl (by decide) wd1365 inX11 rfl).to, ?_⟩
  refine List.forall_mem_cons.mpr ⟨(s_iloadn (am_dp pw_X11_book_96 dd_X11_book_96a.1) rfl).to, ?_⟩
  refine List.forall_mem_cons.mpr ⟨(s_aloadn (am_dp pw_X11_book_96 dd_X11_book_96a.2.1) rfl).to, ?_⟩
  refine List.forall_mem_cons.mpr ⟨(s_aloadn (am_dp pw_X11_book_96 dd_X11_book_96a.2.2.1) rfl).to, ?_⟩
  refine List.forall_mem_cons.mpr ⟨(s_get (ci := 11) (k := 31) (am_dp pw_X11_book_96 dd_X11_book_96a.2.2.2.1) rfl (by decide) wd1364 inX11 rfl).to, ?_⟩
  refine List.forall_mem_cons.mpr ⟨(s_iloadn (am_dp pw_X11_book_96 dd_X11_book_96a.2.2.2.2.1) rfl).to, ?_⟩
  refine List.forall_mem_cons.mpr ⟨(s_iald (am_dp pw_X11_book_96 dd_X11_book_96a.2.2.2.2.2.1)).to, ?_⟩
  refine List.forall_mem_cons.mpr ⟨(s_bipush (am_dp pw_X11_book_96 dd_X11_book_96a.2.2.2.2.2.2.1) (by decide)).to, ?_⟩
  exact fun _ h => absurd h List.not_mem_nil
theorem sn_tX11_book_1 : ∀ q ∈ tX11_book_1, am_Snd am_P0 RX11 cX11_book 2 (Option.none : Option FieldType) "book" q.1 q.2 := by
  unfold tX11_book_1
  refine List.forall_mem_cons.mpr ⟨zw_cv182 (am_dp pw_X11_book_96 dd_X11_book_96a.2.2.2.2.2.2.2) wd1626, ?_⟩
  refine List.forall_mem_cons.mpr ⟨(s_iast (am_dp pw_X11_book_96 dd_X11_book_96b.1)).to, ?_⟩
  refine List.forall_mem_cons.mpr ⟨(s_aloadn (am_dp pw_X11_book_96 dd_X11_book_96b.2.1) rfl).to, ?_⟩
  refine List.forall_mem_cons.mpr ⟨(s_get (ci := 11) (k := 8) (am_dp pw_X11_book_96 dd_X11_book_96b.2.2.1) rfl (by decide) wd1341 inX11 rfl).to, ?_⟩
  refine List.forall_mem_cons.mpr ⟨(s_if_ne (am_dp pw_X11_book_96 dd_X11_book_96b.2.2.2.1) (by decide)).to, ?_⟩
  refine List.forall_mem_cons.mpr ⟨(s_aloadn (am_dp pw_X11_book_96 dd_X11_book_96b.2.2.2.2.1) rfl).to, ?_⟩
  refine List.forall_mem_cons.mpr ⟨(s_get (ci := 11) (k := 28) (am_dp pw_X11_book_96 dd_X11_book_96b.2.2.2.2.2.1) rfl (by decide) wd1361 inX11 rfl).to, ?_⟩
  refine List.forall_mem_cons.mpr ⟨(s_aloadn (am_dp pw_X11_book_96 dd_X11_book_96b.2.2.2.2.2.2.1) rfl).to, ?_⟩
  refine List.forall_mem_cons.mpr ⟨(s_get (ci := 11) (k := 41) (am_dp pw_X11_book_96 dd_X11_book_96b.2.2.2.2.2.2.2) rfl (by decide) wd1374 inX11 rfl).to, ?_⟩
  refine List.forall_mem_cons.mpr ⟨(s_dup2 (am_dp pw_X11_book_96 dd_X11_book_96c.1)).to, ?_⟩
  refine List.forall_mem_cons.mpr ⟨(s_iald (am_dp pw_X11_book_96 dd_X11_book_96c.2.1)).to, ?_⟩
  refine List.forall_mem_cons.mpr ⟨(s_iconst (am_dp pw_X11_book_96 dd_X11_book_96c.2.2) (by decide)).to, ?_⟩
  refine List.forall_mem_cons.mpr ⟨(s_iadd (am_dp pw_X11_book_128 dd_X11_book_128a.1)).to, ?_⟩
  refine List.forall_mem_cons.mpr ⟨(s_iast (am_dp pw_X11_book_128 dd_X11_book_128a.2.1)).to, ?_⟩
  refine List.forall_mem_cons.mpr ⟨s_vret (am_dp pw_X11_book_128 dd_X11_book_128a.2.2) rfl, ?_⟩
  exact fun _ h => absurd h List.not_mem_nil
theorem sn_tX11_book : ∀ q ∈ tX11_book, am_Snd am_P0 RX11 cX11_book 2 (Option.none : Option FieldType) "book" q.1 q.2 := by
  unfold tX11_book
  exact List.forall_mem_append.mpr ⟨sn_tX11_book_0, sn_tX11_book_1⟩
theorem sn_tX11_seen_0 : ∀ q ∈ tX11_seen_0, am_Snd am_P0 RX11 cX11_seen 2 (Option.none : Option FieldType) "seen" q.1 q.2 := by
  unfold tX11_seen_0
  refine List.forall_mem_cons.mpr ⟨(s_aloadn (am_dp pw_X11_seen_0 dd_X11_seen_0a.1) rfl).to, ?_⟩
  refine List.forall_mem_cons.mpr ⟨(s_aloadn (am_dp pw_X11_seen_0 dd_X11_seen_0a.2.1) rfl).to, ?_⟩
  refine List.forall_mem_cons.mpr ⟨(s_get (ci := 11) (k := 33) (am_dp pw_X11_seen_0 dd_X11_seen_0a.2.2.1) rfl (by decide) wd1366 inX11 rfl).to, ?_⟩
  refine List.forall_mem_cons.mpr ⟨(s_aloadn (am_dp pw_X11_seen_0 dd_X11_seen_0a.2.2.2.1) rfl).to, ?_⟩
  refine List.forall_mem_cons.mpr ⟨(s_get (ci := 11) (k := 41) (am_dp pw_X11_seen_0 dd_X11_seen_0a.2.2.2.2.1) rfl (by decide) wd1374 inX11 rfl).to, ?_⟩
  refine List.forall_mem_cons.mpr ⟨(s_iald (am_dp pw_X11_seen_0 dd_X11_seen_0a.2.2.2.2.2.1)).to, ?_⟩
  refine List.forall_mem_cons.mpr ⟨(s_bipush (am_dp pw_X11_seen_0 dd_X11_seen_0a.2.2.2.2.2.2.1) (by decide)).to, ?_⟩
  refine List.forall_mem_cons.mpr ⟨(s_icmp_ne (am_dp pw_X11_seen_0 dd_X11_seen_0a.2.2.2.2.2.2.2) (by decide)).to, ?_⟩
  refine List.forall_mem_cons.mpr ⟨(s_iconst (am_dp pw_X11_seen_0 dd_X11_seen_0b.1) (by decide)).to, ?_⟩
  refine List.forall_mem_cons.mpr ⟨(s_goto (am_dp pw_X11_seen_0 dd_X11_seen_0b.2.1) (by decide)).to, ?_⟩
  refine List.forall_mem_cons.mpr ⟨(s_iconst (am_dp pw_X11_seen_0 dd_X11_seen_0b.2.2.1) (by decide)).to, ?_⟩
  refine List.forall_mem_cons.mpr ⟨zw_cv193 (am_dp pw_X11_seen_0 dd_X11_seen_0b.2.2.2.1) wd1653, ?_⟩
  refine List.forall_mem_cons.mpr ⟨(s_if_ne (am_dp pw_X11_seen_0 dd_X11_seen_0b.2.2.2.2.1) (by decide)).to, ?_⟩
  refine List.forall_mem_cons.mpr ⟨s_vret (am_dp pw_X11_seen_0 dd_X11_seen_0b.2.2.2.2.2.1) rfl, ?_⟩
  refine List.forall_mem_cons.mpr ⟨(s_bipush (am_dp pw_X11_seen_0 dd_X11_seen_0b.2.2.2.2.2.2.1) (by decide)).to, ?_⟩
  refine List.forall_mem_cons.mpr ⟨(s_aloadn (am_dp pw_X11_seen_0 dd_X11_seen_0b.2.2.2.2.2.2.2) rfl).to, ?_⟩
  refine List.forall_mem_cons.mpr ⟨(s_get (ci := 11) (k := 41) (am_dp pw_X11_seen_0 dd_X11_seen_0c) rfl (by decide) wd1374 inX11 rfl).to, ?_⟩
  refine List.forall_mem_cons.mpr ⟨(s_imul (am_dp pw_X11_seen_32 dd_X11_seen_32a.1)).to, ?_⟩
  refine List.forall_mem_cons.mpr ⟨(s_aloadn (am_dp pw_X11_seen_32 dd_X11_seen_32a.2.1) rfl).to, ?_⟩
  refine List.forall_mem_cons.mpr ⟨(s_get (ci := 11) (k := 33) (am_dp pw_X11_seen_32 dd_X11_seen_32a.2.2.1) rfl (by decide) wd1366 inX11 rfl).to, ?_⟩
  refine List.forall_mem_cons.mpr ⟨(s_aloadn (am_dp pw_X11_seen_32 dd_X11_seen_32a.2.2.2.1) rfl).to, ?_⟩
  refine List.forall_mem_cons.mpr ⟨(s_get (ci := 11) (k := 41) (am_dp pw_X11_seen_32 dd_X11_seen_32a.2.2.2.2.1) rfl (by decide) wd1374 inX11 rfl).to, ?_⟩
  refine List.forall_mem_cons.mpr ⟨(s_iald (am_dp pw_X11_seen_32 dd_X11_seen_32a.2.2.2.2.2.1)).to, ?_⟩
  refine List.forall_mem_cons.mpr ⟨(s_iadd (am_dp pw_X11_seen_32 dd_X11_seen_32a.2.2.2.2.2.2.1)).to, ?_⟩
  refine List.forall_mem_cons.mpr ⟨(s_istoren (am_dp pw_X11_seen_32 dd_X11_seen_32a.2.2.2.2.2.2.2) rfl (by decide)).to, ?_⟩
  refine List.forall_mem_cons.mpr ⟨(s_aloadn (am_dp pw_X11_seen_32 dd_X11_seen_32b.1) rfl).to, ?_⟩
  refine List.forall_mem_cons.mpr ⟨(s_get (ci := 11) (k := 34) (am_dp pw_X11_seen_32 dd_X11_seen_32b.2.1) rfl (by decide) wd1367 inX11 rfl).to, ?_⟩
  refine List.forall_mem_cons.mpr ⟨(s_iloadn (am_dp pw_X11_seen_32 dd_X11_seen_32b.2.2.1) rfl).to, ?_⟩
  refine List.forall_mem_cons.mpr ⟨(s_aloadn (am_dp pw_X11_seen_32 dd_X11_seen_32b.2.2.2.1) rfl).to, ?_⟩
  refine List.forall_mem_cons.mpr ⟨(s_iconst (am_dp pw_X11_seen_32 dd_X11_seen_32b.2.2.2.2.1) (by decide)).to, ?_⟩
  refine List.forall_mem_cons.mpr ⟨(s_iconst (am_dp pw_X11_seen_32 dd_X11_seen_32b.2.2.2.2.2.1) (by decide)).to, ?_⟩
  refine List.forall_mem_cons.mpr ⟨zw_cv182 (am_dp pw_X11_seen_32 dd_X11_seen_32b.2.2.2.2.2.2.1) wd1626, ?_⟩
  refine List.forall_mem_cons.mpr ⟨(s_iast (am_dp pw_X11_seen_32 dd_X11_seen_32b.2.2.2.2.2.2.2)).to, ?_⟩
  refine List.forall_mem_cons.mpr ⟨(s_aloadn (am_dp pw_X11_seen_32 dd_X11_seen_32c.1) rfl).to, ?_⟩
  refine List.forall_mem_cons.mpr ⟨(s_get (ci := 11) (k := 35) (am_dp pw_X11_seen_32 dd_X11_seen_32c.2.1) rfl (by decide) wd1368 inX11 rfl).to, ?_⟩
  refine List.forall_mem_cons.mpr ⟨(s_iloadn (am_dp pw_X11_seen_32 dd_X11_seen_32c.2.2.1) rfl).to, ?_⟩
  refine List.forall_mem_cons.mpr ⟨(s_aloadn (am_dp pw_X11_seen_32 dd_X11_seen_32c.2.2.2.1) rfl).to, ?_⟩
  refine List.forall_mem_cons.mpr ⟨zw_cv200 (am_dp pw_X11_seen_32 dd_X11_seen_32c.2.2.2.2) wd1751, ?_⟩
  refine List.forall_mem_cons.mpr ⟨(s_iast (am_dp pw_X11_seen_64 dd_X11_seen_64a.1)).to, ?_⟩
  refine List.forall_mem_cons.mpr ⟨(s_aloadn (am_dp pw_X11_seen_64 dd_X11_seen_64a.2.1) rfl).to, ?_⟩
  refine List.forall_mem_cons.mpr ⟨(s_ldc2 (am_dp pw_X11_seen_64 dd_X11_seen_64a.2.2.1) wd1693).to, ?_⟩
  refine List.forall_mem_cons.mpr ⟨zw_cv194 (am_dp pw_X11_seen_64 dd_X11_seen_64a.2.2.2.1) wd1708, ?_⟩
  refine List.forall_mem_cons.mpr ⟨(s_aloadn (am_dp pw_X11_seen_64 dd_X11_seen_64a.2.2.2.2.1) rfl).to, ?_⟩
  refine List.forall_mem_cons.mpr ⟨(s_get (ci := 11) (k := 36) (am_dp pw_X11_seen_64 dd_X11_seen_64a.2.2.2.2.2.1) rfl (by decide) wd1369 inX11 rfl).to, ?_⟩
  refine List.forall_mem_cons.mpr ⟨(s_iloadn (am_dp pw_X11_seen_64 dd_X11_seen_64a.2.2.2.2.2.2.1) rfl).to, ?_⟩
  refine List.forall_mem_cons.mpr ⟨(s_aloadn (am_dp pw_X11_seen_64 dd_X11_seen_64a.2.2.2.2.2.2.2) rfl).to, ?_⟩
  refine List.forall_mem_cons.mpr ⟨(s_iconst (am_dp pw_X11_seen_64 dd_X11_seen_64b.1) (by decide)).to, ?_⟩
  refine List.forall_mem_cons.mpr ⟨(s_bipush (am_dp pw_X11_seen_64 dd_X11_seen_64b.2.1) (by decide)).to, ?_⟩
  refine List.forall_mem_cons.mpr ⟨zw_cv182 (am_dp pw_X11_seen_64 dd_X11_seen_64b.2.2.1) wd1626, ?_⟩
  refine List.forall_mem_cons.mpr ⟨(s_iast (am_dp pw_X11_seen_64 dd_X11_seen_64b.2.2.2.1)).to, ?_⟩
  refine List.forall_mem_cons.mpr ⟨(s_aloadn (am_dp pw_X11_seen_64 dd_X11_seen_64b.2.2.2.2.1) rfl).to, ?_⟩
  refine List.forall_mem_cons.mpr ⟨(s_get (ci := 11) (k := 8) (am_dp pw_X11_seen_64 dd_X11_seen_64b.2.2.2.2.2.1) rfl (by decide) wd1341 inX11 rfl).to, ?_⟩
  refine List.forall_mem_cons.mpr ⟨(s_if_ne (am_dp pw_X11_seen_64 dd_X11_seen_64b.2.2.2.2.2.2.1) (by decide)).to, ?_⟩
  refine List.forall_mem_cons.mpr ⟨(s_aloadn (am_dp pw_X11_seen_64 dd_X11_seen_64b.2.2.2.2.2.2.2) rfl).to, ?_⟩
  refine List.forall_mem_cons.mpr ⟨(s_get (ci := 11) (k := 33) (am_dp pw_X11_seen_64 dd_X11_seen_64c) rfl (by decide) wd1366 inX11 rfl).to, ?_⟩
  refine List.forall_mem_cons.mpr ⟨(s_aloadn (am_dp pw_X11_seen_96 dd_X11_seen_96a.1) rfl).to, ?_⟩
  refine List.forall_mem_cons.mpr ⟨(s_get (ci := 11) (k := 41) (am_dp pw_X11_seen_96 dd_X11_seen_96a.2.1) rfl (by decide) wd1374 inX11 rfl).to, ?_⟩
  refine List.forall_mem_cons.mpr ⟨(s_dup2 (am_dp pw_X11_seen_96 dd_X11_seen_96a.2.2.1)).to, ?_⟩
  refine List.forall_mem_cons.mpr ⟨(s_iald (am_dp pw_X11_seen_96 dd_X11_seen_96a.2.2.2.1)).to, ?_⟩
  refine List.forall_mem_cons.mpr ⟨(s_iconst (am_dp pw_X11_seen_96 dd_X11_seen_96a.2.2.2.2.1) (by decide)).to, ?_⟩
  exact fun _ h => absurd h List.not_mem_nil
theorem sn_tX11_seen_1 : ∀ q ∈ tX11_seen_1, am_Snd am_P0 RX11 cX11_seen 2 (Option.none : Option FieldType) "seen" q.1 q.2 := by
  unfold tX11_seen_1
  refine List.forall_mem_cons.mpr ⟨(s_iadd (am_dp pw_X11_seen_96 dd_X11_seen_96a.2.2.2.2.2.1)).to, ?_⟩
  refine List.forall_mem_cons.mpr ⟨(s_iast (am_dp pw_X11_seen_96 dd_X11_seen_96a.2.2.2.2.2.2.1)).to, ?_⟩
  refine List.forall_mem_cons.mpr ⟨s_vret (am_dp pw_X11_seen_96 dd_X11_seen_96a.2.2.2.2.2.2.2) rfl, ?_⟩
  exact fun _ h => absurd h List.not_mem_nil
theorem sn_tX11_seen : ∀ q ∈ tX11_seen, am_Snd am_P0 RX11 cX11_seen 2 (Option.none : Option FieldType) "seen" q.1 q.2 := by
  unfold tX11_seen
  exact List.forall_mem_append.mpr ⟨sn_tX11_seen_0, sn_tX11_seen_1⟩
theorem sn_tX11_lucks : ∀ q ∈ tX11_lucks, am_Snd am_P0 RX11 cX11_lucks 1 (Option.none : Option FieldType) "lucks" q.1 q.2 := by
  unfold tX11_lucks
  refine List.forall_mem_cons.mpr ⟨(s_aloadn (am_dp pw_X11_lucks_0 dd_X11_lucks_0a.1) rfl).to, ?_⟩
  refine List.forall_mem_cons.mpr ⟨(s_iconst (am_dp pw_X11_lucks_0 dd_X11_lucks_0a.2.1) (by decide)).to, ?_⟩
  refine List.forall_mem_cons.mpr ⟨zw_cv193 (am_dp pw_X11_lucks_0 dd_X11_lucks_0a.2.2.1) wd1653, ?_⟩
  refine List.forall_mem_cons.mpr ⟨(s_if_ne (am_dp pw_X11_lucks_0 dd_X11_lucks_0a.2.2.2.1) (by decide)).to, ?_⟩
  refine List.forall_mem_cons.mpr ⟨s_vret (am_dp pw_X11_lucks_0 dd_X11_lucks_0a.2.2.2.2.1) rfl, ?_⟩
  refine List.forall_mem_cons.mpr ⟨(s_aloadn (am_dp pw_X11_lucks_0 dd_X11_lucks_0a.2.2.2.2.2.1) rfl).to, ?_⟩
  refine List.forall_mem_cons.mpr ⟨(s_get (ci := 11) (k := 37) (am_dp pw_X11_lucks_0 dd_X11_lucks_0a.2.2.2.2.2.2.1) rfl (by decide) wd1370 inX11 rfl).to, ?_⟩
  refine List.forall_mem_cons.mpr ⟨(s_aloadn (am_dp pw_X11_lucks_0 dd_X11_lucks_0a.2.2.2.2.2.2.2) rfl).to, ?_⟩
  refine List.forall_mem_cons.mpr ⟨(s_get (ci := 11) (k := 41) (am_dp pw_X11_lucks_0 dd_X11_lucks_0b.1) rfl (by decide) wd1374 inX11 rfl).to, ?_⟩
  refine List.forall_mem_cons.mpr ⟨(s_aloadn (am_dp pw_X11_lucks_0 dd_X11_lucks_0b.2.1) rfl).to, ?_⟩
  refine List.forall_mem_cons.mpr ⟨(s_iconst (am_dp pw_X11_lucks_0 dd_X11_lucks_0b.2.2.1) (by decide)).to, ?_⟩
  refine List.forall_mem_cons.mpr ⟨(s_bipush (am_dp pw_X11_lucks_0 dd_X11_lucks_0b.2.2.2.1) (by decide)).to, ?_⟩
  refine List.forall_mem_cons.mpr ⟨zw_cv182 (am_dp pw_X11_lucks_0 dd_X11_lucks_0b.2.2.2.2.1) wd1626, ?_⟩
  refine List.forall_mem_cons.mpr ⟨(s_iast (am_dp pw_X11_lucks_0 dd_X11_lucks_0b.2.2.2.2.2.1)).to, ?_⟩
  refine List.forall_mem_cons.mpr ⟨s_vret (am_dp pw_X11_lucks_0 dd_X11_lucks_0b.2.2.2.2.2.2) rfl, ?_⟩
  exact fun _ h => absurd h List.not_mem_nil
theorem sn_tX11_statement_0 : ∀ q ∈ tX11_statement_0, am_Snd am_P0 RX11 cX11_statement 1 (Option.none : Option FieldType) "statement" q.1 q.2 := by
  unfold tX11_statement_0
  refine List.forall_mem_cons.mpr ⟨(s_aloadn (am_dp pw_X11_statement_0 dd_X11_statement_0a.1) rfl).to, ?_⟩
  refine List.forall_mem_cons.mpr ⟨(s_ldc2 (am_dp pw_X11_statement_0 dd_X11_statement_0a.2.1) wd1645).to, ?_⟩
  refine List.forall_mem_cons.mpr ⟨zw_cv176 (am_dp pw_X11_statement_0 dd_X11_statement_0a.2.2.1) wd1622, ?_⟩
  refine List.forall_mem_cons.mpr ⟨(s_if_eq (am_dp pw_X11_statement_0 dd_X11_statement_0a.2.2.2.1) (by decide)).to, ?_⟩
  refine List.forall_mem_cons.mpr ⟨(s_aloadn (am_dp pw_X11_statement_0 dd_X11_statement_0a.2.2.2.2.1) rfl).to, ?_⟩
  refine List.forall_mem_cons.mpr ⟨(s_iconst (am_dp pw_X11_statement_0 dd_X11_statement_0a.2.2.2.2.2.1) (by decide)).to, ?_⟩
  refine List.forall_mem_cons.mpr ⟨zw_cv198 (am_dp pw_X11_statement_0 dd_X11_statement_0a.2.2.2.2.2.2.1) wd1646, ?_⟩
  refine List.forall_mem_cons.mpr ⟨(s_goto (am_dp pw_X11_statement_0 dd_X11_statement_0a.2.2.2.2.2.2.2) (by decide)).to, ?_⟩
  refine List.forall_mem_cons.mpr ⟨(s_aloadn (am_dp pw_X11_statement_0 dd_X11_statement_0b.1) rfl).to, ?_⟩
  refine List.forall_mem_cons.mpr ⟨(s_ldc2 (am_dp pw_X11_statement_0 dd_X11_statement_0b.2.1) wd1712).to, ?_⟩
  refine List.forall_mem_cons.mpr ⟨zw_cv176 (am_dp pw_X11_statement_0 dd_X11_statement_0b.2.2.1) wd1622, ?_⟩
  refine List.forall_mem_cons.mpr ⟨(s_if_eq (am_dp pw_X11_statement_0 dd_X11_statement_0b.2.2.2.1) (by decide)).to, ?_⟩
  refine List.forall_mem_cons.mpr ⟨(s_aloadn (am_dp pw_X11_statement_0 dd_X11_statement_0b.2.2.2.2.1) rfl).to, ?_⟩
  refine List.forall_mem_cons.mpr ⟨(s_iconst (am_dp pw_X11_statement_0 dd_X11_statement_0b.2.2.2.2.2.1) (by decide)).to, ?_⟩
  refine List.forall_mem_cons.mpr ⟨zw_cv198 (am_dp pw_X11_statement_0 dd_X11_statement_0b.2.2.2.2.2.2) wd1646, ?_⟩
  refine List.forall_mem_cons.mpr ⟨(s_goto (am_dp pw_X11_statement_32 dd_X11_statement_32a.1) (by decide)).to, ?_⟩
  refine List.forall_mem_cons.mpr ⟨(s_aloadn (am_dp pw_X11_statement_32 dd_X11_statement_32a.2.1) rfl).to, ?_⟩
  refine List.forall_mem_cons.mpr ⟨(s_ldc2 (am_dp pw_X11_statement_32 dd_X11_statement_32a.2.2.1) wd1713).to, ?_⟩
  refine List.forall_mem_cons.mpr ⟨zw_cv176 (am_dp pw_X11_statement_32 dd_X11_statement_32a.2.2.2.1) wd1622, ?_⟩
  refine List.forall_mem_cons.mpr ⟨(s_if_eq (am_dp pw_X11_statement_32 dd_X11_statement_32a.2.2.2.2.1) (by decide)).to, ?_⟩
  refine List.forall_mem_cons.mpr ⟨(s_aloadn (am_dp pw_X11_statement_32 dd_X11_statement_32a.2.2.2.2.2.1) rfl).to, ?_⟩
  refine List.forall_mem_cons.mpr ⟨(s_iconst (am_dp pw_X11_statement_32 dd_X11_statement_32a.2.2.2.2.2.2.1) (by decide)).to, ?_⟩
  refine List.forall_mem_cons.mpr ⟨zw_cv198 (am_dp pw_X11_statement_32 dd_X11_statement_32a.2.2.2.2.2.2.2) wd1646, ?_⟩
  refine List.forall_mem_cons.mpr ⟨(s_goto (am_dp pw_X11_statement_32 dd_X11_statement_32b.1) (by decide)).to, ?_⟩
  refine List.forall_mem_cons.mpr ⟨(s_aloadn (am_dp pw_X11_statement_32 dd_X11_statement_32b.2.1) rfl).to, ?_⟩
  refine List.forall_mem_cons.mpr ⟨(s_ldc2 (am_dp pw_X11_statement_32 dd_X11_statement_32b.2.2.1) wd1714).to, ?_⟩
  refine List.forall_mem_cons.mpr ⟨zw_cv176 (am_dp pw_X11_statement_32 dd_X11_statement_32b.2.2.2.1) wd1622, ?_⟩
  refine List.forall_mem_cons.mpr ⟨(s_if_eq (am_dp pw_X11_statement_32 dd_X11_statement_32b.2.2.2.2) (by decide)).to, ?_⟩
  refine List.forall_mem_cons.mpr ⟨(s_aloadn (am_dp pw_X11_statement_64 dd_X11_statement_64a.1) rfl).to, ?_⟩
  refine List.forall_mem_cons.mpr ⟨zw_cv199 (am_dp pw_X11_statement_64 dd_X11_statement_64a.2.1) wd1715, ?_⟩
  refine List.forall_mem_cons.mpr ⟨(s_goto (am_dp pw_X11_statement_64 dd_X11_statement_64a.2.2.1) (by decide)).to, ?_⟩
  refine List.forall_mem_cons.mpr ⟨(s_aloadn (am_dp pw_X11_statement_64 dd_X11_statement_64a.2.2.2.1) rfl).to, ?_⟩
  refine List.forall_mem_cons.mpr ⟨(s_ldc2 (am_dp pw_X11_statement_64 dd_X11_statement_64a.2.2.2.2.1) wd1731).to, ?_⟩
  refine List.forall_mem_cons.mpr ⟨zw_cv176 (am_dp pw_X11_statement_64 dd_X11_statement_64a.2.2.2.2.2.1) wd1622, ?_⟩
  refine List.forall_mem_cons.mpr ⟨(s_if_eq (am_dp pw_X11_statement_64 dd_X11_statement_64a.2.2.2.2.2.2.1) (by decide)).to, ?_⟩
  refine List.forall_mem_cons.mpr ⟨(s_aloadn (am_dp pw_X11_statement_64 dd_X11_statement_64a.2.2.2.2.2.2.2) rfl).to, ?_⟩
  refine List.forall_mem_cons.mpr ⟨zw_cv201 (am_dp pw_X11_statement_64 dd_X11_statement_64b.1) wd1743, ?_⟩
  refine List.forall_mem_cons.mpr ⟨(s_goto (am_dp pw_X11_statement_64 dd_X11_statement_64b.2.1) (by decide)).to, ?_⟩
  refine List.forall_mem_cons.mpr ⟨(s_aloadn (am_dp pw_X11_statement_64 dd_X11_statement_64b.2.2.1) rfl).to, ?_⟩
  refine List.forall_mem_cons.mpr ⟨(s_ldc2 (am_dp pw_X11_statement_64 dd_X11_statement_64b.2.2.2.1) wd1734).to, ?_⟩
  refine List.forall_mem_cons.mpr ⟨zw_cv176 (am_dp pw_X11_statement_64 dd_X11_statement_64b.2.2.2.2.1) wd1622, ?_⟩
  refine List.forall_mem_cons.mpr ⟨(s_if_eq (am_dp pw_X11_statement_64 dd_X11_statement_64b.2.2.2.2.2) (by decide)).to, ?_⟩
  refine List.forall_mem_cons.mpr ⟨(s_aloadn (am_dp pw_X11_statement_96 dd_X11_statement_96a.1) rfl).to, ?_⟩
  refine List.forall_mem_cons.mpr ⟨zw_cv202 (am_dp pw_X11_statement_96 dd_X11_statement_96a.2.1) wd1755, ?_⟩
  refine List.forall_mem_cons.mpr ⟨(s_goto (am_dp pw_X11_statement_96 dd_X11_statement_96a.2.2.1) (by decide)).to, ?_⟩
  refine List.forall_mem_cons.mpr ⟨(s_aloadn (am_dp pw_X11_statement_96 dd_X11_statement_96a.2.2.2.1) rfl).to, ?_⟩
  refine List.forall_mem_cons.mpr ⟨(s_ldc2 (am_dp pw_X11_statement_96 dd_X11_statement_96a.2.2.2.2.1) wd1737).to, ?_⟩
  refine List.forall_mem_cons.mpr ⟨zw_cv176 (am_dp pw_X11_statement_96 dd_X11_statement_96a.2.2.2.2.2.1) wd1622, ?_⟩
  refine List.forall_mem_cons.mpr ⟨(s_if_eq (am_dp pw_X11_statement_96 dd_X11_statement_96a.2.2.2.2.2.2.1) (by decide)).to, ?_⟩
  refine List.forall_mem_cons.mpr ⟨(s_aloadn (am_dp pw_X11_statement_96 dd_X11_statement_96a.2.2.2.2.2.2.2) rfl).to, ?_⟩
  refine List.forall_mem_cons.mpr ⟨zw_cv203 (am_dp pw_X11_statement_96 dd_X11_statement_96b.1) wd1759, ?_⟩
  refine List.forall_mem_cons.mpr ⟨(s_goto (am_dp pw_X11_statement_96 dd_X11_statement_96b.2.1) (by decide)).to, ?_⟩
  refine List.forall_mem_cons.mpr ⟨(s_aloadn (am_dp pw_X11_statement_96 dd_X11_statement_96b.2.2.1) rfl).to, ?_⟩
  refine List.forall_mem_cons.mpr ⟨(s_ldc2 (am_dp pw_X11_statement_96 dd_X11_statement_96b.2.2.2.1) wd1738).to, ?_⟩
  refine List.forall_mem_cons.mpr ⟨zw_cv176 (am_dp pw_X11_statement_96 dd_X11_statement_96b.2.2.2.2) wd1622, ?_⟩
  refine List.forall_mem_cons.mpr ⟨(s_if_eq (am_dp pw_X11_statement_128 dd_X11_statement_128a.1) (by decide)).to, ?_⟩
  refine List.forall_mem_cons.mpr ⟨(s_aloadn (am_dp pw_X11_statement_128 dd_X11_statement_128a.2.1) rfl).to, ?_⟩
  refine List.forall_mem_cons.mpr ⟨zw_cv204 (am_dp pw_X11_statement_128 dd_X11_statement_128a.2.2.1) wd1763, ?_⟩
  refine List.forall_mem_cons.mpr ⟨(s_goto (am_dp pw_X11_statement_128 dd_X11_statement_128a.2.2.2.1) (by decide)).to, ?_⟩
  refine List.forall_mem_cons.mpr ⟨(s_aloadn (am_dp pw_X11_statement_128 dd_X11_statement_128a.2.2.2.2.1) rfl).to, ?_⟩
  exact fun _ h => absurd h List.not_mem_nil
theorem sn_tX11_statement_1 : ∀ q ∈ tX11_statement_1, am_Snd am_P0 RX11 cX11_statement 1 (Option.none : Option FieldType) "statement" q.1 q.2 := by
  unfold tX11_statement_1
  refine List.forall_mem_cons.mpr ⟨(s_iconst (am_dp pw_X11_statement_128 dd_X11_statement_128a.2.2.2.2.2.1) (by decide)).to, ?_⟩
  refine List.forall_mem_cons.mpr ⟨(s_aloadn (am_dp pw_X11_statement_128 dd_X11_statement_128a.2.2.2.2.2.2.1) rfl).to, ?_⟩
  refine List.forall_mem_cons.mpr ⟨(s_get (ci := 11) (k := 4) (am_dp pw_X11_statement_128 dd_X11_statement_128a.2.2.2.2.2.2.2) rfl (by decide) wd1337 inX11 rfl).to, ?_⟩
  refine List.forall_mem_cons.mpr ⟨zw_cv171 (am_dp pw_X11_statement_128 dd_X11_statement_128b.1) wd1613, ?_⟩
  refine List.forall_mem_cons.mpr ⟨(s_aloadn (am_dp pw_X11_statement_128 dd_X11_statement_128b.2.1) rfl).to, ?_⟩
  refine List.forall_mem_cons.mpr ⟨(s_get (ci := 11) (k := 8) (am_dp pw_X11_statement_128 dd_X11_statement_128b.2.2.1) rfl (by decide) wd1341 inX11 rfl).to, ?_⟩
  refine List.forall_mem_cons.mpr ⟨(s_if_ne (am_dp pw_X11_statement_128 dd_X11_statement_128b.2.2.2.1) (by decide)).to, ?_⟩
  refine List.forall_mem_cons.mpr ⟨(s_aloadn (am_dp pw_X11_statement_128 dd_X11_statement_128b.2.2.2.2.1) rfl).to, ?_⟩
  refine List.forall_mem_cons.mpr ⟨(s_bipush (am_dp pw_X11_statement_128 dd_X11_statement_128b.2.2.2.2.2.1) (by decide)).to, ?_⟩
  refine List.forall_mem_cons.mpr ⟨zw_cv177 (am_dp pw_X11_statement_128 dd_X11_statement_128b.2.2.2.2.2.2) wd1633, ?_⟩
  refine List.forall_mem_cons.mpr ⟨s_vret (am_dp pw_X11_statement_160 dd_X11_statement_160a) rfl, ?_⟩
  exact fun _ h => absurd h List.not_mem_nil
theorem sn_tX11_statement : ∀ q ∈ tX11_statement, am_Snd am_P0 RX11 cX11_statement 1 (Option.none : Option FieldType) "statement" q.1 q.2 := by
  unfold tX11_statement
  exact List.forall_mem_append.mpr ⟨sn_tX11_statement_0, sn_tX11_statement_1⟩
theorem sn_tX11_sea_0 : ∀ q ∈ tX11_sea_0, am_Snd am_P0 RX11 cX11_sea 2 (Option.some FieldType.int) "sea" q.1 q.2 := by
  unfold tX11_sea_0
  refine List.forall_mem_cons.mpr ⟨(s_aloadn (am_dp pw_X11_sea_0 dd_X11_sea_0a.1) rfl).to, ?_⟩
  refine List.forall_mem_cons.mpr ⟨(s_aloadn (am_dp pw_X11_sea_0 dd_X11_sea_0a.2.1) rfl).to, ?_⟩
  refine List.forall_mem_cons.mpr ⟨(s_get (ci := 11) (k := 1) (am_dp pw_X11_sea_0 dd_X11_sea_0a.2.2.1) rfl (by decide) wd1334 inX11 rfl).to, ?_⟩
  refine List.forall_mem_cons.mpr ⟨(s_put (ci := 11) (k := 2) (am_dp pw_X11_sea_0 dd_X11_sea_0a.2.2.2.1) rfl (by decide) wd1335 inX11 tyX11_ok nmX11 rfl rfl).to, ?_⟩
  refine List.forall_mem_cons.mpr ⟨(s_aloadn (am_dp pw_X11_sea_0 dd_X11_sea_0a.2.2.2.2.1) rfl).to, ?_⟩
  refine List.forall_mem_cons.mpr ⟨(s_iconst (am_dp pw_X11_sea_0 dd_X11_sea_0a.2.2.2.2.2.1) (by decide)).to, ?_⟩
  refine List.forall_mem_cons.mpr ⟨(s_put (ci := 11) (k := 1) (am_dp pw_X11_sea_0 dd_X11_sea_0a.2.2.2.2.2.2.1) rfl (by decide) wd1334 inX11 tyX11_ok nmX11 rfl rfl).to, ?_⟩
  refine List.forall_mem_cons.mpr ⟨(s_aloadn (am_dp pw_X11_sea_0 dd_X11_sea_0a.2.2.2.2.2.2.2) rfl).to, ?_⟩
  refine List.forall_mem_cons.mpr ⟨(s_iconst (am_dp pw_X11_sea_0 dd_X11_sea_0b.1) (by decide)).to, ?_⟩
  refine List.forall_mem_cons.mpr ⟨(s_put (ci := 11) (k := 5) (am_dp pw_X11_sea_0 dd_X11_sea_0b.2.1) rfl (by decide) wd1338 inX11 tyX11_ok nmX11 rfl rfl).to, ?_⟩
  refine List.forall_mem_cons.mpr ⟨(s_aloadn (am_dp pw_X11_sea_0 dd_X11_sea_0b.2.2.1) rfl).to, ?_⟩
  refine List.forall_mem_cons.mpr ⟨(s_iconst (am_dp pw_X11_sea_0 dd_X11_sea_0b.2.2.2.1) (by decide)).to, ?_⟩
  refine List.forall_mem_cons.mpr ⟨(s_put (ci := 11) (k := 8) (am_dp pw_X11_sea_0 dd_X11_sea_0b.2.2.2.2.1) rfl (by decide) wd1341 inX11 tyX11_ok nmX11 rfl rfl).to, ?_⟩
  refine List.forall_mem_cons.mpr ⟨(s_aloadn (am_dp pw_X11_sea_0 dd_X11_sea_0b.2.2.2.2.2.1) rfl).to, ?_⟩
  refine List.forall_mem_cons.mpr ⟨(s_iconst (am_dp pw_X11_sea_0 dd_X11_sea_0b.2.2.2.2.2.2.1) (by decide)).to, ?_⟩
  refine List.forall_mem_cons.mpr ⟨(s_put (ci := 11) (k := 9) (am_dp pw_X11_sea_0 dd_X11_sea_0b.2.2.2.2.2.2.2) rfl (by decide) wd1342 inX11 tyX11_ok nmX11 rfl rfl).to, ?_⟩
  refine List.forall_mem_cons.mpr ⟨(s_aloadn (am_dp pw_X11_sea_0 dd_X11_sea_0c.1) rfl).to, ?_⟩
  refine List.forall_mem_cons.mpr ⟨(s_iconst (am_dp pw_X11_sea_0 dd_X11_sea_0c.2.1) (by decide)).to, ?_⟩
  refine List.forall_mem_cons.mpr ⟨(s_aloadn (am_dp pw_X11_sea_0 dd_X11_sea_0c.2.2.1) rfl).to, ?_⟩
  refine List.forall_mem_cons.mpr ⟨(s_get (ci := 11) (k := 12) (am_dp pw_X11_sea_0 dd_X11_sea_0c.2.2.2) rfl (by decide) wd1345 inX11 rfl).to, ?_⟩
  refine List.forall_mem_cons.mpr ⟨(s_isub (am_dp pw_X11_sea_32 dd_X11_sea_32a.1)).to, ?_⟩
  refine List.forall_mem_cons.mpr ⟨(s_put (ci := 11) (k := 41) (am_dp pw_X11_sea_32 dd_X11_sea_32a.2.1) rfl (by decide) wd1374 inX11 tyX11_ok nmX11 rfl rfl).to, ?_⟩
  refine List.forall_mem_cons.mpr ⟨(s_iconst (am_dp pw_X11_sea_32 dd_X11_sea_32a.2.2.1) (by decide)).to, ?_⟩
  refine List.forall_mem_cons.mpr ⟨(s_istoren (am_dp pw_X11_sea_32 dd_X11_sea_32a.2.2.2.1) rfl (by decide)).to, ?_⟩
  refine List.forall_mem_cons.mpr ⟨(s_iloadn (am_dp pw_X11_sea_32 dd_X11_sea_32a.2.2.2.2.1) rfl).to, ?_⟩
  refine List.forall_mem_cons.mpr ⟨(s_iconst (am_dp pw_X11_sea_32 dd_X11_sea_32a.2.2.2.2.2.1) (by decide)).to, ?_⟩
  refine List.forall_mem_cons.mpr ⟨(s_icmp_ge (am_dp pw_X11_sea_32 dd_X11_sea_32a.2.2.2.2.2.2.1) (by decide)).to, ?_⟩
  refine List.forall_mem_cons.mpr ⟨(s_aloadn (am_dp pw_X11_sea_32 dd_X11_sea_32a.2.2.2.2.2.2.2) rfl).to, ?_⟩
  refine List.forall_mem_cons.mpr ⟨(s_get (ci := 11) (k := 15) (am_dp pw_X11_sea_32 dd_X11_sea_32b.1) rfl (by decide) wd1348 inX11 rfl).to, ?_⟩
  refine List.forall_mem_cons.mpr ⟨(s_iconst (am_dp pw_X11_sea_32 dd_X11_sea_32b.2.1) (by decide)).to, ?_⟩
  refine List.forall_mem_cons.mpr ⟨(s_aloadn (am_dp pw_X11_sea_32 dd_X11_sea_32b.2.2.1) rfl).to, ?_⟩
  refine List.forall_mem_cons.mpr ⟨(s_get (ci := 11) (k := 41) (am_dp pw_X11_sea_32 dd_X11_sea_32b.2.2.2.1) rfl (by decide) wd1374 inX11 rfl).to, ?_⟩
  refine List.forall_mem_cons.mpr ⟨(s_imul (am_dp pw_X11_sea_32 dd_X11_sea_32b.2.2.2.2.1)).to, ?_⟩
  refine List.forall_mem_cons.mpr ⟨(s_iloadn (am_dp pw_X11_sea_32 dd_X11_sea_32b.2.2.2.2.2.1) rfl).to, ?_⟩
  refine List.forall_mem_cons.mpr ⟨(s_iadd (am_dp pw_X11_sea_32 dd_X11_sea_32b.2.2.2.2.2.2.1)).to, ?_⟩
  refine List.forall_mem_cons.mpr ⟨(s_iconst (am_dp pw_X11_sea_32 dd_X11_sea_32b.2.2.2.2.2.2.2) (by decide)).to, ?_⟩
  refine List.forall_mem_cons.mpr ⟨(s_iast (am_dp pw_X11_sea_32 dd_X11_sea_32c.1)).to, ?_⟩
  refine List.forall_mem_cons.mpr ⟨(s_iinc (am_dp pw_X11_sea_32 dd_X11_sea_32c.2.1) (by decide) (by decide)).to, ?_⟩
  refine List.forall_mem_cons.mpr ⟨(s_goto (am_dp pw_X11_sea_32 dd_X11_sea_32c.2.2) (by decide)).to, ?_⟩
  refine List.forall_mem_cons.mpr ⟨(s_iconst (am_dp pw_X11_sea_64 dd_X11_sea_64a.1) (by decide)).to, ?_⟩
  refine List.forall_mem_cons.mpr ⟨(s_istoren (am_dp pw_X11_sea_64 dd_X11_sea_64a.2.1) rfl (by decide)).to, ?_⟩
  refine List.forall_mem_cons.mpr ⟨(s_iloadn (am_dp pw_X11_sea_64 dd_X11_sea_64a.2.2.1) rfl).to, ?_⟩
  refine List.forall_mem_cons.mpr ⟨(s_sipush (am_dp pw_X11_sea_64 dd_X11_sea_64a.2.2.2.1) (by decide)).to, ?_⟩
  refine List.forall_mem_cons.mpr ⟨(s_icmp_ge (am_dp pw_X11_sea_64 dd_X11_sea_64a.2.2.2.2.1) (by decide)).to, ?_⟩
  refine List.forall_mem_cons.mpr ⟨(s_aloadn (am_dp pw_X11_sea_64 dd_X11_sea_64a.2.2.2.2.2.1) rfl).to, ?_⟩
  refine List.forall_mem_cons.mpr ⟨(s_get (ci := 11) (k := 26) (am_dp pw_X11_sea_64 dd_X11_sea_64a.2.2.2.2.2.2.1) rfl (by decide) wd1359 inX11 rfl).to, ?_⟩
  refine List.forall_mem_cons.mpr ⟨(s_sipush (am_dp pw_X11_sea_64 dd_X11_sea_64a.2.2.2.2.2.2.2) (by decide)).to, ?_⟩
  refine List.forall_mem_cons.mpr ⟨(s_aloadn (am_dp pw_X11_sea_64 dd_X11_sea_64b.1) rfl).to, ?_⟩
  refine List.forall_mem_cons.mpr ⟨(s_get (ci := 11) (k := 41) (am_dp pw_X11_sea_64 dd_X11_sea_64b.2.1) rfl (by decide) wd1374 inX11 rfl).to, ?_⟩
  refine List.forall_mem_cons.mpr ⟨(s_imul (am_dp pw_X11_sea_64 dd_X11_sea_64b.2.2.1)).to, ?_⟩
  refine List.forall_mem_cons.mpr ⟨(s_iloadn (am_dp pw_X11_sea_64 dd_X11_sea_64b.2.2.2.1) rfl).to, ?_⟩
  refine List.forall_mem_cons.mpr ⟨(s_iadd (am_dp pw_X11_sea_64 dd_X11_sea_64b.2.2.2.2.1)).to, ?_⟩
  refine List.forall_mem_cons.mpr ⟨(s_iconst (am_dp pw_X11_sea_64 dd_X11_sea_64b.2.2.2.2.2.1) (by decide)).to, ?_⟩
  refine List.forall_mem_cons.mpr ⟨(s_iast (am_dp pw_X11_sea_64 dd_X11_sea_64b.2.2.2.2.2.2.1)).to, ?_⟩
  refine List.forall_mem_cons.mpr ⟨(s_iinc (am_dp pw_X11_sea_64 dd_X11_sea_64b.2.2.2.2.2.2.2) (by decide) (by decide)).to, ?_⟩
  refine List.forall_mem_cons.mpr ⟨(s_goto (am_dp pw_X11_sea_64 dd_X11_sea_64c) (by decide)).to, ?_⟩
  refine List.forall_mem_cons.mpr ⟨(s_aloadn (am_dp pw_X11_sea_96 dd_X11_sea_96a.1) rfl).to, ?_⟩
  refine List.forall_mem_cons.mpr ⟨(s_get (ci := 11) (k := 19) (am_dp pw_X11_sea_96 dd_X11_sea_96a.2.1) rfl (by decide) wd1352 inX11 rfl).to, ?_⟩
  refine List.forall_mem_cons.mpr ⟨(s_aloadn (am_dp pw_X11_sea_96 dd_X11_sea_96a.2.2.1) rfl).to, ?_⟩
  refine List.forall_mem_cons.mpr ⟨(s_get (ci := 11) (k := 41) (am_dp pw_X11_sea_96 dd_X11_sea_96a.2.2.2.1) rfl (by decide) wd1374 inX11 rfl).to, ?_⟩
  exact fun _ h => absurd h List.not_mem_nil
theorem sn_tX11_sea_1 : ∀ q ∈ tX11_sea_1, am_Snd am_P0 RX11 cX11_sea 2 (Option.some FieldType.int) "sea" q.1 q.2 := by
  unfold tX11_sea_1
  refine List.forall_mem_cons.mpr ⟨(s_iconst (am_dp pw_X11_sea_96 dd_X11_sea_96a.2.2.2.2.1) (by decide)).to, ?_⟩
  refine List.forall_mem_cons.mpr ⟨(s_iast (am_dp pw_X11_sea_96 dd_X11_sea_96a.2.2.2.2.2.1)).to, ?_⟩
  refine List.forall_mem_cons.mpr ⟨(s_aloadn (am_dp pw_X11_sea_96 dd_X11_sea_96a.2.2.2.2.2.2.1) rfl).to, ?_⟩
  refine List.forall_mem_cons.mpr ⟨(s_get (ci := 11) (k := 25) (am_dp pw_X11_sea_96 dd_X11_sea_96a.2.2.2.2.2.2.2) rfl (by decide) wd1358 inX11 rfl).to, ?_⟩
  refine List.forall_mem_cons.mpr ⟨(s_aloadn (am_dp pw_X11_sea_96 dd_X11_sea_96b.1) rfl).to, ?_⟩
  refine List.forall_mem_cons.mpr ⟨(s_get (ci := 11) (k := 41) (am_dp pw_X11_sea_96 dd_X11_sea_96b.2.1) rfl (by decide) wd1374 inX11 rfl).to, ?_⟩
  refine List.forall_mem_cons.mpr ⟨(s_iconst (am_dp pw_X11_sea_96 dd_X11_sea_96b.2.2.1) (by decide)).to, ?_⟩
  refine List.forall_mem_cons.mpr ⟨(s_iast (am_dp pw_X11_sea_96 dd_X11_sea_96b.2.2.2.1)).to, ?_⟩
  refine List.forall_mem_cons.mpr ⟨(s_aloadn (am_dp pw_X11_sea_96 dd_X11_sea_96b.2.2.2.2.1) rfl).to, ?_⟩
  refine List.forall_mem_cons.mpr ⟨(s_get (ci := 11) (k := 28) (am_dp pw_X11_sea_96 dd_X11_sea_96b.2.2.2.2.2.1) rfl (by decide) wd1361 inX11 rfl).to, ?_⟩
  refine List.forall_mem_cons.mpr ⟨(s_aloadn (am_dp pw_X11_sea_96 dd_X11_sea_96b.2.2.2.2.2.2.1) rfl).to, ?_⟩
  refine List.forall_mem_cons.mpr ⟨(s_get (ci := 11) (k := 41) (am_dp pw_X11_sea_96 dd_X11_sea_96b.2.2.2.2.2.2.2) rfl (by decide) wd1374 inX11 rfl).to, ?_⟩
  refine List.forall_mem_cons.mpr ⟨(s_iconst (am_dp pw_X11_sea_96 dd_X11_sea_96c.1) (by decide)).to, ?_⟩
  refine List.forall_mem_cons.mpr ⟨(s_iast (am_dp pw_X11_sea_96 dd_X11_sea_96c.2.1)).to, ?_⟩
  refine List.forall_mem_cons.mpr ⟨(s_aloadn (am_dp pw_X11_sea_96 dd_X11_sea_96c.2.2.1) rfl).to, ?_⟩
  refine List.forall_mem_cons.mpr ⟨(s_get (ci := 11) (k := 33) (am_dp pw_X11_sea_96 dd_X11_sea_96c.2.2.2) rfl (by decide) wd1366 inX11 rfl).to, ?_⟩
  refine List.forall_mem_cons.mpr ⟨(s_aloadn (am_dp pw_X11_sea_128 dd_X11_sea_128a.1) rfl).to, ?_⟩
  refine List.forall_mem_cons.mpr ⟨(s_get (ci := 11) (k := 41) (am_dp pw_X11_sea_128 dd_X11_sea_128a.2.1) rfl (by decide) wd1374 inX11 rfl).to, ?_⟩
  refine List.forall_mem_cons.mpr ⟨(s_iconst (am_dp pw_X11_sea_128 dd_X11_sea_128a.2.2.1) (by decide)).to, ?_⟩
  refine List.forall_mem_cons.mpr ⟨(s_iast (am_dp pw_X11_sea_128 dd_X11_sea_128a.2.2.2.1)).to, ?_⟩
  refine List.forall_mem_cons.mpr ⟨(s_aloadn (am_dp pw_X11_sea_128 dd_X11_sea_128a.2.2.2.2.1) rfl).to, ?_⟩
  refine List.forall_mem_cons.mpr ⟨(s_get (ci := 11) (k := 37) (am_dp pw_X11_sea_128 dd_X11_sea_128a.2.2.2.2.2.1) rfl (by decide) wd1370 inX11 rfl).to, ?_⟩
  refine List.forall_mem_cons.mpr ⟨(s_aloadn (am_dp pw_X11_sea_128 dd_X11_sea_128a.2.2.2.2.2.2.1) rfl).to, ?_⟩
  refine List.forall_mem_cons.mpr ⟨(s_get (ci := 11) (k := 41) (am_dp pw_X11_sea_128 dd_X11_sea_128a.2.2.2.2.2.2.2) rfl (by decide) wd1374 inX11 rfl).to, ?_⟩
  refine List.forall_mem_cons.mpr ⟨(s_bipush (am_dp pw_X11_sea_128 dd_X11_sea_128b.1) (by decide)).to, ?_⟩
  refine List.forall_mem_cons.mpr ⟨(s_iast (am_dp pw_X11_sea_128 dd_X11_sea_128b.2.1)).to, ?_⟩
  refine List.forall_mem_cons.mpr ⟨(s_aloadn (am_dp pw_X11_sea_128 dd_X11_sea_128b.2.2.1) rfl).to, ?_⟩
  refine List.forall_mem_cons.mpr ⟨(s_iconst (am_dp pw_X11_sea_128 dd_X11_sea_128b.2.2.2.1) (by decide)).to, ?_⟩
  refine List.forall_mem_cons.mpr ⟨(s_put (ci := 11) (k := 40) (am_dp pw_X11_sea_128 dd_X11_sea_128b.2.2.2.2.1) rfl (by decide) wd1373 inX11 tyX11_ok nmX11 rfl rfl).to, ?_⟩
  refine List.forall_mem_cons.mpr ⟨(s_iconst (am_dp pw_X11_sea_128 dd_X11_sea_128b.2.2.2.2.2.1) (by decide)).to, ?_⟩
  refine List.forall_mem_cons.mpr ⟨(s_istoren (am_dp pw_X11_sea_128 dd_X11_sea_128b.2.2.2.2.2.2.1) rfl (by decide)).to, ?_⟩
  refine List.forall_mem_cons.mpr ⟨(s_aloadn (am_dp pw_X11_sea_128 dd_X11_sea_128b.2.2.2.2.2.2.2) rfl).to, ?_⟩
  refine List.forall_mem_cons.mpr ⟨zw_cv174 (am_dp pw_X11_sea_128 dd_X11_sea_128c.1) wd1603, ?_⟩
  refine List.forall_mem_cons.mpr ⟨(s_aloadn (am_dp pw_X11_sea_128 dd_X11_sea_128c.2.1) rfl).to, ?_⟩
  refine List.forall_mem_cons.mpr ⟨zw_cv197 (am_dp pw_X11_sea_128 dd_X11_sea_128c.2.2) wd1617, ?_⟩
  refine List.forall_mem_cons.mpr ⟨(s_aloadn (am_dp pw_X11_sea_160 dd_X11_sea_160a.1) rfl).to, ?_⟩
  refine List.forall_mem_cons.mpr ⟨(s_get (ci := 11) (k := 8) (am_dp pw_X11_sea_160 dd_X11_sea_160a.2.1) rfl (by decide) wd1341 inX11 rfl).to, ?_⟩
  refine List.forall_mem_cons.mpr ⟨(s_if_ne (am_dp pw_X11_sea_160 dd_X11_sea_160a.2.2.1) (by decide)).to, ?_⟩
  refine List.forall_mem_cons.mpr ⟨(s_aloadn (am_dp pw_X11_sea_160 dd_X11_sea_160a.2.2.2.1) rfl).to, ?_⟩
  refine List.forall_mem_cons.mpr ⟨(s_get (ci := 11) (k := 3) (am_dp pw_X11_sea_160 dd_X11_sea_160a.2.2.2.2.1) rfl (by decide) wd1336 inX11 rfl).to, ?_⟩
  refine List.forall_mem_cons.mpr ⟨(s_if_eq (am_dp pw_X11_sea_160 dd_X11_sea_160a.2.2.2.2.2.1) (by decide)).to, ?_⟩
  refine List.forall_mem_cons.mpr ⟨(s_aloadn (am_dp pw_X11_sea_160 dd_X11_sea_160a.2.2.2.2.2.2.1) rfl).to, ?_⟩
  refine List.forall_mem_cons.mpr ⟨zw_cv205 (am_dp pw_X11_sea_160 dd_X11_sea_160a.2.2.2.2.2.2.2) wd1641, ?_⟩
  refine List.forall_mem_cons.mpr ⟨(s_iinc (am_dp pw_X11_sea_160 dd_X11_sea_160b.1) (by decide) (by decide)).to, ?_⟩
  refine List.forall_mem_cons.mpr ⟨(s_goto (am_dp pw_X11_sea_160 dd_X11_sea_160b.2.1) (by decide)).to, ?_⟩
  refine List.forall_mem_cons.mpr ⟨(s_aloadn (am_dp pw_X11_sea_160 dd_X11_sea_160b.2.2.1) rfl).to, ?_⟩
  refine List.forall_mem_cons.mpr ⟨(s_aloadn (am_dp pw_X11_sea_160 dd_X11_sea_160b.2.2.2.1) rfl).to, ?_⟩
  refine List.forall_mem_cons.mpr ⟨(s_get (ci := 11) (k := 8) (am_dp pw_X11_sea_160 dd_X11_sea_160b.2.2.2.2.1) rfl (by decide) wd1341 inX11 rfl).to, ?_⟩
  refine List.forall_mem_cons.mpr ⟨(s_put (ci := 11) (k := 10) (am_dp pw_X11_sea_160 dd_X11_sea_160b.2.2.2.2.2) rfl (by decide) wd1343 inX11 tyX11_ok nmX11 rfl rfl).to, ?_⟩
  refine List.forall_mem_cons.mpr ⟨(s_aloadn (am_dp pw_X11_sea_192 dd_X11_sea_192a.1) rfl).to, ?_⟩
  refine List.forall_mem_cons.mpr ⟨(s_aloadn (am_dp pw_X11_sea_192 dd_X11_sea_192a.2.1) rfl).to, ?_⟩
  refine List.forall_mem_cons.mpr ⟨(s_get (ci := 11) (k := 9) (am_dp pw_X11_sea_192 dd_X11_sea_192a.2.2.1) rfl (by decide) wd1342 inX11 rfl).to, ?_⟩
  refine List.forall_mem_cons.mpr ⟨(s_put (ci := 11) (k := 11) (am_dp pw_X11_sea_192 dd_X11_sea_192a.2.2.2.1) rfl (by decide) wd1344 inX11 tyX11_ok nmX11 rfl rfl).to, ?_⟩
  refine List.forall_mem_cons.mpr ⟨(s_aloadn (am_dp pw_X11_sea_192 dd_X11_sea_192a.2.2.2.2.1) rfl).to, ?_⟩
  refine List.forall_mem_cons.mpr ⟨(s_get (ci := 11) (k := 8) (am_dp pw_X11_sea_192 dd_X11_sea_192a.2.2.2.2.2.1) rfl (by decide) wd1341 inX11 rfl).to, ?_⟩
  refine List.forall_mem_cons.mpr ⟨(s_if_le (am_dp pw_X11_sea_192 dd_X11_sea_192a.2.2.2.2.2.2.1) (by decide)).to, ?_⟩
  refine List.forall_mem_cons.mpr ⟨(s_aloadn (am_dp pw_X11_sea_192 dd_X11_sea_192a.2.2.2.2.2.2.2) rfl).to, ?_⟩
  refine List.forall_mem_cons.mpr ⟨(s_iconst (am_dp pw_X11_sea_192 dd_X11_sea_192b.1) (by decide)).to, ?_⟩
  refine List.forall_mem_cons.mpr ⟨zw_cv208 (am_dp pw_X11_sea_192 dd_X11_sea_192b.2.1) wd1587, ?_⟩
  refine List.forall_mem_cons.mpr ⟨s_iret (am_dp pw_X11_sea_192 dd_X11_sea_192b.2.2.1) rfl, ?_⟩
  exact fun _ h => absurd h List.not_mem_nil
theorem sn_tX11_sea_2 : ∀ q ∈ tX11_sea_2, am_Snd am_P0 RX11 cX11_sea 2 (Option.some FieldType.int) "sea" q.1 q.2 := by
  unfold tX11_sea_2
  refine List.forall_mem_cons.mpr ⟨(s_aloadn (am_dp pw_X11_sea_192 dd_X11_sea_192b.2.2.2.1) rfl).to, ?_⟩
  refine List.forall_mem_cons.mpr ⟨(s_aloadn (am_dp pw_X11_sea_192 dd_X11_sea_192b.2.2.2.2.1) rfl).to, ?_⟩
  refine List.forall_mem_cons.mpr ⟨(s_get (ci := 11) (k := 41) (am_dp pw_X11_sea_192 dd_X11_sea_192b.2.2.2.2.2.1) rfl (by decide) wd1374 inX11 rfl).to, ?_⟩
  refine List.forall_mem_cons.mpr ⟨(s_put (ci := 11) (k := 12) (am_dp pw_X11_sea_192 dd_X11_sea_192b.2.2.2.2.2.2.1) rfl (by decide) wd1345 inX11 tyX11_ok nmX11 rfl rfl).to, ?_⟩
  refine List.forall_mem_cons.mpr ⟨(s_aloadn (am_dp pw_X11_sea_192 dd_X11_sea_192b.2.2.2.2.2.2.2) rfl).to, ?_⟩
  refine List.forall_mem_cons.mpr ⟨zw_cv223 (am_dp pw_X11_sea_224 dd_X11_sea_224a.1) wd1767, ?_⟩
  refine List.forall_mem_cons.mpr ⟨(s_iloadn (am_dp pw_X11_sea_224 dd_X11_sea_224a.2.1) rfl).to, ?_⟩
  refine List.forall_mem_cons.mpr ⟨s_iret (am_dp pw_X11_sea_224 dd_X11_sea_224a.2.2) rfl, ?_⟩
  exact fun _ h => absurd h List.not_mem_nil
theorem sn_tX11_sea : ∀ q ∈ tX11_sea, am_Snd am_P0 RX11 cX11_sea 2 (Option.some FieldType.int) "sea" q.1 q.2 := by
  unfold tX11_sea
  exact List.forall_mem_append.mpr ⟨List.forall_mem_append.mpr ⟨sn_tX11_sea_0, sn_tX11_sea_1⟩, sn_tX11_sea_2⟩
theorem sn_tX11_fault : ∀ q ∈ tX11_fault, am_Snd am_P0 RX11 cX11_fault 2 (Option.some FieldType.int) "fault" q.1 q.2 := by
  unfold tX11_fault
  refine List.forall_mem_cons.mpr ⟨(s_iloadn (am_dp pw_X11_fault_0 dd_X11_fault_0a.1) rfl).to, ?_⟩
  refine List.forall_mem_cons.mpr ⟨(s_if_ne (am_dp pw_X11_fault_0 dd_X11_fault_0a.2.1) (by decide)).to, ?_⟩
  refine List.forall_mem_cons.mpr ⟨(s_aloadn (am_dp pw_X11_fault_0 dd_X11_fault_0a.2.2.1) rfl).to, ?_⟩
  refine List.forall_mem_cons.mpr ⟨(s_get (ci := 11) (k := 10) (am_dp pw_X11_fault_0 dd_X11_fault_0a.2.2.2.1) rfl (by decide) wd1343 inX11 rfl).to, ?_⟩
  refine List.forall_mem_cons.mpr ⟨(s_goto (am_dp pw_X11_fault_0 dd_X11_fault_0a.2.2.2.2.1) (by decide)).to, ?_⟩
  refine List.forall_mem_cons.mpr ⟨(s_iloadn (am_dp pw_X11_fault_0 dd_X11_fault_0a.2.2.2.2.2.1) rfl).to, ?_⟩
  refine List.forall_mem_cons.mpr ⟨(s_iconst (am_dp pw_X11_fault_0 dd_X11_fault_0a.2.2.2.2.2.2.1) (by decide)).to, ?_⟩
  refine List.forall_mem_cons.mpr ⟨(s_icmp_ne (am_dp pw_X11_fault_0 dd_X11_fault_0a.2.2.2.2.2.2.2) (by decide)).to, ?_⟩
  refine List.forall_mem_cons.mpr ⟨(s_aloadn (am_dp pw_X11_fault_0 dd_X11_fault_0b.1) rfl).to, ?_⟩
  refine List.forall_mem_cons.mpr ⟨(s_get (ci := 11) (k := 11) (am_dp pw_X11_fault_0 dd_X11_fault_0b.2.1) rfl (by decide) wd1344 inX11 rfl).to, ?_⟩
  refine List.forall_mem_cons.mpr ⟨(s_goto (am_dp pw_X11_fault_0 dd_X11_fault_0b.2.2.1) (by decide)).to, ?_⟩
  refine List.forall_mem_cons.mpr ⟨(s_iconst (am_dp pw_X11_fault_0 dd_X11_fault_0b.2.2.2.1) (by decide)).to, ?_⟩
  refine List.forall_mem_cons.mpr ⟨s_iret (am_dp pw_X11_fault_0 dd_X11_fault_0b.2.2.2.2) rfl, ?_⟩
  exact fun _ h => absurd h List.not_mem_nil
theorem sn_tX11_refuses : ∀ q ∈ tX11_refuses, am_Snd am_P0 RX11 cX11_refuses 2 (Option.some FieldType.int) "refuses" q.1 q.2 := by
  unfold tX11_refuses
  refine List.forall_mem_cons.mpr ⟨(s_aloadn (am_dp pw_X11_refuses_0 dd_X11_refuses_0a.1) rfl).to, ?_⟩
  refine List.forall_mem_cons.mpr ⟨(s_get (ci := 11) (k := 52) (am_dp pw_X11_refuses_0 dd_X11_refuses_0a.2.1) rfl (by decide) wd1385 inX11 rfl).to, ?_⟩
  refine List.forall_mem_cons.mpr ⟨(s_iloadn (am_dp pw_X11_refuses_0 dd_X11_refuses_0a.2.2.1) rfl).to, ?_⟩
  refine List.forall_mem_cons.mpr ⟨(s_dup2 (am_dp pw_X11_refuses_0 dd_X11_refuses_0a.2.2.2.1)).to, ?_⟩
  refine List.forall_mem_cons.mpr ⟨(s_iald (am_dp pw_X11_refuses_0 dd_X11_refuses_0a.2.2.2.2.1)).to, ?_⟩
  refine List.forall_mem_cons.mpr ⟨(s_iconst (am_dp pw_X11_refuses_0 dd_X11_refuses_0a.2.2.2.2.2.1) (by decide)).to, ?_⟩
  refine List.forall_mem_cons.mpr ⟨(s_iadd (am_dp pw_X11_refuses_0 dd_X11_refuses_0a.2.2.2.2.2.2.1)).to, ?_⟩
  refine List.forall_mem_cons.mpr ⟨(s_iast (am_dp pw_X11_refuses_0 dd_X11_refuses_0a.2.2.2.2.2.2.2)).to, ?_⟩
  refine List.forall_mem_cons.mpr ⟨(s_iconst (am_dp pw_X11_refuses_0 dd_X11_refuses_0b.1) (by decide)).to, ?_⟩
  refine List.forall_mem_cons.mpr ⟨s_iret (am_dp pw_X11_refuses_0 dd_X11_refuses_0b.2) rfl, ?_⟩
  exact fun _ h => absurd h List.not_mem_nil
theorem sn_tX11_status : ∀ q ∈ tX11_status, am_Snd am_P0 RX11 cX11_status 2 (Option.some FieldType.int) "status" q.1 q.2 := by
  unfold tX11_status
  refine List.forall_mem_cons.mpr ⟨(s_iloadn (am_dp pw_X11_status_0 dd_X11_status_0a.1) rfl).to, ?_⟩
  refine List.forall_mem_cons.mpr ⟨(s_iconst (am_dp pw_X11_status_0 dd_X11_status_0a.2.1) (by decide)).to, ?_⟩
  refine List.forall_mem_cons.mpr ⟨(s_iconst (am_dp pw_X11_status_0 dd_X11_status_0a.2.2.1) (by decide)).to, ?_⟩
  refine List.forall_mem_cons.mpr ⟨zw_cs167 (am_dp pw_X11_status_0 dd_X11_status_0a.2.2.2.1) wd1630, ?_⟩
  refine List.forall_mem_cons.mpr ⟨(s_if_eq (am_dp pw_X11_status_0 dd_X11_status_0a.2.2.2.2.1) (by decide)).to, ?_⟩
  refine List.forall_mem_cons.mpr ⟨(s_aloadn (am_dp pw_X11_status_0 dd_X11_status_0a.2.2.2.2.2.1) rfl).to, ?_⟩
  refine List.forall_mem_cons.mpr ⟨(s_get (ci := 11) (k := 52) (am_dp pw_X11_status_0 dd_X11_status_0a.2.2.2.2.2.2.1) rfl (by decide) wd1385 inX11 rfl).to, ?_⟩
  refine List.forall_mem_cons.mpr ⟨(s_iloadn (am_dp pw_X11_status_0 dd_X11_status_0a.2.2.2.2.2.2.2) rfl).to, ?_⟩
  refine List.forall_mem_cons.mpr ⟨(s_iald (am_dp pw_X11_status_0 dd_X11_status_0b.1)).to, ?_⟩
  refine List.forall_mem_cons.mpr ⟨(s_goto (am_dp pw_X11_status_0 dd_X11_status_0b.2.1) (by decide)).to, ?_⟩
  refine List.forall_mem_cons.mpr ⟨(s_iconst (am_dp pw_X11_status_0 dd_X11_status_0b.2.2.1) (by decide)).to, ?_⟩
  refine List.forall_mem_cons.mpr ⟨s_iret (am_dp pw_X11_status_0 dd_X11_status_0b.2.2.2) rfl, ?_⟩
  exact fun _ h => absurd h List.not_mem_nil
theorem sn_tX11_bounded : ∀ q ∈ tX11_bounded, am_Snd am_P0 RX11 cX11_bounded 2 (Option.some FieldType.long) "bounded" q.1 q.2 := by
  unfold tX11_bounded
  refine List.forall_mem_cons.mpr ⟨(s_lloadn (am_dp pw_X11_bounded_0 dd_X11_bounded_0a.1) rfl).to, ?_⟩
  refine List.forall_mem_cons.mpr ⟨(s_ldc2 (am_dp pw_X11_bounded_0 dd_X11_bounded_0a.2.1) wd1801).to, ?_⟩
  refine List.forall_mem_cons.mpr ⟨(s_lcmp (am_dp pw_X11_bounded_0 dd_X11_bounded_0a.2.2.1)).to, ?_⟩
  refine List.forall_mem_cons.mpr ⟨(s_if_le (am_dp pw_X11_bounded_0 dd_X11_bounded_0a.2.2.2.1) (by decide)).to, ?_⟩
  refine List.forall_mem_cons.mpr ⟨(s_ldc2 (am_dp pw_X11_bounded_0 dd_X11_bounded_0a.2.2.2.2.1) wd1801).to, ?_⟩
  refine List.forall_mem_cons.mpr ⟨(s_goto (am_dp pw_X11_bounded_0 dd_X11_bounded_0a.2.2.2.2.2.1) (by decide)).to, ?_⟩
  refine List.forall_mem_cons.mpr ⟨(s_lloadn (am_dp pw_X11_bounded_0 dd_X11_bounded_0a.2.2.2.2.2.2.1) rfl).to, ?_⟩
  refine List.forall_mem_cons.mpr ⟨(s_ldc2 (am_dp pw_X11_bounded_0 dd_X11_bounded_0a.2.2.2.2.2.2.2) wd1802).to, ?_⟩
  refine List.forall_mem_cons.mpr ⟨(s_lcmp (am_dp pw_X11_bounded_0 dd_X11_bounded_0b.1)).to, ?_⟩
  refine List.forall_mem_cons.mpr ⟨(s_if_ge (am_dp pw_X11_bounded_0 dd_X11_bounded_0b.2.1) (by decide)).to, ?_⟩
  refine List.forall_mem_cons.mpr ⟨(s_ldc2 (am_dp pw_X11_bounded_0 dd_X11_bounded_0b.2.2.1) wd1802).to, ?_⟩
  refine List.forall_mem_cons.mpr ⟨(s_goto (am_dp pw_X11_bounded_0 dd_X11_bounded_0b.2.2.2.1) (by decide)).to, ?_⟩
  refine List.forall_mem_cons.mpr ⟨(s_lloadn (am_dp pw_X11_bounded_0 dd_X11_bounded_0b.2.2.2.2.1) rfl).to, ?_⟩
  refine List.forall_mem_cons.mpr ⟨s_lret (am_dp pw_X11_bounded_0 dd_X11_bounded_0b.2.2.2.2.2) rfl, ?_⟩
  exact fun _ h => absurd h List.not_mem_nil
theorem sn_tX11_over : ∀ q ∈ tX11_over, am_Snd am_P0 RX11 cX11_over 6 (Option.some FieldType.long) "over" q.1 q.2 := by
  unfold tX11_over
  refine List.forall_mem_cons.mpr ⟨(s_lloadn (am_dp pw_X11_over_0 dd_X11_over_0a.1) rfl).to, ?_⟩
  refine List.forall_mem_cons.mpr ⟨(s_lconst (am_dp pw_X11_over_0 dd_X11_over_0a.2.1) (by decide)).to, ?_⟩
  refine List.forall_mem_cons.mpr ⟨(s_lcmp (am_dp pw_X11_over_0 dd_X11_over_0a.2.2.1)).to, ?_⟩
  refine List.forall_mem_cons.mpr ⟨(s_if_ne (am_dp pw_X11_over_0 dd_X11_over_0a.2.2.2.1) (by decide)).to, ?_⟩
  refine List.forall_mem_cons.mpr ⟨(s_lconst (am_dp pw_X11_over_0 dd_X11_over_0a.2.2.2.2.1) (by decide)).to, ?_⟩
  refine List.forall_mem_cons.mpr ⟨s_lret (am_dp pw_X11_over_0 dd_X11_over_0a.2.2.2.2.2.1) rfl, ?_⟩
  refine List.forall_mem_cons.mpr ⟨(s_lloadn (am_dp pw_X11_over_0 dd_X11_over_0a.2.2.2.2.2.2.1) rfl).to, ?_⟩
  refine List.forall_mem_cons.mpr ⟨(s_lloadn (am_dp pw_X11_over_0 dd_X11_over_0a.2.2.2.2.2.2.2) rfl).to, ?_⟩
  refine List.forall_mem_cons.mpr ⟨(s_ldiv (am_dp pw_X11_over_0 dd_X11_over_0b.1)).to, ?_⟩
  refine List.forall_mem_cons.mpr ⟨(s_lstore (am_dp pw_X11_over_0 dd_X11_over_0b.2.1) (by decide)).to, ?_⟩
  refine List.forall_mem_cons.mpr ⟨(s_lloadn (am_dp pw_X11_over_0 dd_X11_over_0b.2.2.1) rfl).to, ?_⟩
  refine List.forall_mem_cons.mpr ⟨(s_lloadn (am_dp pw_X11_over_0 dd_X11_over_0b.2.2.2.1) rfl).to, ?_⟩
  refine List.forall_mem_cons.mpr ⟨(s_lrem (am_dp pw_X11_over_0 dd_X11_over_0b.2.2.2.2.1)).to, ?_⟩
  refine List.forall_mem_cons.mpr ⟨(s_lconst (am_dp pw_X11_over_0 dd_X11_over_0b.2.2.2.2.2.1) (by decide)).to, ?_⟩
  refine List.forall_mem_cons.mpr ⟨(s_lcmp (am_dp pw_X11_over_0 dd_X11_over_0b.2.2.2.2.2.2.1)).to, ?_⟩
  refine List.forall_mem_cons.mpr ⟨(s_if_eq (am_dp pw_X11_over_0 dd_X11_over_0b.2.2.2.2.2.2.2) (by decide)).to, ?_⟩
  refine List.forall_mem_cons.mpr ⟨(s_lloadn (am_dp pw_X11_over_0 dd_X11_over_0c.1) rfl).to, ?_⟩
  refine List.forall_mem_cons.mpr ⟨(s_lconst (am_dp pw_X11_over_0 dd_X11_over_0c.2.1) (by decide)).to, ?_⟩
  refine List.forall_mem_cons.mpr ⟨(s_lcmp (am_dp pw_X11_over_0 dd_X11_over_0c.2.2.1)).to, ?_⟩
  refine List.forall_mem_cons.mpr ⟨(s_if_ge (am_dp pw_X11_over_0 dd_X11_over_0c.2.2.2.1) (by decide)).to, ?_⟩
  refine List.forall_mem_cons.mpr ⟨(s_iconst (am_dp pw_X11_over_0 dd_X11_over_0c.2.2.2.2.1) (by decide)).to, ?_⟩
  refine List.forall_mem_cons.mpr ⟨(s_goto (am_dp pw_X11_over_0 dd_X11_over_0c.2.2.2.2.2.1) (by decide)).to, ?_⟩
  refine List.forall_mem_cons.mpr ⟨(s_iconst (am_dp pw_X11_over_0 dd_X11_over_0c.2.2.2.2.2.2) (by decide)).to, ?_⟩
  refine List.forall_mem_cons.mpr ⟨(s_lloadn (am_dp pw_X11_over_32 dd_X11_over_32a.1) rfl).to, ?_⟩
  refine List.forall_mem_cons.mpr ⟨(s_lconst (am_dp pw_X11_over_32 dd_X11_over_32a.2.1) (by decide)).to, ?_⟩
  refine List.forall_mem_cons.mpr ⟨(s_lcmp (am_dp pw_X11_over_32 dd_X11_over_32a.2.2.1)).to, ?_⟩
  refine List.forall_mem_cons.mpr ⟨(s_if_ge (am_dp pw_X11_over_32 dd_X11_over_32a.2.2.2.1) (by decide)).to, ?_⟩
  refine List.forall_mem_cons.mpr ⟨(s_iconst (am_dp pw_X11_over_32 dd_X11_over_32a.2.2.2.2.1) (by decide)).to, ?_⟩
  refine List.forall_mem_cons.mpr ⟨(s_goto (am_dp pw_X11_over_32 dd_X11_over_32a.2.2.2.2.2.1) (by decide)).to, ?_⟩
  refine List.forall_mem_cons.mpr ⟨(s_iconst (am_dp pw_X11_over_32 dd_X11_over_32a.2.2.2.2.2.2.1) (by decide)).to, ?_⟩
  refine List.forall_mem_cons.mpr ⟨(s_icmp_eq (am_dp pw_X11_over_32 dd_X11_over_32a.2.2.2.2.2.2.2) (by decide)).to, ?_⟩
  refine List.forall_mem_cons.mpr ⟨(s_lload (am_dp pw_X11_over_32 dd_X11_over_32b.1)).to, ?_⟩
  refine List.forall_mem_cons.mpr ⟨(s_lconst (am_dp pw_X11_over_32 dd_X11_over_32b.2.1) (by decide)).to, ?_⟩
  refine List.forall_mem_cons.mpr ⟨(s_lsub (am_dp pw_X11_over_32 dd_X11_over_32b.2.2.1)).to, ?_⟩
  refine List.forall_mem_cons.mpr ⟨(s_goto (am_dp pw_X11_over_32 dd_X11_over_32b.2.2.2.1) (by decide)).to, ?_⟩
  refine List.forall_mem_cons.mpr ⟨(s_lload (am_dp pw_X11_over_32 dd_X11_over_32b.2.2.2.2.1)).to, ?_⟩
  refine List.forall_mem_cons.mpr ⟨s_lret (am_dp pw_X11_over_32 dd_X11_over_32b.2.2.2.2.2) rfl, ?_⟩
  exact fun _ h => absurd h List.not_mem_nil
theorem sn_tX11_made_0 : ∀ q ∈ tX11_made_0, am_Snd am_P0 RX11 cX11_made 5 (Option.some FieldType.long) "made" q.1 q.2 := by
  unfold tX11_made_0
  refine List.forall_mem_cons.mpr ⟨(s_iloadn (am_dp pw_X11_made_0 dd_X11_made_0a) rfl).to, ?_⟩
  refine List.forall_mem_cons.mpr ⟨(s_table (by decide +kernel : decode cX11_made 1 = .ok (.tableswitch 170 10 20 #[59, 66, 73, 80, 86, 106, 118, 130, 142, 154, 166], 59)) (by decide) (by decide) (by decide) (by decide)).to, ?_⟩
  refine List.forall_mem_cons.mpr ⟨(s_lloadn (am_dp pw_X11_made_32 dd_X11_made_32a.1) rfl).to, ?_⟩
  refine List.forall_mem_cons.mpr ⟨(s_lloadn (am_dp pw_X11_made_32 dd_X11_made_32a.2.1) rfl).to, ?_⟩
  refine List.forall_mem_cons.mpr ⟨(s_ladd (am_dp pw_X11_made_32 dd_X11_made_32a.2.2.1)).to, ?_⟩
  refine List.forall_mem_cons.mpr ⟨zw_cs210 (am_dp pw_X11_made_32 dd_X11_made_32a.2.2.2) wd1798, ?_⟩
  refine List.forall_mem_cons.mpr ⟨s_lret (am_dp pw_X11_made_64 dd_X11_made_64a.1) rfl, ?_⟩
  refine List.forall_mem_cons.mpr ⟨(s_lloadn (am_dp pw_X11_made_64 dd_X11_made_64a.2.1) rfl).to, ?_⟩
  refine List.forall_mem_cons.mpr ⟨(s_lloadn (am_dp pw_X11_made_64 dd_X11_made_64a.2.2.1) rfl).to, ?_⟩
  refine List.forall_mem_cons.mpr ⟨(s_lsub (am_dp pw_X11_made_64 dd_X11_made_64a.2.2.2.1)).to, ?_⟩
  refine List.forall_mem_cons.mpr ⟨zw_cs210 (am_dp pw_X11_made_64 dd_X11_made_64a.2.2.2.2.1) wd1798, ?_⟩
  refine List.forall_mem_cons.mpr ⟨s_lret (am_dp pw_X11_made_64 dd_X11_made_64a.2.2.2.2.2.1) rfl, ?_⟩
  refine List.forall_mem_cons.mpr ⟨(s_lloadn (am_dp pw_X11_made_64 dd_X11_made_64a.2.2.2.2.2.2.1) rfl).to, ?_⟩
  refine List.forall_mem_cons.mpr ⟨(s_lloadn (am_dp pw_X11_made_64 dd_X11_made_64a.2.2.2.2.2.2.2) rfl).to, ?_⟩
  refine List.forall_mem_cons.mpr ⟨(s_lmul (am_dp pw_X11_made_64 dd_X11_made_64b.1)).to, ?_⟩
  refine List.forall_mem_cons.mpr ⟨zw_cs210 (am_dp pw_X11_made_64 dd_X11_made_64b.2.1) wd1798, ?_⟩
  refine List.forall_mem_cons.mpr ⟨s_lret (am_dp pw_X11_made_64 dd_X11_made_64b.2.2.1) rfl, ?_⟩
  refine List.forall_mem_cons.mpr ⟨(s_lloadn (am_dp pw_X11_made_64 dd_X11_made_64b.2.2.2.1) rfl).to, ?_⟩
  refine List.forall_mem_cons.mpr ⟨(s_lloadn (am_dp pw_X11_made_64 dd_X11_made_64b.2.2.2.2.1) rfl).to, ?_⟩
  refine List.forall_mem_cons.mpr ⟨zw_cs211 (am_dp pw_X11_made_64 dd_X11_made_64b.2.2.2.2.2.1) wd1803, ?_⟩
  refine List.forall_mem_cons.mpr ⟨s_lret (am_dp pw_X11_made_64 dd_X11_made_64b.2.2.2.2.2.2.1) rfl, ?_⟩
  refine List.forall_mem_cons.mpr ⟨(s_lloadn (am_dp pw_X11_made_64 dd_X11_made_64b.2.2.2.2.2.2.2) rfl).to, ?_⟩
  refine List.forall_mem_cons.mpr ⟨(s_lconst (am_dp pw_X11_made_64 dd_X11_made_64c.1) (by decide)).to, ?_⟩
  refine List.forall_mem_cons.mpr ⟨(s_lcmp (am_dp pw_X11_made_64 dd_X11_made_64c.2.1)).to, ?_⟩
  refine List.forall_mem_cons.mpr ⟨(s_if_ne (am_dp pw_X11_made_64 dd_X11_made_64c.2.2.1) (by decide)).to, ?_⟩
  refine List.forall_mem_cons.mpr ⟨(s_lconst (am_dp pw_X11_made_64 dd_X11_made_64c.2.2.2.1) (by decide)).to, ?_⟩
  refine List.forall_mem_cons.mpr ⟨(s_goto (am_dp pw_X11_made_64 dd_X11_made_64c.2.2.2.2) (by decide)).to, ?_⟩
  refine List.forall_mem_cons.mpr ⟨(s_lloadn (am_dp pw_X11_made_96 dd_X11_made_96a.1) rfl).to, ?_⟩
  refine List.forall_mem_cons.mpr ⟨(s_lloadn (am_dp pw_X11_made_96 dd_X11_made_96a.2.1) rfl).to, ?_⟩
  refine List.forall_mem_cons.mpr ⟨(s_lloadn (am_dp pw_X11_made_96 dd_X11_made_96a.2.2.1) rfl).to, ?_⟩
  refine List.forall_mem_cons.mpr ⟨(s_lloadn (am_dp pw_X11_made_96 dd_X11_made_96a.2.2.2.1) rfl).to, ?_⟩
  refine List.forall_mem_cons.mpr ⟨zw_cs211 (am_dp pw_X11_made_96 dd_X11_made_96a.2.2.2.2.1) wd1803, ?_⟩
  refine List.forall_mem_cons.mpr ⟨(s_lmul (am_dp pw_X11_made_96 dd_X11_made_96a.2.2.2.2.2.1)).to, ?_⟩
  refine List.forall_mem_cons.mpr ⟨(s_lsub (am_dp pw_X11_made_96 dd_X11_made_96a.2.2.2.2.2.2.1)).to, ?_⟩
  refine List.forall_mem_cons.mpr ⟨s_lret (am_dp pw_X11_made_96 dd_X11_made_96a.2.2.2.2.2.2.2) rfl, ?_⟩
  refine List.forall_mem_cons.mpr ⟨(s_lloadn (am_dp pw_X11_made_96 dd_X11_made_96b.1) rfl).to, ?_⟩
  refine List.forall_mem_cons.mpr ⟨(s_lloadn (am_dp pw_X11_made_96 dd_X11_made_96b.2.1) rfl).to, ?_⟩
  refine List.forall_mem_cons.mpr ⟨(s_lcmp (am_dp pw_X11_made_96 dd_X11_made_96b.2.2.1)).to, ?_⟩
  refine List.forall_mem_cons.mpr ⟨(s_if_ge (am_dp pw_X11_made_96 dd_X11_made_96b.2.2.2.1) (by decide)).to, ?_⟩
  refine List.forall_mem_cons.mpr ⟨(s_lloadn (am_dp pw_X11_made_96 dd_X11_made_96b.2.2.2.2.1) rfl).to, ?_⟩
  refine List.forall_mem_cons.mpr ⟨(s_goto (am_dp pw_X11_made_96 dd_X11_made_96b.2.2.2.2.2.1) (by decide)).to, ?_⟩
  refine List.forall_mem_cons.mpr ⟨(s_lloadn (am_dp pw_X11_made_96 dd_X11_made_96b.2.2.2.2.2.2.1) rfl).to, ?_⟩
  refine List.forall_mem_cons.mpr ⟨s_lret (am_dp pw_X11_made_96 dd_X11_made_96b.2.2.2.2.2.2.2) rfl, ?_⟩
  refine List.forall_mem_cons.mpr ⟨(s_lloadn (am_dp pw_X11_made_96 dd_X11_made_96c.1) rfl).to, ?_⟩
  refine List.forall_mem_cons.mpr ⟨(s_lloadn (am_dp pw_X11_made_96 dd_X11_made_96c.2.1) rfl).to, ?_⟩
  refine List.forall_mem_cons.mpr ⟨(s_lcmp (am_dp pw_X11_made_96 dd_X11_made_96c.2.2.1)).to, ?_⟩
  refine List.forall_mem_cons.mpr ⟨(s_if_le (am_dp pw_X11_made_96 dd_X11_made_96c.2.2.2.1) (by decide)).to, ?_⟩
  refine List.forall_mem_cons.mpr ⟨(s_lloadn (am_dp pw_X11_made_96 dd_X11_made_96c.2.2.2.2.1) rfl).to, ?_⟩
  refine List.forall_mem_cons.mpr ⟨(s_goto (am_dp pw_X11_made_96 dd_X11_made_96c.2.2.2.2.2) (by decide)).to, ?_⟩
  refine List.forall_mem_cons.mpr ⟨(s_lloadn (am_dp pw_X11_made_128 dd_X11_made_128a.1) rfl).to, ?_⟩
  refine List.forall_mem_cons.mpr ⟨s_lret (am_dp pw_X11_made_128 dd_X11_made_128a.2.1) rfl, ?_⟩
  refine List.forall_mem_cons.mpr ⟨(s_lloadn (am_dp pw_X11_made_128 dd_X11_made_128a.2.2.1) rfl).to, ?_⟩
  refine List.forall_mem_cons.mpr ⟨(s_lloadn (am_dp pw_X11_made_128 dd_X11_made_128a.2.2.2.1) rfl).to, ?_⟩
  refine List.forall_mem_cons.mpr ⟨(s_lcmp (am_dp pw_X11_made_128 dd_X11_made_128a.2.2.2.2.1)).to, ?_⟩
  refine List.forall_mem_cons.mpr ⟨(s_if_ge (am_dp pw_X11_made_128 dd_X11_made_128a.2.2.2.2.2.1) (by decide)).to, ?_⟩
  refine List.forall_mem_cons.mpr ⟨(s_lconst (am_dp pw_X11_made_128 dd_X11_made_128a.2.2.2.2.2.2.1) (by decide)).to, ?_⟩
  refine List.forall_mem_cons.mpr ⟨(s_goto (am_dp pw_X11_made_128 dd_X11_made_128a.2.2.2.2.2.2.2) (by decide)).to, ?_⟩
  refine List.forall_mem_cons.mpr ⟨(s_lconst (am_dp pw_X11_made_128 dd_X11_made_128b.1) (by decide)).to, ?_⟩
  refine List.forall_mem_cons.mpr ⟨s_lret (am_dp pw_X11_made_128 dd_X11_made_128b.2.1) rfl, ?_⟩
  refine List.forall_mem_cons.mpr ⟨(s_lloadn (am_dp pw_X11_made_128 dd_X11_made_128b.2.2.1) rfl).to, ?_⟩
  exact fun _ h => absurd h List.not_mem_nil
theorem sn_tX11_made_1 : ∀ q ∈ tX11_made_1, am_Snd am_P0 RX11 cX11_made 5 (Option.some FieldType.long) "made" q.1 q.2 := by
  unfold tX11_made_1
  refine List.forall_mem_cons.mpr ⟨(s_lloadn (am_dp pw_X11_made_128 dd_X11_made_128b.2.2.2.1) rfl).to, ?_⟩
  refine List.forall_mem_cons.mpr ⟨(s_lcmp (am_dp pw_X11_made_128 dd_X11_made_128b.2.2.2.2.1)).to, ?_⟩
  refine List.forall_mem_cons.mpr ⟨(s_if_le (am_dp pw_X11_made_128 dd_X11_made_128b.2.2.2.2.2.1) (by decide)).to, ?_⟩
  refine List.forall_mem_cons.mpr ⟨(s_lconst (am_dp pw_X11_made_128 dd_X11_made_128b.2.2.2.2.2.2.1) (by decide)).to, ?_⟩
  refine List.forall_mem_cons.mpr ⟨(s_goto (am_dp pw_X11_made_128 dd_X11_made_128b.2.2.2.2.2.2.2) (by decide)).to, ?_⟩
  refine List.forall_mem_cons.mpr ⟨(s_lconst (am_dp pw_X11_made_128 dd_X11_made_128c.1) (by decide)).to, ?_⟩
  refine List.forall_mem_cons.mpr ⟨s_lret (am_dp pw_X11_made_128 dd_X11_made_128c.2.1) rfl, ?_⟩
  refine List.forall_mem_cons.mpr ⟨(s_lloadn (am_dp pw_X11_made_128 dd_X11_made_128c.2.2.1) rfl).to, ?_⟩
  refine List.forall_mem_cons.mpr ⟨(s_lloadn (am_dp pw_X11_made_128 dd_X11_made_128c.2.2.2.1) rfl).to, ?_⟩
  refine List.forall_mem_cons.mpr ⟨(s_lcmp (am_dp pw_X11_made_128 dd_X11_made_128c.2.2.2.2.1)).to, ?_⟩
  refine List.forall_mem_cons.mpr ⟨(s_if_ne (am_dp pw_X11_made_128 dd_X11_made_128c.2.2.2.2.2) (by decide)).to, ?_⟩
  refine List.forall_mem_cons.mpr ⟨(s_lconst (am_dp pw_X11_made_160 dd_X11_made_160a.1) (by decide)).to, ?_⟩
  refine List.forall_mem_cons.mpr ⟨(s_goto (am_dp pw_X11_made_160 dd_X11_made_160a.2.1) (by decide)).to, ?_⟩
  refine List.forall_mem_cons.mpr ⟨(s_lconst (am_dp pw_X11_made_160 dd_X11_made_160a.2.2.1) (by decide)).to, ?_⟩
  refine List.forall_mem_cons.mpr ⟨s_lret (am_dp pw_X11_made_160 dd_X11_made_160a.2.2.2.1) rfl, ?_⟩
  refine List.forall_mem_cons.mpr ⟨(s_lloadn (am_dp pw_X11_made_160 dd_X11_made_160a.2.2.2.2.1) rfl).to, ?_⟩
  refine List.forall_mem_cons.mpr ⟨(s_lloadn (am_dp pw_X11_made_160 dd_X11_made_160a.2.2.2.2.2.1) rfl).to, ?_⟩
  refine List.forall_mem_cons.mpr ⟨(s_lmul (am_dp pw_X11_made_160 dd_X11_made_160a.2.2.2.2.2.2.1)).to, ?_⟩
  refine List.forall_mem_cons.mpr ⟨s_lret (am_dp pw_X11_made_160 dd_X11_made_160a.2.2.2.2.2.2.2) rfl, ?_⟩
  refine List.forall_mem_cons.mpr ⟨(s_lloadn (am_dp pw_X11_made_160 dd_X11_made_160b.1) rfl).to, ?_⟩
  refine List.forall_mem_cons.mpr ⟨(s_lloadn (am_dp pw_X11_made_160 dd_X11_made_160b.2.1) rfl).to, ?_⟩
  refine List.forall_mem_cons.mpr ⟨(s_ladd (am_dp pw_X11_made_160 dd_X11_made_160b.2.2.1)).to, ?_⟩
  refine List.forall_mem_cons.mpr ⟨(s_lconst (am_dp pw_X11_made_160 dd_X11_made_160b.2.2.2.1) (by decide)).to, ?_⟩
  refine List.forall_mem_cons.mpr ⟨(s_lcmp (am_dp pw_X11_made_160 dd_X11_made_160b.2.2.2.2.1)).to, ?_⟩
  refine List.forall_mem_cons.mpr ⟨(s_if_le (am_dp pw_X11_made_160 dd_X11_made_160b.2.2.2.2.2.1) (by decide)).to, ?_⟩
  refine List.forall_mem_cons.mpr ⟨(s_lconst (am_dp pw_X11_made_160 dd_X11_made_160b.2.2.2.2.2.2.1) (by decide)).to, ?_⟩
  refine List.forall_mem_cons.mpr ⟨(s_goto (am_dp pw_X11_made_160 dd_X11_made_160b.2.2.2.2.2.2.2) (by decide)).to, ?_⟩
  refine List.forall_mem_cons.mpr ⟨(s_lconst (am_dp pw_X11_made_160 dd_X11_made_160c.1) (by decide)).to, ?_⟩
  refine List.forall_mem_cons.mpr ⟨s_lret (am_dp pw_X11_made_160 dd_X11_made_160c.2) rfl, ?_⟩
  exact fun _ h => absurd h List.not_mem_nil
theorem sn_tX11_made : ∀ q ∈ tX11_made, am_Snd am_P0 RX11 cX11_made 5 (Option.some FieldType.long) "made" q.1 q.2 := by
  unfold tX11_made
  exact List.forall_mem_append.mpr ⟨sn_tX11_made_0, sn_tX11_made_1⟩
theorem sn_tX11_works_0 : ∀ q ∈ tX11_works_0, am_Snd am_P0 RX11 cX11_works 6 (Option.some FieldType.long) "works" q.1 q.2 := by
  unfold tX11_works_0
  refine List.forall_mem_cons.mpr ⟨(s_iconst (am_dp pw_X11_works_0 dd_X11_works_0a.1) (by decide)).to, ?_⟩
  refine List.forall_mem_cons.mpr ⟨(s_istoren (am_dp pw_X11_works_0 dd_X11_works_0a.2.1) rfl (by decide)).to, ?_⟩
  refine List.forall_mem_cons.mpr ⟨(s_sipush (am_dp pw_X11_works_0 dd_X11_works_0a.2.2.1) (by decide)).to, ?_⟩
  refine List.forall_mem_cons.mpr ⟨(s_aloadn (am_dp pw_X11_works_0 dd_X11_works_0a.2.2.2.1) rfl).to, ?_⟩
  refine List.forall_mem_cons.mpr ⟨(s_get (ci := 11) (k := 12) (am_dp pw_X11_works_0 dd_X11_works_0a.2.2.2.2.1) rfl (by decide) wd1345 inX11 rfl).to, ?_⟩
  refine List.forall_mem_cons.mpr ⟨(s_imul (am_dp pw_X11_works_0 dd_X11_works_0a.2.2.2.2.2.1)).to, ?_⟩
  refine List.forall_mem_cons.mpr ⟨(s_iloadn (am_dp pw_X11_works_0 dd_X11_works_0a.2.2.2.2.2.2.1) rfl).to, ?_⟩
  refine List.forall_mem_cons.mpr ⟨(s_iadd (am_dp pw_X11_works_0 dd_X11_works_0a.2.2.2.2.2.2.2)).to, ?_⟩
  refine List.forall_mem_cons.mpr ⟨(s_istore (am_dp pw_X11_works_0 dd_X11_works_0b.1) (by decide)).to, ?_⟩
  refine List.forall_mem_cons.mpr ⟨(s_iload (am_dp pw_X11_works_0 dd_X11_works_0b.2.1)).to, ?_⟩
  refine List.forall_mem_cons.mpr ⟨(s_sipush (am_dp pw_X11_works_0 dd_X11_works_0b.2.2.1) (by decide)).to, ?_⟩
  refine List.forall_mem_cons.mpr ⟨(s_aloadn (am_dp pw_X11_works_0 dd_X11_works_0b.2.2.2.1) rfl).to, ?_⟩
  refine List.forall_mem_cons.mpr ⟨(s_get (ci := 11) (k := 12) (am_dp pw_X11_works_0 dd_X11_works_0b.2.2.2.2.1) rfl (by decide) wd1345 inX11 rfl).to, ?_⟩
  refine List.forall_mem_cons.mpr ⟨(s_imul (am_dp pw_X11_works_0 dd_X11_works_0b.2.2.2.2.2.1)).to, ?_⟩
  refine List.forall_mem_cons.mpr ⟨(s_iloadn (am_dp pw_X11_works_0 dd_X11_works_0b.2.2.2.2.2.2.1) rfl).to, ?_⟩
  refine List.forall_mem_cons.mpr ⟨(s_iadd (am_dp pw_X11_works_0 dd_X11_works_0b.2.2.2.2.2.2.2)).to, ?_⟩
  refine List.forall_mem_cons.mpr ⟨(s_icmp_ge (am_dp pw_X11_works_0 dd_X11_works_0c.1) (by decide)).to, ?_⟩
  refine List.forall_mem_cons.mpr ⟨(s_aloadn (am_dp pw_X11_works_0 dd_X11_works_0c.2.1) rfl).to, ?_⟩
  refine List.forall_mem_cons.mpr ⟨(s_get (ci := 11) (k := 38) (am_dp pw_X11_works_0 dd_X11_works_0c.2.2) rfl (by decide) wd1371 inX11 rfl).to, ?_⟩
  refine List.forall_mem_cons.mpr ⟨(s_iload (am_dp pw_X11_works_32 dd_X11_works_32a.1)).to, ?_⟩
  refine List.forall_mem_cons.mpr ⟨(s_iald (am_dp pw_X11_works_32 dd_X11_works_32a.2.1)).to, ?_⟩
  refine List.forall_mem_cons.mpr ⟨(s_istore (am_dp pw_X11_works_32 dd_X11_works_32a.2.2.1) (by decide)).to, ?_⟩
  refine List.forall_mem_cons.mpr ⟨(s_iload (am_dp pw_X11_works_32 dd_X11_works_32a.2.2.2.1)).to, ?_⟩
  refine List.forall_mem_cons.mpr ⟨(s_bipush (am_dp pw_X11_works_32 dd_X11_works_32a.2.2.2.2.1) (by decide)).to, ?_⟩
  refine List.forall_mem_cons.mpr ⟨(s_icmp_gt (am_dp pw_X11_works_32 dd_X11_works_32a.2.2.2.2.2.1) (by decide)).to, ?_⟩
  refine List.forall_mem_cons.mpr ⟨(s_aloadn (am_dp pw_X11_works_32 dd_X11_works_32a.2.2.2.2.2.2.1) rfl).to, ?_⟩
  refine List.forall_mem_cons.mpr ⟨(s_get (ci := 11) (k := 53) (am_dp pw_X11_works_32 dd_X11_works_32a.2.2.2.2.2.2.2) rfl (by decide) wd1386 inX11 rfl).to, ?_⟩
  refine List.forall_mem_cons.mpr ⟨(s_iloadn (am_dp pw_X11_works_32 dd_X11_works_32b.1) rfl).to, ?_⟩
  refine List.forall_mem_cons.mpr ⟨(s_iload (am_dp pw_X11_works_32 dd_X11_works_32b.2.1)).to, ?_⟩
  refine List.forall_mem_cons.mpr ⟨(s_if_ne (am_dp pw_X11_works_32 dd_X11_works_32b.2.2.1) (by decide)).to, ?_⟩
  refine List.forall_mem_cons.mpr ⟨(s_aloadn (am_dp pw_X11_works_32 dd_X11_works_32b.2.2.2.1) rfl).to, ?_⟩
  refine List.forall_mem_cons.mpr ⟨(s_get (ci := 11) (k := 39) (am_dp pw_X11_works_32 dd_X11_works_32b.2.2.2.2.1) rfl (by decide) wd1372 inX11 rfl).to, ?_⟩
  refine List.forall_mem_cons.mpr ⟨(s_iload (am_dp pw_X11_works_32 dd_X11_works_32b.2.2.2.2.2.1)).to, ?_⟩
  refine List.forall_mem_cons.mpr ⟨(s_iald (am_dp pw_X11_works_32 dd_X11_works_32b.2.2.2.2.2.2.1)).to, ?_⟩
  refine List.forall_mem_cons.mpr ⟨(s_i2l (am_dp pw_X11_works_32 dd_X11_works_32b.2.2.2.2.2.2.2)).to, ?_⟩
  refine List.forall_mem_cons.mpr ⟨(s_goto (am_dp pw_X11_works_32 dd_X11_works_32c) (by decide)).to, ?_⟩
  refine List.forall_mem_cons.mpr ⟨(s_iload (am_dp pw_X11_works_64 dd_X11_works_64a.1)).to, ?_⟩
  refine List.forall_mem_cons.mpr ⟨(s_bipush (am_dp pw_X11_works_64 dd_X11_works_64a.2.1) (by decide)).to, ?_⟩
  refine List.forall_mem_cons.mpr ⟨(s_icmp_ne (am_dp pw_X11_works_64 dd_X11_works_64a.2.2.1) (by decide)).to, ?_⟩
  refine List.forall_mem_cons.mpr ⟨(s_lconst (am_dp pw_X11_works_64 dd_X11_works_64a.2.2.2.1) (by decide)).to, ?_⟩
  refine List.forall_mem_cons.mpr ⟨(s_goto (am_dp pw_X11_works_64 dd_X11_works_64a.2.2.2.2.1) (by decide)).to, ?_⟩
  refine List.forall_mem_cons.mpr ⟨(s_aloadn (am_dp pw_X11_works_64 dd_X11_works_64a.2.2.2.2.2.1) rfl).to, ?_⟩
  refine List.forall_mem_cons.mpr ⟨(s_get (ci := 11) (k := 54) (am_dp pw_X11_works_64 dd_X11_works_64a.2.2.2.2.2.2.1) rfl (by decide) wd1387 inX11 rfl).to, ?_⟩
  refine List.forall_mem_cons.mpr ⟨(s_iload (am_dp pw_X11_works_64 dd_X11_works_64a.2.2.2.2.2.2.2)).to, ?_⟩
  refine List.forall_mem_cons.mpr ⟨(s_iald (am_dp pw_X11_works_64 dd_X11_works_64b.1)).to, ?_⟩
  refine List.forall_mem_cons.mpr ⟨(s_i2l (am_dp pw_X11_works_64 dd_X11_works_64b.2.1)).to, ?_⟩
  refine List.forall_mem_cons.mpr ⟨(s_last (am_dp pw_X11_works_64 dd_X11_works_64b.2.2.1)).to, ?_⟩
  refine List.forall_mem_cons.mpr ⟨(s_iinc (am_dp pw_X11_works_64 dd_X11_works_64b.2.2.2.1) (by decide) (by decide)).to, ?_⟩
  refine List.forall_mem_cons.mpr ⟨(s_goto (am_dp pw_X11_works_64 dd_X11_works_64b.2.2.2.2.1) (by decide)).to, ?_⟩
  refine List.forall_mem_cons.mpr ⟨(s_iload (am_dp pw_X11_works_64 dd_X11_works_64b.2.2.2.2.2.1)).to, ?_⟩
  refine List.forall_mem_cons.mpr ⟨(s_bipush (am_dp pw_X11_works_64 dd_X11_works_64b.2.2.2.2.2.2) (by decide)).to, ?_⟩
  refine List.forall_mem_cons.mpr ⟨(s_icmp_ne (am_dp pw_X11_works_96 dd_X11_works_96a.1) (by decide)).to, ?_⟩
  refine List.forall_mem_cons.mpr ⟨(s_aloadn (am_dp pw_X11_works_96 dd_X11_works_96a.2.1) rfl).to, ?_⟩
  refine List.forall_mem_cons.mpr ⟨(s_get (ci := 11) (k := 53) (am_dp pw_X11_works_96 dd_X11_works_96a.2.2.1) rfl (by decide) wd1386 inX11 rfl).to, ?_⟩
  refine List.forall_mem_cons.mpr ⟨(s_iloadn (am_dp pw_X11_works_96 dd_X11_works_96a.2.2.2.1) rfl).to, ?_⟩
  refine List.forall_mem_cons.mpr ⟨(s_iconst (am_dp pw_X11_works_96 dd_X11_works_96a.2.2.2.2.1) (by decide)).to, ?_⟩
  refine List.forall_mem_cons.mpr ⟨(s_isub (am_dp pw_X11_works_96 dd_X11_works_96a.2.2.2.2.2.1)).to, ?_⟩
  refine List.forall_mem_cons.mpr ⟨(s_lconst (am_dp pw_X11_works_96 dd_X11_works_96a.2.2.2.2.2.2.1) (by decide)).to, ?_⟩
  refine List.forall_mem_cons.mpr ⟨(s_aloadn (am_dp pw_X11_works_96 dd_X11_works_96a.2.2.2.2.2.2.2) rfl).to, ?_⟩
  refine List.forall_mem_cons.mpr ⟨(s_get (ci := 11) (k := 53) (am_dp pw_X11_works_96 dd_X11_works_96b.1) rfl (by decide) wd1386 inX11 rfl).to, ?_⟩
  exact fun _ h => absurd h List.not_mem_nil
theorem sn_tX11_works_1 : ∀ q ∈ tX11_works_1, am_Snd am_P0 RX11 cX11_works 6 (Option.some FieldType.long) "works" q.1 q.2 := by
  unfold tX11_works_1
  refine List.forall_mem_cons.mpr ⟨(s_iloadn (am_dp pw_X11_works_96 dd_X11_works_96b.2.1) rfl).to, ?_⟩
  refine List.forall_mem_cons.mpr ⟨(s_iconst (am_dp pw_X11_works_96 dd_X11_works_96b.2.2.1) (by decide)).to, ?_⟩
  refine List.forall_mem_cons.mpr ⟨(s_isub (am_dp pw_X11_works_96 dd_X11_works_96b.2.2.2.1)).to, ?_⟩
  refine List.forall_mem_cons.mpr ⟨(s_lald (am_dp pw_X11_works_96 dd_X11_works_96b.2.2.2.2.1)).to, ?_⟩
  refine List.forall_mem_cons.mpr ⟨(s_lsub (am_dp pw_X11_works_96 dd_X11_works_96b.2.2.2.2.2.1)).to, ?_⟩
  refine List.forall_mem_cons.mpr ⟨(s_last (am_dp pw_X11_works_96 dd_X11_works_96b.2.2.2.2.2.2.1)).to, ?_⟩
  refine List.forall_mem_cons.mpr ⟨(s_goto (am_dp pw_X11_works_96 dd_X11_works_96b.2.2.2.2.2.2.2) (by decide)).to, ?_⟩
  refine List.forall_mem_cons.mpr ⟨(s_iinc (am_dp pw_X11_works_96 dd_X11_works_96c.1) (by decide) (by decide)).to, ?_⟩
  refine List.forall_mem_cons.mpr ⟨(s_aloadn (am_dp pw_X11_works_96 dd_X11_works_96c.2.1) rfl).to, ?_⟩
  refine List.forall_mem_cons.mpr ⟨(s_get (ci := 11) (k := 53) (am_dp pw_X11_works_96 dd_X11_works_96c.2.2.1) rfl (by decide) wd1386 inX11 rfl).to, ?_⟩
  refine List.forall_mem_cons.mpr ⟨(s_iloadn (am_dp pw_X11_works_96 dd_X11_works_96c.2.2.2) rfl).to, ?_⟩
  refine List.forall_mem_cons.mpr ⟨(s_iconst (am_dp pw_X11_works_128 dd_X11_works_128a.1) (by decide)).to, ?_⟩
  refine List.forall_mem_cons.mpr ⟨(s_isub (am_dp pw_X11_works_128 dd_X11_works_128a.2.1)).to, ?_⟩
  refine List.forall_mem_cons.mpr ⟨(s_iload (am_dp pw_X11_works_128 dd_X11_works_128a.2.2.1)).to, ?_⟩
  refine List.forall_mem_cons.mpr ⟨(s_aloadn (am_dp pw_X11_works_128 dd_X11_works_128a.2.2.2.1) rfl).to, ?_⟩
  refine List.forall_mem_cons.mpr ⟨(s_get (ci := 11) (k := 53) (am_dp pw_X11_works_128 dd_X11_works_128a.2.2.2.2.1) rfl (by decide) wd1386 inX11 rfl).to, ?_⟩
  refine List.forall_mem_cons.mpr ⟨(s_iloadn (am_dp pw_X11_works_128 dd_X11_works_128a.2.2.2.2.2.1) rfl).to, ?_⟩
  refine List.forall_mem_cons.mpr ⟨(s_iconst (am_dp pw_X11_works_128 dd_X11_works_128a.2.2.2.2.2.2.1) (by decide)).to, ?_⟩
  refine List.forall_mem_cons.mpr ⟨(s_isub (am_dp pw_X11_works_128 dd_X11_works_128a.2.2.2.2.2.2.2)).to, ?_⟩
  refine List.forall_mem_cons.mpr ⟨(s_lald (am_dp pw_X11_works_128 dd_X11_works_128b.1)).to, ?_⟩
  refine List.forall_mem_cons.mpr ⟨(s_aloadn (am_dp pw_X11_works_128 dd_X11_works_128b.2.1) rfl).to, ?_⟩
  refine List.forall_mem_cons.mpr ⟨(s_get (ci := 11) (k := 53) (am_dp pw_X11_works_128 dd_X11_works_128b.2.2.1) rfl (by decide) wd1386 inX11 rfl).to, ?_⟩
  refine List.forall_mem_cons.mpr ⟨(s_iloadn (am_dp pw_X11_works_128 dd_X11_works_128b.2.2.2.1) rfl).to, ?_⟩
  refine List.forall_mem_cons.mpr ⟨(s_lald (am_dp pw_X11_works_128 dd_X11_works_128b.2.2.2.2.1)).to, ?_⟩
  refine List.forall_mem_cons.mpr ⟨zw_cs212 (am_dp pw_X11_works_128 dd_X11_works_128b.2.2.2.2.2.1) wd1795, ?_⟩
  refine List.forall_mem_cons.mpr ⟨(s_last (am_dp pw_X11_works_128 dd_X11_works_128b.2.2.2.2.2.2.1)).to, ?_⟩
  refine List.forall_mem_cons.mpr ⟨(s_iinc (am_dp pw_X11_works_128 dd_X11_works_128b.2.2.2.2.2.2.2) (by decide) (by decide)).to, ?_⟩
  refine List.forall_mem_cons.mpr ⟨(s_goto (am_dp pw_X11_works_128 dd_X11_works_128c.1) (by decide)).to, ?_⟩
  refine List.forall_mem_cons.mpr ⟨(s_aloadn (am_dp pw_X11_works_128 dd_X11_works_128c.2.1) rfl).to, ?_⟩
  refine List.forall_mem_cons.mpr ⟨(s_get (ci := 11) (k := 53) (am_dp pw_X11_works_128 dd_X11_works_128c.2.2) rfl (by decide) wd1386 inX11 rfl).to, ?_⟩
  refine List.forall_mem_cons.mpr ⟨(s_iconst (am_dp pw_X11_works_160 dd_X11_works_160a.1) (by decide)).to, ?_⟩
  refine List.forall_mem_cons.mpr ⟨(s_lald (am_dp pw_X11_works_160 dd_X11_works_160a.2.1)).to, ?_⟩
  refine List.forall_mem_cons.mpr ⟨s_lret (am_dp pw_X11_works_160 dd_X11_works_160a.2.2) rfl, ?_⟩
  exact fun _ h => absurd h List.not_mem_nil
theorem sn_tX11_works : ∀ q ∈ tX11_works, am_Snd am_P0 RX11 cX11_works 6 (Option.some FieldType.long) "works" q.1 q.2 := by
  unfold tX11_works
  exact List.forall_mem_append.mpr ⟨sn_tX11_works_0, sn_tX11_works_1⟩
theorem sn_tX11_cells : ∀ q ∈ tX11_cells, am_Snd am_P0 RX11 cX11_cells 1 (Option.some FieldType.int) "cells" q.1 q.2 := by
  unfold tX11_cells
  refine List.forall_mem_cons.mpr ⟨(s_aloadn (am_dp pw_X11_cells_0 dd_X11_cells_0a.1) rfl).to, ?_⟩
  refine List.forall_mem_cons.mpr ⟨(s_get (ci := 11) (k := 13) (am_dp pw_X11_cells_0 dd_X11_cells_0a.2.1) rfl (by decide) wd1346 inX11 rfl).to, ?_⟩
  refine List.forall_mem_cons.mpr ⟨(s_aloadn (am_dp pw_X11_cells_0 dd_X11_cells_0a.2.2.1) rfl).to, ?_⟩
  refine List.forall_mem_cons.mpr ⟨(s_get (ci := 11) (k := 12) (am_dp pw_X11_cells_0 dd_X11_cells_0a.2.2.2.1) rfl (by decide) wd1345 inX11 rfl).to, ?_⟩
  refine List.forall_mem_cons.mpr ⟨(s_iald (am_dp pw_X11_cells_0 dd_X11_cells_0a.2.2.2.2.1)).to, ?_⟩
  refine List.forall_mem_cons.mpr ⟨(s_aloadn (am_dp pw_X11_cells_0 dd_X11_cells_0a.2.2.2.2.2.1) rfl).to, ?_⟩
  refine List.forall_mem_cons.mpr ⟨(s_get (ci := 11) (k := 14) (am_dp pw_X11_cells_0 dd_X11_cells_0a.2.2.2.2.2.2.1) rfl (by decide) wd1347 inX11 rfl).to, ?_⟩
  refine List.forall_mem_cons.mpr ⟨(s_aloadn (am_dp pw_X11_cells_0 dd_X11_cells_0a.2.2.2.2.2.2.2) rfl).to, ?_⟩
  refine List.forall_mem_cons.mpr ⟨(s_get (ci := 11) (k := 12) (am_dp pw_X11_cells_0 dd_X11_cells_0b.1) rfl (by decide) wd1345 inX11 rfl).to, ?_⟩
  refine List.forall_mem_cons.mpr ⟨(s_iald (am_dp pw_X11_cells_0 dd_X11_cells_0b.2.1)).to, ?_⟩
  refine List.forall_mem_cons.mpr ⟨(s_imul (am_dp pw_X11_cells_0 dd_X11_cells_0b.2.2.1)).to, ?_⟩
  refine List.forall_mem_cons.mpr ⟨s_iret (am_dp pw_X11_cells_0 dd_X11_cells_0b.2.2.2) rfl, ?_⟩
  exact fun _ h => absurd h List.not_mem_nil
theorem sn_tX11_columnOf : ∀ q ∈ tX11_columnOf, am_Snd am_P0 RX11 cX11_columnOf 2 (Option.some FieldType.int) "columnOf" q.1 q.2 := by
  unfold tX11_columnOf
  refine List.forall_mem_cons.mpr ⟨(s_iloadn (am_dp pw_X11_columnOf_0 dd_X11_columnOf_0a.1) rfl).to, ?_⟩
  refine List.forall_mem_cons.mpr ⟨(s_aloadn (am_dp pw_X11_columnOf_0 dd_X11_columnOf_0a.2.1) rfl).to, ?_⟩
  refine List.forall_mem_cons.mpr ⟨(s_get (ci := 11) (k := 13) (am_dp pw_X11_columnOf_0 dd_X11_columnOf_0a.2.2.1) rfl (by decide) wd1346 inX11 rfl).to, ?_⟩
  refine List.forall_mem_cons.mpr ⟨(s_aloadn (am_dp pw_X11_columnOf_0 dd_X11_columnOf_0a.2.2.2.1) rfl).to, ?_⟩
  refine List.forall_mem_cons.mpr ⟨(s_get (ci := 11) (k := 12) (am_dp pw_X11_columnOf_0 dd_X11_columnOf_0a.2.2.2.2.1) rfl (by decide) wd1345 inX11 rfl).to, ?_⟩
  refine List.forall_mem_cons.mpr ⟨(s_iald (am_dp pw_X11_columnOf_0 dd_X11_columnOf_0a.2.2.2.2.2.1)).to, ?_⟩
  refine List.forall_mem_cons.mpr ⟨(s_irem (am_dp pw_X11_columnOf_0 dd_X11_columnOf_0a.2.2.2.2.2.2.1)).to, ?_⟩
  refine List.forall_mem_cons.mpr ⟨s_iret (am_dp pw_X11_columnOf_0 dd_X11_columnOf_0a.2.2.2.2.2.2.2) rfl, ?_⟩
  exact fun _ h => absurd h List.not_mem_nil
theorem sn_tX11_rowOf : ∀ q ∈ tX11_rowOf, am_Snd am_P0 RX11 cX11_rowOf 2 (Option.some FieldType.int) "rowOf" q.1 q.2 := by
  unfold tX11_rowOf
  refine List.forall_mem_cons.mpr ⟨(s_iloadn (am_dp pw_X11_rowOf_0 dd_X11_rowOf_0a.1) rfl).to, ?_⟩
  refine List.forall_mem_cons.mpr ⟨(s_aloadn (am_dp pw_X11_rowOf_0 dd_X11_rowOf_0a.2.1) rfl).to, ?_⟩
  refine List.forall_mem_cons.mpr ⟨(s_get (ci := 11) (k := 13) (am_dp pw_X11_rowOf_0 dd_X11_rowOf_0a.2.2.1) rfl (by decide) wd1346 inX11 rfl).to, ?_⟩
  refine List.forall_mem_cons.mpr ⟨(s_aloadn (am_dp pw_X11_rowOf_0 dd_X11_rowOf_0a.2.2.2.1) rfl).to, ?_⟩
  refine List.forall_mem_cons.mpr ⟨(s_get (ci := 11) (k := 12) (am_dp pw_X11_rowOf_0 dd_X11_rowOf_0a.2.2.2.2.1) rfl (by decide) wd1345 inX11 rfl).to, ?_⟩
  refine List.forall_mem_cons.mpr ⟨(s_iald (am_dp pw_X11_rowOf_0 dd_X11_rowOf_0a.2.2.2.2.2.1)).to, ?_⟩
  refine List.forall_mem_cons.mpr ⟨(s_idiv (am_dp pw_X11_rowOf_0 dd_X11_rowOf_0a.2.2.2.2.2.2.1)).to, ?_⟩
  refine List.forall_mem_cons.mpr ⟨s_iret (am_dp pw_X11_rowOf_0 dd_X11_rowOf_0a.2.2.2.2.2.2.2) rfl, ?_⟩
  exact fun _ h => absurd h List.not_mem_nil
theorem sn_tX11_isCell : ∀ q ∈ tX11_isCell, am_Snd am_P0 RX11 cX11_isCell 3 (Option.some FieldType.boolean) "isCell" q.1 q.2 := by
  unfold tX11_isCell
  refine List.forall_mem_cons.mpr ⟨(s_iloadn (am_dp pw_X11_isCell_0 dd_X11_isCell_0a.1) rfl).to, ?_⟩
  refine List.forall_mem_cons.mpr ⟨(s_iconst (am_dp pw_X11_isCell_0 dd_X11_isCell_0a.2.1) (by decide)).to, ?_⟩
  refine List.forall_mem_cons.mpr ⟨(s_aloadn (am_dp pw_X11_isCell_0 dd_X11_isCell_0a.2.2.1) rfl).to, ?_⟩
  refine List.forall_mem_cons.mpr ⟨(s_get (ci := 11) (k := 13) (am_dp pw_X11_isCell_0 dd_X11_isCell_0a.2.2.2.1) rfl (by decide) wd1346 inX11 rfl).to, ?_⟩
  refine List.forall_mem_cons.mpr ⟨(s_aloadn (am_dp pw_X11_isCell_0 dd_X11_isCell_0a.2.2.2.2.1) rfl).to, ?_⟩
  refine List.forall_mem_cons.mpr ⟨(s_get (ci := 11) (k := 12) (am_dp pw_X11_isCell_0 dd_X11_isCell_0a.2.2.2.2.2.1) rfl (by decide) wd1345 inX11 rfl).to, ?_⟩
  refine List.forall_mem_cons.mpr ⟨(s_iald (am_dp pw_X11_isCell_0 dd_X11_isCell_0a.2.2.2.2.2.2.1)).to, ?_⟩
  refine List.forall_mem_cons.mpr ⟨(s_iconst (am_dp pw_X11_isCell_0 dd_X11_isCell_0a.2.2.2.2.2.2.2) (by decide)).to, ?_⟩
  refine List.forall_mem_cons.mpr ⟨(s_isub (am_dp pw_X11_isCell_0 dd_X11_isCell_0b.1)).to, ?_⟩
  refine List.forall_mem_cons.mpr ⟨zw_cs167 (am_dp pw_X11_isCell_0 dd_X11_isCell_0b.2.1) wd1630, ?_⟩
  refine List.forall_mem_cons.mpr ⟨(s_if_eq (am_dp pw_X11_isCell_0 dd_X11_isCell_0b.2.2.1) (by decide)).to, ?_⟩
  refine List.forall_mem_cons.mpr ⟨(s_iloadn (am_dp pw_X11_isCell_0 dd_X11_isCell_0b.2.2.2.1) rfl).to, ?_⟩
  refine List.forall_mem_cons.mpr ⟨(s_iconst (am_dp pw_X11_isCell_0 dd_X11_isCell_0b.2.2.2.2.1) (by decide)).to, ?_⟩
  refine List.forall_mem_cons.mpr ⟨(s_aloadn (am_dp pw_X11_isCell_0 dd_X11_isCell_0b.2.2.2.2.2.1) rfl).to, ?_⟩
  refine List.forall_mem_cons.mpr ⟨(s_get (ci := 11) (k := 14) (am_dp pw_X11_isCell_0 dd_X11_isCell_0b.2.2.2.2.2.2.1) rfl (by decide) wd1347 inX11 rfl).to, ?_⟩
  refine List.forall_mem_cons.mpr ⟨(s_aloadn (am_dp pw_X11_isCell_0 dd_X11_isCell_0b.2.2.2.2.2.2.2) rfl).to, ?_⟩
  refine List.forall_mem_cons.mpr ⟨(s_get (ci := 11) (k := 12) (am_dp pw_X11_isCell_0 dd_X11_isCell_0c.1) rfl (by decide) wd1345 inX11 rfl).to, ?_⟩
  refine List.forall_mem_cons.mpr ⟨(s_iald (am_dp pw_X11_isCell_0 dd_X11_isCell_0c.2.1)).to, ?_⟩
  refine List.forall_mem_cons.mpr ⟨(s_iconst (am_dp pw_X11_isCell_0 dd_X11_isCell_0c.2.2.1) (by decide)).to, ?_⟩
  refine List.forall_mem_cons.mpr ⟨(s_isub (am_dp pw_X11_isCell_0 dd_X11_isCell_0c.2.2.2)).to, ?_⟩
  refine List.forall_mem_cons.mpr ⟨zw_cs167 (am_dp pw_X11_isCell_32 dd_X11_isCell_32a.1) wd1630, ?_⟩
  refine List.forall_mem_cons.mpr ⟨(s_if_eq (am_dp pw_X11_isCell_32 dd_X11_isCell_32a.2.1) (by decide)).to, ?_⟩
  refine List.forall_mem_cons.mpr ⟨(s_iconst (am_dp pw_X11_isCell_32 dd_X11_isCell_32a.2.2.1) (by decide)).to, ?_⟩
  refine List.forall_mem_cons.mpr ⟨(s_goto (am_dp pw_X11_isCell_32 dd_X11_isCell_32a.2.2.2.1) (by decide)).to, ?_⟩
  refine List.forall_mem_cons.mpr ⟨(s_iconst (am_dp pw_X11_isCell_32 dd_X11_isCell_32a.2.2.2.2.1) (by decide)).to, ?_⟩
  refine List.forall_mem_cons.mpr ⟨s_zret (am_dp pw_X11_isCell_32 dd_X11_isCell_32a.2.2.2.2.2) rfl, ?_⟩
  exact fun _ h => absurd h List.not_mem_nil
theorem sn_tX11_at : ∀ q ∈ tX11_at, am_Snd am_P0 RX11 cX11_at 3 (Option.some FieldType.int) "at" q.1 q.2 := by
  unfold tX11_at
  refine List.forall_mem_cons.mpr ⟨(s_aloadn (am_dp pw_X11_at_0 dd_X11_at_0a.1) rfl).to, ?_⟩
  refine List.forall_mem_cons.mpr ⟨(s_get (ci := 11) (k := 13) (am_dp pw_X11_at_0 dd_X11_at_0a.2.1) rfl (by decide) wd1346 inX11 rfl).to, ?_⟩
  refine List.forall_mem_cons.mpr ⟨(s_aloadn (am_dp pw_X11_at_0 dd_X11_at_0a.2.2.1) rfl).to, ?_⟩
  refine List.forall_mem_cons.mpr ⟨(s_get (ci := 11) (k := 12) (am_dp pw_X11_at_0 dd_X11_at_0a.2.2.2.1) rfl (by decide) wd1345 inX11 rfl).to, ?_⟩
  refine List.forall_mem_cons.mpr ⟨(s_iald (am_dp pw_X11_at_0 dd_X11_at_0a.2.2.2.2.1)).to, ?_⟩
  refine List.forall_mem_cons.mpr ⟨(s_iloadn (am_dp pw_X11_at_0 dd_X11_at_0a.2.2.2.2.2.1) rfl).to, ?_⟩
  refine List.forall_mem_cons.mpr ⟨(s_imul (am_dp pw_X11_at_0 dd_X11_at_0a.2.2.2.2.2.2.1)).to, ?_⟩
  refine List.forall_mem_cons.mpr ⟨(s_iloadn (am_dp pw_X11_at_0 dd_X11_at_0a.2.2.2.2.2.2.2) rfl).to, ?_⟩
  refine List.forall_mem_cons.mpr ⟨(s_iadd (am_dp pw_X11_at_0 dd_X11_at_0b.1)).to, ?_⟩
  refine List.forall_mem_cons.mpr ⟨s_iret (am_dp pw_X11_at_0 dd_X11_at_0b.2) rfl, ?_⟩
  exact fun _ h => absurd h List.not_mem_nil
theorem sn_tX11_isHour : ∀ q ∈ tX11_isHour, am_Snd am_P0 RX11 cX11_isHour 1 (Option.some FieldType.boolean) "isHour" q.1 q.2 := by
  unfold tX11_isHour
  refine List.forall_mem_cons.mpr ⟨(s_iloadn (am_dp pw_X11_isHour_0 dd_X11_isHour_0a.1) rfl).to, ?_⟩
  refine List.forall_mem_cons.mpr ⟨(s_iconst (am_dp pw_X11_isHour_0 dd_X11_isHour_0a.2.1) (by decide)).to, ?_⟩
  refine List.forall_mem_cons.mpr ⟨(s_bipush (am_dp pw_X11_isHour_0 dd_X11_isHour_0a.2.2.1) (by decide)).to, ?_⟩
  refine List.forall_mem_cons.mpr ⟨zw_cs167 (am_dp pw_X11_isHour_0 dd_X11_isHour_0a.2.2.2.1) wd1630, ?_⟩
  refine List.forall_mem_cons.mpr ⟨s_zret (am_dp pw_X11_isHour_0 dd_X11_isHour_0a.2.2.2.2) rfl, ?_⟩
  exact fun _ h => absurd h List.not_mem_nil
theorem sn_tX11_isShip : ∀ q ∈ tX11_isShip, am_Snd am_P0 RX11 cX11_isShip 2 (Option.some FieldType.boolean) "isShip" q.1 q.2 := by
  unfold tX11_isShip
  refine List.forall_mem_cons.mpr ⟨(s_iloadn (am_dp pw_X11_isShip_0 dd_X11_isShip_0a.1) rfl).to, ?_⟩
  refine List.forall_mem_cons.mpr ⟨(s_iconst (am_dp pw_X11_isShip_0 dd_X11_isShip_0a.2.1) (by decide)).to, ?_⟩
  refine List.forall_mem_cons.mpr ⟨(s_aloadn (am_dp pw_X11_isShip_0 dd_X11_isShip_0a.2.2.1) rfl).to, ?_⟩
  refine List.forall_mem_cons.mpr ⟨(s_get (ci := 11) (k := 19) (am_dp pw_X11_isShip_0 dd_X11_isShip_0a.2.2.2.1) rfl (by decide) wd1352 inX11 rfl).to, ?_⟩
  refine List.forall_mem_cons.mpr ⟨(s_aloadn (am_dp pw_X11_isShip_0 dd_X11_isShip_0a.2.2.2.2.1) rfl).to, ?_⟩
  refine List.forall_mem_cons.mpr ⟨(s_get (ci := 11) (k := 12) (am_dp pw_X11_isShip_0 dd_X11_isShip_0a.2.2.2.2.2.1) rfl (by decide) wd1345 inX11 rfl).to, ?_⟩
  refine List.forall_mem_cons.mpr ⟨(s_iald (am_dp pw_X11_isShip_0 dd_X11_isShip_0a.2.2.2.2.2.2.1)).to, ?_⟩
  refine List.forall_mem_cons.mpr ⟨(s_iconst (am_dp pw_X11_isShip_0 dd_X11_isShip_0a.2.2.2.2.2.2.2) (by decide)).to, ?_⟩
  refine List.forall_mem_cons.mpr ⟨(s_isub (am_dp pw_X11_isShip_0 dd_X11_isShip_0b.1)).to, ?_⟩
  refine List.forall_mem_cons.mpr ⟨zw_cs167 (am_dp pw_X11_isShip_0 dd_X11_isShip_0b.2.1) wd1630, ?_⟩
  refine List.forall_mem_cons.mpr ⟨s_zret (am_dp pw_X11_isShip_0 dd_X11_isShip_0b.2.2) rfl, ?_⟩
  exact fun _ h => absurd h List.not_mem_nil
theorem sn_tX11_ruleOf_0 : ∀ q ∈ tX11_ruleOf_0, am_Snd am_P0 RX11 cX11_ruleOf 7 (Option.some FieldType.int) "ruleOf" q.1 q.2 := by
  unfold tX11_ruleOf_0
  refine List.forall_mem_cons.mpr ⟨(s_aloadn (am_dp pw_X11_ruleOf_0 dd_X11_ruleOf_0a.1) rfl).to, ?_⟩
  refine List.forall_mem_cons.mpr ⟨(s_get (ci := 11) (k := 54) (am_dp pw_X11_ruleOf_0 dd_X11_ruleOf_0a.2.1) rfl (by decide) wd1387 inX11 rfl).to, ?_⟩
  refine List.forall_mem_cons.mpr ⟨(s_iconst (am_dp pw_X11_ruleOf_0 dd_X11_ruleOf_0a.2.2.1) (by decide)).to, ?_⟩
  refine List.forall_mem_cons.mpr ⟨(s_aloadn (am_dp pw_X11_ruleOf_0 dd_X11_ruleOf_0a.2.2.2.1) rfl).to, ?_⟩
  refine List.forall_mem_cons.mpr ⟨(s_iloadn (am_dp pw_X11_ruleOf_0 dd_X11_ruleOf_0a.2.2.2.2.1) rfl).to, ?_⟩
  refine List.forall_mem_cons.mpr ⟨zw_cv215 (am_dp pw_X11_ruleOf_0 dd_X11_ruleOf_0a.2.2.2.2.2.1) wd1783, ?_⟩
  refine List.forall_mem_cons.mpr ⟨(s_iast (am_dp pw_X11_ruleOf_0 dd_X11_ruleOf_0a.2.2.2.2.2.2.1)).to, ?_⟩
  refine List.forall_mem_cons.mpr ⟨(s_aloadn (am_dp pw_X11_ruleOf_0 dd_X11_ruleOf_0a.2.2.2.2.2.2.2) rfl).to, ?_⟩
  refine List.forall_mem_cons.mpr ⟨(s_get (ci := 11) (k := 54) (am_dp pw_X11_ruleOf_0 dd_X11_ruleOf_0b.1) rfl (by decide) wd1387 inX11 rfl).to, ?_⟩
  refine List.forall_mem_cons.mpr ⟨(s_iconst (am_dp pw_X11_ruleOf_0 dd_X11_ruleOf_0b.2.1) (by decide)).to, ?_⟩
  refine List.forall_mem_cons.mpr ⟨(s_aloadn (am_dp pw_X11_ruleOf_0 dd_X11_ruleOf_0b.2.2.1) rfl).to, ?_⟩
  refine List.forall_mem_cons.mpr ⟨(s_iloadn (am_dp pw_X11_ruleOf_0 dd_X11_ruleOf_0b.2.2.2.1) rfl).to, ?_⟩
  refine List.forall_mem_cons.mpr ⟨zw_cv216 (am_dp pw_X11_ruleOf_0 dd_X11_ruleOf_0b.2.2.2.2.1) wd1787, ?_⟩
  refine List.forall_mem_cons.mpr ⟨(s_iast (am_dp pw_X11_ruleOf_0 dd_X11_ruleOf_0b.2.2.2.2.2.1)).to, ?_⟩
  refine List.forall_mem_cons.mpr ⟨(s_aloadn (am_dp pw_X11_ruleOf_0 dd_X11_ruleOf_0b.2.2.2.2.2.2.1) rfl).to, ?_⟩
  refine List.forall_mem_cons.mpr ⟨(s_get (ci := 11) (k := 54) (am_dp pw_X11_ruleOf_0 dd_X11_ruleOf_0b.2.2.2.2.2.2.2) rfl (by decide) wd1387 inX11 rfl).to, ?_⟩
  refine List.forall_mem_cons.mpr ⟨(s_iconst (am_dp pw_X11_ruleOf_0 dd_X11_ruleOf_0c.1) (by decide)).to, ?_⟩
  refine List.forall_mem_cons.mpr ⟨(s_iloadn (am_dp pw_X11_ruleOf_0 dd_X11_ruleOf_0c.2.1) rfl).to, ?_⟩
  refine List.forall_mem_cons.mpr ⟨(s_iast (am_dp pw_X11_ruleOf_0 dd_X11_ruleOf_0c.2.2.1)).to, ?_⟩
  refine List.forall_mem_cons.mpr ⟨(s_aloadn (am_dp pw_X11_ruleOf_0 dd_X11_ruleOf_0c.2.2.2.1) rfl).to, ?_⟩
  refine List.forall_mem_cons.mpr ⟨(s_get (ci := 11) (k := 54) (am_dp pw_X11_ruleOf_0 dd_X11_ruleOf_0c.2.2.2.2) rfl (by decide) wd1387 inX11 rfl).to, ?_⟩
  refine List.forall_mem_cons.mpr ⟨(s_iconst (am_dp pw_X11_ruleOf_32 dd_X11_ruleOf_32a.1) (by decide)).to, ?_⟩
  refine List.forall_mem_cons.mpr ⟨(s_iload (am_dp pw_X11_ruleOf_32 dd_X11_ruleOf_32a.2.1)).to, ?_⟩
  refine List.forall_mem_cons.mpr ⟨(s_iast (am_dp pw_X11_ruleOf_32 dd_X11_ruleOf_32a.2.2.1)).to, ?_⟩
  refine List.forall_mem_cons.mpr ⟨(s_bipush (am_dp pw_X11_ruleOf_32 dd_X11_ruleOf_32a.2.2.2.1) (by decide)).to, ?_⟩
  refine List.forall_mem_cons.mpr ⟨(s_aloadn (am_dp pw_X11_ruleOf_32 dd_X11_ruleOf_32a.2.2.2.2.1) rfl).to, ?_⟩
  refine List.forall_mem_cons.mpr ⟨(s_get (ci := 11) (k := 12) (am_dp pw_X11_ruleOf_32 dd_X11_ruleOf_32a.2.2.2.2.2.1) rfl (by decide) wd1345 inX11 rfl).to, ?_⟩
  refine List.forall_mem_cons.mpr ⟨(s_imul (am_dp pw_X11_ruleOf_32 dd_X11_ruleOf_32a.2.2.2.2.2.2.1)).to, ?_⟩
  refine List.forall_mem_cons.mpr ⟨(s_iloadn (am_dp pw_X11_ruleOf_32 dd_X11_ruleOf_32a.2.2.2.2.2.2.2) rfl).to, ?_⟩
  refine List.forall_mem_cons.mpr ⟨zw_cs179 (am_dp pw_X11_ruleOf_32 dd_X11_ruleOf_32b.1) wd1657, ?_⟩
  refine List.forall_mem_cons.mpr ⟨(s_iadd (am_dp pw_X11_ruleOf_32 dd_X11_ruleOf_32b.2.1)).to, ?_⟩
  refine List.forall_mem_cons.mpr ⟨(s_istore (am_dp pw_X11_ruleOf_32 dd_X11_ruleOf_32b.2.2.1) (by decide)).to, ?_⟩
  refine List.forall_mem_cons.mpr ⟨(s_iload (am_dp pw_X11_ruleOf_32 dd_X11_ruleOf_32b.2.2.2.1)).to, ?_⟩
  refine List.forall_mem_cons.mpr ⟨(s_istore (am_dp pw_X11_ruleOf_32 dd_X11_ruleOf_32b.2.2.2.2.1) (by decide)).to, ?_⟩
  refine List.forall_mem_cons.mpr ⟨(s_iload (am_dp pw_X11_ruleOf_32 dd_X11_ruleOf_32b.2.2.2.2.2.1)).to, ?_⟩
  refine List.forall_mem_cons.mpr ⟨(s_iload (am_dp pw_X11_ruleOf_32 dd_X11_ruleOf_32b.2.2.2.2.2.2.1)).to, ?_⟩
  refine List.forall_mem_cons.mpr ⟨(s_aloadn (am_dp pw_X11_ruleOf_32 dd_X11_ruleOf_32b.2.2.2.2.2.2.2) rfl).to, ?_⟩
  refine List.forall_mem_cons.mpr ⟨(s_get (ci := 11) (k := 15) (am_dp pw_X11_ruleOf_32 dd_X11_ruleOf_32c.1) rfl (by decide) wd1348 inX11 rfl).to, ?_⟩
  refine List.forall_mem_cons.mpr ⟨(s_iconst (am_dp pw_X11_ruleOf_32 dd_X11_ruleOf_32c.2) (by decide)).to, ?_⟩
  refine List.forall_mem_cons.mpr ⟨(s_aloadn (am_dp pw_X11_ruleOf_64 dd_X11_ruleOf_64a.1) rfl).to, ?_⟩
  refine List.forall_mem_cons.mpr ⟨(s_get (ci := 11) (k := 12) (am_dp pw_X11_ruleOf_64 dd_X11_ruleOf_64a.2.1) rfl (by decide) wd1345 inX11 rfl).to, ?_⟩
  refine List.forall_mem_cons.mpr ⟨(s_imul (am_dp pw_X11_ruleOf_64 dd_X11_ruleOf_64a.2.2.1)).to, ?_⟩
  refine List.forall_mem_cons.mpr ⟨(s_iloadn (am_dp pw_X11_ruleOf_64 dd_X11_ruleOf_64a.2.2.2.1) rfl).to, ?_⟩
  refine List.forall_mem_cons.mpr ⟨(s_iadd (am_dp pw_X11_ruleOf_64 dd_X11_ruleOf_64a.2.2.2.2.1)).to, ?_⟩
  refine List.forall_mem_cons.mpr ⟨(s_iald (am_dp pw_X11_ruleOf_64 dd_X11_ruleOf_64a.2.2.2.2.2.1)).to, ?_⟩
  refine List.forall_mem_cons.mpr ⟨(s_iadd (am_dp pw_X11_ruleOf_64 dd_X11_ruleOf_64a.2.2.2.2.2.2.1)).to, ?_⟩
  refine List.forall_mem_cons.mpr ⟨(s_icmp_ge (am_dp pw_X11_ruleOf_64 dd_X11_ruleOf_64a.2.2.2.2.2.2.2) (by decide)).to, ?_⟩
  refine List.forall_mem_cons.mpr ⟨(s_aloadn (am_dp pw_X11_ruleOf_64 dd_X11_ruleOf_64b.1) rfl).to, ?_⟩
  refine List.forall_mem_cons.mpr ⟨(s_aloadn (am_dp pw_X11_ruleOf_64 dd_X11_ruleOf_64b.2.1) rfl).to, ?_⟩
  refine List.forall_mem_cons.mpr ⟨(s_get (ci := 11) (k := 17) (am_dp pw_X11_ruleOf_64 dd_X11_ruleOf_64b.2.2.1) rfl (by decide) wd1350 inX11 rfl).to, ?_⟩
  refine List.forall_mem_cons.mpr ⟨(s_iload (am_dp pw_X11_ruleOf_64 dd_X11_ruleOf_64b.2.2.2.1)).to, ?_⟩
  refine List.forall_mem_cons.mpr ⟨(s_iald (am_dp pw_X11_ruleOf_64 dd_X11_ruleOf_64b.2.2.2.2.1)).to, ?_⟩
  refine List.forall_mem_cons.mpr ⟨(s_aloadn (am_dp pw_X11_ruleOf_64 dd_X11_ruleOf_64b.2.2.2.2.2.1) rfl).to, ?_⟩
  refine List.forall_mem_cons.mpr ⟨(s_get (ci := 11) (k := 18) (am_dp pw_X11_ruleOf_64 dd_X11_ruleOf_64b.2.2.2.2.2.2.1) rfl (by decide) wd1351 inX11 rfl).to, ?_⟩
  refine List.forall_mem_cons.mpr ⟨(s_iload (am_dp pw_X11_ruleOf_64 dd_X11_ruleOf_64b.2.2.2.2.2.2.2)).to, ?_⟩
  refine List.forall_mem_cons.mpr ⟨(s_iald (am_dp pw_X11_ruleOf_64 dd_X11_ruleOf_64c.1)).to, ?_⟩
  refine List.forall_mem_cons.mpr ⟨zw_cv213 (am_dp pw_X11_ruleOf_64 dd_X11_ruleOf_64c.2.1) wd1791, ?_⟩
  refine List.forall_mem_cons.mpr ⟨(s_lconst (am_dp pw_X11_ruleOf_64 dd_X11_ruleOf_64c.2.2.1) (by decide)).to, ?_⟩
  refine List.forall_mem_cons.mpr ⟨(s_lcmp (am_dp pw_X11_ruleOf_64 dd_X11_ruleOf_64c.2.2.2)).to, ?_⟩
  refine List.forall_mem_cons.mpr ⟨(s_if_ne (am_dp pw_X11_ruleOf_96 dd_X11_ruleOf_96a.1) (by decide)).to, ?_⟩
  exact fun _ h => absurd h List.not_mem_nil
theorem sn_tX11_ruleOf_1 : ∀ q ∈ tX11_ruleOf_1, am_Snd am_P0 RX11 cX11_ruleOf 7 (Option.some FieldType.int) "ruleOf" q.1 q.2 := by
  unfold tX11_ruleOf_1
  refine List.forall_mem_cons.mpr ⟨(s_iload (am_dp pw_X11_ruleOf_96 dd_X11_ruleOf_96a.2.1)).to, ?_⟩
  refine List.forall_mem_cons.mpr ⟨s_iret (am_dp pw_X11_ruleOf_96 dd_X11_ruleOf_96a.2.2.1) rfl, ?_⟩
  refine List.forall_mem_cons.mpr ⟨(s_iinc (am_dp pw_X11_ruleOf_96 dd_X11_ruleOf_96a.2.2.2.1) (by decide) (by decide)).to, ?_⟩
  refine List.forall_mem_cons.mpr ⟨(s_goto (am_dp pw_X11_ruleOf_96 dd_X11_ruleOf_96a.2.2.2.2.1) (by decide)).to, ?_⟩
  refine List.forall_mem_cons.mpr ⟨(s_iconst (am_dp pw_X11_ruleOf_96 dd_X11_ruleOf_96a.2.2.2.2.2.1) (by decide)).to, ?_⟩
  refine List.forall_mem_cons.mpr ⟨s_iret (am_dp pw_X11_ruleOf_96 dd_X11_ruleOf_96a.2.2.2.2.2.2) rfl, ?_⟩
  exact fun _ h => absurd h List.not_mem_nil
theorem sn_tX11_ruleOf : ∀ q ∈ tX11_ruleOf, am_Snd am_P0 RX11 cX11_ruleOf 7 (Option.some FieldType.int) "ruleOf" q.1 q.2 := by
  unfold tX11_ruleOf
  exact List.forall_mem_append.mpr ⟨sn_tX11_ruleOf_0, sn_tX11_ruleOf_1⟩
theorem sn_tX11_sumOf : ∀ q ∈ tX11_sumOf, am_Snd am_P0 RX11 cX11_sumOf 7 (Option.some FieldType.int) "sumOf" q.1 q.2 := by
  unfold tX11_sumOf
  refine List.forall_mem_cons.mpr ⟨(s_aloadn (am_dp pw_X11_sumOf_0 dd_X11_sumOf_0a.1) rfl).to, ?_⟩
  refine List.forall_mem_cons.mpr ⟨(s_iloadn (am_dp pw_X11_sumOf_0 dd_X11_sumOf_0a.2.1) rfl).to, ?_⟩
  refine List.forall_mem_cons.mpr ⟨(s_iloadn (am_dp pw_X11_sumOf_0 dd_X11_sumOf_0a.2.2.1) rfl).to, ?_⟩
  refine List.forall_mem_cons.mpr ⟨(s_iconst (am_dp pw_X11_sumOf_0 dd_X11_sumOf_0a.2.2.2.1) (by decide)).to, ?_⟩
  refine List.forall_mem_cons.mpr ⟨(s_iloadn (am_dp pw_X11_sumOf_0 dd_X11_sumOf_0a.2.2.2.2.1) rfl).to, ?_⟩
  refine List.forall_mem_cons.mpr ⟨zw_cv221 (am_dp pw_X11_sumOf_0 dd_X11_sumOf_0a.2.2.2.2.2.1) wd1779, ?_⟩
  refine List.forall_mem_cons.mpr ⟨(s_istore (am_dp pw_X11_sumOf_0 dd_X11_sumOf_0a.2.2.2.2.2.2.1) (by decide)).to, ?_⟩
  refine List.forall_mem_cons.mpr ⟨(s_iload (am_dp pw_X11_sumOf_0 dd_X11_sumOf_0a.2.2.2.2.2.2.2)).to, ?_⟩
  refine List.forall_mem_cons.mpr ⟨(s_iconst (am_dp pw_X11_sumOf_0 dd_X11_sumOf_0b.1) (by decide)).to, ?_⟩
  refine List.forall_mem_cons.mpr ⟨(s_icmp_ne (am_dp pw_X11_sumOf_0 dd_X11_sumOf_0b.2.1) (by decide)).to, ?_⟩
  refine List.forall_mem_cons.mpr ⟨(s_lconst (am_dp pw_X11_sumOf_0 dd_X11_sumOf_0b.2.2.1) (by decide)).to, ?_⟩
  refine List.forall_mem_cons.mpr ⟨(s_goto (am_dp pw_X11_sumOf_0 dd_X11_sumOf_0b.2.2.2.1) (by decide)).to, ?_⟩
  refine List.forall_mem_cons.mpr ⟨(s_aloadn (am_dp pw_X11_sumOf_0 dd_X11_sumOf_0b.2.2.2.2.1) rfl).to, ?_⟩
  refine List.forall_mem_cons.mpr ⟨(s_aloadn (am_dp pw_X11_sumOf_0 dd_X11_sumOf_0b.2.2.2.2.2.1) rfl).to, ?_⟩
  refine List.forall_mem_cons.mpr ⟨(s_get (ci := 11) (k := 16) (am_dp pw_X11_sumOf_0 dd_X11_sumOf_0b.2.2.2.2.2.2.1) rfl (by decide) wd1349 inX11 rfl).to, ?_⟩
  refine List.forall_mem_cons.mpr ⟨(s_iload (am_dp pw_X11_sumOf_0 dd_X11_sumOf_0b.2.2.2.2.2.2.2)).to, ?_⟩
  refine List.forall_mem_cons.mpr ⟨(s_iald (am_dp pw_X11_sumOf_0 dd_X11_sumOf_0c.1)).to, ?_⟩
  refine List.forall_mem_cons.mpr ⟨(s_aloadn (am_dp pw_X11_sumOf_0 dd_X11_sumOf_0c.2.1) rfl).to, ?_⟩
  refine List.forall_mem_cons.mpr ⟨(s_get (ci := 11) (k := 17) (am_dp pw_X11_sumOf_0 dd_X11_sumOf_0c.2.2) rfl (by decide) wd1350 inX11 rfl).to, ?_⟩
  refine List.forall_mem_cons.mpr ⟨(s_iload (am_dp pw_X11_sumOf_32 dd_X11_sumOf_32a.1)).to, ?_⟩
  refine List.forall_mem_cons.mpr ⟨(s_iald (am_dp pw_X11_sumOf_32 dd_X11_sumOf_32a.2.1)).to, ?_⟩
  refine List.forall_mem_cons.mpr ⟨zw_cv213 (am_dp pw_X11_sumOf_32 dd_X11_sumOf_32a.2.2.1) wd1791, ?_⟩
  refine List.forall_mem_cons.mpr ⟨(s_lstore (am_dp pw_X11_sumOf_32 dd_X11_sumOf_32a.2.2.2.1) (by decide)).to, ?_⟩
  refine List.forall_mem_cons.mpr ⟨(s_lload (am_dp pw_X11_sumOf_32 dd_X11_sumOf_32a.2.2.2.2.1)).to, ?_⟩
  refine List.forall_mem_cons.mpr ⟨(s_lconst (am_dp pw_X11_sumOf_32 dd_X11_sumOf_32a.2.2.2.2.2.1) (by decide)).to, ?_⟩
  refine List.forall_mem_cons.mpr ⟨(s_lcmp (am_dp pw_X11_sumOf_32 dd_X11_sumOf_32a.2.2.2.2.2.2.1)).to, ?_⟩
  refine List.forall_mem_cons.mpr ⟨(s_if_ge (am_dp pw_X11_sumOf_32 dd_X11_sumOf_32a.2.2.2.2.2.2.2) (by decide)).to, ?_⟩
  refine List.forall_mem_cons.mpr ⟨(s_iconst (am_dp pw_X11_sumOf_32 dd_X11_sumOf_32b.1) (by decide)).to, ?_⟩
  refine List.forall_mem_cons.mpr ⟨(s_goto (am_dp pw_X11_sumOf_32 dd_X11_sumOf_32b.2.1) (by decide)).to, ?_⟩
  refine List.forall_mem_cons.mpr ⟨(s_lload (am_dp pw_X11_sumOf_32 dd_X11_sumOf_32b.2.2.1)).to, ?_⟩
  refine List.forall_mem_cons.mpr ⟨(s_ldc2 (am_dp pw_X11_sumOf_32 dd_X11_sumOf_32b.2.2.2.1) wd1806).to, ?_⟩
  refine List.forall_mem_cons.mpr ⟨(s_lcmp (am_dp pw_X11_sumOf_32 dd_X11_sumOf_32b.2.2.2.2.1)).to, ?_⟩
  refine List.forall_mem_cons.mpr ⟨(s_if_le (am_dp pw_X11_sumOf_32 dd_X11_sumOf_32b.2.2.2.2.2.1) (by decide)).to, ?_⟩
  refine List.forall_mem_cons.mpr ⟨(s_bipush (am_dp pw_X11_sumOf_32 dd_X11_sumOf_32b.2.2.2.2.2.2.1) (by decide)).to, ?_⟩
  refine List.forall_mem_cons.mpr ⟨(s_goto (am_dp pw_X11_sumOf_32 dd_X11_sumOf_32b.2.2.2.2.2.2.2) (by decide)).to, ?_⟩
  refine List.forall_mem_cons.mpr ⟨(s_lload (am_dp pw_X11_sumOf_64 dd_X11_sumOf_64a.1)).to, ?_⟩
  refine List.forall_mem_cons.mpr ⟨(s_l2i (am_dp pw_X11_sumOf_64 dd_X11_sumOf_64a.2.1)).to, ?_⟩
  refine List.forall_mem_cons.mpr ⟨s_iret (am_dp pw_X11_sumOf_64 dd_X11_sumOf_64a.2.2) rfl, ?_⟩
  exact fun _ h => absurd h List.not_mem_nil
theorem sn_tX11_lays : ∀ q ∈ tX11_lays, am_Snd am_P0 RX11 cX11_lays 2 (Option.none : Option FieldType) "lays" q.1 q.2 := by
  unfold tX11_lays
  refine List.forall_mem_cons.mpr ⟨(s_iconst (am_dp pw_X11_lays_0 dd_X11_lays_0a.1) (by decide)).to, ?_⟩
  refine List.forall_mem_cons.mpr ⟨(s_istoren (am_dp pw_X11_lays_0 dd_X11_lays_0a.2.1) rfl (by decide)).to, ?_⟩
  refine List.forall_mem_cons.mpr ⟨(s_iloadn (am_dp pw_X11_lays_0 dd_X11_lays_0a.2.2.1) rfl).to, ?_⟩
  refine List.forall_mem_cons.mpr ⟨(s_aloadn (am_dp pw_X11_lays_0 dd_X11_lays_0a.2.2.2.1) rfl).to, ?_⟩
  refine List.forall_mem_cons.mpr ⟨zw_cv214 (am_dp pw_X11_lays_0 dd_X11_lays_0a.2.2.2.2.1) wd1771, ?_⟩
  refine List.forall_mem_cons.mpr ⟨(s_icmp_ge (am_dp pw_X11_lays_0 dd_X11_lays_0a.2.2.2.2.2.1) (by decide)).to, ?_⟩
  refine List.forall_mem_cons.mpr ⟨(s_aloadn (am_dp pw_X11_lays_0 dd_X11_lays_0a.2.2.2.2.2.2.1) rfl).to, ?_⟩
  refine List.forall_mem_cons.mpr ⟨(s_get (ci := 11) (k := 55) (am_dp pw_X11_lays_0 dd_X11_lays_0a.2.2.2.2.2.2.2) rfl (by decide) wd1388 inX11 rfl).to, ?_⟩
  refine List.forall_mem_cons.mpr ⟨(s_iloadn (am_dp pw_X11_lays_0 dd_X11_lays_0b.1) rfl).to, ?_⟩
  refine List.forall_mem_cons.mpr ⟨(s_aloadn (am_dp pw_X11_lays_0 dd_X11_lays_0b.2.1) rfl).to, ?_⟩
  refine List.forall_mem_cons.mpr ⟨(s_iconst (am_dp pw_X11_lays_0 dd_X11_lays_0b.2.2.1) (by decide)).to, ?_⟩
  refine List.forall_mem_cons.mpr ⟨(s_iloadn (am_dp pw_X11_lays_0 dd_X11_lays_0b.2.2.2.1) rfl).to, ?_⟩
  refine List.forall_mem_cons.mpr ⟨(s_iconst (am_dp pw_X11_lays_0 dd_X11_lays_0b.2.2.2.2.1) (by decide)).to, ?_⟩
  refine List.forall_mem_cons.mpr ⟨zw_cv222 (am_dp pw_X11_lays_0 dd_X11_lays_0b.2.2.2.2.2.1) wd1775, ?_⟩
  refine List.forall_mem_cons.mpr ⟨(s_iast (am_dp pw_X11_lays_0 dd_X11_lays_0b.2.2.2.2.2.2.1)).to, ?_⟩
  refine List.forall_mem_cons.mpr ⟨(s_aloadn (am_dp pw_X11_lays_0 dd_X11_lays_0b.2.2.2.2.2.2.2) rfl).to, ?_⟩
  refine List.forall_mem_cons.mpr ⟨(s_get (ci := 11) (k := 56) (am_dp pw_X11_lays_0 dd_X11_lays_0c.1) rfl (by decide) wd1389 inX11 rfl).to, ?_⟩
  refine List.forall_mem_cons.mpr ⟨(s_iloadn (am_dp pw_X11_lays_0 dd_X11_lays_0c.2.1) rfl).to, ?_⟩
  refine List.forall_mem_cons.mpr ⟨(s_aloadn (am_dp pw_X11_lays_0 dd_X11_lays_0c.2.2.1) rfl).to, ?_⟩
  refine List.forall_mem_cons.mpr ⟨(s_iconst (am_dp pw_X11_lays_0 dd_X11_lays_0c.2.2.2.1) (by decide)).to, ?_⟩
  refine List.forall_mem_cons.mpr ⟨(s_iloadn (am_dp pw_X11_lays_0 dd_X11_lays_0c.2.2.2.2.1) rfl).to, ?_⟩
  refine List.forall_mem_cons.mpr ⟨(s_aloadn (am_dp pw_X11_lays_0 dd_X11_lays_0c.2.2.2.2.2) rfl).to, ?_⟩
  refine List.forall_mem_cons.mpr ⟨(s_get (ci := 11) (k := 55) (am_dp pw_X11_lays_32 dd_X11_lays_32a.1) rfl (by decide) wd1388 inX11 rfl).to, ?_⟩
  refine List.forall_mem_cons.mpr ⟨(s_iloadn (am_dp pw_X11_lays_32 dd_X11_lays_32a.2.1) rfl).to, ?_⟩
  refine List.forall_mem_cons.mpr ⟨(s_iald (am_dp pw_X11_lays_32 dd_X11_lays_32a.2.2.1)).to, ?_⟩
  refine List.forall_mem_cons.mpr ⟨zw_cv222 (am_dp pw_X11_lays_32 dd_X11_lays_32a.2.2.2.1) wd1775, ?_⟩
  refine List.forall_mem_cons.mpr ⟨(s_iast (am_dp pw_X11_lays_32 dd_X11_lays_32a.2.2.2.2.1)).to, ?_⟩
  refine List.forall_mem_cons.mpr ⟨(s_iinc (am_dp pw_X11_lays_32 dd_X11_lays_32a.2.2.2.2.2.1) (by decide) (by decide)).to, ?_⟩
  refine List.forall_mem_cons.mpr ⟨(s_goto (am_dp pw_X11_lays_32 dd_X11_lays_32a.2.2.2.2.2.2.1) (by decide)).to, ?_⟩
  refine List.forall_mem_cons.mpr ⟨s_vret (am_dp pw_X11_lays_32 dd_X11_lays_32a.2.2.2.2.2.2.2) rfl, ?_⟩
  exact fun _ h => absurd h List.not_mem_nil
theorem sn_tX11_isQuiet : ∀ q ∈ tX11_isQuiet, am_Snd am_P0 RX11 cX11_isQuiet 3 (Option.some FieldType.boolean) "isQuiet" q.1 q.2 := by
  unfold tX11_isQuiet
  refine List.forall_mem_cons.mpr ⟨(s_aloadn (am_dp pw_X11_isQuiet_0 dd_X11_isQuiet_0a.1) rfl).to, ?_⟩
  refine List.forall_mem_cons.mpr ⟨(s_iconst (am_dp pw_X11_isQuiet_0 dd_X11_isQuiet_0a.2.1) (by decide)).to, ?_⟩
  refine List.forall_mem_cons.mpr ⟨(s_iloadn (am_dp pw_X11_isQuiet_0 dd_X11_isQuiet_0a.2.2.1) rfl).to, ?_⟩
  refine List.forall_mem_cons.mpr ⟨(s_iloadn (am_dp pw_X11_isQuiet_0 dd_X11_isQuiet_0a.2.2.2.1) rfl).to, ?_⟩
  refine List.forall_mem_cons.mpr ⟨(s_aloadn (am_dp pw_X11_isQuiet_0 dd_X11_isQuiet_0a.2.2.2.2.1) rfl).to, ?_⟩
  refine List.forall_mem_cons.mpr ⟨(s_get (ci := 11) (k := 55) (am_dp pw_X11_isQuiet_0 dd_X11_isQuiet_0a.2.2.2.2.2.1) rfl (by decide) wd1388 inX11 rfl).to, ?_⟩
  refine List.forall_mem_cons.mpr ⟨(s_iloadn (am_dp pw_X11_isQuiet_0 dd_X11_isQuiet_0a.2.2.2.2.2.2.1) rfl).to, ?_⟩
  refine List.forall_mem_cons.mpr ⟨(s_iald (am_dp pw_X11_isQuiet_0 dd_X11_isQuiet_0a.2.2.2.2.2.2.2)).to, ?_⟩
  refine List.forall_mem_cons.mpr ⟨zw_cv221 (am_dp pw_X11_isQuiet_0 dd_X11_isQuiet_0b.1) wd1779, ?_⟩
  refine List.forall_mem_cons.mpr ⟨(s_iconst (am_dp pw_X11_isQuiet_0 dd_X11_isQuiet_0b.2.1) (by decide)).to, ?_⟩
  refine List.forall_mem_cons.mpr ⟨(s_icmp_eq (am_dp pw_X11_isQuiet_0 dd_X11_isQuiet_0b.2.2.1) (by decide)).to, ?_⟩
  refine List.forall_mem_cons.mpr ⟨(s_iconst (am_dp pw_X11_isQuiet_0 dd_X11_isQuiet_0b.2.2.2.1) (by decide)).to, ?_⟩
  refine List.forall_mem_cons.mpr ⟨(s_goto (am_dp pw_X11_isQuiet_0 dd_X11_isQuiet_0b.2.2.2.2.1) (by decide)).to, ?_⟩
  refine List.forall_mem_cons.mpr ⟨(s_iconst (am_dp pw_X11_isQuiet_0 dd_X11_isQuiet_0b.2.2.2.2.2.1) (by decide)).to, ?_⟩
  refine List.forall_mem_cons.mpr ⟨s_zret (am_dp pw_X11_isQuiet_0 dd_X11_isQuiet_0b.2.2.2.2.2.2) rfl, ?_⟩
  exact fun _ h => absurd h List.not_mem_nil
theorem sn_tX11_cell : ∀ q ∈ tX11_cell, am_Snd am_P0 RX11 cX11_cell 6 (Option.some FieldType.int) "cell" q.1 q.2 := by
  unfold tX11_cell
  refine List.forall_mem_cons.mpr ⟨(s_aloadn (am_dp pw_X11_cell_0 dd_X11_cell_0a.1) rfl).to, ?_⟩
  refine List.forall_mem_cons.mpr ⟨(s_iloadn (am_dp pw_X11_cell_0 dd_X11_cell_0a.2.1) rfl).to, ?_⟩
  refine List.forall_mem_cons.mpr ⟨(s_iloadn (am_dp pw_X11_cell_0 dd_X11_cell_0a.2.2.1) rfl).to, ?_⟩
  refine List.forall_mem_cons.mpr ⟨zw_cv217 (am_dp pw_X11_cell_0 dd_X11_cell_0a.2.2.2.1) wd1819, ?_⟩
  refine List.forall_mem_cons.mpr ⟨(s_if_eq (am_dp pw_X11_cell_0 dd_X11_cell_0a.2.2.2.2.1) (by decide)).to, ?_⟩
  refine List.forall_mem_cons.mpr ⟨(s_iloadn (am_dp pw_X11_cell_0 dd_X11_cell_0a.2.2.2.2.2.1) rfl).to, ?_⟩
  refine List.forall_mem_cons.mpr ⟨zw_cs219 (am_dp pw_X11_cell_0 dd_X11_cell_0a.2.2.2.2.2.2.1) wd1823, ?_⟩
  refine List.forall_mem_cons.mpr ⟨(s_if_ne (am_dp pw_X11_cell_0 dd_X11_cell_0a.2.2.2.2.2.2.2) (by decide)).to, ?_⟩
  refine List.forall_mem_cons.mpr ⟨(s_iconst (am_dp pw_X11_cell_0 dd_X11_cell_0b.1) (by decide)).to, ?_⟩
  refine List.forall_mem_cons.mpr ⟨s_iret (am_dp pw_X11_cell_0 dd_X11_cell_0b.2.1) rfl, ?_⟩
  refine List.forall_mem_cons.mpr ⟨(s_aloadn (am_dp pw_X11_cell_0 dd_X11_cell_0b.2.2.1) rfl).to, ?_⟩
  refine List.forall_mem_cons.mpr ⟨(s_iloadn (am_dp pw_X11_cell_0 dd_X11_cell_0b.2.2.2.1) rfl).to, ?_⟩
  refine List.forall_mem_cons.mpr ⟨(s_iloadn (am_dp pw_X11_cell_0 dd_X11_cell_0b.2.2.2.2.1) rfl).to, ?_⟩
  refine List.forall_mem_cons.mpr ⟨zw_cv218 (am_dp pw_X11_cell_0 dd_X11_cell_0b.2.2.2.2.2.1) wd1826, ?_⟩
  refine List.forall_mem_cons.mpr ⟨(s_istore (am_dp pw_X11_cell_0 dd_X11_cell_0b.2.2.2.2.2.2.1) (by decide)).to, ?_⟩
  refine List.forall_mem_cons.mpr ⟨(s_iload (am_dp pw_X11_cell_0 dd_X11_cell_0b.2.2.2.2.2.2.2)).to, ?_⟩
  refine List.forall_mem_cons.mpr ⟨(s_if_ne (am_dp pw_X11_cell_0 dd_X11_cell_0c.1) (by decide)).to, ?_⟩
  refine List.forall_mem_cons.mpr ⟨(s_aloadn (am_dp pw_X11_cell_0 dd_X11_cell_0c.2) rfl).to, ?_⟩
  refine List.forall_mem_cons.mpr ⟨(s_get (ci := 11) (k := 55) (am_dp pw_X11_cell_32 dd_X11_cell_32a.1) rfl (by decide) wd1388 inX11 rfl).to, ?_⟩
  refine List.forall_mem_cons.mpr ⟨(s_iload (am_dp pw_X11_cell_32 dd_X11_cell_32a.2.1)).to, ?_⟩
  refine List.forall_mem_cons.mpr ⟨(s_iald (am_dp pw_X11_cell_32 dd_X11_cell_32a.2.2.1)).to, ?_⟩
  refine List.forall_mem_cons.mpr ⟨(s_goto (am_dp pw_X11_cell_32 dd_X11_cell_32a.2.2.2.1) (by decide)).to, ?_⟩
  refine List.forall_mem_cons.mpr ⟨(s_iload (am_dp pw_X11_cell_32 dd_X11_cell_32a.2.2.2.2.1)).to, ?_⟩
  refine List.forall_mem_cons.mpr ⟨(s_iconst (am_dp pw_X11_cell_32 dd_X11_cell_32a.2.2.2.2.2.1) (by decide)).to, ?_⟩
  refine List.forall_mem_cons.mpr ⟨(s_icmp_ne (am_dp pw_X11_cell_32 dd_X11_cell_32a.2.2.2.2.2.2.1) (by decide)).to, ?_⟩
  refine List.forall_mem_cons.mpr ⟨(s_aloadn (am_dp pw_X11_cell_32 dd_X11_cell_32a.2.2.2.2.2.2.2) rfl).to, ?_⟩
  refine List.forall_mem_cons.mpr ⟨(s_get (ci := 11) (k := 56) (am_dp pw_X11_cell_32 dd_X11_cell_32b.1) rfl (by decide) wd1389 inX11 rfl).to, ?_⟩
  refine List.forall_mem_cons.mpr ⟨(s_iload (am_dp pw_X11_cell_32 dd_X11_cell_32b.2.1)).to, ?_⟩
  refine List.forall_mem_cons.mpr ⟨(s_iald (am_dp pw_X11_cell_32 dd_X11_cell_32b.2.2.1)).to, ?_⟩
  refine List.forall_mem_cons.mpr ⟨(s_goto (am_dp pw_X11_cell_32 dd_X11_cell_32b.2.2.2.1) (by decide)).to, ?_⟩
  refine List.forall_mem_cons.mpr ⟨(s_iload (am_dp pw_X11_cell_32 dd_X11_cell_32b.2.2.2.2.1)).to, ?_⟩
  refine List.forall_mem_cons.mpr ⟨(s_iconst (am_dp pw_X11_cell_32 dd_X11_cell_32b.2.2.2.2.2.1) (by decide)).to, ?_⟩
  refine List.forall_mem_cons.mpr ⟨(s_icmp_ne (am_dp pw_X11_cell_32 dd_X11_cell_32b.2.2.2.2.2.2.1) (by decide)).to, ?_⟩
  refine List.forall_mem_cons.mpr ⟨(s_aloadn (am_dp pw_X11_cell_32 dd_X11_cell_32b.2.2.2.2.2.2.2) rfl).to, ?_⟩
  refine List.forall_mem_cons.mpr ⟨(s_iload (am_dp pw_X11_cell_64 dd_X11_cell_64a.1)).to, ?_⟩
  refine List.forall_mem_cons.mpr ⟨(s_iloadn (am_dp pw_X11_cell_64 dd_X11_cell_64a.2.1) rfl).to, ?_⟩
  refine List.forall_mem_cons.mpr ⟨zw_cv224 (am_dp pw_X11_cell_64 dd_X11_cell_64a.2.2.1) wd1830, ?_⟩
  refine List.forall_mem_cons.mpr ⟨(s_if_eq (am_dp pw_X11_cell_64 dd_X11_cell_64a.2.2.2.1) (by decide)).to, ?_⟩
  refine List.forall_mem_cons.mpr ⟨(s_iconst (am_dp pw_X11_cell_64 dd_X11_cell_64a.2.2.2.2.1) (by decide)).to, ?_⟩
  refine List.forall_mem_cons.mpr ⟨(s_goto (am_dp pw_X11_cell_64 dd_X11_cell_64a.2.2.2.2.2.1) (by decide)).to, ?_⟩
  refine List.forall_mem_cons.mpr ⟨(s_iconst (am_dp pw_X11_cell_64 dd_X11_cell_64a.2.2.2.2.2.2.1) (by decide)).to, ?_⟩
  refine List.forall_mem_cons.mpr ⟨(s_goto (am_dp pw_X11_cell_64 dd_X11_cell_64a.2.2.2.2.2.2.2) (by decide)).to, ?_⟩
  refine List.forall_mem_cons.mpr ⟨(s_iconst (am_dp pw_X11_cell_64 dd_X11_cell_64b.1) (by decide)).to, ?_⟩
  refine List.forall_mem_cons.mpr ⟨s_iret (am_dp pw_X11_cell_64 dd_X11_cell_64b.2) rfl, ?_⟩
  exact fun _ h => absurd h List.not_mem_nil
theorem sn_tX11_said : ∀ q ∈ tX11_said, am_Snd am_P0 RX11 cX11_said 3 (Option.some FieldType.int) "said" q.1 q.2 := by
  unfold tX11_said
  refine List.forall_mem_cons.mpr ⟨(s_aloadn (am_dp pw_X11_said_0 dd_X11_said_0a.1) rfl).to, ?_⟩
  refine List.forall_mem_cons.mpr ⟨(s_get (ci := 11) (k := 26) (am_dp pw_X11_said_0 dd_X11_said_0a.2.1) rfl (by decide) wd1359 inX11 rfl).to, ?_⟩
  refine List.forall_mem_cons.mpr ⟨(s_sipush (am_dp pw_X11_said_0 dd_X11_said_0a.2.2.1) (by decide)).to, ?_⟩
  refine List.forall_mem_cons.mpr ⟨(s_aloadn (am_dp pw_X11_said_0 dd_X11_said_0a.2.2.2.1) rfl).to, ?_⟩
  refine List.forall_mem_cons.mpr ⟨(s_get (ci := 11) (k := 12) (am_dp pw_X11_said_0 dd_X11_said_0a.2.2.2.2.1) rfl (by decide) wd1345 inX11 rfl).to, ?_⟩
  refine List.forall_mem_cons.mpr ⟨(s_imul (am_dp pw_X11_said_0 dd_X11_said_0a.2.2.2.2.2.1)).to, ?_⟩
  refine List.forall_mem_cons.mpr ⟨(s_bipush (am_dp pw_X11_said_0 dd_X11_said_0a.2.2.2.2.2.2.1) (by decide)).to, ?_⟩
  refine List.forall_mem_cons.mpr ⟨(s_iloadn (am_dp pw_X11_said_0 dd_X11_said_0a.2.2.2.2.2.2.2) rfl).to, ?_⟩
  refine List.forall_mem_cons.mpr ⟨(s_imul (am_dp pw_X11_said_0 dd_X11_said_0b.1)).to, ?_⟩
  refine List.forall_mem_cons.mpr ⟨(s_iadd (am_dp pw_X11_said_0 dd_X11_said_0b.2.1)).to, ?_⟩
  refine List.forall_mem_cons.mpr ⟨(s_iloadn (am_dp pw_X11_said_0 dd_X11_said_0b.2.2.1) rfl).to, ?_⟩
  refine List.forall_mem_cons.mpr ⟨(s_iadd (am_dp pw_X11_said_0 dd_X11_said_0b.2.2.2.1)).to, ?_⟩
  refine List.forall_mem_cons.mpr ⟨(s_iald (am_dp pw_X11_said_0 dd_X11_said_0b.2.2.2.2.1)).to, ?_⟩
  refine List.forall_mem_cons.mpr ⟨s_iret (am_dp pw_X11_said_0 dd_X11_said_0b.2.2.2.2.2) rfl, ?_⟩
  exact fun _ h => absurd h List.not_mem_nil
theorem sn_tX11_laden : ∀ q ∈ tX11_laden, am_Snd am_P0 RX11 cX11_laden 3 (Option.some FieldType.boolean) "laden" q.1 q.2 := by
  unfold tX11_laden
  refine List.forall_mem_cons.mpr ⟨(s_aloadn (am_dp pw_X11_laden_0 dd_X11_laden_0a.1) rfl).to, ?_⟩
  refine List.forall_mem_cons.mpr ⟨(s_get (ci := 11) (k := 27) (am_dp pw_X11_laden_0 dd_X11_laden_0a.2.1) rfl (by decide) wd1360 inX11 rfl).to, ?_⟩
  refine List.forall_mem_cons.mpr ⟨(s_sipush (am_dp pw_X11_laden_0 dd_X11_laden_0a.2.2.1) (by decide)).to, ?_⟩
  refine List.forall_mem_cons.mpr ⟨(s_aloadn (am_dp pw_X11_laden_0 dd_X11_laden_0a.2.2.2.1) rfl).to, ?_⟩
  refine List.forall_mem_cons.mpr ⟨(s_get (ci := 11) (k := 12) (am_dp pw_X11_laden_0 dd_X11_laden_0a.2.2.2.2.1) rfl (by decide) wd1345 inX11 rfl).to, ?_⟩
  refine List.forall_mem_cons.mpr ⟨(s_imul (am_dp pw_X11_laden_0 dd_X11_laden_0a.2.2.2.2.2.1)).to, ?_⟩
  refine List.forall_mem_cons.mpr ⟨(s_bipush (am_dp pw_X11_laden_0 dd_X11_laden_0a.2.2.2.2.2.2.1) (by decide)).to, ?_⟩
  refine List.forall_mem_cons.mpr ⟨(s_iloadn (am_dp pw_X11_laden_0 dd_X11_laden_0a.2.2.2.2.2.2.2) rfl).to, ?_⟩
  refine List.forall_mem_cons.mpr ⟨(s_imul (am_dp pw_X11_laden_0 dd_X11_laden_0b.1)).to, ?_⟩
  refine List.forall_mem_cons.mpr ⟨(s_iadd (am_dp pw_X11_laden_0 dd_X11_laden_0b.2.1)).to, ?_⟩
  refine List.forall_mem_cons.mpr ⟨(s_iloadn (am_dp pw_X11_laden_0 dd_X11_laden_0b.2.2.1) rfl).to, ?_⟩
  refine List.forall_mem_cons.mpr ⟨(s_iadd (am_dp pw_X11_laden_0 dd_X11_laden_0b.2.2.2.1)).to, ?_⟩
  refine List.forall_mem_cons.mpr ⟨(s_zald (am_dp pw_X11_laden_0 dd_X11_laden_0b.2.2.2.2.1)).to, ?_⟩
  refine List.forall_mem_cons.mpr ⟨s_zret (am_dp pw_X11_laden_0 dd_X11_laden_0b.2.2.2.2.2) rfl, ?_⟩
  exact fun _ h => absurd h List.not_mem_nil
theorem sn_tX11_sayingsOf : ∀ q ∈ tX11_sayingsOf, am_Snd am_P0 RX11 cX11_sayingsOf 4 (Option.some FieldType.int) "sayingsOf" q.1 q.2 := by
  unfold tX11_sayingsOf
  refine List.forall_mem_cons.mpr ⟨(s_iconst (am_dp pw_X11_sayingsOf_0 dd_X11_sayingsOf_0a.1) (by decide)).to, ?_⟩
  refine List.forall_mem_cons.mpr ⟨(s_istoren (am_dp pw_X11_sayingsOf_0 dd_X11_sayingsOf_0a.2.1) rfl (by decide)).to, ?_⟩
  refine List.forall_mem_cons.mpr ⟨(s_iconst (am_dp pw_X11_sayingsOf_0 dd_X11_sayingsOf_0a.2.2.1) (by decide)).to, ?_⟩
  refine List.forall_mem_cons.mpr ⟨(s_istoren (am_dp pw_X11_sayingsOf_0 dd_X11_sayingsOf_0a.2.2.2.1) rfl (by decide)).to, ?_⟩
  refine List.forall_mem_cons.mpr ⟨(s_iloadn (am_dp pw_X11_sayingsOf_0 dd_X11_sayingsOf_0a.2.2.2.2.1) rfl).to, ?_⟩
  refine List.forall_mem_cons.mpr ⟨(s_bipush (am_dp pw_X11_sayingsOf_0 dd_X11_sayingsOf_0a.2.2.2.2.2.1) (by decide)).to, ?_⟩
  refine List.forall_mem_cons.mpr ⟨(s_icmp_ge (am_dp pw_X11_sayingsOf_0 dd_X11_sayingsOf_0a.2.2.2.2.2.2.1) (by decide)).to, ?_⟩
  refine List.forall_mem_cons.mpr ⟨(s_iloadn (am_dp pw_X11_sayingsOf_0 dd_X11_sayingsOf_0a.2.2.2.2.2.2.2) rfl).to, ?_⟩
  refine List.forall_mem_cons.mpr ⟨(s_aloadn (am_dp pw_X11_sayingsOf_0 dd_X11_sayingsOf_0b.1) rfl).to, ?_⟩
  refine List.forall_mem_cons.mpr ⟨(s_iloadn (am_dp pw_X11_sayingsOf_0 dd_X11_sayingsOf_0b.2.1) rfl).to, ?_⟩
  refine List.forall_mem_cons.mpr ⟨(s_iloadn (am_dp pw_X11_sayingsOf_0 dd_X11_sayingsOf_0b.2.2.1) rfl).to, ?_⟩
  refine List.forall_mem_cons.mpr ⟨zw_cv226 (am_dp pw_X11_sayingsOf_0 dd_X11_sayingsOf_0b.2.2.2.1) wd1842, ?_⟩
  refine List.forall_mem_cons.mpr ⟨(s_iconst (am_dp pw_X11_sayingsOf_0 dd_X11_sayingsOf_0b.2.2.2.2.1) (by decide)).to, ?_⟩
  refine List.forall_mem_cons.mpr ⟨(s_icmp_eq (am_dp pw_X11_sayingsOf_0 dd_X11_sayingsOf_0b.2.2.2.2.2.1) (by decide)).to, ?_⟩
  refine List.forall_mem_cons.mpr ⟨(s_iconst (am_dp pw_X11_sayingsOf_0 dd_X11_sayingsOf_0b.2.2.2.2.2.2.1) (by decide)).to, ?_⟩
  refine List.forall_mem_cons.mpr ⟨(s_goto (am_dp pw_X11_sayingsOf_0 dd_X11_sayingsOf_0b.2.2.2.2.2.2.2) (by decide)).to, ?_⟩
  refine List.forall_mem_cons.mpr ⟨(s_iconst (am_dp pw_X11_sayingsOf_0 dd_X11_sayingsOf_0c.1) (by decide)).to, ?_⟩
  refine List.forall_mem_cons.mpr ⟨(s_iadd (am_dp pw_X11_sayingsOf_0 dd_X11_sayingsOf_0c.2.1)).to, ?_⟩
  refine List.forall_mem_cons.mpr ⟨(s_istoren (am_dp pw_X11_sayingsOf_0 dd_X11_sayingsOf_0c.2.2.1) rfl (by decide)).to, ?_⟩
  refine List.forall_mem_cons.mpr ⟨(s_iinc (am_dp pw_X11_sayingsOf_0 dd_X11_sayingsOf_0c.2.2.2.1) (by decide) (by decide)).to, ?_⟩
  refine List.forall_mem_cons.mpr ⟨(s_goto (am_dp pw_X11_sayingsOf_0 dd_X11_sayingsOf_0c.2.2.2.2) (by decide)).to, ?_⟩
  refine List.forall_mem_cons.mpr ⟨(s_iloadn (am_dp pw_X11_sayingsOf_32 dd_X11_sayingsOf_32a.1) rfl).to, ?_⟩
  refine List.forall_mem_cons.mpr ⟨s_iret (am_dp pw_X11_sayingsOf_32 dd_X11_sayingsOf_32a.2) rfl, ?_⟩
  exact fun _ h => absurd h List.not_mem_nil
theorem sn_tX11_hourOf : ∀ q ∈ tX11_hourOf, am_Snd am_P0 RX11 cX11_hourOf 5 (Option.some FieldType.int) "hourOf" q.1 q.2 := by
  unfold tX11_hourOf
  refine List.forall_mem_cons.mpr ⟨(s_iloadn (am_dp pw_X11_hourOf_0 dd_X11_hourOf_0a.1) rfl).to, ?_⟩
  refine List.forall_mem_cons.mpr ⟨(s_istoren (am_dp pw_X11_hourOf_0 dd_X11_hourOf_0a.2.1) rfl (by decide)).to, ?_⟩
  refine List.forall_mem_cons.mpr ⟨(s_iconst (am_dp pw_X11_hourOf_0 dd_X11_hourOf_0a.2.2.1) (by decide)).to, ?_⟩
  refine List.forall_mem_cons.mpr ⟨(s_istore (am_dp pw_X11_hourOf_0 dd_X11_hourOf_0a.2.2.2.1) (by decide)).to, ?_⟩
  refine List.forall_mem_cons.mpr ⟨(s_iload (am_dp pw_X11_hourOf_0 dd_X11_hourOf_0a.2.2.2.2.1)).to, ?_⟩
  refine List.forall_mem_cons.mpr ⟨(s_bipush (am_dp pw_X11_hourOf_0 dd_X11_hourOf_0a.2.2.2.2.2.1) (by decide)).to, ?_⟩
  refine List.forall_mem_cons.mpr ⟨(s_icmp_ge (am_dp pw_X11_hourOf_0 dd_X11_hourOf_0a.2.2.2.2.2.2.1) (by decide)).to, ?_⟩
  refine List.forall_mem_cons.mpr ⟨(s_iloadn (am_dp pw_X11_hourOf_0 dd_X11_hourOf_0a.2.2.2.2.2.2.2) rfl).to, ?_⟩
  refine List.forall_mem_cons.mpr ⟨(s_if_lt (am_dp pw_X11_hourOf_0 dd_X11_hourOf_0b.1) (by decide)).to, ?_⟩
  refine List.forall_mem_cons.mpr ⟨(s_aloadn (am_dp pw_X11_hourOf_0 dd_X11_hourOf_0b.2.1) rfl).to, ?_⟩
  refine List.forall_mem_cons.mpr ⟨(s_iloadn (am_dp pw_X11_hourOf_0 dd_X11_hourOf_0b.2.2.1) rfl).to, ?_⟩
  refine List.forall_mem_cons.mpr ⟨(s_iload (am_dp pw_X11_hourOf_0 dd_X11_hourOf_0b.2.2.2.1)).to, ?_⟩
  refine List.forall_mem_cons.mpr ⟨zw_cv226 (am_dp pw_X11_hourOf_0 dd_X11_hourOf_0b.2.2.2.2.1) wd1842, ?_⟩
  refine List.forall_mem_cons.mpr ⟨(s_iconst (am_dp pw_X11_hourOf_0 dd_X11_hourOf_0b.2.2.2.2.2.1) (by decide)).to, ?_⟩
  refine List.forall_mem_cons.mpr ⟨(s_icmp_ne (am_dp pw_X11_hourOf_0 dd_X11_hourOf_0b.2.2.2.2.2.2.1) (by decide)).to, ?_⟩
  refine List.forall_mem_cons.mpr ⟨(s_goto (am_dp pw_X11_hourOf_0 dd_X11_hourOf_0b.2.2.2.2.2.2.2) (by decide)).to, ?_⟩
  refine List.forall_mem_cons.mpr ⟨(s_iloadn (am_dp pw_X11_hourOf_0 dd_X11_hourOf_0c.1) rfl).to, ?_⟩
  refine List.forall_mem_cons.mpr ⟨(s_if_ne (am_dp pw_X11_hourOf_0 dd_X11_hourOf_0c.2) (by decide)).to, ?_⟩
  refine List.forall_mem_cons.mpr ⟨(s_iload (am_dp pw_X11_hourOf_32 dd_X11_hourOf_32a.1)).to, ?_⟩
  refine List.forall_mem_cons.mpr ⟨s_iret (am_dp pw_X11_hourOf_32 dd_X11_hourOf_32a.2.1) rfl, ?_⟩
  refine List.forall_mem_cons.mpr ⟨(s_iinc (am_dp pw_X11_hourOf_32 dd_X11_hourOf_32a.2.2.1) (by decide) (by decide)).to, ?_⟩
  refine List.forall_mem_cons.mpr ⟨(s_iinc (am_dp pw_X11_hourOf_32 dd_X11_hourOf_32a.2.2.2.1) (by decide) (by decide)).to, ?_⟩
  refine List.forall_mem_cons.mpr ⟨(s_goto (am_dp pw_X11_hourOf_32 dd_X11_hourOf_32a.2.2.2.2.1) (by decide)).to, ?_⟩
  refine List.forall_mem_cons.mpr ⟨(s_iconst (am_dp pw_X11_hourOf_32 dd_X11_hourOf_32a.2.2.2.2.2.1) (by decide)).to, ?_⟩
  refine List.forall_mem_cons.mpr ⟨s_iret (am_dp pw_X11_hourOf_32 dd_X11_hourOf_32a.2.2.2.2.2.2) rfl, ?_⟩
  exact fun _ h => absurd h List.not_mem_nil
theorem sn_tX11_numberOf : ∀ q ∈ tX11_numberOf, am_Snd am_P0 RX11 cX11_numberOf 5 (Option.some FieldType.int) "numberOf" q.1 q.2 := by
  unfold tX11_numberOf
  refine List.forall_mem_cons.mpr ⟨(s_iconst (am_dp pw_X11_numberOf_0 dd_X11_numberOf_0a.1) (by decide)).to, ?_⟩
  refine List.forall_mem_cons.mpr ⟨(s_istoren (am_dp pw_X11_numberOf_0 dd_X11_numberOf_0a.2.1) rfl (by decide)).to, ?_⟩
  refine List.forall_mem_cons.mpr ⟨(s_iconst (am_dp pw_X11_numberOf_0 dd_X11_numberOf_0a.2.2.1) (by decide)).to, ?_⟩
  refine List.forall_mem_cons.mpr ⟨(s_istore (am_dp pw_X11_numberOf_0 dd_X11_numberOf_0a.2.2.2.1) (by decide)).to, ?_⟩
  refine List.forall_mem_cons.mpr ⟨(s_iload (am_dp pw_X11_numberOf_0 dd_X11_numberOf_0a.2.2.2.2.1)).to, ?_⟩
  refine List.forall_mem_cons.mpr ⟨(s_iloadn (am_dp pw_X11_numberOf_0 dd_X11_numberOf_0a.2.2.2.2.2.1) rfl).to, ?_⟩
  refine List.forall_mem_cons.mpr ⟨(s_icmp_ge (am_dp pw_X11_numberOf_0 dd_X11_numberOf_0a.2.2.2.2.2.2.1) (by decide)).to, ?_⟩
  refine List.forall_mem_cons.mpr ⟨(s_iloadn (am_dp pw_X11_numberOf_0 dd_X11_numberOf_0a.2.2.2.2.2.2.2) rfl).to, ?_⟩
  refine List.forall_mem_cons.mpr ⟨(s_aloadn (am_dp pw_X11_numberOf_0 dd_X11_numberOf_0b.1) rfl).to, ?_⟩
  refine List.forall_mem_cons.mpr ⟨(s_iloadn (am_dp pw_X11_numberOf_0 dd_X11_numberOf_0b.2.1) rfl).to, ?_⟩
  refine List.forall_mem_cons.mpr ⟨(s_iload (am_dp pw_X11_numberOf_0 dd_X11_numberOf_0b.2.2.1)).to, ?_⟩
  refine List.forall_mem_cons.mpr ⟨zw_cv226 (am_dp pw_X11_numberOf_0 dd_X11_numberOf_0b.2.2.2.1) wd1842, ?_⟩
  refine List.forall_mem_cons.mpr ⟨(s_iconst (am_dp pw_X11_numberOf_0 dd_X11_numberOf_0b.2.2.2.2.1) (by decide)).to, ?_⟩
  refine List.forall_mem_cons.mpr ⟨(s_icmp_eq (am_dp pw_X11_numberOf_0 dd_X11_numberOf_0b.2.2.2.2.2.1) (by decide)).to, ?_⟩
  refine List.forall_mem_cons.mpr ⟨(s_iconst (am_dp pw_X11_numberOf_0 dd_X11_numberOf_0b.2.2.2.2.2.2.1) (by decide)).to, ?_⟩
  refine List.forall_mem_cons.mpr ⟨(s_goto (am_dp pw_X11_numberOf_0 dd_X11_numberOf_0b.2.2.2.2.2.2.2) (by decide)).to, ?_⟩
  refine List.forall_mem_cons.mpr ⟨(s_iconst (am_dp pw_X11_numberOf_0 dd_X11_numberOf_0c.1) (by decide)).to, ?_⟩
  refine List.forall_mem_cons.mpr ⟨(s_iadd (am_dp pw_X11_numberOf_0 dd_X11_numberOf_0c.2.1)).to, ?_⟩
  refine List.forall_mem_cons.mpr ⟨(s_istoren (am_dp pw_X11_numberOf_0 dd_X11_numberOf_0c.2.2.1) rfl (by decide)).to, ?_⟩
  refine List.forall_mem_cons.mpr ⟨(s_iinc (am_dp pw_X11_numberOf_0 dd_X11_numberOf_0c.2.2.2) (by decide) (by decide)).to, ?_⟩
  refine List.forall_mem_cons.mpr ⟨(s_goto (am_dp pw_X11_numberOf_32 dd_X11_numberOf_32a.1) (by decide)).to, ?_⟩
  refine List.forall_mem_cons.mpr ⟨(s_iloadn (am_dp pw_X11_numberOf_32 dd_X11_numberOf_32a.2.1) rfl).to, ?_⟩
  refine List.forall_mem_cons.mpr ⟨s_iret (am_dp pw_X11_numberOf_32 dd_X11_numberOf_32a.2.2) rfl, ?_⟩
  exact fun _ h => absurd h List.not_mem_nil
