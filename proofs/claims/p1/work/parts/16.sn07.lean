/-! the machine follows each instruction (by program: gen_prog.py) -/
theorem sn_tX11_ship_0 : ∀ q ∈ tX11_ship_0, am_Snd am_P0 RX11 cX11_ship 2 (Option.none : Option FieldType) "ship" q.1 q.2 := by
  unfold tX11_ship_0
  refine List.forall_mem_cons.mpr ⟨(s_aloadn (by decide +kernel : decode cX11_ship 0 = .ok (.aload_n 0, 1)) rfl).to, ?_⟩
  refine List.forall_mem_cons.mpr ⟨(s_aloadn (by decide +kernel : decode cX11_ship 1 = .ok (.aload_n 0, 1)) rfl).to, ?_⟩
  refine List.forall_mem_cons.mpr ⟨(s_get (ci := 11) (k := 19) (by decide +kernel : decode cX11_ship 2 = .ok (.getfield 69, 3)) rfl (by decide) wd1352 inX11 rfl).to, ?_⟩
  refine List.forall_mem_cons.mpr ⟨(s_aloadn (by decide +kernel : decode cX11_ship 5 = .ok (.aload_n 0, 1)) rfl).to, ?_⟩
  refine List.forall_mem_cons.mpr ⟨(s_get (ci := 11) (k := 41) (by decide +kernel : decode cX11_ship 6 = .ok (.getfield 137, 3)) rfl (by decide) wd1374 inX11 rfl).to, ?_⟩
  refine List.forall_mem_cons.mpr ⟨(s_iald (by decide +kernel : decode cX11_ship 9 = .ok (.iaload, 1))).to, ?_⟩
  refine List.forall_mem_cons.mpr ⟨(s_bipush (by decide +kernel : decode cX11_ship 10 = .ok (.bipush 8, 2)) (by decide)).to, ?_⟩
  refine List.forall_mem_cons.mpr ⟨(s_icmp_ne (by decide +kernel : decode cX11_ship 12 = .ok (.if_icmp .ne 7, 3)) (by decide)).to, ?_⟩
  refine List.forall_mem_cons.mpr ⟨(s_iconst (by decide +kernel : decode cX11_ship 15 = .ok (.iconst 1, 1)) (by decide)).to, ?_⟩
  refine List.forall_mem_cons.mpr ⟨(s_goto (by decide +kernel : decode cX11_ship 16 = .ok (.goto 4, 3)) (by decide)).to, ?_⟩
  refine List.forall_mem_cons.mpr ⟨(s_iconst (by decide +kernel : decode cX11_ship 19 = .ok (.iconst 0, 1)) (by decide)).to, ?_⟩
  refine List.forall_mem_cons.mpr ⟨z_cv (by decide +kernel : decode cX11_ship 20 = .ok (.invokevirtual 395, 3)) mt193 wd1653 (ci := 11) rfl (by decide), ?_⟩
  refine List.forall_mem_cons.mpr ⟨(s_if_ne (by decide +kernel : decode cX11_ship 23 = .ok (.ifCond .ne 4, 3)) (by decide)).to, ?_⟩
  refine List.forall_mem_cons.mpr ⟨s_vret (by decide +kernel : decode cX11_ship 26 = .ok (.return_, 1)) rfl, ?_⟩
  refine List.forall_mem_cons.mpr ⟨(s_bipush (by decide +kernel : decode cX11_ship 27 = .ok (.bipush 8, 2)) (by decide)).to, ?_⟩
  refine List.forall_mem_cons.mpr ⟨(s_aloadn (by decide +kernel : decode cX11_ship 29 = .ok (.aload_n 0, 1)) rfl).to, ?_⟩
  refine List.forall_mem_cons.mpr ⟨(s_get (ci := 11) (k := 41) (by decide +kernel : decode cX11_ship 30 = .ok (.getfield 137, 3)) rfl (by decide) wd1374 inX11 rfl).to, ?_⟩
  refine List.forall_mem_cons.mpr ⟨(s_imul (by decide +kernel : decode cX11_ship 33 = .ok (.imul, 1))).to, ?_⟩
  refine List.forall_mem_cons.mpr ⟨(s_aloadn (by decide +kernel : decode cX11_ship 34 = .ok (.aload_n 0, 1)) rfl).to, ?_⟩
  refine List.forall_mem_cons.mpr ⟨(s_get (ci := 11) (k := 19) (by decide +kernel : decode cX11_ship 35 = .ok (.getfield 69, 3)) rfl (by decide) wd1352 inX11 rfl).to, ?_⟩
  refine List.forall_mem_cons.mpr ⟨(s_aloadn (by decide +kernel : decode cX11_ship 38 = .ok (.aload_n 0, 1)) rfl).to, ?_⟩
  refine List.forall_mem_cons.mpr ⟨(s_get (ci := 11) (k := 41) (by decide +kernel : decode cX11_ship 39 = .ok (.getfield 137, 3)) rfl (by decide) wd1374 inX11 rfl).to, ?_⟩
  refine List.forall_mem_cons.mpr ⟨(s_iald (by decide +kernel : decode cX11_ship 42 = .ok (.iaload, 1))).to, ?_⟩
  refine List.forall_mem_cons.mpr ⟨(s_iadd (by decide +kernel : decode cX11_ship 43 = .ok (.iadd, 1))).to, ?_⟩
  refine List.forall_mem_cons.mpr ⟨(s_istoren (by decide +kernel : decode cX11_ship 44 = .ok (.istore_n 1, 1)) rfl (by decide)).to, ?_⟩
  refine List.forall_mem_cons.mpr ⟨(s_aloadn (by decide +kernel : decode cX11_ship 45 = .ok (.aload_n 0, 1)) rfl).to, ?_⟩
  refine List.forall_mem_cons.mpr ⟨(s_get (ci := 11) (k := 20) (by decide +kernel : decode cX11_ship 46 = .ok (.getfield 72, 3)) rfl (by decide) wd1353 inX11 rfl).to, ?_⟩
  refine List.forall_mem_cons.mpr ⟨(s_iloadn (by decide +kernel : decode cX11_ship 49 = .ok (.iload_n 1, 1)) rfl).to, ?_⟩
  refine List.forall_mem_cons.mpr ⟨(s_aloadn (by decide +kernel : decode cX11_ship 50 = .ok (.aload_n 0, 1)) rfl).to, ?_⟩
  refine List.forall_mem_cons.mpr ⟨z_cv (by decide +kernel : decode cX11_ship 51 = .ok (.invokevirtual 409, 3)) mt195 wd1719 (ci := 11) rfl (by decide), ?_⟩
  refine List.forall_mem_cons.mpr ⟨(s_last (by decide +kernel : decode cX11_ship 54 = .ok (.lastore, 1))).to, ?_⟩
  refine List.forall_mem_cons.mpr ⟨(s_aloadn (by decide +kernel : decode cX11_ship 55 = .ok (.aload_n 0, 1)) rfl).to, ?_⟩
  refine List.forall_mem_cons.mpr ⟨(s_ldc2 (by decide +kernel : decode cX11_ship 56 = .ok (.ldc2_w 299, 3)) wd1727).to, ?_⟩
  refine List.forall_mem_cons.mpr ⟨z_cv (by decide +kernel : decode cX11_ship 59 = .ok (.invokevirtual 406, 3)) mt194 wd1708 (ci := 11) rfl (by decide), ?_⟩
  refine List.forall_mem_cons.mpr ⟨(s_aloadn (by decide +kernel : decode cX11_ship 62 = .ok (.aload_n 0, 1)) rfl).to, ?_⟩
  refine List.forall_mem_cons.mpr ⟨(s_get (ci := 11) (k := 21) (by decide +kernel : decode cX11_ship 63 = .ok (.getfield 76, 3)) rfl (by decide) wd1354 inX11 rfl).to, ?_⟩
  refine List.forall_mem_cons.mpr ⟨(s_iloadn (by decide +kernel : decode cX11_ship 66 = .ok (.iload_n 1, 1)) rfl).to, ?_⟩
  refine List.forall_mem_cons.mpr ⟨(s_aloadn (by decide +kernel : decode cX11_ship 67 = .ok (.aload_n 0, 1)) rfl).to, ?_⟩
  refine List.forall_mem_cons.mpr ⟨(s_iconst (by decide +kernel : decode cX11_ship 68 = .ok (.iconst 0, 1)) (by decide)).to, ?_⟩
  refine List.forall_mem_cons.mpr ⟨(s_iconst (by decide +kernel : decode cX11_ship 69 = .ok (.iconst 3, 1)) (by decide)).to, ?_⟩
  refine List.forall_mem_cons.mpr ⟨z_cv (by decide +kernel : decode cX11_ship 70 = .ok (.invokevirtual 385, 3)) mt182 wd1626 (ci := 11) rfl (by decide), ?_⟩
  refine List.forall_mem_cons.mpr ⟨(s_iast (by decide +kernel : decode cX11_ship 73 = .ok (.iastore, 1))).to, ?_⟩
  refine List.forall_mem_cons.mpr ⟨(s_aloadn (by decide +kernel : decode cX11_ship 74 = .ok (.aload_n 0, 1)) rfl).to, ?_⟩
  refine List.forall_mem_cons.mpr ⟨(s_ldc2 (by decide +kernel : decode cX11_ship 75 = .ok (.ldc2_w 301, 3)) wd1728).to, ?_⟩
  refine List.forall_mem_cons.mpr ⟨z_cv (by decide +kernel : decode cX11_ship 78 = .ok (.invokevirtual 406, 3)) mt194 wd1708 (ci := 11) rfl (by decide), ?_⟩
  refine List.forall_mem_cons.mpr ⟨(s_aloadn (by decide +kernel : decode cX11_ship 81 = .ok (.aload_n 0, 1)) rfl).to, ?_⟩
  refine List.forall_mem_cons.mpr ⟨(s_get (ci := 11) (k := 22) (by decide +kernel : decode cX11_ship 82 = .ok (.getfield 79, 3)) rfl (by decide) wd1355 inX11 rfl).to, ?_⟩
  refine List.forall_mem_cons.mpr ⟨(s_iloadn (by decide +kernel : decode cX11_ship 85 = .ok (.iload_n 1, 1)) rfl).to, ?_⟩
  refine List.forall_mem_cons.mpr ⟨(s_aloadn (by decide +kernel : decode cX11_ship 86 = .ok (.aload_n 0, 1)) rfl).to, ?_⟩
  refine List.forall_mem_cons.mpr ⟨(s_iconst (by decide +kernel : decode cX11_ship 87 = .ok (.iconst 1, 1)) (by decide)).to, ?_⟩
  refine List.forall_mem_cons.mpr ⟨(s_iconst (by decide +kernel : decode cX11_ship 88 = .ok (.iconst 4, 1)) (by decide)).to, ?_⟩
  refine List.forall_mem_cons.mpr ⟨z_cv (by decide +kernel : decode cX11_ship 89 = .ok (.invokevirtual 385, 3)) mt182 wd1626 (ci := 11) rfl (by decide), ?_⟩
  refine List.forall_mem_cons.mpr ⟨(s_iast (by decide +kernel : decode cX11_ship 92 = .ok (.iastore, 1))).to, ?_⟩
  refine List.forall_mem_cons.mpr ⟨(s_aloadn (by decide +kernel : decode cX11_ship 93 = .ok (.aload_n 0, 1)) rfl).to, ?_⟩
  refine List.forall_mem_cons.mpr ⟨(s_ldc2 (by decide +kernel : decode cX11_ship 94 = .ok (.ldc2_w 303, 3)) wd1729).to, ?_⟩
  refine List.forall_mem_cons.mpr ⟨z_cv (by decide +kernel : decode cX11_ship 97 = .ok (.invokevirtual 406, 3)) mt194 wd1708 (ci := 11) rfl (by decide), ?_⟩
  refine List.forall_mem_cons.mpr ⟨(s_aloadn (by decide +kernel : decode cX11_ship 100 = .ok (.aload_n 0, 1)) rfl).to, ?_⟩
  refine List.forall_mem_cons.mpr ⟨(s_get (ci := 11) (k := 23) (by decide +kernel : decode cX11_ship 101 = .ok (.getfield 82, 3)) rfl (by decide) wd1356 inX11 rfl).to, ?_⟩
  refine List.forall_mem_cons.mpr ⟨(s_iloadn (by decide +kernel : decode cX11_ship 104 = .ok (.iload_n 1, 1)) rfl).to, ?_⟩
  refine List.forall_mem_cons.mpr ⟨(s_aloadn (by decide +kernel : decode cX11_ship 105 = .ok (.aload_n 0, 1)) rfl).to, ?_⟩
  exact fun _ h => absurd h List.not_mem_nil
theorem sn_tX11_ship_1 : ∀ q ∈ tX11_ship_1, am_Snd am_P0 RX11 cX11_ship 2 (Option.none : Option FieldType) "ship" q.1 q.2 := by
  unfold tX11_ship_1
  refine List.forall_mem_cons.mpr ⟨(s_iconst (by decide +kernel : decode cX11_ship 106 = .ok (.iconst 1, 1)) (by decide)).to, ?_⟩
  refine List.forall_mem_cons.mpr ⟨(s_bipush (by decide +kernel : decode cX11_ship 107 = .ok (.bipush 40, 2)) (by decide)).to, ?_⟩
  refine List.forall_mem_cons.mpr ⟨z_cv (by decide +kernel : decode cX11_ship 109 = .ok (.invokevirtual 385, 3)) mt182 wd1626 (ci := 11) rfl (by decide), ?_⟩
  refine List.forall_mem_cons.mpr ⟨(s_iast (by decide +kernel : decode cX11_ship 112 = .ok (.iastore, 1))).to, ?_⟩
  refine List.forall_mem_cons.mpr ⟨(s_aloadn (by decide +kernel : decode cX11_ship 113 = .ok (.aload_n 0, 1)) rfl).to, ?_⟩
  refine List.forall_mem_cons.mpr ⟨(s_ldc2 (by decide +kernel : decode cX11_ship 114 = .ok (.ldc2_w 305, 3)) wd1730).to, ?_⟩
  refine List.forall_mem_cons.mpr ⟨z_cv (by decide +kernel : decode cX11_ship 117 = .ok (.invokevirtual 406, 3)) mt194 wd1708 (ci := 11) rfl (by decide), ?_⟩
  refine List.forall_mem_cons.mpr ⟨(s_aloadn (by decide +kernel : decode cX11_ship 120 = .ok (.aload_n 0, 1)) rfl).to, ?_⟩
  refine List.forall_mem_cons.mpr ⟨(s_get (ci := 11) (k := 24) (by decide +kernel : decode cX11_ship 121 = .ok (.getfield 85, 3)) rfl (by decide) wd1357 inX11 rfl).to, ?_⟩
  refine List.forall_mem_cons.mpr ⟨(s_iloadn (by decide +kernel : decode cX11_ship 124 = .ok (.iload_n 1, 1)) rfl).to, ?_⟩
  refine List.forall_mem_cons.mpr ⟨(s_aloadn (by decide +kernel : decode cX11_ship 125 = .ok (.aload_n 0, 1)) rfl).to, ?_⟩
  refine List.forall_mem_cons.mpr ⟨(s_iconst (by decide +kernel : decode cX11_ship 126 = .ok (.iconst 0, 1)) (by decide)).to, ?_⟩
  refine List.forall_mem_cons.mpr ⟨(s_bipush (by decide +kernel : decode cX11_ship 127 = .ok (.bipush 40, 2)) (by decide)).to, ?_⟩
  refine List.forall_mem_cons.mpr ⟨z_cv (by decide +kernel : decode cX11_ship 129 = .ok (.invokevirtual 385, 3)) mt182 wd1626 (ci := 11) rfl (by decide), ?_⟩
  refine List.forall_mem_cons.mpr ⟨(s_iast (by decide +kernel : decode cX11_ship 132 = .ok (.iastore, 1))).to, ?_⟩
  refine List.forall_mem_cons.mpr ⟨(s_aloadn (by decide +kernel : decode cX11_ship 133 = .ok (.aload_n 0, 1)) rfl).to, ?_⟩
  refine List.forall_mem_cons.mpr ⟨(s_get (ci := 11) (k := 8) (by decide +kernel : decode cX11_ship 134 = .ok (.getfield 36, 3)) rfl (by decide) wd1341 inX11 rfl).to, ?_⟩
  refine List.forall_mem_cons.mpr ⟨(s_if_ne (by decide +kernel : decode cX11_ship 137 = .ok (.ifCond .ne 16, 3)) (by decide)).to, ?_⟩
  refine List.forall_mem_cons.mpr ⟨(s_aloadn (by decide +kernel : decode cX11_ship 140 = .ok (.aload_n 0, 1)) rfl).to, ?_⟩
  refine List.forall_mem_cons.mpr ⟨(s_get (ci := 11) (k := 19) (by decide +kernel : decode cX11_ship 141 = .ok (.getfield 69, 3)) rfl (by decide) wd1352 inX11 rfl).to, ?_⟩
  refine List.forall_mem_cons.mpr ⟨(s_aloadn (by decide +kernel : decode cX11_ship 144 = .ok (.aload_n 0, 1)) rfl).to, ?_⟩
  refine List.forall_mem_cons.mpr ⟨(s_get (ci := 11) (k := 41) (by decide +kernel : decode cX11_ship 145 = .ok (.getfield 137, 3)) rfl (by decide) wd1374 inX11 rfl).to, ?_⟩
  refine List.forall_mem_cons.mpr ⟨(s_dup2 (by decide +kernel : decode cX11_ship 148 = .ok (.dup2, 1))).to, ?_⟩
  refine List.forall_mem_cons.mpr ⟨(s_iald (by decide +kernel : decode cX11_ship 149 = .ok (.iaload, 1))).to, ?_⟩
  refine List.forall_mem_cons.mpr ⟨(s_iconst (by decide +kernel : decode cX11_ship 150 = .ok (.iconst 1, 1)) (by decide)).to, ?_⟩
  refine List.forall_mem_cons.mpr ⟨(s_iadd (by decide +kernel : decode cX11_ship 151 = .ok (.iadd, 1))).to, ?_⟩
  refine List.forall_mem_cons.mpr ⟨(s_iast (by decide +kernel : decode cX11_ship 152 = .ok (.iastore, 1))).to, ?_⟩
  refine List.forall_mem_cons.mpr ⟨s_vret (by decide +kernel : decode cX11_ship 153 = .ok (.return_, 1)) rfl, ?_⟩
  exact fun _ h => absurd h List.not_mem_nil
theorem sn_tX11_ship : ∀ q ∈ tX11_ship, am_Snd am_P0 RX11 cX11_ship 2 (Option.none : Option FieldType) "ship" q.1 q.2 := by
  unfold tX11_ship
  exact List.forall_mem_append.mpr ⟨sn_tX11_ship_0, sn_tX11_ship_1⟩
theorem sn_tX11_cellHere : ∀ q ∈ tX11_cellHere, am_Snd am_P0 RX11 cX11_cellHere 3 (Option.some FieldType.int) "cellHere" q.1 q.2 := by
  unfold tX11_cellHere
  refine List.forall_mem_cons.mpr ⟨(s_aloadn (by decide +kernel : decode cX11_cellHere 0 = .ok (.aload_n 0, 1)) rfl).to, ?_⟩
  refine List.forall_mem_cons.mpr ⟨(s_ldc2 (by decide +kernel : decode cX11_cellHere 1 = .ok (.ldc2_w 309, 3)) wd1732).to, ?_⟩
  refine List.forall_mem_cons.mpr ⟨z_cv (by decide +kernel : decode cX11_cellHere 4 = .ok (.invokevirtual 406, 3)) mt194 wd1708 (ci := 11) rfl (by decide), ?_⟩
  refine List.forall_mem_cons.mpr ⟨(s_aloadn (by decide +kernel : decode cX11_cellHere 7 = .ok (.aload_n 0, 1)) rfl).to, ?_⟩
  refine List.forall_mem_cons.mpr ⟨(s_iconst (by decide +kernel : decode cX11_cellHere 8 = .ok (.iconst 0, 1)) (by decide)).to, ?_⟩
  refine List.forall_mem_cons.mpr ⟨(s_aloadn (by decide +kernel : decode cX11_cellHere 9 = .ok (.aload_n 0, 1)) rfl).to, ?_⟩
  refine List.forall_mem_cons.mpr ⟨(s_get (ci := 11) (k := 13) (by decide +kernel : decode cX11_cellHere 10 = .ok (.getfield 51, 3)) rfl (by decide) wd1346 inX11 rfl).to, ?_⟩
  refine List.forall_mem_cons.mpr ⟨(s_aloadn (by decide +kernel : decode cX11_cellHere 13 = .ok (.aload_n 0, 1)) rfl).to, ?_⟩
  refine List.forall_mem_cons.mpr ⟨(s_get (ci := 11) (k := 41) (by decide +kernel : decode cX11_cellHere 14 = .ok (.getfield 137, 3)) rfl (by decide) wd1374 inX11 rfl).to, ?_⟩
  refine List.forall_mem_cons.mpr ⟨(s_iald (by decide +kernel : decode cX11_cellHere 17 = .ok (.iaload, 1))).to, ?_⟩
  refine List.forall_mem_cons.mpr ⟨(s_iconst (by decide +kernel : decode cX11_cellHere 18 = .ok (.iconst 1, 1)) (by decide)).to, ?_⟩
  refine List.forall_mem_cons.mpr ⟨(s_isub (by decide +kernel : decode cX11_cellHere 19 = .ok (.isub, 1))).to, ?_⟩
  refine List.forall_mem_cons.mpr ⟨z_cv (by decide +kernel : decode cX11_cellHere 20 = .ok (.invokevirtual 385, 3)) mt182 wd1626 (ci := 11) rfl (by decide), ?_⟩
  refine List.forall_mem_cons.mpr ⟨(s_istoren (by decide +kernel : decode cX11_cellHere 23 = .ok (.istore_n 1, 1)) rfl (by decide)).to, ?_⟩
  refine List.forall_mem_cons.mpr ⟨(s_aloadn (by decide +kernel : decode cX11_cellHere 24 = .ok (.aload_n 0, 1)) rfl).to, ?_⟩
  refine List.forall_mem_cons.mpr ⟨(s_iconst (by decide +kernel : decode cX11_cellHere 25 = .ok (.iconst 0, 1)) (by decide)).to, ?_⟩
  refine List.forall_mem_cons.mpr ⟨(s_aloadn (by decide +kernel : decode cX11_cellHere 26 = .ok (.aload_n 0, 1)) rfl).to, ?_⟩
  refine List.forall_mem_cons.mpr ⟨(s_get (ci := 11) (k := 14) (by decide +kernel : decode cX11_cellHere 27 = .ok (.getfield 54, 3)) rfl (by decide) wd1347 inX11 rfl).to, ?_⟩
  refine List.forall_mem_cons.mpr ⟨(s_aloadn (by decide +kernel : decode cX11_cellHere 30 = .ok (.aload_n 0, 1)) rfl).to, ?_⟩
  refine List.forall_mem_cons.mpr ⟨(s_get (ci := 11) (k := 41) (by decide +kernel : decode cX11_cellHere 31 = .ok (.getfield 137, 3)) rfl (by decide) wd1374 inX11 rfl).to, ?_⟩
  refine List.forall_mem_cons.mpr ⟨(s_iald (by decide +kernel : decode cX11_cellHere 34 = .ok (.iaload, 1))).to, ?_⟩
  refine List.forall_mem_cons.mpr ⟨(s_iconst (by decide +kernel : decode cX11_cellHere 35 = .ok (.iconst 1, 1)) (by decide)).to, ?_⟩
  refine List.forall_mem_cons.mpr ⟨(s_isub (by decide +kernel : decode cX11_cellHere 36 = .ok (.isub, 1))).to, ?_⟩
  refine List.forall_mem_cons.mpr ⟨z_cv (by decide +kernel : decode cX11_cellHere 37 = .ok (.invokevirtual 385, 3)) mt182 wd1626 (ci := 11) rfl (by decide), ?_⟩
  refine List.forall_mem_cons.mpr ⟨(s_istoren (by decide +kernel : decode cX11_cellHere 40 = .ok (.istore_n 2, 1)) rfl (by decide)).to, ?_⟩
  refine List.forall_mem_cons.mpr ⟨(s_aloadn (by decide +kernel : decode cX11_cellHere 41 = .ok (.aload_n 0, 1)) rfl).to, ?_⟩
  refine List.forall_mem_cons.mpr ⟨(s_get (ci := 11) (k := 13) (by decide +kernel : decode cX11_cellHere 42 = .ok (.getfield 51, 3)) rfl (by decide) wd1346 inX11 rfl).to, ?_⟩
  refine List.forall_mem_cons.mpr ⟨(s_aloadn (by decide +kernel : decode cX11_cellHere 45 = .ok (.aload_n 0, 1)) rfl).to, ?_⟩
  refine List.forall_mem_cons.mpr ⟨(s_get (ci := 11) (k := 41) (by decide +kernel : decode cX11_cellHere 46 = .ok (.getfield 137, 3)) rfl (by decide) wd1374 inX11 rfl).to, ?_⟩
  refine List.forall_mem_cons.mpr ⟨(s_iald (by decide +kernel : decode cX11_cellHere 49 = .ok (.iaload, 1))).to, ?_⟩
  refine List.forall_mem_cons.mpr ⟨(s_iloadn (by decide +kernel : decode cX11_cellHere 50 = .ok (.iload_n 2, 1)) rfl).to, ?_⟩
  refine List.forall_mem_cons.mpr ⟨(s_imul (by decide +kernel : decode cX11_cellHere 51 = .ok (.imul, 1))).to, ?_⟩
  refine List.forall_mem_cons.mpr ⟨(s_iloadn (by decide +kernel : decode cX11_cellHere 52 = .ok (.iload_n 1, 1)) rfl).to, ?_⟩
  refine List.forall_mem_cons.mpr ⟨(s_iadd (by decide +kernel : decode cX11_cellHere 53 = .ok (.iadd, 1))).to, ?_⟩
  refine List.forall_mem_cons.mpr ⟨s_iret (by decide +kernel : decode cX11_cellHere 54 = .ok (.ireturn, 1)) rfl, ?_⟩
  exact fun _ h => absurd h List.not_mem_nil
theorem sn_tX11_says_0 : ∀ q ∈ tX11_says_0, am_Snd am_P0 RX11 cX11_says 6 (Option.none : Option FieldType) "says" q.1 q.2 := by
  unfold tX11_says_0
  refine List.forall_mem_cons.mpr ⟨(s_aloadn (by decide +kernel : decode cX11_says 0 = .ok (.aload_n 0, 1)) rfl).to, ?_⟩
  refine List.forall_mem_cons.mpr ⟨(s_aloadn (by decide +kernel : decode cX11_says 1 = .ok (.aload_n 0, 1)) rfl).to, ?_⟩
  refine List.forall_mem_cons.mpr ⟨(s_get (ci := 11) (k := 25) (by decide +kernel : decode cX11_says 2 = .ok (.getfield 88, 3)) rfl (by decide) wd1358 inX11 rfl).to, ?_⟩
  refine List.forall_mem_cons.mpr ⟨(s_aloadn (by decide +kernel : decode cX11_says 5 = .ok (.aload_n 0, 1)) rfl).to, ?_⟩
  refine List.forall_mem_cons.mpr ⟨(s_get (ci := 11) (k := 41) (by decide +kernel : decode cX11_says 6 = .ok (.getfield 137, 3)) rfl (by decide) wd1374 inX11 rfl).to, ?_⟩
  refine List.forall_mem_cons.mpr ⟨(s_iald (by decide +kernel : decode cX11_says 9 = .ok (.iaload, 1))).to, ?_⟩
  refine List.forall_mem_cons.mpr ⟨(s_bipush (by decide +kernel : decode cX11_says 10 = .ok (.bipush 96, 2)) (by decide)).to, ?_⟩
  refine List.forall_mem_cons.mpr ⟨(s_icmp_ne (by decide +kernel : decode cX11_says 12 = .ok (.if_icmp .ne 7, 3)) (by decide)).to, ?_⟩
  refine List.forall_mem_cons.mpr ⟨(s_iconst (by decide +kernel : decode cX11_says 15 = .ok (.iconst 1, 1)) (by decide)).to, ?_⟩
  refine List.forall_mem_cons.mpr ⟨(s_goto (by decide +kernel : decode cX11_says 16 = .ok (.goto 4, 3)) (by decide)).to, ?_⟩
  refine List.forall_mem_cons.mpr ⟨(s_iconst (by decide +kernel : decode cX11_says 19 = .ok (.iconst 0, 1)) (by decide)).to, ?_⟩
  refine List.forall_mem_cons.mpr ⟨z_cv (by decide +kernel : decode cX11_says 20 = .ok (.invokevirtual 395, 3)) mt193 wd1653 (ci := 11) rfl (by decide), ?_⟩
  refine List.forall_mem_cons.mpr ⟨(s_if_ne (by decide +kernel : decode cX11_says 23 = .ok (.ifCond .ne 4, 3)) (by decide)).to, ?_⟩
  refine List.forall_mem_cons.mpr ⟨s_vret (by decide +kernel : decode cX11_says 26 = .ok (.return_, 1)) rfl, ?_⟩
  refine List.forall_mem_cons.mpr ⟨(s_aloadn (by decide +kernel : decode cX11_says 27 = .ok (.aload_n 0, 1)) rfl).to, ?_⟩
  refine List.forall_mem_cons.mpr ⟨z_cv (by decide +kernel : decode cX11_says 28 = .ok (.invokevirtual 413, 3)) mt196 wd1747 (ci := 11) rfl (by decide), ?_⟩
  refine List.forall_mem_cons.mpr ⟨(s_istoren (by decide +kernel : decode cX11_says 31 = .ok (.istore_n 1, 1)) rfl (by decide)).to, ?_⟩
  refine List.forall_mem_cons.mpr ⟨(s_aloadn (by decide +kernel : decode cX11_says 32 = .ok (.aload_n 0, 1)) rfl).to, ?_⟩
  refine List.forall_mem_cons.mpr ⟨(s_get (ci := 11) (k := 8) (by decide +kernel : decode cX11_says 33 = .ok (.getfield 36, 3)) rfl (by decide) wd1341 inX11 rfl).to, ?_⟩
  refine List.forall_mem_cons.mpr ⟨(s_if_ne (by decide +kernel : decode cX11_says 36 = .ok (.ifCond .ne 60, 3)) (by decide)).to, ?_⟩
  refine List.forall_mem_cons.mpr ⟨(s_aloadn (by decide +kernel : decode cX11_says 39 = .ok (.aload_n 0, 1)) rfl).to, ?_⟩
  refine List.forall_mem_cons.mpr ⟨(s_get (ci := 11) (k := 3) (by decide +kernel : decode cX11_says 40 = .ok (.getfield 20, 3)) rfl (by decide) wd1336 inX11 rfl).to, ?_⟩
  refine List.forall_mem_cons.mpr ⟨(s_iconst (by decide +kernel : decode cX11_says 43 = .ok (.iconst 2, 1)) (by decide)).to, ?_⟩
  refine List.forall_mem_cons.mpr ⟨(s_icmp_ne (by decide +kernel : decode cX11_says 44 = .ok (.if_icmp .ne 52, 3)) (by decide)).to, ?_⟩
  refine List.forall_mem_cons.mpr ⟨(s_aloadn (by decide +kernel : decode cX11_says 47 = .ok (.aload_n 0, 1)) rfl).to, ?_⟩
  refine List.forall_mem_cons.mpr ⟨(s_get (ci := 11) (k := 6) (by decide +kernel : decode cX11_says 48 = .ok (.getfield 29, 3)) rfl (by decide) wd1339 inX11 rfl).to, ?_⟩
  refine List.forall_mem_cons.mpr ⟨(s_iconst (by decide +kernel : decode cX11_says 51 = .ok (.iconst 0, 1)) (by decide)).to, ?_⟩
  refine List.forall_mem_cons.mpr ⟨(s_bipush (by decide +kernel : decode cX11_says 52 = .ok (.bipush 47, 2)) (by decide)).to, ?_⟩
  refine List.forall_mem_cons.mpr ⟨z_cs (by decide +kernel : decode cX11_says 54 = .ok (.invokestatic 343, 3)) mt167 wd1630, ?_⟩
  refine List.forall_mem_cons.mpr ⟨(s_if_eq (by decide +kernel : decode cX11_says 57 = .ok (.ifCond .eq 39, 3)) (by decide)).to, ?_⟩
  refine List.forall_mem_cons.mpr ⟨(s_aloadn (by decide +kernel : decode cX11_says 60 = .ok (.aload_n 0, 1)) rfl).to, ?_⟩
  refine List.forall_mem_cons.mpr ⟨(s_get (ci := 11) (k := 26) (by decide +kernel : decode cX11_says 61 = .ok (.getfield 91, 3)) rfl (by decide) wd1359 inX11 rfl).to, ?_⟩
  refine List.forall_mem_cons.mpr ⟨(s_sipush (by decide +kernel : decode cX11_says 64 = .ok (.sipush 384, 3)) (by decide)).to, ?_⟩
  refine List.forall_mem_cons.mpr ⟨(s_aloadn (by decide +kernel : decode cX11_says 67 = .ok (.aload_n 0, 1)) rfl).to, ?_⟩
  refine List.forall_mem_cons.mpr ⟨(s_get (ci := 11) (k := 41) (by decide +kernel : decode cX11_says 68 = .ok (.getfield 137, 3)) rfl (by decide) wd1374 inX11 rfl).to, ?_⟩
  refine List.forall_mem_cons.mpr ⟨(s_imul (by decide +kernel : decode cX11_says 71 = .ok (.imul, 1))).to, ?_⟩
  refine List.forall_mem_cons.mpr ⟨(s_bipush (by decide +kernel : decode cX11_says 72 = .ok (.bipush 48, 2)) (by decide)).to, ?_⟩
  refine List.forall_mem_cons.mpr ⟨(s_iloadn (by decide +kernel : decode cX11_says 74 = .ok (.iload_n 1, 1)) rfl).to, ?_⟩
  refine List.forall_mem_cons.mpr ⟨(s_imul (by decide +kernel : decode cX11_says 75 = .ok (.imul, 1))).to, ?_⟩
  refine List.forall_mem_cons.mpr ⟨(s_iadd (by decide +kernel : decode cX11_says 76 = .ok (.iadd, 1))).to, ?_⟩
  refine List.forall_mem_cons.mpr ⟨(s_aloadn (by decide +kernel : decode cX11_says 77 = .ok (.aload_n 0, 1)) rfl).to, ?_⟩
  refine List.forall_mem_cons.mpr ⟨(s_get (ci := 11) (k := 6) (by decide +kernel : decode cX11_says 78 = .ok (.getfield 29, 3)) rfl (by decide) wd1339 inX11 rfl).to, ?_⟩
  refine List.forall_mem_cons.mpr ⟨(s_iadd (by decide +kernel : decode cX11_says 81 = .ok (.iadd, 1))).to, ?_⟩
  refine List.forall_mem_cons.mpr ⟨(s_iald (by decide +kernel : decode cX11_says 82 = .ok (.iaload, 1))).to, ?_⟩
  refine List.forall_mem_cons.mpr ⟨(s_iconst (by decide +kernel : decode cX11_says 83 = .ok (.iconst (-1), 1)) (by decide)).to, ?_⟩
  refine List.forall_mem_cons.mpr ⟨(s_icmp_eq (by decide +kernel : decode cX11_says 84 = .ok (.if_icmp .eq 12, 3)) (by decide)).to, ?_⟩
  refine List.forall_mem_cons.mpr ⟨(s_aloadn (by decide +kernel : decode cX11_says 87 = .ok (.aload_n 0, 1)) rfl).to, ?_⟩
  refine List.forall_mem_cons.mpr ⟨(s_iconst (by decide +kernel : decode cX11_says 88 = .ok (.iconst 3, 1)) (by decide)).to, ?_⟩
  refine List.forall_mem_cons.mpr ⟨(s_aloadn (by decide +kernel : decode cX11_says 89 = .ok (.aload_n 0, 1)) rfl).to, ?_⟩
  refine List.forall_mem_cons.mpr ⟨(s_get (ci := 11) (k := 4) (by decide +kernel : decode cX11_says 90 = .ok (.getfield 23, 3)) rfl (by decide) wd1337 inX11 rfl).to, ?_⟩
  refine List.forall_mem_cons.mpr ⟨z_cv (by decide +kernel : decode cX11_says 93 = .ok (.invokevirtual 279, 3)) mt171 wd1613 (ci := 11) rfl (by decide), ?_⟩
  refine List.forall_mem_cons.mpr ⟨(s_aloadn (by decide +kernel : decode cX11_says 96 = .ok (.aload_n 0, 1)) rfl).to, ?_⟩
  refine List.forall_mem_cons.mpr ⟨(s_iconst (by decide +kernel : decode cX11_says 97 = .ok (.iconst 0, 1)) (by decide)).to, ?_⟩
  refine List.forall_mem_cons.mpr ⟨(s_bipush (by decide +kernel : decode cX11_says 98 = .ok (.bipush 47, 2)) (by decide)).to, ?_⟩
  refine List.forall_mem_cons.mpr ⟨z_cv (by decide +kernel : decode cX11_says 100 = .ok (.invokevirtual 385, 3)) mt182 wd1626 (ci := 11) rfl (by decide), ?_⟩
  refine List.forall_mem_cons.mpr ⟨(s_istoren (by decide +kernel : decode cX11_says 103 = .ok (.istore_n 2, 1)) rfl (by decide)).to, ?_⟩
  refine List.forall_mem_cons.mpr ⟨(s_sipush (by decide +kernel : decode cX11_says 104 = .ok (.sipush 384, 3)) (by decide)).to, ?_⟩
  refine List.forall_mem_cons.mpr ⟨(s_aloadn (by decide +kernel : decode cX11_says 107 = .ok (.aload_n 0, 1)) rfl).to, ?_⟩
  refine List.forall_mem_cons.mpr ⟨(s_get (ci := 11) (k := 41) (by decide +kernel : decode cX11_says 108 = .ok (.getfield 137, 3)) rfl (by decide) wd1374 inX11 rfl).to, ?_⟩
  refine List.forall_mem_cons.mpr ⟨(s_imul (by decide +kernel : decode cX11_says 111 = .ok (.imul, 1))).to, ?_⟩
  exact fun _ h => absurd h List.not_mem_nil
theorem sn_tX11_says_1 : ∀ q ∈ tX11_says_1, am_Snd am_P0 RX11 cX11_says 6 (Option.none : Option FieldType) "says" q.1 q.2 := by
  unfold tX11_says_1
  refine List.forall_mem_cons.mpr ⟨(s_bipush (by decide +kernel : decode cX11_says 112 = .ok (.bipush 48, 2)) (by decide)).to, ?_⟩
  refine List.forall_mem_cons.mpr ⟨(s_iloadn (by decide +kernel : decode cX11_says 114 = .ok (.iload_n 1, 1)) rfl).to, ?_⟩
  refine List.forall_mem_cons.mpr ⟨(s_imul (by decide +kernel : decode cX11_says 115 = .ok (.imul, 1))).to, ?_⟩
  refine List.forall_mem_cons.mpr ⟨(s_iadd (by decide +kernel : decode cX11_says 116 = .ok (.iadd, 1))).to, ?_⟩
  refine List.forall_mem_cons.mpr ⟨(s_iloadn (by decide +kernel : decode cX11_says 117 = .ok (.iload_n 2, 1)) rfl).to, ?_⟩
  refine List.forall_mem_cons.mpr ⟨(s_iadd (by decide +kernel : decode cX11_says 118 = .ok (.iadd, 1))).to, ?_⟩
  refine List.forall_mem_cons.mpr ⟨(s_istoren (by decide +kernel : decode cX11_says 119 = .ok (.istore_n 3, 1)) rfl (by decide)).to, ?_⟩
  refine List.forall_mem_cons.mpr ⟨(s_aloadn (by decide +kernel : decode cX11_says 120 = .ok (.aload_n 0, 1)) rfl).to, ?_⟩
  refine List.forall_mem_cons.mpr ⟨z_cv (by decide +kernel : decode cX11_says 121 = .ok (.invokevirtual 417, 3)) mt200 wd1751 (ci := 11) rfl (by decide), ?_⟩
  refine List.forall_mem_cons.mpr ⟨(s_istore (by decide +kernel : decode cX11_says 124 = .ok (.istore 4, 2)) (by decide)).to, ?_⟩
  refine List.forall_mem_cons.mpr ⟨(s_aloadn (by decide +kernel : decode cX11_says 126 = .ok (.aload_n 0, 1)) rfl).to, ?_⟩
  refine List.forall_mem_cons.mpr ⟨(s_ldc2 (by decide +kernel : decode cX11_says 127 = .ok (.ldc2_w 311, 3)) wd1733).to, ?_⟩
  refine List.forall_mem_cons.mpr ⟨z_cv (by decide +kernel : decode cX11_says 130 = .ok (.invokevirtual 406, 3)) mt194 wd1708 (ci := 11) rfl (by decide), ?_⟩
  refine List.forall_mem_cons.mpr ⟨(s_aloadn (by decide +kernel : decode cX11_says 133 = .ok (.aload_n 0, 1)) rfl).to, ?_⟩
  refine List.forall_mem_cons.mpr ⟨(s_iconst (by decide +kernel : decode cX11_says 134 = .ok (.iconst 0, 1)) (by decide)).to, ?_⟩
  refine List.forall_mem_cons.mpr ⟨(s_iconst (by decide +kernel : decode cX11_says 135 = .ok (.iconst 1, 1)) (by decide)).to, ?_⟩
  refine List.forall_mem_cons.mpr ⟨z_cv (by decide +kernel : decode cX11_says 136 = .ok (.invokevirtual 385, 3)) mt182 wd1626 (ci := 11) rfl (by decide), ?_⟩
  refine List.forall_mem_cons.mpr ⟨(s_istore (by decide +kernel : decode cX11_says 139 = .ok (.istore 5, 2)) (by decide)).to, ?_⟩
  refine List.forall_mem_cons.mpr ⟨(s_aloadn (by decide +kernel : decode cX11_says 141 = .ok (.aload_n 0, 1)) rfl).to, ?_⟩
  refine List.forall_mem_cons.mpr ⟨(s_get (ci := 11) (k := 8) (by decide +kernel : decode cX11_says 142 = .ok (.getfield 36, 3)) rfl (by decide) wd1341 inX11 rfl).to, ?_⟩
  refine List.forall_mem_cons.mpr ⟨(s_if_le (by decide +kernel : decode cX11_says 145 = .ok (.ifCond .le 4, 3)) (by decide)).to, ?_⟩
  refine List.forall_mem_cons.mpr ⟨s_vret (by decide +kernel : decode cX11_says 148 = .ok (.return_, 1)) rfl, ?_⟩
  refine List.forall_mem_cons.mpr ⟨(s_aloadn (by decide +kernel : decode cX11_says 149 = .ok (.aload_n 0, 1)) rfl).to, ?_⟩
  refine List.forall_mem_cons.mpr ⟨(s_get (ci := 11) (k := 26) (by decide +kernel : decode cX11_says 150 = .ok (.getfield 91, 3)) rfl (by decide) wd1359 inX11 rfl).to, ?_⟩
  refine List.forall_mem_cons.mpr ⟨(s_iloadn (by decide +kernel : decode cX11_says 153 = .ok (.iload_n 3, 1)) rfl).to, ?_⟩
  refine List.forall_mem_cons.mpr ⟨(s_iload (by decide +kernel : decode cX11_says 154 = .ok (.iload 4, 2))).to, ?_⟩
  refine List.forall_mem_cons.mpr ⟨(s_iast (by decide +kernel : decode cX11_says 156 = .ok (.iastore, 1))).to, ?_⟩
  refine List.forall_mem_cons.mpr ⟨(s_aloadn (by decide +kernel : decode cX11_says 157 = .ok (.aload_n 0, 1)) rfl).to, ?_⟩
  refine List.forall_mem_cons.mpr ⟨(s_get (ci := 11) (k := 27) (by decide +kernel : decode cX11_says 158 = .ok (.getfield 94, 3)) rfl (by decide) wd1360 inX11 rfl).to, ?_⟩
  refine List.forall_mem_cons.mpr ⟨(s_iloadn (by decide +kernel : decode cX11_says 161 = .ok (.iload_n 3, 1)) rfl).to, ?_⟩
  refine List.forall_mem_cons.mpr ⟨(s_iload (by decide +kernel : decode cX11_says 162 = .ok (.iload 5, 2))).to, ?_⟩
  refine List.forall_mem_cons.mpr ⟨(s_iconst (by decide +kernel : decode cX11_says 164 = .ok (.iconst 1, 1)) (by decide)).to, ?_⟩
  refine List.forall_mem_cons.mpr ⟨(s_icmp_ne (by decide +kernel : decode cX11_says 165 = .ok (.if_icmp .ne 7, 3)) (by decide)).to, ?_⟩
  refine List.forall_mem_cons.mpr ⟨(s_iconst (by decide +kernel : decode cX11_says 168 = .ok (.iconst 1, 1)) (by decide)).to, ?_⟩
  refine List.forall_mem_cons.mpr ⟨(s_goto (by decide +kernel : decode cX11_says 169 = .ok (.goto 4, 3)) (by decide)).to, ?_⟩
  refine List.forall_mem_cons.mpr ⟨(s_iconst (by decide +kernel : decode cX11_says 172 = .ok (.iconst 0, 1)) (by decide)).to, ?_⟩
  refine List.forall_mem_cons.mpr ⟨(s_zast (by decide +kernel : decode cX11_says 173 = .ok (.bastore, 1))).to, ?_⟩
  refine List.forall_mem_cons.mpr ⟨(s_aloadn (by decide +kernel : decode cX11_says 174 = .ok (.aload_n 0, 1)) rfl).to, ?_⟩
  refine List.forall_mem_cons.mpr ⟨(s_get (ci := 11) (k := 25) (by decide +kernel : decode cX11_says 175 = .ok (.getfield 88, 3)) rfl (by decide) wd1358 inX11 rfl).to, ?_⟩
  refine List.forall_mem_cons.mpr ⟨(s_aloadn (by decide +kernel : decode cX11_says 178 = .ok (.aload_n 0, 1)) rfl).to, ?_⟩
  refine List.forall_mem_cons.mpr ⟨(s_get (ci := 11) (k := 41) (by decide +kernel : decode cX11_says 179 = .ok (.getfield 137, 3)) rfl (by decide) wd1374 inX11 rfl).to, ?_⟩
  refine List.forall_mem_cons.mpr ⟨(s_dup2 (by decide +kernel : decode cX11_says 182 = .ok (.dup2, 1))).to, ?_⟩
  refine List.forall_mem_cons.mpr ⟨(s_iald (by decide +kernel : decode cX11_says 183 = .ok (.iaload, 1))).to, ?_⟩
  refine List.forall_mem_cons.mpr ⟨(s_iconst (by decide +kernel : decode cX11_says 184 = .ok (.iconst 1, 1)) (by decide)).to, ?_⟩
  refine List.forall_mem_cons.mpr ⟨(s_iadd (by decide +kernel : decode cX11_says 185 = .ok (.iadd, 1))).to, ?_⟩
  refine List.forall_mem_cons.mpr ⟨(s_iast (by decide +kernel : decode cX11_says 186 = .ok (.iastore, 1))).to, ?_⟩
  refine List.forall_mem_cons.mpr ⟨s_vret (by decide +kernel : decode cX11_says 187 = .ok (.return_, 1)) rfl, ?_⟩
  exact fun _ h => absurd h List.not_mem_nil
theorem sn_tX11_says : ∀ q ∈ tX11_says, am_Snd am_P0 RX11 cX11_says 6 (Option.none : Option FieldType) "says" q.1 q.2 := by
  unfold tX11_says
  exact List.forall_mem_append.mpr ⟨sn_tX11_says_0, sn_tX11_says_1⟩
theorem sn_tX11_book_0 : ∀ q ∈ tX11_book_0, am_Snd am_P0 RX11 cX11_book 2 (Option.none : Option FieldType) "book" q.1 q.2 := by
  unfold tX11_book_0
  refine List.forall_mem_cons.mpr ⟨(s_aloadn (by decide +kernel : decode cX11_book 0 = .ok (.aload_n 0, 1)) rfl).to, ?_⟩
  refine List.forall_mem_cons.mpr ⟨(s_aloadn (by decide +kernel : decode cX11_book 1 = .ok (.aload_n 0, 1)) rfl).to, ?_⟩
  refine List.forall_mem_cons.mpr ⟨(s_get (ci := 11) (k := 28) (by decide +kernel : decode cX11_book 2 = .ok (.getfield 98, 3)) rfl (by decide) wd1361 inX11 rfl).to, ?_⟩
  refine List.forall_mem_cons.mpr ⟨(s_aloadn (by decide +kernel : decode cX11_book 5 = .ok (.aload_n 0, 1)) rfl).to, ?_⟩
  refine List.forall_mem_cons.mpr ⟨(s_get (ci := 11) (k := 41) (by decide +kernel : decode cX11_book 6 = .ok (.getfield 137, 3)) rfl (by decide) wd1374 inX11 rfl).to, ?_⟩
  refine List.forall_mem_cons.mpr ⟨(s_iald (by decide +kernel : decode cX11_book 9 = .ok (.iaload, 1))).to, ?_⟩
  refine List.forall_mem_cons.mpr ⟨(s_bipush (by decide +kernel : decode cX11_book 10 = .ok (.bipush 12, 2)) (by decide)).to, ?_⟩
  refine List.forall_mem_cons.mpr ⟨(s_icmp_ne (by decide +kernel : decode cX11_book 12 = .ok (.if_icmp .ne 7, 3)) (by decide)).to, ?_⟩
  refine List.forall_mem_cons.mpr ⟨(s_iconst (by decide +kernel : decode cX11_book 15 = .ok (.iconst 1, 1)) (by decide)).to, ?_⟩
  refine List.forall_mem_cons.mpr ⟨(s_goto (by decide +kernel : decode cX11_book 16 = .ok (.goto 4, 3)) (by decide)).to, ?_⟩
  refine List.forall_mem_cons.mpr ⟨(s_iconst (by decide +kernel : decode cX11_book 19 = .ok (.iconst 0, 1)) (by decide)).to, ?_⟩
  refine List.forall_mem_cons.mpr ⟨z_cv (by decide +kernel : decode cX11_book 20 = .ok (.invokevirtual 395, 3)) mt193 wd1653 (ci := 11) rfl (by decide), ?_⟩
  refine List.forall_mem_cons.mpr ⟨(s_if_ne (by decide +kernel : decode cX11_book 23 = .ok (.ifCond .ne 4, 3)) (by decide)).to, ?_⟩
  refine List.forall_mem_cons.mpr ⟨s_vret (by decide +kernel : decode cX11_book 26 = .ok (.return_, 1)) rfl, ?_⟩
  refine List.forall_mem_cons.mpr ⟨(s_bipush (by decide +kernel : decode cX11_book 27 = .ok (.bipush 12, 2)) (by decide)).to, ?_⟩
  refine List.forall_mem_cons.mpr ⟨(s_aloadn (by decide +kernel : decode cX11_book 29 = .ok (.aload_n 0, 1)) rfl).to, ?_⟩
  refine List.forall_mem_cons.mpr ⟨(s_get (ci := 11) (k := 41) (by decide +kernel : decode cX11_book 30 = .ok (.getfield 137, 3)) rfl (by decide) wd1374 inX11 rfl).to, ?_⟩
  refine List.forall_mem_cons.mpr ⟨(s_imul (by decide +kernel : decode cX11_book 33 = .ok (.imul, 1))).to, ?_⟩
  refine List.forall_mem_cons.mpr ⟨(s_aloadn (by decide +kernel : decode cX11_book 34 = .ok (.aload_n 0, 1)) rfl).to, ?_⟩
  refine List.forall_mem_cons.mpr ⟨(s_get (ci := 11) (k := 28) (by decide +kernel : decode cX11_book 35 = .ok (.getfield 98, 3)) rfl (by decide) wd1361 inX11 rfl).to, ?_⟩
  refine List.forall_mem_cons.mpr ⟨(s_aloadn (by decide +kernel : decode cX11_book 38 = .ok (.aload_n 0, 1)) rfl).to, ?_⟩
  refine List.forall_mem_cons.mpr ⟨(s_get (ci := 11) (k := 41) (by decide +kernel : decode cX11_book 39 = .ok (.getfield 137, 3)) rfl (by decide) wd1374 inX11 rfl).to, ?_⟩
  refine List.forall_mem_cons.mpr ⟨(s_iald (by decide +kernel : decode cX11_book 42 = .ok (.iaload, 1))).to, ?_⟩
  refine List.forall_mem_cons.mpr ⟨(s_iadd (by decide +kernel : decode cX11_book 43 = .ok (.iadd, 1))).to, ?_⟩
  refine List.forall_mem_cons.mpr ⟨(s_istoren (by decide +kernel : decode cX11_book 44 = .ok (.istore_n 1, 1)) rfl (by decide)).to, ?_⟩
  refine List.forall_mem_cons.mpr ⟨(s_aloadn (by decide +kernel : decode cX11_book 45 = .ok (.aload_n 0, 1)) rfl).to, ?_⟩
  refine List.forall_mem_cons.mpr ⟨(s_get (ci := 11) (k := 29) (by decide +kernel : decode cX11_book 46 = .ok (.getfield 101, 3)) rfl (by decide) wd1362 inX11 rfl).to, ?_⟩
  refine List.forall_mem_cons.mpr ⟨(s_iloadn (by decide +kernel : decode cX11_book 49 = .ok (.iload_n 1, 1)) rfl).to, ?_⟩
  refine List.forall_mem_cons.mpr ⟨(s_aloadn (by decide +kernel : decode cX11_book 50 = .ok (.aload_n 0, 1)) rfl).to, ?_⟩
  refine List.forall_mem_cons.mpr ⟨z_cv (by decide +kernel : decode cX11_book 51 = .ok (.invokevirtual 413, 3)) mt196 wd1747 (ci := 11) rfl (by decide), ?_⟩
  refine List.forall_mem_cons.mpr ⟨(s_iast (by decide +kernel : decode cX11_book 54 = .ok (.iastore, 1))).to, ?_⟩
  refine List.forall_mem_cons.mpr ⟨(s_aloadn (by decide +kernel : decode cX11_book 55 = .ok (.aload_n 0, 1)) rfl).to, ?_⟩
  refine List.forall_mem_cons.mpr ⟨(s_get (ci := 11) (k := 30) (by decide +kernel : decode cX11_book 56 = .ok (.getfield 104, 3)) rfl (by decide) wd1363 inX11 rfl).to, ?_⟩
  refine List.forall_mem_cons.mpr ⟨(s_iloadn (by decide +kernel : decode cX11_book 59 = .ok (.iload_n 1, 1)) rfl).to, ?_⟩
  refine List.forall_mem_cons.mpr ⟨(s_aloadn (by decide +kernel : decode cX11_book 60 = .ok (.aload_n 0, 1)) rfl).to, ?_⟩
  refine List.forall_mem_cons.mpr ⟨z_cv (by decide +kernel : decode cX11_book 61 = .ok (.invokevirtual 417, 3)) mt200 wd1751 (ci := 11) rfl (by decide), ?_⟩
  refine List.forall_mem_cons.mpr ⟨(s_iast (by decide +kernel : decode cX11_book 64 = .ok (.iastore, 1))).to, ?_⟩
  refine List.forall_mem_cons.mpr ⟨(s_aloadn (by decide +kernel : decode cX11_book 65 = .ok (.aload_n 0, 1)) rfl).to, ?_⟩
  refine List.forall_mem_cons.mpr ⟨(s_ldc2 (by decide +kernel : decode cX11_book 66 = .ok (.ldc2_w 315, 3)) wd1735).to, ?_⟩
  refine List.forall_mem_cons.mpr ⟨z_cv (by decide +kernel : decode cX11_book 69 = .ok (.invokevirtual 406, 3)) mt194 wd1708 (ci := 11) rfl (by decide), ?_⟩
  refine List.forall_mem_cons.mpr ⟨(s_aloadn (by decide +kernel : decode cX11_book 72 = .ok (.aload_n 0, 1)) rfl).to, ?_⟩
  refine List.forall_mem_cons.mpr ⟨(s_get (ci := 11) (k := 31) (by decide +kernel : decode cX11_book 73 = .ok (.getfield 107, 3)) rfl (by decide) wd1364 inX11 rfl).to, ?_⟩
  refine List.forall_mem_cons.mpr ⟨(s_iloadn (by decide +kernel : decode cX11_book 76 = .ok (.iload_n 1, 1)) rfl).to, ?_⟩
  refine List.forall_mem_cons.mpr ⟨(s_aloadn (by decide +kernel : decode cX11_book 77 = .ok (.aload_n 0, 1)) rfl).to, ?_⟩
  refine List.forall_mem_cons.mpr ⟨(s_iconst (by decide +kernel : decode cX11_book 78 = .ok (.iconst 0, 1)) (by decide)).to, ?_⟩
  refine List.forall_mem_cons.mpr ⟨(s_bipush (by decide +kernel : decode cX11_book 79 = .ok (.bipush 47, 2)) (by decide)).to, ?_⟩
  refine List.forall_mem_cons.mpr ⟨z_cv (by decide +kernel : decode cX11_book 81 = .ok (.invokevirtual 385, 3)) mt182 wd1626 (ci := 11) rfl (by decide), ?_⟩
  refine List.forall_mem_cons.mpr ⟨(s_iast (by decide +kernel : decode cX11_book 84 = .ok (.iastore, 1))).to, ?_⟩
  refine List.forall_mem_cons.mpr ⟨(s_aloadn (by decide +kernel : decode cX11_book 85 = .ok (.aload_n 0, 1)) rfl).to, ?_⟩
  refine List.forall_mem_cons.mpr ⟨(s_ldc2 (by decide +kernel : decode cX11_book 86 = .ok (.ldc2_w 317, 3)) wd1736).to, ?_⟩
  refine List.forall_mem_cons.mpr ⟨z_cv (by decide +kernel : decode cX11_book 89 = .ok (.invokevirtual 406, 3)) mt194 wd1708 (ci := 11) rfl (by decide), ?_⟩
  refine List.forall_mem_cons.mpr ⟨(s_aloadn (by decide +kernel : decode cX11_book 92 = .ok (.aload_n 0, 1)) rfl).to, ?_⟩
  refine List.forall_mem_cons.mpr ⟨(s_get (ci := 11) (k := 32) (by decide +kernel : decode cX11_book 93 = .ok (.getfield 110, 3)) rfl (by decide) wd1365 inX11 rfl).to, ?_⟩
  refine List.forall_mem_cons.mpr ⟨(s_iloadn (by decide +kernel : decode cX11_book 96 = .ok (.iload_n 1, 1)) rfl).to, ?_⟩
  refine List.forall_mem_cons.mpr ⟨(s_aloadn (by decide +kernel : decode cX11_book 97 = .ok (.aload_n 0, 1)) rfl).to, ?_⟩
  refine List.forall_mem_cons.mpr ⟨(s_aloadn (by decide +kernel : decode cX11_book 98 = .ok (.aload_n 0, 1)) rfl).to, ?_⟩
  refine List.forall_mem_cons.mpr ⟨(s_get (ci := 11) (k := 31) (by decide +kernel : decode cX11_book 99 = .ok (.getfield 107, 3)) rfl (by decide) wd1364 inX11 rfl).to, ?_⟩
  refine List.forall_mem_cons.mpr ⟨(s_iloadn (by decide +kernel : decode cX11_book 102 = .ok (.iload_n 1, 1)) rfl).to, ?_⟩
  refine List.forall_mem_cons.mpr ⟨(s_iald (by decide +kernel : decode cX11_book 103 = .ok (.iaload, 1))).to, ?_⟩
  refine List.forall_mem_cons.mpr ⟨(s_bipush (by decide +kernel : decode cX11_book 104 = .ok (.bipush 47, 2)) (by decide)).to, ?_⟩
  exact fun _ h => absurd h List.not_mem_nil
theorem sn_tX11_book_1 : ∀ q ∈ tX11_book_1, am_Snd am_P0 RX11 cX11_book 2 (Option.none : Option FieldType) "book" q.1 q.2 := by
  unfold tX11_book_1
  refine List.forall_mem_cons.mpr ⟨z_cv (by decide +kernel : decode cX11_book 106 = .ok (.invokevirtual 385, 3)) mt182 wd1626 (ci := 11) rfl (by decide), ?_⟩
  refine List.forall_mem_cons.mpr ⟨(s_iast (by decide +kernel : decode cX11_book 109 = .ok (.iastore, 1))).to, ?_⟩
  refine List.forall_mem_cons.mpr ⟨(s_aloadn (by decide +kernel : decode cX11_book 110 = .ok (.aload_n 0, 1)) rfl).to, ?_⟩
  refine List.forall_mem_cons.mpr ⟨(s_get (ci := 11) (k := 8) (by decide +kernel : decode cX11_book 111 = .ok (.getfield 36, 3)) rfl (by decide) wd1341 inX11 rfl).to, ?_⟩
  refine List.forall_mem_cons.mpr ⟨(s_if_ne (by decide +kernel : decode cX11_book 114 = .ok (.ifCond .ne 16, 3)) (by decide)).to, ?_⟩
  refine List.forall_mem_cons.mpr ⟨(s_aloadn (by decide +kernel : decode cX11_book 117 = .ok (.aload_n 0, 1)) rfl).to, ?_⟩
  refine List.forall_mem_cons.mpr ⟨(s_get (ci := 11) (k := 28) (by decide +kernel : decode cX11_book 118 = .ok (.getfield 98, 3)) rfl (by decide) wd1361 inX11 rfl).to, ?_⟩
  refine List.forall_mem_cons.mpr ⟨(s_aloadn (by decide +kernel : decode cX11_book 121 = .ok (.aload_n 0, 1)) rfl).to, ?_⟩
  refine List.forall_mem_cons.mpr ⟨(s_get (ci := 11) (k := 41) (by decide +kernel : decode cX11_book 122 = .ok (.getfield 137, 3)) rfl (by decide) wd1374 inX11 rfl).to, ?_⟩
  refine List.forall_mem_cons.mpr ⟨(s_dup2 (by decide +kernel : decode cX11_book 125 = .ok (.dup2, 1))).to, ?_⟩
  refine List.forall_mem_cons.mpr ⟨(s_iald (by decide +kernel : decode cX11_book 126 = .ok (.iaload, 1))).to, ?_⟩
  refine List.forall_mem_cons.mpr ⟨(s_iconst (by decide +kernel : decode cX11_book 127 = .ok (.iconst 1, 1)) (by decide)).to, ?_⟩
  refine List.forall_mem_cons.mpr ⟨(s_iadd (by decide +kernel : decode cX11_book 128 = .ok (.iadd, 1))).to, ?_⟩
  refine List.forall_mem_cons.mpr ⟨(s_iast (by decide +kernel : decode cX11_book 129 = .ok (.iastore, 1))).to, ?_⟩
  refine List.forall_mem_cons.mpr ⟨s_vret (by decide +kernel : decode cX11_book 130 = .ok (.return_, 1)) rfl, ?_⟩
  exact fun _ h => absurd h List.not_mem_nil
theorem sn_tX11_book : ∀ q ∈ tX11_book, am_Snd am_P0 RX11 cX11_book 2 (Option.none : Option FieldType) "book" q.1 q.2 := by
  unfold tX11_book
  exact List.forall_mem_append.mpr ⟨sn_tX11_book_0, sn_tX11_book_1⟩
theorem sn_tX11_seen_0 : ∀ q ∈ tX11_seen_0, am_Snd am_P0 RX11 cX11_seen 2 (Option.none : Option FieldType) "seen" q.1 q.2 := by
  unfold tX11_seen_0
  refine List.forall_mem_cons.mpr ⟨(s_aloadn (by decide +kernel : decode cX11_seen 0 = .ok (.aload_n 0, 1)) rfl).to, ?_⟩
  refine List.forall_mem_cons.mpr ⟨(s_aloadn (by decide +kernel : decode cX11_seen 1 = .ok (.aload_n 0, 1)) rfl).to, ?_⟩
  refine List.forall_mem_cons.mpr ⟨(s_get (ci := 11) (k := 33) (by decide +kernel : decode cX11_seen 2 = .ok (.getfield 113, 3)) rfl (by decide) wd1366 inX11 rfl).to, ?_⟩
  refine List.forall_mem_cons.mpr ⟨(s_aloadn (by decide +kernel : decode cX11_seen 5 = .ok (.aload_n 0, 1)) rfl).to, ?_⟩
  refine List.forall_mem_cons.mpr ⟨(s_get (ci := 11) (k := 41) (by decide +kernel : decode cX11_seen 6 = .ok (.getfield 137, 3)) rfl (by decide) wd1374 inX11 rfl).to, ?_⟩
  refine List.forall_mem_cons.mpr ⟨(s_iald (by decide +kernel : decode cX11_seen 9 = .ok (.iaload, 1))).to, ?_⟩
  refine List.forall_mem_cons.mpr ⟨(s_bipush (by decide +kernel : decode cX11_seen 10 = .ok (.bipush 40, 2)) (by decide)).to, ?_⟩
  refine List.forall_mem_cons.mpr ⟨(s_icmp_ne (by decide +kernel : decode cX11_seen 12 = .ok (.if_icmp .ne 7, 3)) (by decide)).to, ?_⟩
  refine List.forall_mem_cons.mpr ⟨(s_iconst (by decide +kernel : decode cX11_seen 15 = .ok (.iconst 1, 1)) (by decide)).to, ?_⟩
  refine List.forall_mem_cons.mpr ⟨(s_goto (by decide +kernel : decode cX11_seen 16 = .ok (.goto 4, 3)) (by decide)).to, ?_⟩
  refine List.forall_mem_cons.mpr ⟨(s_iconst (by decide +kernel : decode cX11_seen 19 = .ok (.iconst 0, 1)) (by decide)).to, ?_⟩
  refine List.forall_mem_cons.mpr ⟨z_cv (by decide +kernel : decode cX11_seen 20 = .ok (.invokevirtual 395, 3)) mt193 wd1653 (ci := 11) rfl (by decide), ?_⟩
  refine List.forall_mem_cons.mpr ⟨(s_if_ne (by decide +kernel : decode cX11_seen 23 = .ok (.ifCond .ne 4, 3)) (by decide)).to, ?_⟩
  refine List.forall_mem_cons.mpr ⟨s_vret (by decide +kernel : decode cX11_seen 26 = .ok (.return_, 1)) rfl, ?_⟩
  refine List.forall_mem_cons.mpr ⟨(s_bipush (by decide +kernel : decode cX11_seen 27 = .ok (.bipush 40, 2)) (by decide)).to, ?_⟩
  refine List.forall_mem_cons.mpr ⟨(s_aloadn (by decide +kernel : decode cX11_seen 29 = .ok (.aload_n 0, 1)) rfl).to, ?_⟩
  refine List.forall_mem_cons.mpr ⟨(s_get (ci := 11) (k := 41) (by decide +kernel : decode cX11_seen 30 = .ok (.getfield 137, 3)) rfl (by decide) wd1374 inX11 rfl).to, ?_⟩
  refine List.forall_mem_cons.mpr ⟨(s_imul (by decide +kernel : decode cX11_seen 33 = .ok (.imul, 1))).to, ?_⟩
  refine List.forall_mem_cons.mpr ⟨(s_aloadn (by decide +kernel : decode cX11_seen 34 = .ok (.aload_n 0, 1)) rfl).to, ?_⟩
  refine List.forall_mem_cons.mpr ⟨(s_get (ci := 11) (k := 33) (by decide +kernel : decode cX11_seen 35 = .ok (.getfield 113, 3)) rfl (by decide) wd1366 inX11 rfl).to, ?_⟩
  refine List.forall_mem_cons.mpr ⟨(s_aloadn (by decide +kernel : decode cX11_seen 38 = .ok (.aload_n 0, 1)) rfl).to, ?_⟩
  refine List.forall_mem_cons.mpr ⟨(s_get (ci := 11) (k := 41) (by decide +kernel : decode cX11_seen 39 = .ok (.getfield 137, 3)) rfl (by decide) wd1374 inX11 rfl).to, ?_⟩
  refine List.forall_mem_cons.mpr ⟨(s_iald (by decide +kernel : decode cX11_seen 42 = .ok (.iaload, 1))).to, ?_⟩
  refine List.forall_mem_cons.mpr ⟨(s_iadd (by decide +kernel : decode cX11_seen 43 = .ok (.iadd, 1))).to, ?_⟩
  refine List.forall_mem_cons.mpr ⟨(s_istoren (by decide +kernel : decode cX11_seen 44 = .ok (.istore_n 1, 1)) rfl (by decide)).to, ?_⟩
  refine List.forall_mem_cons.mpr ⟨(s_aloadn (by decide +kernel : decode cX11_seen 45 = .ok (.aload_n 0, 1)) rfl).to, ?_⟩
  refine List.forall_mem_cons.mpr ⟨(s_get (ci := 11) (k := 34) (by decide +kernel : decode cX11_seen 46 = .ok (.getfield 116, 3)) rfl (by decide) wd1367 inX11 rfl).to, ?_⟩
  refine List.forall_mem_cons.mpr ⟨(s_iloadn (by decide +kernel : decode cX11_seen 49 = .ok (.iload_n 1, 1)) rfl).to, ?_⟩
  refine List.forall_mem_cons.mpr ⟨(s_aloadn (by decide +kernel : decode cX11_seen 50 = .ok (.aload_n 0, 1)) rfl).to, ?_⟩
  refine List.forall_mem_cons.mpr ⟨(s_iconst (by decide +kernel : decode cX11_seen 51 = .ok (.iconst 0, 1)) (by decide)).to, ?_⟩
  refine List.forall_mem_cons.mpr ⟨(s_iconst (by decide +kernel : decode cX11_seen 52 = .ok (.iconst 3, 1)) (by decide)).to, ?_⟩
  refine List.forall_mem_cons.mpr ⟨z_cv (by decide +kernel : decode cX11_seen 53 = .ok (.invokevirtual 385, 3)) mt182 wd1626 (ci := 11) rfl (by decide), ?_⟩
  refine List.forall_mem_cons.mpr ⟨(s_iast (by decide +kernel : decode cX11_seen 56 = .ok (.iastore, 1))).to, ?_⟩
  refine List.forall_mem_cons.mpr ⟨(s_aloadn (by decide +kernel : decode cX11_seen 57 = .ok (.aload_n 0, 1)) rfl).to, ?_⟩
  refine List.forall_mem_cons.mpr ⟨(s_get (ci := 11) (k := 35) (by decide +kernel : decode cX11_seen 58 = .ok (.getfield 119, 3)) rfl (by decide) wd1368 inX11 rfl).to, ?_⟩
  refine List.forall_mem_cons.mpr ⟨(s_iloadn (by decide +kernel : decode cX11_seen 61 = .ok (.iload_n 1, 1)) rfl).to, ?_⟩
  refine List.forall_mem_cons.mpr ⟨(s_aloadn (by decide +kernel : decode cX11_seen 62 = .ok (.aload_n 0, 1)) rfl).to, ?_⟩
  refine List.forall_mem_cons.mpr ⟨z_cv (by decide +kernel : decode cX11_seen 63 = .ok (.invokevirtual 417, 3)) mt200 wd1751 (ci := 11) rfl (by decide), ?_⟩
  refine List.forall_mem_cons.mpr ⟨(s_iast (by decide +kernel : decode cX11_seen 66 = .ok (.iastore, 1))).to, ?_⟩
  refine List.forall_mem_cons.mpr ⟨(s_aloadn (by decide +kernel : decode cX11_seen 67 = .ok (.aload_n 0, 1)) rfl).to, ?_⟩
  refine List.forall_mem_cons.mpr ⟨(s_ldc2 (by decide +kernel : decode cX11_seen 68 = .ok (.ldc2_w 321, 3)) wd1693).to, ?_⟩
  refine List.forall_mem_cons.mpr ⟨z_cv (by decide +kernel : decode cX11_seen 71 = .ok (.invokevirtual 406, 3)) mt194 wd1708 (ci := 11) rfl (by decide), ?_⟩
  refine List.forall_mem_cons.mpr ⟨(s_aloadn (by decide +kernel : decode cX11_seen 74 = .ok (.aload_n 0, 1)) rfl).to, ?_⟩
  refine List.forall_mem_cons.mpr ⟨(s_get (ci := 11) (k := 36) (by decide +kernel : decode cX11_seen 75 = .ok (.getfield 122, 3)) rfl (by decide) wd1369 inX11 rfl).to, ?_⟩
  refine List.forall_mem_cons.mpr ⟨(s_iloadn (by decide +kernel : decode cX11_seen 78 = .ok (.iload_n 1, 1)) rfl).to, ?_⟩
  refine List.forall_mem_cons.mpr ⟨(s_aloadn (by decide +kernel : decode cX11_seen 79 = .ok (.aload_n 0, 1)) rfl).to, ?_⟩
  refine List.forall_mem_cons.mpr ⟨(s_iconst (by decide +kernel : decode cX11_seen 80 = .ok (.iconst 0, 1)) (by decide)).to, ?_⟩
  refine List.forall_mem_cons.mpr ⟨(s_bipush (by decide +kernel : decode cX11_seen 81 = .ok (.bipush 47, 2)) (by decide)).to, ?_⟩
  refine List.forall_mem_cons.mpr ⟨z_cv (by decide +kernel : decode cX11_seen 83 = .ok (.invokevirtual 385, 3)) mt182 wd1626 (ci := 11) rfl (by decide), ?_⟩
  refine List.forall_mem_cons.mpr ⟨(s_iast (by decide +kernel : decode cX11_seen 86 = .ok (.iastore, 1))).to, ?_⟩
  refine List.forall_mem_cons.mpr ⟨(s_aloadn (by decide +kernel : decode cX11_seen 87 = .ok (.aload_n 0, 1)) rfl).to, ?_⟩
  refine List.forall_mem_cons.mpr ⟨(s_get (ci := 11) (k := 8) (by decide +kernel : decode cX11_seen 88 = .ok (.getfield 36, 3)) rfl (by decide) wd1341 inX11 rfl).to, ?_⟩
  refine List.forall_mem_cons.mpr ⟨(s_if_ne (by decide +kernel : decode cX11_seen 91 = .ok (.ifCond .ne 16, 3)) (by decide)).to, ?_⟩
  refine List.forall_mem_cons.mpr ⟨(s_aloadn (by decide +kernel : decode cX11_seen 94 = .ok (.aload_n 0, 1)) rfl).to, ?_⟩
  refine List.forall_mem_cons.mpr ⟨(s_get (ci := 11) (k := 33) (by decide +kernel : decode cX11_seen 95 = .ok (.getfield 113, 3)) rfl (by decide) wd1366 inX11 rfl).to, ?_⟩
  refine List.forall_mem_cons.mpr ⟨(s_aloadn (by decide +kernel : decode cX11_seen 98 = .ok (.aload_n 0, 1)) rfl).to, ?_⟩
  refine List.forall_mem_cons.mpr ⟨(s_get (ci := 11) (k := 41) (by decide +kernel : decode cX11_seen 99 = .ok (.getfield 137, 3)) rfl (by decide) wd1374 inX11 rfl).to, ?_⟩
  refine List.forall_mem_cons.mpr ⟨(s_dup2 (by decide +kernel : decode cX11_seen 102 = .ok (.dup2, 1))).to, ?_⟩
  refine List.forall_mem_cons.mpr ⟨(s_iald (by decide +kernel : decode cX11_seen 103 = .ok (.iaload, 1))).to, ?_⟩
  refine List.forall_mem_cons.mpr ⟨(s_iconst (by decide +kernel : decode cX11_seen 104 = .ok (.iconst 1, 1)) (by decide)).to, ?_⟩
  exact fun _ h => absurd h List.not_mem_nil
theorem sn_tX11_seen_1 : ∀ q ∈ tX11_seen_1, am_Snd am_P0 RX11 cX11_seen 2 (Option.none : Option FieldType) "seen" q.1 q.2 := by
  unfold tX11_seen_1
  refine List.forall_mem_cons.mpr ⟨(s_iadd (by decide +kernel : decode cX11_seen 105 = .ok (.iadd, 1))).to, ?_⟩
  refine List.forall_mem_cons.mpr ⟨(s_iast (by decide +kernel : decode cX11_seen 106 = .ok (.iastore, 1))).to, ?_⟩
  refine List.forall_mem_cons.mpr ⟨s_vret (by decide +kernel : decode cX11_seen 107 = .ok (.return_, 1)) rfl, ?_⟩
  exact fun _ h => absurd h List.not_mem_nil
theorem sn_tX11_seen : ∀ q ∈ tX11_seen, am_Snd am_P0 RX11 cX11_seen 2 (Option.none : Option FieldType) "seen" q.1 q.2 := by
  unfold tX11_seen
  exact List.forall_mem_append.mpr ⟨sn_tX11_seen_0, sn_tX11_seen_1⟩
theorem sn_tX11_lucks : ∀ q ∈ tX11_lucks, am_Snd am_P0 RX11 cX11_lucks 1 (Option.none : Option FieldType) "lucks" q.1 q.2 := by
  unfold tX11_lucks
  refine List.forall_mem_cons.mpr ⟨(s_aloadn (by decide +kernel : decode cX11_lucks 0 = .ok (.aload_n 0, 1)) rfl).to, ?_⟩
  refine List.forall_mem_cons.mpr ⟨(s_iconst (by decide +kernel : decode cX11_lucks 1 = .ok (.iconst 0, 1)) (by decide)).to, ?_⟩
  refine List.forall_mem_cons.mpr ⟨z_cv (by decide +kernel : decode cX11_lucks 2 = .ok (.invokevirtual 395, 3)) mt193 wd1653 (ci := 11) rfl (by decide), ?_⟩
  refine List.forall_mem_cons.mpr ⟨(s_if_ne (by decide +kernel : decode cX11_lucks 5 = .ok (.ifCond .ne 4, 3)) (by decide)).to, ?_⟩
  refine List.forall_mem_cons.mpr ⟨s_vret (by decide +kernel : decode cX11_lucks 8 = .ok (.return_, 1)) rfl, ?_⟩
  refine List.forall_mem_cons.mpr ⟨(s_aloadn (by decide +kernel : decode cX11_lucks 9 = .ok (.aload_n 0, 1)) rfl).to, ?_⟩
  refine List.forall_mem_cons.mpr ⟨(s_get (ci := 11) (k := 37) (by decide +kernel : decode cX11_lucks 10 = .ok (.getfield 125, 3)) rfl (by decide) wd1370 inX11 rfl).to, ?_⟩
  refine List.forall_mem_cons.mpr ⟨(s_aloadn (by decide +kernel : decode cX11_lucks 13 = .ok (.aload_n 0, 1)) rfl).to, ?_⟩
  refine List.forall_mem_cons.mpr ⟨(s_get (ci := 11) (k := 41) (by decide +kernel : decode cX11_lucks 14 = .ok (.getfield 137, 3)) rfl (by decide) wd1374 inX11 rfl).to, ?_⟩
  refine List.forall_mem_cons.mpr ⟨(s_aloadn (by decide +kernel : decode cX11_lucks 17 = .ok (.aload_n 0, 1)) rfl).to, ?_⟩
  refine List.forall_mem_cons.mpr ⟨(s_iconst (by decide +kernel : decode cX11_lucks 18 = .ok (.iconst 0, 1)) (by decide)).to, ?_⟩
  refine List.forall_mem_cons.mpr ⟨(s_bipush (by decide +kernel : decode cX11_lucks 19 = .ok (.bipush 100, 2)) (by decide)).to, ?_⟩
  refine List.forall_mem_cons.mpr ⟨z_cv (by decide +kernel : decode cX11_lucks 21 = .ok (.invokevirtual 385, 3)) mt182 wd1626 (ci := 11) rfl (by decide), ?_⟩
  refine List.forall_mem_cons.mpr ⟨(s_iast (by decide +kernel : decode cX11_lucks 24 = .ok (.iastore, 1))).to, ?_⟩
  refine List.forall_mem_cons.mpr ⟨s_vret (by decide +kernel : decode cX11_lucks 25 = .ok (.return_, 1)) rfl, ?_⟩
  exact fun _ h => absurd h List.not_mem_nil
theorem sn_tX11_statement_0 : ∀ q ∈ tX11_statement_0, am_Snd am_P0 RX11 cX11_statement 1 (Option.none : Option FieldType) "statement" q.1 q.2 := by
  unfold tX11_statement_0
  refine List.forall_mem_cons.mpr ⟨(s_aloadn (by decide +kernel : decode cX11_statement 0 = .ok (.aload_n 0, 1)) rfl).to, ?_⟩
  refine List.forall_mem_cons.mpr ⟨(s_ldc2 (by decide +kernel : decode cX11_statement 1 = .ok (.ldc2_w 291, 3)) wd1645).to, ?_⟩
  refine List.forall_mem_cons.mpr ⟨z_cv (by decide +kernel : decode cX11_statement 4 = .ok (.invokevirtual 359, 3)) mt176 wd1622 (ci := 11) rfl (by decide), ?_⟩
  refine List.forall_mem_cons.mpr ⟨(s_if_eq (by decide +kernel : decode cX11_statement 7 = .ok (.ifCond .eq 11, 3)) (by decide)).to, ?_⟩
  refine List.forall_mem_cons.mpr ⟨(s_aloadn (by decide +kernel : decode cX11_statement 10 = .ok (.aload_n 0, 1)) rfl).to, ?_⟩
  refine List.forall_mem_cons.mpr ⟨(s_iconst (by decide +kernel : decode cX11_statement 11 = .ok (.iconst 0, 1)) (by decide)).to, ?_⟩
  refine List.forall_mem_cons.mpr ⟨z_cv (by decide +kernel : decode cX11_statement 12 = .ok (.invokevirtual 420, 3)) mt198 wd1646 (ci := 11) rfl (by decide), ?_⟩
  refine List.forall_mem_cons.mpr ⟨(s_goto (by decide +kernel : decode cX11_statement 15 = .ok (.goto 133, 3)) (by decide)).to, ?_⟩
  refine List.forall_mem_cons.mpr ⟨(s_aloadn (by decide +kernel : decode cX11_statement 18 = .ok (.aload_n 0, 1)) rfl).to, ?_⟩
  refine List.forall_mem_cons.mpr ⟨(s_ldc2 (by decide +kernel : decode cX11_statement 19 = .ok (.ldc2_w 293, 3)) wd1712).to, ?_⟩
  refine List.forall_mem_cons.mpr ⟨z_cv (by decide +kernel : decode cX11_statement 22 = .ok (.invokevirtual 359, 3)) mt176 wd1622 (ci := 11) rfl (by decide), ?_⟩
  refine List.forall_mem_cons.mpr ⟨(s_if_eq (by decide +kernel : decode cX11_statement 25 = .ok (.ifCond .eq 11, 3)) (by decide)).to, ?_⟩
  refine List.forall_mem_cons.mpr ⟨(s_aloadn (by decide +kernel : decode cX11_statement 28 = .ok (.aload_n 0, 1)) rfl).to, ?_⟩
  refine List.forall_mem_cons.mpr ⟨(s_iconst (by decide +kernel : decode cX11_statement 29 = .ok (.iconst 1, 1)) (by decide)).to, ?_⟩
  refine List.forall_mem_cons.mpr ⟨z_cv (by decide +kernel : decode cX11_statement 30 = .ok (.invokevirtual 420, 3)) mt198 wd1646 (ci := 11) rfl (by decide), ?_⟩
  refine List.forall_mem_cons.mpr ⟨(s_goto (by decide +kernel : decode cX11_statement 33 = .ok (.goto 115, 3)) (by decide)).to, ?_⟩
  refine List.forall_mem_cons.mpr ⟨(s_aloadn (by decide +kernel : decode cX11_statement 36 = .ok (.aload_n 0, 1)) rfl).to, ?_⟩
  refine List.forall_mem_cons.mpr ⟨(s_ldc2 (by decide +kernel : decode cX11_statement 37 = .ok (.ldc2_w 295, 3)) wd1713).to, ?_⟩
  refine List.forall_mem_cons.mpr ⟨z_cv (by decide +kernel : decode cX11_statement 40 = .ok (.invokevirtual 359, 3)) mt176 wd1622 (ci := 11) rfl (by decide), ?_⟩
  refine List.forall_mem_cons.mpr ⟨(s_if_eq (by decide +kernel : decode cX11_statement 43 = .ok (.ifCond .eq 11, 3)) (by decide)).to, ?_⟩
  refine List.forall_mem_cons.mpr ⟨(s_aloadn (by decide +kernel : decode cX11_statement 46 = .ok (.aload_n 0, 1)) rfl).to, ?_⟩
  refine List.forall_mem_cons.mpr ⟨(s_iconst (by decide +kernel : decode cX11_statement 47 = .ok (.iconst 2, 1)) (by decide)).to, ?_⟩
  refine List.forall_mem_cons.mpr ⟨z_cv (by decide +kernel : decode cX11_statement 48 = .ok (.invokevirtual 420, 3)) mt198 wd1646 (ci := 11) rfl (by decide), ?_⟩
  refine List.forall_mem_cons.mpr ⟨(s_goto (by decide +kernel : decode cX11_statement 51 = .ok (.goto 97, 3)) (by decide)).to, ?_⟩
  refine List.forall_mem_cons.mpr ⟨(s_aloadn (by decide +kernel : decode cX11_statement 54 = .ok (.aload_n 0, 1)) rfl).to, ?_⟩
  refine List.forall_mem_cons.mpr ⟨(s_ldc2 (by decide +kernel : decode cX11_statement 55 = .ok (.ldc2_w 297, 3)) wd1714).to, ?_⟩
  refine List.forall_mem_cons.mpr ⟨z_cv (by decide +kernel : decode cX11_statement 58 = .ok (.invokevirtual 359, 3)) mt176 wd1622 (ci := 11) rfl (by decide), ?_⟩
  refine List.forall_mem_cons.mpr ⟨(s_if_eq (by decide +kernel : decode cX11_statement 61 = .ok (.ifCond .eq 10, 3)) (by decide)).to, ?_⟩
  refine List.forall_mem_cons.mpr ⟨(s_aloadn (by decide +kernel : decode cX11_statement 64 = .ok (.aload_n 0, 1)) rfl).to, ?_⟩
  refine List.forall_mem_cons.mpr ⟨z_cv (by decide +kernel : decode cX11_statement 65 = .ok (.invokevirtual 423, 3)) mt199 wd1715 (ci := 11) rfl (by decide), ?_⟩
  refine List.forall_mem_cons.mpr ⟨(s_goto (by decide +kernel : decode cX11_statement 68 = .ok (.goto 80, 3)) (by decide)).to, ?_⟩
  refine List.forall_mem_cons.mpr ⟨(s_aloadn (by decide +kernel : decode cX11_statement 71 = .ok (.aload_n 0, 1)) rfl).to, ?_⟩
  refine List.forall_mem_cons.mpr ⟨(s_ldc2 (by decide +kernel : decode cX11_statement 72 = .ok (.ldc2_w 307, 3)) wd1731).to, ?_⟩
  refine List.forall_mem_cons.mpr ⟨z_cv (by decide +kernel : decode cX11_statement 75 = .ok (.invokevirtual 359, 3)) mt176 wd1622 (ci := 11) rfl (by decide), ?_⟩
  refine List.forall_mem_cons.mpr ⟨(s_if_eq (by decide +kernel : decode cX11_statement 78 = .ok (.ifCond .eq 10, 3)) (by decide)).to, ?_⟩
  refine List.forall_mem_cons.mpr ⟨(s_aloadn (by decide +kernel : decode cX11_statement 81 = .ok (.aload_n 0, 1)) rfl).to, ?_⟩
  refine List.forall_mem_cons.mpr ⟨z_cv (by decide +kernel : decode cX11_statement 82 = .ok (.invokevirtual 426, 3)) mt201 wd1743 (ci := 11) rfl (by decide), ?_⟩
  refine List.forall_mem_cons.mpr ⟨(s_goto (by decide +kernel : decode cX11_statement 85 = .ok (.goto 63, 3)) (by decide)).to, ?_⟩
  refine List.forall_mem_cons.mpr ⟨(s_aloadn (by decide +kernel : decode cX11_statement 88 = .ok (.aload_n 0, 1)) rfl).to, ?_⟩
  refine List.forall_mem_cons.mpr ⟨(s_ldc2 (by decide +kernel : decode cX11_statement 89 = .ok (.ldc2_w 313, 3)) wd1734).to, ?_⟩
  refine List.forall_mem_cons.mpr ⟨z_cv (by decide +kernel : decode cX11_statement 92 = .ok (.invokevirtual 359, 3)) mt176 wd1622 (ci := 11) rfl (by decide), ?_⟩
  refine List.forall_mem_cons.mpr ⟨(s_if_eq (by decide +kernel : decode cX11_statement 95 = .ok (.ifCond .eq 10, 3)) (by decide)).to, ?_⟩
  refine List.forall_mem_cons.mpr ⟨(s_aloadn (by decide +kernel : decode cX11_statement 98 = .ok (.aload_n 0, 1)) rfl).to, ?_⟩
  refine List.forall_mem_cons.mpr ⟨z_cv (by decide +kernel : decode cX11_statement 99 = .ok (.invokevirtual 429, 3)) mt202 wd1755 (ci := 11) rfl (by decide), ?_⟩
  refine List.forall_mem_cons.mpr ⟨(s_goto (by decide +kernel : decode cX11_statement 102 = .ok (.goto 46, 3)) (by decide)).to, ?_⟩
  refine List.forall_mem_cons.mpr ⟨(s_aloadn (by decide +kernel : decode cX11_statement 105 = .ok (.aload_n 0, 1)) rfl).to, ?_⟩
  refine List.forall_mem_cons.mpr ⟨(s_ldc2 (by decide +kernel : decode cX11_statement 106 = .ok (.ldc2_w 319, 3)) wd1737).to, ?_⟩
  refine List.forall_mem_cons.mpr ⟨z_cv (by decide +kernel : decode cX11_statement 109 = .ok (.invokevirtual 359, 3)) mt176 wd1622 (ci := 11) rfl (by decide), ?_⟩
  refine List.forall_mem_cons.mpr ⟨(s_if_eq (by decide +kernel : decode cX11_statement 112 = .ok (.ifCond .eq 10, 3)) (by decide)).to, ?_⟩
  refine List.forall_mem_cons.mpr ⟨(s_aloadn (by decide +kernel : decode cX11_statement 115 = .ok (.aload_n 0, 1)) rfl).to, ?_⟩
  refine List.forall_mem_cons.mpr ⟨z_cv (by decide +kernel : decode cX11_statement 116 = .ok (.invokevirtual 432, 3)) mt203 wd1759 (ci := 11) rfl (by decide), ?_⟩
  refine List.forall_mem_cons.mpr ⟨(s_goto (by decide +kernel : decode cX11_statement 119 = .ok (.goto 29, 3)) (by decide)).to, ?_⟩
  refine List.forall_mem_cons.mpr ⟨(s_aloadn (by decide +kernel : decode cX11_statement 122 = .ok (.aload_n 0, 1)) rfl).to, ?_⟩
  refine List.forall_mem_cons.mpr ⟨(s_ldc2 (by decide +kernel : decode cX11_statement 123 = .ok (.ldc2_w 323, 3)) wd1738).to, ?_⟩
  refine List.forall_mem_cons.mpr ⟨z_cv (by decide +kernel : decode cX11_statement 126 = .ok (.invokevirtual 359, 3)) mt176 wd1622 (ci := 11) rfl (by decide), ?_⟩
  refine List.forall_mem_cons.mpr ⟨(s_if_eq (by decide +kernel : decode cX11_statement 129 = .ok (.ifCond .eq 10, 3)) (by decide)).to, ?_⟩
  refine List.forall_mem_cons.mpr ⟨(s_aloadn (by decide +kernel : decode cX11_statement 132 = .ok (.aload_n 0, 1)) rfl).to, ?_⟩
  refine List.forall_mem_cons.mpr ⟨z_cv (by decide +kernel : decode cX11_statement 133 = .ok (.invokevirtual 435, 3)) mt204 wd1763 (ci := 11) rfl (by decide), ?_⟩
  refine List.forall_mem_cons.mpr ⟨(s_goto (by decide +kernel : decode cX11_statement 136 = .ok (.goto 12, 3)) (by decide)).to, ?_⟩
  refine List.forall_mem_cons.mpr ⟨(s_aloadn (by decide +kernel : decode cX11_statement 139 = .ok (.aload_n 0, 1)) rfl).to, ?_⟩
  exact fun _ h => absurd h List.not_mem_nil
theorem sn_tX11_statement_1 : ∀ q ∈ tX11_statement_1, am_Snd am_P0 RX11 cX11_statement 1 (Option.none : Option FieldType) "statement" q.1 q.2 := by
  unfold tX11_statement_1
  refine List.forall_mem_cons.mpr ⟨(s_iconst (by decide +kernel : decode cX11_statement 140 = .ok (.iconst 1, 1)) (by decide)).to, ?_⟩
  refine List.forall_mem_cons.mpr ⟨(s_aloadn (by decide +kernel : decode cX11_statement 141 = .ok (.aload_n 0, 1)) rfl).to, ?_⟩
  refine List.forall_mem_cons.mpr ⟨(s_get (ci := 11) (k := 4) (by decide +kernel : decode cX11_statement 142 = .ok (.getfield 23, 3)) rfl (by decide) wd1337 inX11 rfl).to, ?_⟩
  refine List.forall_mem_cons.mpr ⟨z_cv (by decide +kernel : decode cX11_statement 145 = .ok (.invokevirtual 279, 3)) mt171 wd1613 (ci := 11) rfl (by decide), ?_⟩
  refine List.forall_mem_cons.mpr ⟨(s_aloadn (by decide +kernel : decode cX11_statement 148 = .ok (.aload_n 0, 1)) rfl).to, ?_⟩
  refine List.forall_mem_cons.mpr ⟨(s_get (ci := 11) (k := 8) (by decide +kernel : decode cX11_statement 149 = .ok (.getfield 36, 3)) rfl (by decide) wd1341 inX11 rfl).to, ?_⟩
  refine List.forall_mem_cons.mpr ⟨(s_if_ne (by decide +kernel : decode cX11_statement 152 = .ok (.ifCond .ne 9, 3)) (by decide)).to, ?_⟩
  refine List.forall_mem_cons.mpr ⟨(s_aloadn (by decide +kernel : decode cX11_statement 155 = .ok (.aload_n 0, 1)) rfl).to, ?_⟩
  refine List.forall_mem_cons.mpr ⟨(s_bipush (by decide +kernel : decode cX11_statement 156 = .ok (.bipush 59, 2)) (by decide)).to, ?_⟩
  refine List.forall_mem_cons.mpr ⟨z_cv (by decide +kernel : decode cX11_statement 158 = .ok (.invokevirtual 389, 3)) mt177 wd1633 (ci := 11) rfl (by decide), ?_⟩
  refine List.forall_mem_cons.mpr ⟨s_vret (by decide +kernel : decode cX11_statement 161 = .ok (.return_, 1)) rfl, ?_⟩
  exact fun _ h => absurd h List.not_mem_nil
theorem sn_tX11_statement : ∀ q ∈ tX11_statement, am_Snd am_P0 RX11 cX11_statement 1 (Option.none : Option FieldType) "statement" q.1 q.2 := by
  unfold tX11_statement
  exact List.forall_mem_append.mpr ⟨sn_tX11_statement_0, sn_tX11_statement_1⟩
theorem sn_tX11_sea_0 : ∀ q ∈ tX11_sea_0, am_Snd am_P0 RX11 cX11_sea 2 (Option.some FieldType.int) "sea" q.1 q.2 := by
  unfold tX11_sea_0
  refine List.forall_mem_cons.mpr ⟨(s_aloadn (by decide +kernel : decode cX11_sea 0 = .ok (.aload_n 0, 1)) rfl).to, ?_⟩
  refine List.forall_mem_cons.mpr ⟨(s_aloadn (by decide +kernel : decode cX11_sea 1 = .ok (.aload_n 0, 1)) rfl).to, ?_⟩
  refine List.forall_mem_cons.mpr ⟨(s_get (ci := 11) (k := 1) (by decide +kernel : decode cX11_sea 2 = .ok (.getfield 13, 3)) rfl (by decide) wd1334 inX11 rfl).to, ?_⟩
  refine List.forall_mem_cons.mpr ⟨(s_put (ci := 11) (k := 2) (by decide +kernel : decode cX11_sea 5 = .ok (.putfield 17, 3)) rfl (by decide) wd1335 inX11 tyX11_ok nmX11 rfl rfl).to, ?_⟩
  refine List.forall_mem_cons.mpr ⟨(s_aloadn (by decide +kernel : decode cX11_sea 8 = .ok (.aload_n 0, 1)) rfl).to, ?_⟩
  refine List.forall_mem_cons.mpr ⟨(s_iconst (by decide +kernel : decode cX11_sea 9 = .ok (.iconst 0, 1)) (by decide)).to, ?_⟩
  refine List.forall_mem_cons.mpr ⟨(s_put (ci := 11) (k := 1) (by decide +kernel : decode cX11_sea 10 = .ok (.putfield 13, 3)) rfl (by decide) wd1334 inX11 tyX11_ok nmX11 rfl rfl).to, ?_⟩
  refine List.forall_mem_cons.mpr ⟨(s_aloadn (by decide +kernel : decode cX11_sea 13 = .ok (.aload_n 0, 1)) rfl).to, ?_⟩
  refine List.forall_mem_cons.mpr ⟨(s_iconst (by decide +kernel : decode cX11_sea 14 = .ok (.iconst 0, 1)) (by decide)).to, ?_⟩
  refine List.forall_mem_cons.mpr ⟨(s_put (ci := 11) (k := 5) (by decide +kernel : decode cX11_sea 15 = .ok (.putfield 26, 3)) rfl (by decide) wd1338 inX11 tyX11_ok nmX11 rfl rfl).to, ?_⟩
  refine List.forall_mem_cons.mpr ⟨(s_aloadn (by decide +kernel : decode cX11_sea 18 = .ok (.aload_n 0, 1)) rfl).to, ?_⟩
  refine List.forall_mem_cons.mpr ⟨(s_iconst (by decide +kernel : decode cX11_sea 19 = .ok (.iconst 0, 1)) (by decide)).to, ?_⟩
  refine List.forall_mem_cons.mpr ⟨(s_put (ci := 11) (k := 8) (by decide +kernel : decode cX11_sea 20 = .ok (.putfield 36, 3)) rfl (by decide) wd1341 inX11 tyX11_ok nmX11 rfl rfl).to, ?_⟩
  refine List.forall_mem_cons.mpr ⟨(s_aloadn (by decide +kernel : decode cX11_sea 23 = .ok (.aload_n 0, 1)) rfl).to, ?_⟩
  refine List.forall_mem_cons.mpr ⟨(s_iconst (by decide +kernel : decode cX11_sea 24 = .ok (.iconst (-1), 1)) (by decide)).to, ?_⟩
  refine List.forall_mem_cons.mpr ⟨(s_put (ci := 11) (k := 9) (by decide +kernel : decode cX11_sea 25 = .ok (.putfield 39, 3)) rfl (by decide) wd1342 inX11 tyX11_ok nmX11 rfl rfl).to, ?_⟩
  refine List.forall_mem_cons.mpr ⟨(s_aloadn (by decide +kernel : decode cX11_sea 28 = .ok (.aload_n 0, 1)) rfl).to, ?_⟩
  refine List.forall_mem_cons.mpr ⟨(s_iconst (by decide +kernel : decode cX11_sea 29 = .ok (.iconst 1, 1)) (by decide)).to, ?_⟩
  refine List.forall_mem_cons.mpr ⟨(s_aloadn (by decide +kernel : decode cX11_sea 30 = .ok (.aload_n 0, 1)) rfl).to, ?_⟩
  refine List.forall_mem_cons.mpr ⟨(s_get (ci := 11) (k := 12) (by decide +kernel : decode cX11_sea 31 = .ok (.getfield 48, 3)) rfl (by decide) wd1345 inX11 rfl).to, ?_⟩
  refine List.forall_mem_cons.mpr ⟨(s_isub (by decide +kernel : decode cX11_sea 34 = .ok (.isub, 1))).to, ?_⟩
  refine List.forall_mem_cons.mpr ⟨(s_put (ci := 11) (k := 41) (by decide +kernel : decode cX11_sea 35 = .ok (.putfield 137, 3)) rfl (by decide) wd1374 inX11 tyX11_ok nmX11 rfl rfl).to, ?_⟩
  refine List.forall_mem_cons.mpr ⟨(s_iconst (by decide +kernel : decode cX11_sea 38 = .ok (.iconst 0, 1)) (by decide)).to, ?_⟩
  refine List.forall_mem_cons.mpr ⟨(s_istoren (by decide +kernel : decode cX11_sea 39 = .ok (.istore_n 1, 1)) rfl (by decide)).to, ?_⟩
  refine List.forall_mem_cons.mpr ⟨(s_iloadn (by decide +kernel : decode cX11_sea 40 = .ok (.iload_n 1, 1)) rfl).to, ?_⟩
  refine List.forall_mem_cons.mpr ⟨(s_iconst (by decide +kernel : decode cX11_sea 41 = .ok (.iconst 3, 1)) (by decide)).to, ?_⟩
  refine List.forall_mem_cons.mpr ⟨(s_icmp_ge (by decide +kernel : decode cX11_sea 42 = .ok (.if_icmp .ge 23, 3)) (by decide)).to, ?_⟩
  refine List.forall_mem_cons.mpr ⟨(s_aloadn (by decide +kernel : decode cX11_sea 45 = .ok (.aload_n 0, 1)) rfl).to, ?_⟩
  refine List.forall_mem_cons.mpr ⟨(s_get (ci := 11) (k := 15) (by decide +kernel : decode cX11_sea 46 = .ok (.getfield 57, 3)) rfl (by decide) wd1348 inX11 rfl).to, ?_⟩
  refine List.forall_mem_cons.mpr ⟨(s_iconst (by decide +kernel : decode cX11_sea 49 = .ok (.iconst 3, 1)) (by decide)).to, ?_⟩
  refine List.forall_mem_cons.mpr ⟨(s_aloadn (by decide +kernel : decode cX11_sea 50 = .ok (.aload_n 0, 1)) rfl).to, ?_⟩
  refine List.forall_mem_cons.mpr ⟨(s_get (ci := 11) (k := 41) (by decide +kernel : decode cX11_sea 51 = .ok (.getfield 137, 3)) rfl (by decide) wd1374 inX11 rfl).to, ?_⟩
  refine List.forall_mem_cons.mpr ⟨(s_imul (by decide +kernel : decode cX11_sea 54 = .ok (.imul, 1))).to, ?_⟩
  refine List.forall_mem_cons.mpr ⟨(s_iloadn (by decide +kernel : decode cX11_sea 55 = .ok (.iload_n 1, 1)) rfl).to, ?_⟩
  refine List.forall_mem_cons.mpr ⟨(s_iadd (by decide +kernel : decode cX11_sea 56 = .ok (.iadd, 1))).to, ?_⟩
  refine List.forall_mem_cons.mpr ⟨(s_iconst (by decide +kernel : decode cX11_sea 57 = .ok (.iconst 0, 1)) (by decide)).to, ?_⟩
  refine List.forall_mem_cons.mpr ⟨(s_iast (by decide +kernel : decode cX11_sea 58 = .ok (.iastore, 1))).to, ?_⟩
  refine List.forall_mem_cons.mpr ⟨(s_iinc (by decide +kernel : decode cX11_sea 59 = .ok (.iinc 1 1, 3)) (by decide) (by decide)).to, ?_⟩
  refine List.forall_mem_cons.mpr ⟨(s_goto (by decide +kernel : decode cX11_sea 62 = .ok (.goto (-22), 3)) (by decide)).to, ?_⟩
  refine List.forall_mem_cons.mpr ⟨(s_iconst (by decide +kernel : decode cX11_sea 65 = .ok (.iconst 0, 1)) (by decide)).to, ?_⟩
  refine List.forall_mem_cons.mpr ⟨(s_istoren (by decide +kernel : decode cX11_sea 66 = .ok (.istore_n 1, 1)) rfl (by decide)).to, ?_⟩
  refine List.forall_mem_cons.mpr ⟨(s_iloadn (by decide +kernel : decode cX11_sea 67 = .ok (.iload_n 1, 1)) rfl).to, ?_⟩
  refine List.forall_mem_cons.mpr ⟨(s_sipush (by decide +kernel : decode cX11_sea 68 = .ok (.sipush 384, 3)) (by decide)).to, ?_⟩
  refine List.forall_mem_cons.mpr ⟨(s_icmp_ge (by decide +kernel : decode cX11_sea 71 = .ok (.if_icmp .ge 25, 3)) (by decide)).to, ?_⟩
  refine List.forall_mem_cons.mpr ⟨(s_aloadn (by decide +kernel : decode cX11_sea 74 = .ok (.aload_n 0, 1)) rfl).to, ?_⟩
  refine List.forall_mem_cons.mpr ⟨(s_get (ci := 11) (k := 26) (by decide +kernel : decode cX11_sea 75 = .ok (.getfield 91, 3)) rfl (by decide) wd1359 inX11 rfl).to, ?_⟩
  refine List.forall_mem_cons.mpr ⟨(s_sipush (by decide +kernel : decode cX11_sea 78 = .ok (.sipush 384, 3)) (by decide)).to, ?_⟩
  refine List.forall_mem_cons.mpr ⟨(s_aloadn (by decide +kernel : decode cX11_sea 81 = .ok (.aload_n 0, 1)) rfl).to, ?_⟩
  refine List.forall_mem_cons.mpr ⟨(s_get (ci := 11) (k := 41) (by decide +kernel : decode cX11_sea 82 = .ok (.getfield 137, 3)) rfl (by decide) wd1374 inX11 rfl).to, ?_⟩
  refine List.forall_mem_cons.mpr ⟨(s_imul (by decide +kernel : decode cX11_sea 85 = .ok (.imul, 1))).to, ?_⟩
  refine List.forall_mem_cons.mpr ⟨(s_iloadn (by decide +kernel : decode cX11_sea 86 = .ok (.iload_n 1, 1)) rfl).to, ?_⟩
  refine List.forall_mem_cons.mpr ⟨(s_iadd (by decide +kernel : decode cX11_sea 87 = .ok (.iadd, 1))).to, ?_⟩
  refine List.forall_mem_cons.mpr ⟨(s_iconst (by decide +kernel : decode cX11_sea 88 = .ok (.iconst (-1), 1)) (by decide)).to, ?_⟩
  refine List.forall_mem_cons.mpr ⟨(s_iast (by decide +kernel : decode cX11_sea 89 = .ok (.iastore, 1))).to, ?_⟩
  refine List.forall_mem_cons.mpr ⟨(s_iinc (by decide +kernel : decode cX11_sea 90 = .ok (.iinc 1 1, 3)) (by decide) (by decide)).to, ?_⟩
  refine List.forall_mem_cons.mpr ⟨(s_goto (by decide +kernel : decode cX11_sea 93 = .ok (.goto (-26), 3)) (by decide)).to, ?_⟩
  refine List.forall_mem_cons.mpr ⟨(s_aloadn (by decide +kernel : decode cX11_sea 96 = .ok (.aload_n 0, 1)) rfl).to, ?_⟩
  refine List.forall_mem_cons.mpr ⟨(s_get (ci := 11) (k := 19) (by decide +kernel : decode cX11_sea 97 = .ok (.getfield 69, 3)) rfl (by decide) wd1352 inX11 rfl).to, ?_⟩
  refine List.forall_mem_cons.mpr ⟨(s_aloadn (by decide +kernel : decode cX11_sea 100 = .ok (.aload_n 0, 1)) rfl).to, ?_⟩
  refine List.forall_mem_cons.mpr ⟨(s_get (ci := 11) (k := 41) (by decide +kernel : decode cX11_sea 101 = .ok (.getfield 137, 3)) rfl (by decide) wd1374 inX11 rfl).to, ?_⟩
  exact fun _ h => absurd h List.not_mem_nil
theorem sn_tX11_sea_1 : ∀ q ∈ tX11_sea_1, am_Snd am_P0 RX11 cX11_sea 2 (Option.some FieldType.int) "sea" q.1 q.2 := by
  unfold tX11_sea_1
  refine List.forall_mem_cons.mpr ⟨(s_iconst (by decide +kernel : decode cX11_sea 104 = .ok (.iconst 0, 1)) (by decide)).to, ?_⟩
  refine List.forall_mem_cons.mpr ⟨(s_iast (by decide +kernel : decode cX11_sea 105 = .ok (.iastore, 1))).to, ?_⟩
  refine List.forall_mem_cons.mpr ⟨(s_aloadn (by decide +kernel : decode cX11_sea 106 = .ok (.aload_n 0, 1)) rfl).to, ?_⟩
  refine List.forall_mem_cons.mpr ⟨(s_get (ci := 11) (k := 25) (by decide +kernel : decode cX11_sea 107 = .ok (.getfield 88, 3)) rfl (by decide) wd1358 inX11 rfl).to, ?_⟩
  refine List.forall_mem_cons.mpr ⟨(s_aloadn (by decide +kernel : decode cX11_sea 110 = .ok (.aload_n 0, 1)) rfl).to, ?_⟩
  refine List.forall_mem_cons.mpr ⟨(s_get (ci := 11) (k := 41) (by decide +kernel : decode cX11_sea 111 = .ok (.getfield 137, 3)) rfl (by decide) wd1374 inX11 rfl).to, ?_⟩
  refine List.forall_mem_cons.mpr ⟨(s_iconst (by decide +kernel : decode cX11_sea 114 = .ok (.iconst 0, 1)) (by decide)).to, ?_⟩
  refine List.forall_mem_cons.mpr ⟨(s_iast (by decide +kernel : decode cX11_sea 115 = .ok (.iastore, 1))).to, ?_⟩
  refine List.forall_mem_cons.mpr ⟨(s_aloadn (by decide +kernel : decode cX11_sea 116 = .ok (.aload_n 0, 1)) rfl).to, ?_⟩
  refine List.forall_mem_cons.mpr ⟨(s_get (ci := 11) (k := 28) (by decide +kernel : decode cX11_sea 117 = .ok (.getfield 98, 3)) rfl (by decide) wd1361 inX11 rfl).to, ?_⟩
  refine List.forall_mem_cons.mpr ⟨(s_aloadn (by decide +kernel : decode cX11_sea 120 = .ok (.aload_n 0, 1)) rfl).to, ?_⟩
  refine List.forall_mem_cons.mpr ⟨(s_get (ci := 11) (k := 41) (by decide +kernel : decode cX11_sea 121 = .ok (.getfield 137, 3)) rfl (by decide) wd1374 inX11 rfl).to, ?_⟩
  refine List.forall_mem_cons.mpr ⟨(s_iconst (by decide +kernel : decode cX11_sea 124 = .ok (.iconst 0, 1)) (by decide)).to, ?_⟩
  refine List.forall_mem_cons.mpr ⟨(s_iast (by decide +kernel : decode cX11_sea 125 = .ok (.iastore, 1))).to, ?_⟩
  refine List.forall_mem_cons.mpr ⟨(s_aloadn (by decide +kernel : decode cX11_sea 126 = .ok (.aload_n 0, 1)) rfl).to, ?_⟩
  refine List.forall_mem_cons.mpr ⟨(s_get (ci := 11) (k := 33) (by decide +kernel : decode cX11_sea 127 = .ok (.getfield 113, 3)) rfl (by decide) wd1366 inX11 rfl).to, ?_⟩
  refine List.forall_mem_cons.mpr ⟨(s_aloadn (by decide +kernel : decode cX11_sea 130 = .ok (.aload_n 0, 1)) rfl).to, ?_⟩
  refine List.forall_mem_cons.mpr ⟨(s_get (ci := 11) (k := 41) (by decide +kernel : decode cX11_sea 131 = .ok (.getfield 137, 3)) rfl (by decide) wd1374 inX11 rfl).to, ?_⟩
  refine List.forall_mem_cons.mpr ⟨(s_iconst (by decide +kernel : decode cX11_sea 134 = .ok (.iconst 0, 1)) (by decide)).to, ?_⟩
  refine List.forall_mem_cons.mpr ⟨(s_iast (by decide +kernel : decode cX11_sea 135 = .ok (.iastore, 1))).to, ?_⟩
  refine List.forall_mem_cons.mpr ⟨(s_aloadn (by decide +kernel : decode cX11_sea 136 = .ok (.aload_n 0, 1)) rfl).to, ?_⟩
  refine List.forall_mem_cons.mpr ⟨(s_get (ci := 11) (k := 37) (by decide +kernel : decode cX11_sea 137 = .ok (.getfield 125, 3)) rfl (by decide) wd1370 inX11 rfl).to, ?_⟩
  refine List.forall_mem_cons.mpr ⟨(s_aloadn (by decide +kernel : decode cX11_sea 140 = .ok (.aload_n 0, 1)) rfl).to, ?_⟩
  refine List.forall_mem_cons.mpr ⟨(s_get (ci := 11) (k := 41) (by decide +kernel : decode cX11_sea 141 = .ok (.getfield 137, 3)) rfl (by decide) wd1374 inX11 rfl).to, ?_⟩
  refine List.forall_mem_cons.mpr ⟨(s_bipush (by decide +kernel : decode cX11_sea 144 = .ok (.bipush 10, 2)) (by decide)).to, ?_⟩
  refine List.forall_mem_cons.mpr ⟨(s_iast (by decide +kernel : decode cX11_sea 146 = .ok (.iastore, 1))).to, ?_⟩
  refine List.forall_mem_cons.mpr ⟨(s_aloadn (by decide +kernel : decode cX11_sea 147 = .ok (.aload_n 0, 1)) rfl).to, ?_⟩
  refine List.forall_mem_cons.mpr ⟨(s_iconst (by decide +kernel : decode cX11_sea 148 = .ok (.iconst 0, 1)) (by decide)).to, ?_⟩
  refine List.forall_mem_cons.mpr ⟨(s_put (ci := 11) (k := 40) (by decide +kernel : decode cX11_sea 149 = .ok (.putfield 134, 3)) rfl (by decide) wd1373 inX11 tyX11_ok nmX11 rfl rfl).to, ?_⟩
  refine List.forall_mem_cons.mpr ⟨(s_iconst (by decide +kernel : decode cX11_sea 152 = .ok (.iconst 1, 1)) (by decide)).to, ?_⟩
  refine List.forall_mem_cons.mpr ⟨(s_istoren (by decide +kernel : decode cX11_sea 153 = .ok (.istore_n 1, 1)) rfl (by decide)).to, ?_⟩
  refine List.forall_mem_cons.mpr ⟨(s_aloadn (by decide +kernel : decode cX11_sea 154 = .ok (.aload_n 0, 1)) rfl).to, ?_⟩
  refine List.forall_mem_cons.mpr ⟨z_cv (by decide +kernel : decode cX11_sea 155 = .ok (.invokevirtual 286, 3)) mt174 wd1603 (ci := 11) rfl (by decide), ?_⟩
  refine List.forall_mem_cons.mpr ⟨(s_aloadn (by decide +kernel : decode cX11_sea 158 = .ok (.aload_n 0, 1)) rfl).to, ?_⟩
  refine List.forall_mem_cons.mpr ⟨z_cv (by decide +kernel : decode cX11_sea 159 = .ok (.invokevirtual 438, 3)) mt197 wd1617 (ci := 11) rfl (by decide), ?_⟩
  refine List.forall_mem_cons.mpr ⟨(s_aloadn (by decide +kernel : decode cX11_sea 162 = .ok (.aload_n 0, 1)) rfl).to, ?_⟩
  refine List.forall_mem_cons.mpr ⟨(s_get (ci := 11) (k := 8) (by decide +kernel : decode cX11_sea 163 = .ok (.getfield 36, 3)) rfl (by decide) wd1341 inX11 rfl).to, ?_⟩
  refine List.forall_mem_cons.mpr ⟨(s_if_ne (by decide +kernel : decode cX11_sea 166 = .ok (.ifCond .ne 20, 3)) (by decide)).to, ?_⟩
  refine List.forall_mem_cons.mpr ⟨(s_aloadn (by decide +kernel : decode cX11_sea 169 = .ok (.aload_n 0, 1)) rfl).to, ?_⟩
  refine List.forall_mem_cons.mpr ⟨(s_get (ci := 11) (k := 3) (by decide +kernel : decode cX11_sea 170 = .ok (.getfield 20, 3)) rfl (by decide) wd1336 inX11 rfl).to, ?_⟩
  refine List.forall_mem_cons.mpr ⟨(s_if_eq (by decide +kernel : decode cX11_sea 173 = .ok (.ifCond .eq 13, 3)) (by decide)).to, ?_⟩
  refine List.forall_mem_cons.mpr ⟨(s_aloadn (by decide +kernel : decode cX11_sea 176 = .ok (.aload_n 0, 1)) rfl).to, ?_⟩
  refine List.forall_mem_cons.mpr ⟨z_cv (by decide +kernel : decode cX11_sea 177 = .ok (.invokevirtual 441, 3)) mt205 wd1641 (ci := 11) rfl (by decide), ?_⟩
  refine List.forall_mem_cons.mpr ⟨(s_iinc (by decide +kernel : decode cX11_sea 180 = .ok (.iinc 1 1, 3)) (by decide) (by decide)).to, ?_⟩
  refine List.forall_mem_cons.mpr ⟨(s_goto (by decide +kernel : decode cX11_sea 183 = .ok (.goto (-21), 3)) (by decide)).to, ?_⟩
  refine List.forall_mem_cons.mpr ⟨(s_aloadn (by decide +kernel : decode cX11_sea 186 = .ok (.aload_n 0, 1)) rfl).to, ?_⟩
  refine List.forall_mem_cons.mpr ⟨(s_aloadn (by decide +kernel : decode cX11_sea 187 = .ok (.aload_n 0, 1)) rfl).to, ?_⟩
  refine List.forall_mem_cons.mpr ⟨(s_get (ci := 11) (k := 8) (by decide +kernel : decode cX11_sea 188 = .ok (.getfield 36, 3)) rfl (by decide) wd1341 inX11 rfl).to, ?_⟩
  refine List.forall_mem_cons.mpr ⟨(s_put (ci := 11) (k := 10) (by decide +kernel : decode cX11_sea 191 = .ok (.putfield 42, 3)) rfl (by decide) wd1343 inX11 tyX11_ok nmX11 rfl rfl).to, ?_⟩
  refine List.forall_mem_cons.mpr ⟨(s_aloadn (by decide +kernel : decode cX11_sea 194 = .ok (.aload_n 0, 1)) rfl).to, ?_⟩
  refine List.forall_mem_cons.mpr ⟨(s_aloadn (by decide +kernel : decode cX11_sea 195 = .ok (.aload_n 0, 1)) rfl).to, ?_⟩
  refine List.forall_mem_cons.mpr ⟨(s_get (ci := 11) (k := 9) (by decide +kernel : decode cX11_sea 196 = .ok (.getfield 39, 3)) rfl (by decide) wd1342 inX11 rfl).to, ?_⟩
  refine List.forall_mem_cons.mpr ⟨(s_put (ci := 11) (k := 11) (by decide +kernel : decode cX11_sea 199 = .ok (.putfield 45, 3)) rfl (by decide) wd1344 inX11 tyX11_ok nmX11 rfl rfl).to, ?_⟩
  refine List.forall_mem_cons.mpr ⟨(s_aloadn (by decide +kernel : decode cX11_sea 202 = .ok (.aload_n 0, 1)) rfl).to, ?_⟩
  refine List.forall_mem_cons.mpr ⟨(s_get (ci := 11) (k := 8) (by decide +kernel : decode cX11_sea 203 = .ok (.getfield 36, 3)) rfl (by decide) wd1341 inX11 rfl).to, ?_⟩
  refine List.forall_mem_cons.mpr ⟨(s_if_le (by decide +kernel : decode cX11_sea 206 = .ok (.ifCond .le 9, 3)) (by decide)).to, ?_⟩
  refine List.forall_mem_cons.mpr ⟨(s_aloadn (by decide +kernel : decode cX11_sea 209 = .ok (.aload_n 0, 1)) rfl).to, ?_⟩
  refine List.forall_mem_cons.mpr ⟨(s_iconst (by decide +kernel : decode cX11_sea 210 = .ok (.iconst 1, 1)) (by decide)).to, ?_⟩
  refine List.forall_mem_cons.mpr ⟨z_cv (by decide +kernel : decode cX11_sea 211 = .ok (.invokevirtual 264, 3)) mt208 wd1587 (ci := 11) rfl (by decide), ?_⟩
  refine List.forall_mem_cons.mpr ⟨s_iret (by decide +kernel : decode cX11_sea 214 = .ok (.ireturn, 1)) rfl, ?_⟩
  exact fun _ h => absurd h List.not_mem_nil
theorem sn_tX11_sea_2 : ∀ q ∈ tX11_sea_2, am_Snd am_P0 RX11 cX11_sea 2 (Option.some FieldType.int) "sea" q.1 q.2 := by
  unfold tX11_sea_2
  refine List.forall_mem_cons.mpr ⟨(s_aloadn (by decide +kernel : decode cX11_sea 215 = .ok (.aload_n 0, 1)) rfl).to, ?_⟩
  refine List.forall_mem_cons.mpr ⟨(s_aloadn (by decide +kernel : decode cX11_sea 216 = .ok (.aload_n 0, 1)) rfl).to, ?_⟩
  refine List.forall_mem_cons.mpr ⟨(s_get (ci := 11) (k := 41) (by decide +kernel : decode cX11_sea 217 = .ok (.getfield 137, 3)) rfl (by decide) wd1374 inX11 rfl).to, ?_⟩
  refine List.forall_mem_cons.mpr ⟨(s_put (ci := 11) (k := 12) (by decide +kernel : decode cX11_sea 220 = .ok (.putfield 48, 3)) rfl (by decide) wd1345 inX11 tyX11_ok nmX11 rfl rfl).to, ?_⟩
  refine List.forall_mem_cons.mpr ⟨(s_aloadn (by decide +kernel : decode cX11_sea 223 = .ok (.aload_n 0, 1)) rfl).to, ?_⟩
  refine List.forall_mem_cons.mpr ⟨z_cv (by decide +kernel : decode cX11_sea 224 = .ok (.invokevirtual 444, 3)) mt223 wd1767 (ci := 11) rfl (by decide), ?_⟩
  refine List.forall_mem_cons.mpr ⟨(s_iloadn (by decide +kernel : decode cX11_sea 227 = .ok (.iload_n 1, 1)) rfl).to, ?_⟩
  refine List.forall_mem_cons.mpr ⟨s_iret (by decide +kernel : decode cX11_sea 228 = .ok (.ireturn, 1)) rfl, ?_⟩
  exact fun _ h => absurd h List.not_mem_nil
theorem sn_tX11_sea : ∀ q ∈ tX11_sea, am_Snd am_P0 RX11 cX11_sea 2 (Option.some FieldType.int) "sea" q.1 q.2 := by
  unfold tX11_sea
  exact List.forall_mem_append.mpr ⟨List.forall_mem_append.mpr ⟨sn_tX11_sea_0, sn_tX11_sea_1⟩, sn_tX11_sea_2⟩
theorem sn_tX11_fault : ∀ q ∈ tX11_fault, am_Snd am_P0 RX11 cX11_fault 2 (Option.some FieldType.int) "fault" q.1 q.2 := by
  unfold tX11_fault
  refine List.forall_mem_cons.mpr ⟨(s_iloadn (by decide +kernel : decode cX11_fault 0 = .ok (.iload_n 1, 1)) rfl).to, ?_⟩
  refine List.forall_mem_cons.mpr ⟨(s_if_ne (by decide +kernel : decode cX11_fault 1 = .ok (.ifCond .ne 10, 3)) (by decide)).to, ?_⟩
  refine List.forall_mem_cons.mpr ⟨(s_aloadn (by decide +kernel : decode cX11_fault 4 = .ok (.aload_n 0, 1)) rfl).to, ?_⟩
  refine List.forall_mem_cons.mpr ⟨(s_get (ci := 11) (k := 10) (by decide +kernel : decode cX11_fault 5 = .ok (.getfield 42, 3)) rfl (by decide) wd1343 inX11 rfl).to, ?_⟩
  refine List.forall_mem_cons.mpr ⟨(s_goto (by decide +kernel : decode cX11_fault 8 = .ok (.goto 16, 3)) (by decide)).to, ?_⟩
  refine List.forall_mem_cons.mpr ⟨(s_iloadn (by decide +kernel : decode cX11_fault 11 = .ok (.iload_n 1, 1)) rfl).to, ?_⟩
  refine List.forall_mem_cons.mpr ⟨(s_iconst (by decide +kernel : decode cX11_fault 12 = .ok (.iconst 1, 1)) (by decide)).to, ?_⟩
  refine List.forall_mem_cons.mpr ⟨(s_icmp_ne (by decide +kernel : decode cX11_fault 13 = .ok (.if_icmp .ne 10, 3)) (by decide)).to, ?_⟩
  refine List.forall_mem_cons.mpr ⟨(s_aloadn (by decide +kernel : decode cX11_fault 16 = .ok (.aload_n 0, 1)) rfl).to, ?_⟩
  refine List.forall_mem_cons.mpr ⟨(s_get (ci := 11) (k := 11) (by decide +kernel : decode cX11_fault 17 = .ok (.getfield 45, 3)) rfl (by decide) wd1344 inX11 rfl).to, ?_⟩
  refine List.forall_mem_cons.mpr ⟨(s_goto (by decide +kernel : decode cX11_fault 20 = .ok (.goto 4, 3)) (by decide)).to, ?_⟩
  refine List.forall_mem_cons.mpr ⟨(s_iconst (by decide +kernel : decode cX11_fault 23 = .ok (.iconst (-1), 1)) (by decide)).to, ?_⟩
  refine List.forall_mem_cons.mpr ⟨s_iret (by decide +kernel : decode cX11_fault 24 = .ok (.ireturn, 1)) rfl, ?_⟩
  exact fun _ h => absurd h List.not_mem_nil
theorem sn_tX11_refuses : ∀ q ∈ tX11_refuses, am_Snd am_P0 RX11 cX11_refuses 2 (Option.some FieldType.int) "refuses" q.1 q.2 := by
  unfold tX11_refuses
  refine List.forall_mem_cons.mpr ⟨(s_aloadn (by decide +kernel : decode cX11_refuses 0 = .ok (.aload_n 0, 1)) rfl).to, ?_⟩
  refine List.forall_mem_cons.mpr ⟨(s_get (ci := 11) (k := 52) (by decide +kernel : decode cX11_refuses 1 = .ok (.getfield 171, 3)) rfl (by decide) wd1385 inX11 rfl).to, ?_⟩
  refine List.forall_mem_cons.mpr ⟨(s_iloadn (by decide +kernel : decode cX11_refuses 4 = .ok (.iload_n 1, 1)) rfl).to, ?_⟩
  refine List.forall_mem_cons.mpr ⟨(s_dup2 (by decide +kernel : decode cX11_refuses 5 = .ok (.dup2, 1))).to, ?_⟩
  refine List.forall_mem_cons.mpr ⟨(s_iald (by decide +kernel : decode cX11_refuses 6 = .ok (.iaload, 1))).to, ?_⟩
  refine List.forall_mem_cons.mpr ⟨(s_iconst (by decide +kernel : decode cX11_refuses 7 = .ok (.iconst 1, 1)) (by decide)).to, ?_⟩
  refine List.forall_mem_cons.mpr ⟨(s_iadd (by decide +kernel : decode cX11_refuses 8 = .ok (.iadd, 1))).to, ?_⟩
  refine List.forall_mem_cons.mpr ⟨(s_iast (by decide +kernel : decode cX11_refuses 9 = .ok (.iastore, 1))).to, ?_⟩
  refine List.forall_mem_cons.mpr ⟨(s_iconst (by decide +kernel : decode cX11_refuses 10 = .ok (.iconst (-1), 1)) (by decide)).to, ?_⟩
  refine List.forall_mem_cons.mpr ⟨s_iret (by decide +kernel : decode cX11_refuses 11 = .ok (.ireturn, 1)) rfl, ?_⟩
  exact fun _ h => absurd h List.not_mem_nil
theorem sn_tX11_status : ∀ q ∈ tX11_status, am_Snd am_P0 RX11 cX11_status 2 (Option.some FieldType.int) "status" q.1 q.2 := by
  unfold tX11_status
  refine List.forall_mem_cons.mpr ⟨(s_iloadn (by decide +kernel : decode cX11_status 0 = .ok (.iload_n 1, 1)) rfl).to, ?_⟩
  refine List.forall_mem_cons.mpr ⟨(s_iconst (by decide +kernel : decode cX11_status 1 = .ok (.iconst 0, 1)) (by decide)).to, ?_⟩
  refine List.forall_mem_cons.mpr ⟨(s_iconst (by decide +kernel : decode cX11_status 2 = .ok (.iconst 4, 1)) (by decide)).to, ?_⟩
  refine List.forall_mem_cons.mpr ⟨z_cs (by decide +kernel : decode cX11_status 3 = .ok (.invokestatic 343, 3)) mt167 wd1630, ?_⟩
  refine List.forall_mem_cons.mpr ⟨(s_if_eq (by decide +kernel : decode cX11_status 6 = .ok (.ifCond .eq 12, 3)) (by decide)).to, ?_⟩
  refine List.forall_mem_cons.mpr ⟨(s_aloadn (by decide +kernel : decode cX11_status 9 = .ok (.aload_n 0, 1)) rfl).to, ?_⟩
  refine List.forall_mem_cons.mpr ⟨(s_get (ci := 11) (k := 52) (by decide +kernel : decode cX11_status 10 = .ok (.getfield 171, 3)) rfl (by decide) wd1385 inX11 rfl).to, ?_⟩
  refine List.forall_mem_cons.mpr ⟨(s_iloadn (by decide +kernel : decode cX11_status 13 = .ok (.iload_n 1, 1)) rfl).to, ?_⟩
  refine List.forall_mem_cons.mpr ⟨(s_iald (by decide +kernel : decode cX11_status 14 = .ok (.iaload, 1))).to, ?_⟩
  refine List.forall_mem_cons.mpr ⟨(s_goto (by decide +kernel : decode cX11_status 15 = .ok (.goto 4, 3)) (by decide)).to, ?_⟩
  refine List.forall_mem_cons.mpr ⟨(s_iconst (by decide +kernel : decode cX11_status 18 = .ok (.iconst (-1), 1)) (by decide)).to, ?_⟩
  refine List.forall_mem_cons.mpr ⟨s_iret (by decide +kernel : decode cX11_status 19 = .ok (.ireturn, 1)) rfl, ?_⟩
  exact fun _ h => absurd h List.not_mem_nil
theorem sn_tX11_bounded : ∀ q ∈ tX11_bounded, am_Snd am_P0 RX11 cX11_bounded 2 (Option.some FieldType.long) "bounded" q.1 q.2 := by
  unfold tX11_bounded
  refine List.forall_mem_cons.mpr ⟨(s_lloadn (by decide +kernel : decode cX11_bounded 0 = .ok (.lload_n 0, 1)) rfl).to, ?_⟩
  refine List.forall_mem_cons.mpr ⟨(s_ldc2 (by decide +kernel : decode cX11_bounded 1 = .ok (.ldc2_w 447, 3)) wd1801).to, ?_⟩
  refine List.forall_mem_cons.mpr ⟨(s_lcmp (by decide +kernel : decode cX11_bounded 4 = .ok (.lcmp, 1))).to, ?_⟩
  refine List.forall_mem_cons.mpr ⟨(s_if_le (by decide +kernel : decode cX11_bounded 5 = .ok (.ifCond .le 9, 3)) (by decide)).to, ?_⟩
  refine List.forall_mem_cons.mpr ⟨(s_ldc2 (by decide +kernel : decode cX11_bounded 8 = .ok (.ldc2_w 447, 3)) wd1801).to, ?_⟩
  refine List.forall_mem_cons.mpr ⟨(s_goto (by decide +kernel : decode cX11_bounded 11 = .ok (.goto 18, 3)) (by decide)).to, ?_⟩
  refine List.forall_mem_cons.mpr ⟨(s_lloadn (by decide +kernel : decode cX11_bounded 14 = .ok (.lload_n 0, 1)) rfl).to, ?_⟩
  refine List.forall_mem_cons.mpr ⟨(s_ldc2 (by decide +kernel : decode cX11_bounded 15 = .ok (.ldc2_w 449, 3)) wd1802).to, ?_⟩
  refine List.forall_mem_cons.mpr ⟨(s_lcmp (by decide +kernel : decode cX11_bounded 18 = .ok (.lcmp, 1))).to, ?_⟩
  refine List.forall_mem_cons.mpr ⟨(s_if_ge (by decide +kernel : decode cX11_bounded 19 = .ok (.ifCond .ge 9, 3)) (by decide)).to, ?_⟩
  refine List.forall_mem_cons.mpr ⟨(s_ldc2 (by decide +kernel : decode cX11_bounded 22 = .ok (.ldc2_w 449, 3)) wd1802).to, ?_⟩
  refine List.forall_mem_cons.mpr ⟨(s_goto (by decide +kernel : decode cX11_bounded 25 = .ok (.goto 4, 3)) (by decide)).to, ?_⟩
  refine List.forall_mem_cons.mpr ⟨(s_lloadn (by decide +kernel : decode cX11_bounded 28 = .ok (.lload_n 0, 1)) rfl).to, ?_⟩
  refine List.forall_mem_cons.mpr ⟨s_lret (by decide +kernel : decode cX11_bounded 29 = .ok (.lreturn, 1)) rfl, ?_⟩
  exact fun _ h => absurd h List.not_mem_nil
theorem sn_tX11_over : ∀ q ∈ tX11_over, am_Snd am_P0 RX11 cX11_over 6 (Option.some FieldType.long) "over" q.1 q.2 := by
  unfold tX11_over
  refine List.forall_mem_cons.mpr ⟨(s_lloadn (by decide +kernel : decode cX11_over 0 = .ok (.lload_n 2, 1)) rfl).to, ?_⟩
  refine List.forall_mem_cons.mpr ⟨(s_lconst (by decide +kernel : decode cX11_over 1 = .ok (.lconst 0, 1)) (by decide)).to, ?_⟩
  refine List.forall_mem_cons.mpr ⟨(s_lcmp (by decide +kernel : decode cX11_over 2 = .ok (.lcmp, 1))).to, ?_⟩
  refine List.forall_mem_cons.mpr ⟨(s_if_ne (by decide +kernel : decode cX11_over 3 = .ok (.ifCond .ne 5, 3)) (by decide)).to, ?_⟩
  refine List.forall_mem_cons.mpr ⟨(s_lconst (by decide +kernel : decode cX11_over 6 = .ok (.lconst 0, 1)) (by decide)).to, ?_⟩
  refine List.forall_mem_cons.mpr ⟨s_lret (by decide +kernel : decode cX11_over 7 = .ok (.lreturn, 1)) rfl, ?_⟩
  refine List.forall_mem_cons.mpr ⟨(s_lloadn (by decide +kernel : decode cX11_over 8 = .ok (.lload_n 0, 1)) rfl).to, ?_⟩
  refine List.forall_mem_cons.mpr ⟨(s_lloadn (by decide +kernel : decode cX11_over 9 = .ok (.lload_n 2, 1)) rfl).to, ?_⟩
  refine List.forall_mem_cons.mpr ⟨(s_ldiv (by decide +kernel : decode cX11_over 10 = .ok (.ldiv, 1))).to, ?_⟩
  refine List.forall_mem_cons.mpr ⟨(s_lstore (by decide +kernel : decode cX11_over 11 = .ok (.lstore 4, 2)) (by decide)).to, ?_⟩
  refine List.forall_mem_cons.mpr ⟨(s_lloadn (by decide +kernel : decode cX11_over 13 = .ok (.lload_n 0, 1)) rfl).to, ?_⟩
  refine List.forall_mem_cons.mpr ⟨(s_lloadn (by decide +kernel : decode cX11_over 14 = .ok (.lload_n 2, 1)) rfl).to, ?_⟩
  refine List.forall_mem_cons.mpr ⟨(s_lrem (by decide +kernel : decode cX11_over 15 = .ok (.lrem, 1))).to, ?_⟩
  refine List.forall_mem_cons.mpr ⟨(s_lconst (by decide +kernel : decode cX11_over 16 = .ok (.lconst 0, 1)) (by decide)).to, ?_⟩
  refine List.forall_mem_cons.mpr ⟨(s_lcmp (by decide +kernel : decode cX11_over 17 = .ok (.lcmp, 1))).to, ?_⟩
  refine List.forall_mem_cons.mpr ⟨(s_if_eq (by decide +kernel : decode cX11_over 18 = .ok (.ifCond .eq 35, 3)) (by decide)).to, ?_⟩
  refine List.forall_mem_cons.mpr ⟨(s_lloadn (by decide +kernel : decode cX11_over 21 = .ok (.lload_n 0, 1)) rfl).to, ?_⟩
  refine List.forall_mem_cons.mpr ⟨(s_lconst (by decide +kernel : decode cX11_over 22 = .ok (.lconst 0, 1)) (by decide)).to, ?_⟩
  refine List.forall_mem_cons.mpr ⟨(s_lcmp (by decide +kernel : decode cX11_over 23 = .ok (.lcmp, 1))).to, ?_⟩
  refine List.forall_mem_cons.mpr ⟨(s_if_ge (by decide +kernel : decode cX11_over 24 = .ok (.ifCond .ge 7, 3)) (by decide)).to, ?_⟩
  refine List.forall_mem_cons.mpr ⟨(s_iconst (by decide +kernel : decode cX11_over 27 = .ok (.iconst 1, 1)) (by decide)).to, ?_⟩
  refine List.forall_mem_cons.mpr ⟨(s_goto (by decide +kernel : decode cX11_over 28 = .ok (.goto 4, 3)) (by decide)).to, ?_⟩
  refine List.forall_mem_cons.mpr ⟨(s_iconst (by decide +kernel : decode cX11_over 31 = .ok (.iconst 0, 1)) (by decide)).to, ?_⟩
  refine List.forall_mem_cons.mpr ⟨(s_lloadn (by decide +kernel : decode cX11_over 32 = .ok (.lload_n 2, 1)) rfl).to, ?_⟩
  refine List.forall_mem_cons.mpr ⟨(s_lconst (by decide +kernel : decode cX11_over 33 = .ok (.lconst 0, 1)) (by decide)).to, ?_⟩
  refine List.forall_mem_cons.mpr ⟨(s_lcmp (by decide +kernel : decode cX11_over 34 = .ok (.lcmp, 1))).to, ?_⟩
  refine List.forall_mem_cons.mpr ⟨(s_if_ge (by decide +kernel : decode cX11_over 35 = .ok (.ifCond .ge 7, 3)) (by decide)).to, ?_⟩
  refine List.forall_mem_cons.mpr ⟨(s_iconst (by decide +kernel : decode cX11_over 38 = .ok (.iconst 1, 1)) (by decide)).to, ?_⟩
  refine List.forall_mem_cons.mpr ⟨(s_goto (by decide +kernel : decode cX11_over 39 = .ok (.goto 4, 3)) (by decide)).to, ?_⟩
  refine List.forall_mem_cons.mpr ⟨(s_iconst (by decide +kernel : decode cX11_over 42 = .ok (.iconst 0, 1)) (by decide)).to, ?_⟩
  refine List.forall_mem_cons.mpr ⟨(s_icmp_eq (by decide +kernel : decode cX11_over 43 = .ok (.if_icmp .eq 10, 3)) (by decide)).to, ?_⟩
  refine List.forall_mem_cons.mpr ⟨(s_lload (by decide +kernel : decode cX11_over 46 = .ok (.lload 4, 2))).to, ?_⟩
  refine List.forall_mem_cons.mpr ⟨(s_lconst (by decide +kernel : decode cX11_over 48 = .ok (.lconst 1, 1)) (by decide)).to, ?_⟩
  refine List.forall_mem_cons.mpr ⟨(s_lsub (by decide +kernel : decode cX11_over 49 = .ok (.lsub, 1))).to, ?_⟩
  refine List.forall_mem_cons.mpr ⟨(s_goto (by decide +kernel : decode cX11_over 50 = .ok (.goto 5, 3)) (by decide)).to, ?_⟩
  refine List.forall_mem_cons.mpr ⟨(s_lload (by decide +kernel : decode cX11_over 53 = .ok (.lload 4, 2))).to, ?_⟩
  refine List.forall_mem_cons.mpr ⟨s_lret (by decide +kernel : decode cX11_over 55 = .ok (.lreturn, 1)) rfl, ?_⟩
  exact fun _ h => absurd h List.not_mem_nil
theorem sn_tX11_made_0 : ∀ q ∈ tX11_made_0, am_Snd am_P0 RX11 cX11_made 5 (Option.some FieldType.long) "made" q.1 q.2 := by
  unfold tX11_made_0
  refine List.forall_mem_cons.mpr ⟨(s_iloadn (by decide +kernel : decode cX11_made 0 = .ok (.iload_n 0, 1)) rfl).to, ?_⟩
  refine List.forall_mem_cons.mpr ⟨(s_table (by decide +kernel : decode cX11_made 1 = .ok (.tableswitch 170 10 20 #[59, 66, 73, 80, 86, 106, 118, 130, 142, 154, 166], 59)) (by decide) (by decide) (by decide) (by decide)).to, ?_⟩
  refine List.forall_mem_cons.mpr ⟨(s_lloadn (by decide +kernel : decode cX11_made 60 = .ok (.lload_n 1, 1)) rfl).to, ?_⟩
  refine List.forall_mem_cons.mpr ⟨(s_lloadn (by decide +kernel : decode cX11_made 61 = .ok (.lload_n 3, 1)) rfl).to, ?_⟩
  refine List.forall_mem_cons.mpr ⟨(s_ladd (by decide +kernel : decode cX11_made 62 = .ok (.ladd, 1))).to, ?_⟩
  refine List.forall_mem_cons.mpr ⟨z_cs (by decide +kernel : decode cX11_made 63 = .ok (.invokestatic 451, 3)) mt210 wd1798, ?_⟩
  refine List.forall_mem_cons.mpr ⟨s_lret (by decide +kernel : decode cX11_made 66 = .ok (.lreturn, 1)) rfl, ?_⟩
  refine List.forall_mem_cons.mpr ⟨(s_lloadn (by decide +kernel : decode cX11_made 67 = .ok (.lload_n 1, 1)) rfl).to, ?_⟩
  refine List.forall_mem_cons.mpr ⟨(s_lloadn (by decide +kernel : decode cX11_made 68 = .ok (.lload_n 3, 1)) rfl).to, ?_⟩
  refine List.forall_mem_cons.mpr ⟨(s_lsub (by decide +kernel : decode cX11_made 69 = .ok (.lsub, 1))).to, ?_⟩
  refine List.forall_mem_cons.mpr ⟨z_cs (by decide +kernel : decode cX11_made 70 = .ok (.invokestatic 451, 3)) mt210 wd1798, ?_⟩
  refine List.forall_mem_cons.mpr ⟨s_lret (by decide +kernel : decode cX11_made 73 = .ok (.lreturn, 1)) rfl, ?_⟩
  refine List.forall_mem_cons.mpr ⟨(s_lloadn (by decide +kernel : decode cX11_made 74 = .ok (.lload_n 1, 1)) rfl).to, ?_⟩
  refine List.forall_mem_cons.mpr ⟨(s_lloadn (by decide +kernel : decode cX11_made 75 = .ok (.lload_n 3, 1)) rfl).to, ?_⟩
  refine List.forall_mem_cons.mpr ⟨(s_lmul (by decide +kernel : decode cX11_made 76 = .ok (.lmul, 1))).to, ?_⟩
  refine List.forall_mem_cons.mpr ⟨z_cs (by decide +kernel : decode cX11_made 77 = .ok (.invokestatic 451, 3)) mt210 wd1798, ?_⟩
  refine List.forall_mem_cons.mpr ⟨s_lret (by decide +kernel : decode cX11_made 80 = .ok (.lreturn, 1)) rfl, ?_⟩
  refine List.forall_mem_cons.mpr ⟨(s_lloadn (by decide +kernel : decode cX11_made 81 = .ok (.lload_n 1, 1)) rfl).to, ?_⟩
  refine List.forall_mem_cons.mpr ⟨(s_lloadn (by decide +kernel : decode cX11_made 82 = .ok (.lload_n 3, 1)) rfl).to, ?_⟩
  refine List.forall_mem_cons.mpr ⟨z_cs (by decide +kernel : decode cX11_made 83 = .ok (.invokestatic 455, 3)) mt211 wd1803, ?_⟩
  refine List.forall_mem_cons.mpr ⟨s_lret (by decide +kernel : decode cX11_made 86 = .ok (.lreturn, 1)) rfl, ?_⟩
  refine List.forall_mem_cons.mpr ⟨(s_lloadn (by decide +kernel : decode cX11_made 87 = .ok (.lload_n 3, 1)) rfl).to, ?_⟩
  refine List.forall_mem_cons.mpr ⟨(s_lconst (by decide +kernel : decode cX11_made 88 = .ok (.lconst 0, 1)) (by decide)).to, ?_⟩
  refine List.forall_mem_cons.mpr ⟨(s_lcmp (by decide +kernel : decode cX11_made 89 = .ok (.lcmp, 1))).to, ?_⟩
  refine List.forall_mem_cons.mpr ⟨(s_if_ne (by decide +kernel : decode cX11_made 90 = .ok (.ifCond .ne 7, 3)) (by decide)).to, ?_⟩
  refine List.forall_mem_cons.mpr ⟨(s_lconst (by decide +kernel : decode cX11_made 93 = .ok (.lconst 0, 1)) (by decide)).to, ?_⟩
  refine List.forall_mem_cons.mpr ⟨(s_goto (by decide +kernel : decode cX11_made 94 = .ok (.goto 12, 3)) (by decide)).to, ?_⟩
  refine List.forall_mem_cons.mpr ⟨(s_lloadn (by decide +kernel : decode cX11_made 97 = .ok (.lload_n 1, 1)) rfl).to, ?_⟩
  refine List.forall_mem_cons.mpr ⟨(s_lloadn (by decide +kernel : decode cX11_made 98 = .ok (.lload_n 3, 1)) rfl).to, ?_⟩
  refine List.forall_mem_cons.mpr ⟨(s_lloadn (by decide +kernel : decode cX11_made 99 = .ok (.lload_n 1, 1)) rfl).to, ?_⟩
  refine List.forall_mem_cons.mpr ⟨(s_lloadn (by decide +kernel : decode cX11_made 100 = .ok (.lload_n 3, 1)) rfl).to, ?_⟩
  refine List.forall_mem_cons.mpr ⟨z_cs (by decide +kernel : decode cX11_made 101 = .ok (.invokestatic 455, 3)) mt211 wd1803, ?_⟩
  refine List.forall_mem_cons.mpr ⟨(s_lmul (by decide +kernel : decode cX11_made 104 = .ok (.lmul, 1))).to, ?_⟩
  refine List.forall_mem_cons.mpr ⟨(s_lsub (by decide +kernel : decode cX11_made 105 = .ok (.lsub, 1))).to, ?_⟩
  refine List.forall_mem_cons.mpr ⟨s_lret (by decide +kernel : decode cX11_made 106 = .ok (.lreturn, 1)) rfl, ?_⟩
  refine List.forall_mem_cons.mpr ⟨(s_lloadn (by decide +kernel : decode cX11_made 107 = .ok (.lload_n 1, 1)) rfl).to, ?_⟩
  refine List.forall_mem_cons.mpr ⟨(s_lloadn (by decide +kernel : decode cX11_made 108 = .ok (.lload_n 3, 1)) rfl).to, ?_⟩
  refine List.forall_mem_cons.mpr ⟨(s_lcmp (by decide +kernel : decode cX11_made 109 = .ok (.lcmp, 1))).to, ?_⟩
  refine List.forall_mem_cons.mpr ⟨(s_if_ge (by decide +kernel : decode cX11_made 110 = .ok (.ifCond .ge 7, 3)) (by decide)).to, ?_⟩
  refine List.forall_mem_cons.mpr ⟨(s_lloadn (by decide +kernel : decode cX11_made 113 = .ok (.lload_n 1, 1)) rfl).to, ?_⟩
  refine List.forall_mem_cons.mpr ⟨(s_goto (by decide +kernel : decode cX11_made 114 = .ok (.goto 4, 3)) (by decide)).to, ?_⟩
  refine List.forall_mem_cons.mpr ⟨(s_lloadn (by decide +kernel : decode cX11_made 117 = .ok (.lload_n 3, 1)) rfl).to, ?_⟩
  refine List.forall_mem_cons.mpr ⟨s_lret (by decide +kernel : decode cX11_made 118 = .ok (.lreturn, 1)) rfl, ?_⟩
  refine List.forall_mem_cons.mpr ⟨(s_lloadn (by decide +kernel : decode cX11_made 119 = .ok (.lload_n 1, 1)) rfl).to, ?_⟩
  refine List.forall_mem_cons.mpr ⟨(s_lloadn (by decide +kernel : decode cX11_made 120 = .ok (.lload_n 3, 1)) rfl).to, ?_⟩
  refine List.forall_mem_cons.mpr ⟨(s_lcmp (by decide +kernel : decode cX11_made 121 = .ok (.lcmp, 1))).to, ?_⟩
  refine List.forall_mem_cons.mpr ⟨(s_if_le (by decide +kernel : decode cX11_made 122 = .ok (.ifCond .le 7, 3)) (by decide)).to, ?_⟩
  refine List.forall_mem_cons.mpr ⟨(s_lloadn (by decide +kernel : decode cX11_made 125 = .ok (.lload_n 1, 1)) rfl).to, ?_⟩
  refine List.forall_mem_cons.mpr ⟨(s_goto (by decide +kernel : decode cX11_made 126 = .ok (.goto 4, 3)) (by decide)).to, ?_⟩
  refine List.forall_mem_cons.mpr ⟨(s_lloadn (by decide +kernel : decode cX11_made 129 = .ok (.lload_n 3, 1)) rfl).to, ?_⟩
  refine List.forall_mem_cons.mpr ⟨s_lret (by decide +kernel : decode cX11_made 130 = .ok (.lreturn, 1)) rfl, ?_⟩
  refine List.forall_mem_cons.mpr ⟨(s_lloadn (by decide +kernel : decode cX11_made 131 = .ok (.lload_n 1, 1)) rfl).to, ?_⟩
  refine List.forall_mem_cons.mpr ⟨(s_lloadn (by decide +kernel : decode cX11_made 132 = .ok (.lload_n 3, 1)) rfl).to, ?_⟩
  refine List.forall_mem_cons.mpr ⟨(s_lcmp (by decide +kernel : decode cX11_made 133 = .ok (.lcmp, 1))).to, ?_⟩
  refine List.forall_mem_cons.mpr ⟨(s_if_ge (by decide +kernel : decode cX11_made 134 = .ok (.ifCond .ge 7, 3)) (by decide)).to, ?_⟩
  refine List.forall_mem_cons.mpr ⟨(s_lconst (by decide +kernel : decode cX11_made 137 = .ok (.lconst 1, 1)) (by decide)).to, ?_⟩
  refine List.forall_mem_cons.mpr ⟨(s_goto (by decide +kernel : decode cX11_made 138 = .ok (.goto 4, 3)) (by decide)).to, ?_⟩
  refine List.forall_mem_cons.mpr ⟨(s_lconst (by decide +kernel : decode cX11_made 141 = .ok (.lconst 0, 1)) (by decide)).to, ?_⟩
  refine List.forall_mem_cons.mpr ⟨s_lret (by decide +kernel : decode cX11_made 142 = .ok (.lreturn, 1)) rfl, ?_⟩
  refine List.forall_mem_cons.mpr ⟨(s_lloadn (by decide +kernel : decode cX11_made 143 = .ok (.lload_n 1, 1)) rfl).to, ?_⟩
  exact fun _ h => absurd h List.not_mem_nil
theorem sn_tX11_made_1 : ∀ q ∈ tX11_made_1, am_Snd am_P0 RX11 cX11_made 5 (Option.some FieldType.long) "made" q.1 q.2 := by
  unfold tX11_made_1
  refine List.forall_mem_cons.mpr ⟨(s_lloadn (by decide +kernel : decode cX11_made 144 = .ok (.lload_n 3, 1)) rfl).to, ?_⟩
  refine List.forall_mem_cons.mpr ⟨(s_lcmp (by decide +kernel : decode cX11_made 145 = .ok (.lcmp, 1))).to, ?_⟩
  refine List.forall_mem_cons.mpr ⟨(s_if_le (by decide +kernel : decode cX11_made 146 = .ok (.ifCond .le 7, 3)) (by decide)).to, ?_⟩
  refine List.forall_mem_cons.mpr ⟨(s_lconst (by decide +kernel : decode cX11_made 149 = .ok (.lconst 1, 1)) (by decide)).to, ?_⟩
  refine List.forall_mem_cons.mpr ⟨(s_goto (by decide +kernel : decode cX11_made 150 = .ok (.goto 4, 3)) (by decide)).to, ?_⟩
  refine List.forall_mem_cons.mpr ⟨(s_lconst (by decide +kernel : decode cX11_made 153 = .ok (.lconst 0, 1)) (by decide)).to, ?_⟩
  refine List.forall_mem_cons.mpr ⟨s_lret (by decide +kernel : decode cX11_made 154 = .ok (.lreturn, 1)) rfl, ?_⟩
  refine List.forall_mem_cons.mpr ⟨(s_lloadn (by decide +kernel : decode cX11_made 155 = .ok (.lload_n 1, 1)) rfl).to, ?_⟩
  refine List.forall_mem_cons.mpr ⟨(s_lloadn (by decide +kernel : decode cX11_made 156 = .ok (.lload_n 3, 1)) rfl).to, ?_⟩
  refine List.forall_mem_cons.mpr ⟨(s_lcmp (by decide +kernel : decode cX11_made 157 = .ok (.lcmp, 1))).to, ?_⟩
  refine List.forall_mem_cons.mpr ⟨(s_if_ne (by decide +kernel : decode cX11_made 158 = .ok (.ifCond .ne 7, 3)) (by decide)).to, ?_⟩
  refine List.forall_mem_cons.mpr ⟨(s_lconst (by decide +kernel : decode cX11_made 161 = .ok (.lconst 1, 1)) (by decide)).to, ?_⟩
  refine List.forall_mem_cons.mpr ⟨(s_goto (by decide +kernel : decode cX11_made 162 = .ok (.goto 4, 3)) (by decide)).to, ?_⟩
  refine List.forall_mem_cons.mpr ⟨(s_lconst (by decide +kernel : decode cX11_made 165 = .ok (.lconst 0, 1)) (by decide)).to, ?_⟩
  refine List.forall_mem_cons.mpr ⟨s_lret (by decide +kernel : decode cX11_made 166 = .ok (.lreturn, 1)) rfl, ?_⟩
  refine List.forall_mem_cons.mpr ⟨(s_lloadn (by decide +kernel : decode cX11_made 167 = .ok (.lload_n 1, 1)) rfl).to, ?_⟩
  refine List.forall_mem_cons.mpr ⟨(s_lloadn (by decide +kernel : decode cX11_made 168 = .ok (.lload_n 3, 1)) rfl).to, ?_⟩
  refine List.forall_mem_cons.mpr ⟨(s_lmul (by decide +kernel : decode cX11_made 169 = .ok (.lmul, 1))).to, ?_⟩
  refine List.forall_mem_cons.mpr ⟨s_lret (by decide +kernel : decode cX11_made 170 = .ok (.lreturn, 1)) rfl, ?_⟩
  refine List.forall_mem_cons.mpr ⟨(s_lloadn (by decide +kernel : decode cX11_made 171 = .ok (.lload_n 1, 1)) rfl).to, ?_⟩
  refine List.forall_mem_cons.mpr ⟨(s_lloadn (by decide +kernel : decode cX11_made 172 = .ok (.lload_n 3, 1)) rfl).to, ?_⟩
  refine List.forall_mem_cons.mpr ⟨(s_ladd (by decide +kernel : decode cX11_made 173 = .ok (.ladd, 1))).to, ?_⟩
  refine List.forall_mem_cons.mpr ⟨(s_lconst (by decide +kernel : decode cX11_made 174 = .ok (.lconst 0, 1)) (by decide)).to, ?_⟩
  refine List.forall_mem_cons.mpr ⟨(s_lcmp (by decide +kernel : decode cX11_made 175 = .ok (.lcmp, 1))).to, ?_⟩
  refine List.forall_mem_cons.mpr ⟨(s_if_le (by decide +kernel : decode cX11_made 176 = .ok (.ifCond .le 7, 3)) (by decide)).to, ?_⟩
  refine List.forall_mem_cons.mpr ⟨(s_lconst (by decide +kernel : decode cX11_made 179 = .ok (.lconst 1, 1)) (by decide)).to, ?_⟩
  refine List.forall_mem_cons.mpr ⟨(s_goto (by decide +kernel : decode cX11_made 180 = .ok (.goto 4, 3)) (by decide)).to, ?_⟩
  refine List.forall_mem_cons.mpr ⟨(s_lconst (by decide +kernel : decode cX11_made 183 = .ok (.lconst 0, 1)) (by decide)).to, ?_⟩
  refine List.forall_mem_cons.mpr ⟨s_lret (by decide +kernel : decode cX11_made 184 = .ok (.lreturn, 1)) rfl, ?_⟩
  exact fun _ h => absurd h List.not_mem_nil
theorem sn_tX11_made : ∀ q ∈ tX11_made, am_Snd am_P0 RX11 cX11_made 5 (Option.some FieldType.long) "made" q.1 q.2 := by
  unfold tX11_made
  exact List.forall_mem_append.mpr ⟨sn_tX11_made_0, sn_tX11_made_1⟩
theorem sn_tX11_works_0 : ∀ q ∈ tX11_works_0, am_Snd am_P0 RX11 cX11_works 6 (Option.some FieldType.long) "works" q.1 q.2 := by
  unfold tX11_works_0
  refine List.forall_mem_cons.mpr ⟨(s_iconst (by decide +kernel : decode cX11_works 0 = .ok (.iconst 0, 1)) (by decide)).to, ?_⟩
  refine List.forall_mem_cons.mpr ⟨(s_istoren (by decide +kernel : decode cX11_works 1 = .ok (.istore_n 3, 1)) rfl (by decide)).to, ?_⟩
  refine List.forall_mem_cons.mpr ⟨(s_sipush (by decide +kernel : decode cX11_works 2 = .ok (.sipush 1800, 3)) (by decide)).to, ?_⟩
  refine List.forall_mem_cons.mpr ⟨(s_aloadn (by decide +kernel : decode cX11_works 5 = .ok (.aload_n 0, 1)) rfl).to, ?_⟩
  refine List.forall_mem_cons.mpr ⟨(s_get (ci := 11) (k := 12) (by decide +kernel : decode cX11_works 6 = .ok (.getfield 48, 3)) rfl (by decide) wd1345 inX11 rfl).to, ?_⟩
  refine List.forall_mem_cons.mpr ⟨(s_imul (by decide +kernel : decode cX11_works 9 = .ok (.imul, 1))).to, ?_⟩
  refine List.forall_mem_cons.mpr ⟨(s_iloadn (by decide +kernel : decode cX11_works 10 = .ok (.iload_n 1, 1)) rfl).to, ?_⟩
  refine List.forall_mem_cons.mpr ⟨(s_iadd (by decide +kernel : decode cX11_works 11 = .ok (.iadd, 1))).to, ?_⟩
  refine List.forall_mem_cons.mpr ⟨(s_istore (by decide +kernel : decode cX11_works 12 = .ok (.istore 4, 2)) (by decide)).to, ?_⟩
  refine List.forall_mem_cons.mpr ⟨(s_iload (by decide +kernel : decode cX11_works 14 = .ok (.iload 4, 2))).to, ?_⟩
  refine List.forall_mem_cons.mpr ⟨(s_sipush (by decide +kernel : decode cX11_works 16 = .ok (.sipush 1800, 3)) (by decide)).to, ?_⟩
  refine List.forall_mem_cons.mpr ⟨(s_aloadn (by decide +kernel : decode cX11_works 19 = .ok (.aload_n 0, 1)) rfl).to, ?_⟩
  refine List.forall_mem_cons.mpr ⟨(s_get (ci := 11) (k := 12) (by decide +kernel : decode cX11_works 20 = .ok (.getfield 48, 3)) rfl (by decide) wd1345 inX11 rfl).to, ?_⟩
  refine List.forall_mem_cons.mpr ⟨(s_imul (by decide +kernel : decode cX11_works 23 = .ok (.imul, 1))).to, ?_⟩
  refine List.forall_mem_cons.mpr ⟨(s_iloadn (by decide +kernel : decode cX11_works 24 = .ok (.iload_n 2, 1)) rfl).to, ?_⟩
  refine List.forall_mem_cons.mpr ⟨(s_iadd (by decide +kernel : decode cX11_works 25 = .ok (.iadd, 1))).to, ?_⟩
  refine List.forall_mem_cons.mpr ⟨(s_icmp_ge (by decide +kernel : decode cX11_works 26 = .ok (.if_icmp .ge 130, 3)) (by decide)).to, ?_⟩
  refine List.forall_mem_cons.mpr ⟨(s_aloadn (by decide +kernel : decode cX11_works 29 = .ok (.aload_n 0, 1)) rfl).to, ?_⟩
  refine List.forall_mem_cons.mpr ⟨(s_get (ci := 11) (k := 38) (by decide +kernel : decode cX11_works 30 = .ok (.getfield 128, 3)) rfl (by decide) wd1371 inX11 rfl).to, ?_⟩
  refine List.forall_mem_cons.mpr ⟨(s_iload (by decide +kernel : decode cX11_works 33 = .ok (.iload 4, 2))).to, ?_⟩
  refine List.forall_mem_cons.mpr ⟨(s_iald (by decide +kernel : decode cX11_works 35 = .ok (.iaload, 1))).to, ?_⟩
  refine List.forall_mem_cons.mpr ⟨(s_istore (by decide +kernel : decode cX11_works 36 = .ok (.istore 5, 2)) (by decide)).to, ?_⟩
  refine List.forall_mem_cons.mpr ⟨(s_iload (by decide +kernel : decode cX11_works 38 = .ok (.iload 5, 2))).to, ?_⟩
  refine List.forall_mem_cons.mpr ⟨(s_bipush (by decide +kernel : decode cX11_works 40 = .ok (.bipush 9, 2)) (by decide)).to, ?_⟩
  refine List.forall_mem_cons.mpr ⟨(s_icmp_gt (by decide +kernel : decode cX11_works 42 = .ok (.if_icmp .gt 50, 3)) (by decide)).to, ?_⟩
  refine List.forall_mem_cons.mpr ⟨(s_aloadn (by decide +kernel : decode cX11_works 45 = .ok (.aload_n 0, 1)) rfl).to, ?_⟩
  refine List.forall_mem_cons.mpr ⟨(s_get (ci := 11) (k := 53) (by decide +kernel : decode cX11_works 46 = .ok (.getfield 174, 3)) rfl (by decide) wd1386 inX11 rfl).to, ?_⟩
  refine List.forall_mem_cons.mpr ⟨(s_iloadn (by decide +kernel : decode cX11_works 49 = .ok (.iload_n 3, 1)) rfl).to, ?_⟩
  refine List.forall_mem_cons.mpr ⟨(s_iload (by decide +kernel : decode cX11_works 50 = .ok (.iload 5, 2))).to, ?_⟩
  refine List.forall_mem_cons.mpr ⟨(s_if_ne (by decide +kernel : decode cX11_works 52 = .ok (.ifCond .ne 14, 3)) (by decide)).to, ?_⟩
  refine List.forall_mem_cons.mpr ⟨(s_aloadn (by decide +kernel : decode cX11_works 55 = .ok (.aload_n 0, 1)) rfl).to, ?_⟩
  refine List.forall_mem_cons.mpr ⟨(s_get (ci := 11) (k := 39) (by decide +kernel : decode cX11_works 56 = .ok (.getfield 131, 3)) rfl (by decide) wd1372 inX11 rfl).to, ?_⟩
  refine List.forall_mem_cons.mpr ⟨(s_iload (by decide +kernel : decode cX11_works 59 = .ok (.iload 4, 2))).to, ?_⟩
  refine List.forall_mem_cons.mpr ⟨(s_iald (by decide +kernel : decode cX11_works 61 = .ok (.iaload, 1))).to, ?_⟩
  refine List.forall_mem_cons.mpr ⟨(s_i2l (by decide +kernel : decode cX11_works 62 = .ok (.i2l, 1))).to, ?_⟩
  refine List.forall_mem_cons.mpr ⟨(s_goto (by decide +kernel : decode cX11_works 63 = .ok (.goto 22, 3)) (by decide)).to, ?_⟩
  refine List.forall_mem_cons.mpr ⟨(s_iload (by decide +kernel : decode cX11_works 66 = .ok (.iload 5, 2))).to, ?_⟩
  refine List.forall_mem_cons.mpr ⟨(s_bipush (by decide +kernel : decode cX11_works 68 = .ok (.bipush 9, 2)) (by decide)).to, ?_⟩
  refine List.forall_mem_cons.mpr ⟨(s_icmp_ne (by decide +kernel : decode cX11_works 70 = .ok (.if_icmp .ne 7, 3)) (by decide)).to, ?_⟩
  refine List.forall_mem_cons.mpr ⟨(s_lconst (by decide +kernel : decode cX11_works 73 = .ok (.lconst 1, 1)) (by decide)).to, ?_⟩
  refine List.forall_mem_cons.mpr ⟨(s_goto (by decide +kernel : decode cX11_works 74 = .ok (.goto 11, 3)) (by decide)).to, ?_⟩
  refine List.forall_mem_cons.mpr ⟨(s_aloadn (by decide +kernel : decode cX11_works 77 = .ok (.aload_n 0, 1)) rfl).to, ?_⟩
  refine List.forall_mem_cons.mpr ⟨(s_get (ci := 11) (k := 54) (by decide +kernel : decode cX11_works 78 = .ok (.getfield 177, 3)) rfl (by decide) wd1387 inX11 rfl).to, ?_⟩
  refine List.forall_mem_cons.mpr ⟨(s_iload (by decide +kernel : decode cX11_works 81 = .ok (.iload 5, 2))).to, ?_⟩
  refine List.forall_mem_cons.mpr ⟨(s_iald (by decide +kernel : decode cX11_works 83 = .ok (.iaload, 1))).to, ?_⟩
  refine List.forall_mem_cons.mpr ⟨(s_i2l (by decide +kernel : decode cX11_works 84 = .ok (.i2l, 1))).to, ?_⟩
  refine List.forall_mem_cons.mpr ⟨(s_last (by decide +kernel : decode cX11_works 85 = .ok (.lastore, 1))).to, ?_⟩
  refine List.forall_mem_cons.mpr ⟨(s_iinc (by decide +kernel : decode cX11_works 86 = .ok (.iinc 3 1, 3)) (by decide) (by decide)).to, ?_⟩
  refine List.forall_mem_cons.mpr ⟨(s_goto (by decide +kernel : decode cX11_works 89 = .ok (.goto 61, 3)) (by decide)).to, ?_⟩
  refine List.forall_mem_cons.mpr ⟨(s_iload (by decide +kernel : decode cX11_works 92 = .ok (.iload 5, 2))).to, ?_⟩
  refine List.forall_mem_cons.mpr ⟨(s_bipush (by decide +kernel : decode cX11_works 94 = .ok (.bipush 22, 2)) (by decide)).to, ?_⟩
  refine List.forall_mem_cons.mpr ⟨(s_icmp_ne (by decide +kernel : decode cX11_works 96 = .ok (.if_icmp .ne 24, 3)) (by decide)).to, ?_⟩
  refine List.forall_mem_cons.mpr ⟨(s_aloadn (by decide +kernel : decode cX11_works 99 = .ok (.aload_n 0, 1)) rfl).to, ?_⟩
  refine List.forall_mem_cons.mpr ⟨(s_get (ci := 11) (k := 53) (by decide +kernel : decode cX11_works 100 = .ok (.getfield 174, 3)) rfl (by decide) wd1386 inX11 rfl).to, ?_⟩
  refine List.forall_mem_cons.mpr ⟨(s_iloadn (by decide +kernel : decode cX11_works 103 = .ok (.iload_n 3, 1)) rfl).to, ?_⟩
  refine List.forall_mem_cons.mpr ⟨(s_iconst (by decide +kernel : decode cX11_works 104 = .ok (.iconst 1, 1)) (by decide)).to, ?_⟩
  refine List.forall_mem_cons.mpr ⟨(s_isub (by decide +kernel : decode cX11_works 105 = .ok (.isub, 1))).to, ?_⟩
  refine List.forall_mem_cons.mpr ⟨(s_lconst (by decide +kernel : decode cX11_works 106 = .ok (.lconst 1, 1)) (by decide)).to, ?_⟩
  refine List.forall_mem_cons.mpr ⟨(s_aloadn (by decide +kernel : decode cX11_works 107 = .ok (.aload_n 0, 1)) rfl).to, ?_⟩
  refine List.forall_mem_cons.mpr ⟨(s_get (ci := 11) (k := 53) (by decide +kernel : decode cX11_works 108 = .ok (.getfield 174, 3)) rfl (by decide) wd1386 inX11 rfl).to, ?_⟩
  exact fun _ h => absurd h List.not_mem_nil
theorem sn_tX11_works_1 : ∀ q ∈ tX11_works_1, am_Snd am_P0 RX11 cX11_works 6 (Option.some FieldType.long) "works" q.1 q.2 := by
  unfold tX11_works_1
  refine List.forall_mem_cons.mpr ⟨(s_iloadn (by decide +kernel : decode cX11_works 111 = .ok (.iload_n 3, 1)) rfl).to, ?_⟩
  refine List.forall_mem_cons.mpr ⟨(s_iconst (by decide +kernel : decode cX11_works 112 = .ok (.iconst 1, 1)) (by decide)).to, ?_⟩
  refine List.forall_mem_cons.mpr ⟨(s_isub (by decide +kernel : decode cX11_works 113 = .ok (.isub, 1))).to, ?_⟩
  refine List.forall_mem_cons.mpr ⟨(s_lald (by decide +kernel : decode cX11_works 114 = .ok (.laload, 1))).to, ?_⟩
  refine List.forall_mem_cons.mpr ⟨(s_lsub (by decide +kernel : decode cX11_works 115 = .ok (.lsub, 1))).to, ?_⟩
  refine List.forall_mem_cons.mpr ⟨(s_last (by decide +kernel : decode cX11_works 116 = .ok (.lastore, 1))).to, ?_⟩
  refine List.forall_mem_cons.mpr ⟨(s_goto (by decide +kernel : decode cX11_works 117 = .ok (.goto 33, 3)) (by decide)).to, ?_⟩
  refine List.forall_mem_cons.mpr ⟨(s_iinc (by decide +kernel : decode cX11_works 120 = .ok (.iinc 3 (-1), 3)) (by decide) (by decide)).to, ?_⟩
  refine List.forall_mem_cons.mpr ⟨(s_aloadn (by decide +kernel : decode cX11_works 123 = .ok (.aload_n 0, 1)) rfl).to, ?_⟩
  refine List.forall_mem_cons.mpr ⟨(s_get (ci := 11) (k := 53) (by decide +kernel : decode cX11_works 124 = .ok (.getfield 174, 3)) rfl (by decide) wd1386 inX11 rfl).to, ?_⟩
  refine List.forall_mem_cons.mpr ⟨(s_iloadn (by decide +kernel : decode cX11_works 127 = .ok (.iload_n 3, 1)) rfl).to, ?_⟩
  refine List.forall_mem_cons.mpr ⟨(s_iconst (by decide +kernel : decode cX11_works 128 = .ok (.iconst 1, 1)) (by decide)).to, ?_⟩
  refine List.forall_mem_cons.mpr ⟨(s_isub (by decide +kernel : decode cX11_works 129 = .ok (.isub, 1))).to, ?_⟩
  refine List.forall_mem_cons.mpr ⟨(s_iload (by decide +kernel : decode cX11_works 130 = .ok (.iload 5, 2))).to, ?_⟩
  refine List.forall_mem_cons.mpr ⟨(s_aloadn (by decide +kernel : decode cX11_works 132 = .ok (.aload_n 0, 1)) rfl).to, ?_⟩
  refine List.forall_mem_cons.mpr ⟨(s_get (ci := 11) (k := 53) (by decide +kernel : decode cX11_works 133 = .ok (.getfield 174, 3)) rfl (by decide) wd1386 inX11 rfl).to, ?_⟩
  refine List.forall_mem_cons.mpr ⟨(s_iloadn (by decide +kernel : decode cX11_works 136 = .ok (.iload_n 3, 1)) rfl).to, ?_⟩
  refine List.forall_mem_cons.mpr ⟨(s_iconst (by decide +kernel : decode cX11_works 137 = .ok (.iconst 1, 1)) (by decide)).to, ?_⟩
  refine List.forall_mem_cons.mpr ⟨(s_isub (by decide +kernel : decode cX11_works 138 = .ok (.isub, 1))).to, ?_⟩
  refine List.forall_mem_cons.mpr ⟨(s_lald (by decide +kernel : decode cX11_works 139 = .ok (.laload, 1))).to, ?_⟩
  refine List.forall_mem_cons.mpr ⟨(s_aloadn (by decide +kernel : decode cX11_works 140 = .ok (.aload_n 0, 1)) rfl).to, ?_⟩
  refine List.forall_mem_cons.mpr ⟨(s_get (ci := 11) (k := 53) (by decide +kernel : decode cX11_works 141 = .ok (.getfield 174, 3)) rfl (by decide) wd1386 inX11 rfl).to, ?_⟩
  refine List.forall_mem_cons.mpr ⟨(s_iloadn (by decide +kernel : decode cX11_works 144 = .ok (.iload_n 3, 1)) rfl).to, ?_⟩
  refine List.forall_mem_cons.mpr ⟨(s_lald (by decide +kernel : decode cX11_works 145 = .ok (.laload, 1))).to, ?_⟩
  refine List.forall_mem_cons.mpr ⟨z_cs (by decide +kernel : decode cX11_works 146 = .ok (.invokestatic 459, 3)) mt212 wd1795, ?_⟩
  refine List.forall_mem_cons.mpr ⟨(s_last (by decide +kernel : decode cX11_works 149 = .ok (.lastore, 1))).to, ?_⟩
  refine List.forall_mem_cons.mpr ⟨(s_iinc (by decide +kernel : decode cX11_works 150 = .ok (.iinc 4 1, 3)) (by decide) (by decide)).to, ?_⟩
  refine List.forall_mem_cons.mpr ⟨(s_goto (by decide +kernel : decode cX11_works 153 = .ok (.goto (-139), 3)) (by decide)).to, ?_⟩
  refine List.forall_mem_cons.mpr ⟨(s_aloadn (by decide +kernel : decode cX11_works 156 = .ok (.aload_n 0, 1)) rfl).to, ?_⟩
  refine List.forall_mem_cons.mpr ⟨(s_get (ci := 11) (k := 53) (by decide +kernel : decode cX11_works 157 = .ok (.getfield 174, 3)) rfl (by decide) wd1386 inX11 rfl).to, ?_⟩
  refine List.forall_mem_cons.mpr ⟨(s_iconst (by decide +kernel : decode cX11_works 160 = .ok (.iconst 0, 1)) (by decide)).to, ?_⟩
  refine List.forall_mem_cons.mpr ⟨(s_lald (by decide +kernel : decode cX11_works 161 = .ok (.laload, 1))).to, ?_⟩
  refine List.forall_mem_cons.mpr ⟨s_lret (by decide +kernel : decode cX11_works 162 = .ok (.lreturn, 1)) rfl, ?_⟩
  exact fun _ h => absurd h List.not_mem_nil
theorem sn_tX11_works : ∀ q ∈ tX11_works, am_Snd am_P0 RX11 cX11_works 6 (Option.some FieldType.long) "works" q.1 q.2 := by
  unfold tX11_works
  exact List.forall_mem_append.mpr ⟨sn_tX11_works_0, sn_tX11_works_1⟩
theorem sn_tX11_cells : ∀ q ∈ tX11_cells, am_Snd am_P0 RX11 cX11_cells 1 (Option.some FieldType.int) "cells" q.1 q.2 := by
  unfold tX11_cells
  refine List.forall_mem_cons.mpr ⟨(s_aloadn (by decide +kernel : decode cX11_cells 0 = .ok (.aload_n 0, 1)) rfl).to, ?_⟩
  refine List.forall_mem_cons.mpr ⟨(s_get (ci := 11) (k := 13) (by decide +kernel : decode cX11_cells 1 = .ok (.getfield 51, 3)) rfl (by decide) wd1346 inX11 rfl).to, ?_⟩
  refine List.forall_mem_cons.mpr ⟨(s_aloadn (by decide +kernel : decode cX11_cells 4 = .ok (.aload_n 0, 1)) rfl).to, ?_⟩
  refine List.forall_mem_cons.mpr ⟨(s_get (ci := 11) (k := 12) (by decide +kernel : decode cX11_cells 5 = .ok (.getfield 48, 3)) rfl (by decide) wd1345 inX11 rfl).to, ?_⟩
  refine List.forall_mem_cons.mpr ⟨(s_iald (by decide +kernel : decode cX11_cells 8 = .ok (.iaload, 1))).to, ?_⟩
  refine List.forall_mem_cons.mpr ⟨(s_aloadn (by decide +kernel : decode cX11_cells 9 = .ok (.aload_n 0, 1)) rfl).to, ?_⟩
  refine List.forall_mem_cons.mpr ⟨(s_get (ci := 11) (k := 14) (by decide +kernel : decode cX11_cells 10 = .ok (.getfield 54, 3)) rfl (by decide) wd1347 inX11 rfl).to, ?_⟩
  refine List.forall_mem_cons.mpr ⟨(s_aloadn (by decide +kernel : decode cX11_cells 13 = .ok (.aload_n 0, 1)) rfl).to, ?_⟩
  refine List.forall_mem_cons.mpr ⟨(s_get (ci := 11) (k := 12) (by decide +kernel : decode cX11_cells 14 = .ok (.getfield 48, 3)) rfl (by decide) wd1345 inX11 rfl).to, ?_⟩
  refine List.forall_mem_cons.mpr ⟨(s_iald (by decide +kernel : decode cX11_cells 17 = .ok (.iaload, 1))).to, ?_⟩
  refine List.forall_mem_cons.mpr ⟨(s_imul (by decide +kernel : decode cX11_cells 18 = .ok (.imul, 1))).to, ?_⟩
  refine List.forall_mem_cons.mpr ⟨s_iret (by decide +kernel : decode cX11_cells 19 = .ok (.ireturn, 1)) rfl, ?_⟩
  exact fun _ h => absurd h List.not_mem_nil
theorem sn_tX11_columnOf : ∀ q ∈ tX11_columnOf, am_Snd am_P0 RX11 cX11_columnOf 2 (Option.some FieldType.int) "columnOf" q.1 q.2 := by
  unfold tX11_columnOf
  refine List.forall_mem_cons.mpr ⟨(s_iloadn (by decide +kernel : decode cX11_columnOf 0 = .ok (.iload_n 1, 1)) rfl).to, ?_⟩
  refine List.forall_mem_cons.mpr ⟨(s_aloadn (by decide +kernel : decode cX11_columnOf 1 = .ok (.aload_n 0, 1)) rfl).to, ?_⟩
  refine List.forall_mem_cons.mpr ⟨(s_get (ci := 11) (k := 13) (by decide +kernel : decode cX11_columnOf 2 = .ok (.getfield 51, 3)) rfl (by decide) wd1346 inX11 rfl).to, ?_⟩
  refine List.forall_mem_cons.mpr ⟨(s_aloadn (by decide +kernel : decode cX11_columnOf 5 = .ok (.aload_n 0, 1)) rfl).to, ?_⟩
  refine List.forall_mem_cons.mpr ⟨(s_get (ci := 11) (k := 12) (by decide +kernel : decode cX11_columnOf 6 = .ok (.getfield 48, 3)) rfl (by decide) wd1345 inX11 rfl).to, ?_⟩
  refine List.forall_mem_cons.mpr ⟨(s_iald (by decide +kernel : decode cX11_columnOf 9 = .ok (.iaload, 1))).to, ?_⟩
  refine List.forall_mem_cons.mpr ⟨(s_irem (by decide +kernel : decode cX11_columnOf 10 = .ok (.irem, 1))).to, ?_⟩
  refine List.forall_mem_cons.mpr ⟨s_iret (by decide +kernel : decode cX11_columnOf 11 = .ok (.ireturn, 1)) rfl, ?_⟩
  exact fun _ h => absurd h List.not_mem_nil
theorem sn_tX11_rowOf : ∀ q ∈ tX11_rowOf, am_Snd am_P0 RX11 cX11_rowOf 2 (Option.some FieldType.int) "rowOf" q.1 q.2 := by
  unfold tX11_rowOf
  refine List.forall_mem_cons.mpr ⟨(s_iloadn (by decide +kernel : decode cX11_rowOf 0 = .ok (.iload_n 1, 1)) rfl).to, ?_⟩
  refine List.forall_mem_cons.mpr ⟨(s_aloadn (by decide +kernel : decode cX11_rowOf 1 = .ok (.aload_n 0, 1)) rfl).to, ?_⟩
  refine List.forall_mem_cons.mpr ⟨(s_get (ci := 11) (k := 13) (by decide +kernel : decode cX11_rowOf 2 = .ok (.getfield 51, 3)) rfl (by decide) wd1346 inX11 rfl).to, ?_⟩
  refine List.forall_mem_cons.mpr ⟨(s_aloadn (by decide +kernel : decode cX11_rowOf 5 = .ok (.aload_n 0, 1)) rfl).to, ?_⟩
  refine List.forall_mem_cons.mpr ⟨(s_get (ci := 11) (k := 12) (by decide +kernel : decode cX11_rowOf 6 = .ok (.getfield 48, 3)) rfl (by decide) wd1345 inX11 rfl).to, ?_⟩
  refine List.forall_mem_cons.mpr ⟨(s_iald (by decide +kernel : decode cX11_rowOf 9 = .ok (.iaload, 1))).to, ?_⟩
  refine List.forall_mem_cons.mpr ⟨(s_idiv (by decide +kernel : decode cX11_rowOf 10 = .ok (.idiv, 1))).to, ?_⟩
  refine List.forall_mem_cons.mpr ⟨s_iret (by decide +kernel : decode cX11_rowOf 11 = .ok (.ireturn, 1)) rfl, ?_⟩
  exact fun _ h => absurd h List.not_mem_nil
theorem sn_tX11_isCell : ∀ q ∈ tX11_isCell, am_Snd am_P0 RX11 cX11_isCell 3 (Option.some FieldType.boolean) "isCell" q.1 q.2 := by
  unfold tX11_isCell
  refine List.forall_mem_cons.mpr ⟨(s_iloadn (by decide +kernel : decode cX11_isCell 0 = .ok (.iload_n 1, 1)) rfl).to, ?_⟩
  refine List.forall_mem_cons.mpr ⟨(s_iconst (by decide +kernel : decode cX11_isCell 1 = .ok (.iconst 0, 1)) (by decide)).to, ?_⟩
  refine List.forall_mem_cons.mpr ⟨(s_aloadn (by decide +kernel : decode cX11_isCell 2 = .ok (.aload_n 0, 1)) rfl).to, ?_⟩
  refine List.forall_mem_cons.mpr ⟨(s_get (ci := 11) (k := 13) (by decide +kernel : decode cX11_isCell 3 = .ok (.getfield 51, 3)) rfl (by decide) wd1346 inX11 rfl).to, ?_⟩
  refine List.forall_mem_cons.mpr ⟨(s_aloadn (by decide +kernel : decode cX11_isCell 6 = .ok (.aload_n 0, 1)) rfl).to, ?_⟩
  refine List.forall_mem_cons.mpr ⟨(s_get (ci := 11) (k := 12) (by decide +kernel : decode cX11_isCell 7 = .ok (.getfield 48, 3)) rfl (by decide) wd1345 inX11 rfl).to, ?_⟩
  refine List.forall_mem_cons.mpr ⟨(s_iald (by decide +kernel : decode cX11_isCell 10 = .ok (.iaload, 1))).to, ?_⟩
  refine List.forall_mem_cons.mpr ⟨(s_iconst (by decide +kernel : decode cX11_isCell 11 = .ok (.iconst 1, 1)) (by decide)).to, ?_⟩
  refine List.forall_mem_cons.mpr ⟨(s_isub (by decide +kernel : decode cX11_isCell 12 = .ok (.isub, 1))).to, ?_⟩
  refine List.forall_mem_cons.mpr ⟨z_cs (by decide +kernel : decode cX11_isCell 13 = .ok (.invokestatic 343, 3)) mt167 wd1630, ?_⟩
  refine List.forall_mem_cons.mpr ⟨(s_if_eq (by decide +kernel : decode cX11_isCell 16 = .ok (.ifCond .eq 26, 3)) (by decide)).to, ?_⟩
  refine List.forall_mem_cons.mpr ⟨(s_iloadn (by decide +kernel : decode cX11_isCell 19 = .ok (.iload_n 2, 1)) rfl).to, ?_⟩
  refine List.forall_mem_cons.mpr ⟨(s_iconst (by decide +kernel : decode cX11_isCell 20 = .ok (.iconst 0, 1)) (by decide)).to, ?_⟩
  refine List.forall_mem_cons.mpr ⟨(s_aloadn (by decide +kernel : decode cX11_isCell 21 = .ok (.aload_n 0, 1)) rfl).to, ?_⟩
  refine List.forall_mem_cons.mpr ⟨(s_get (ci := 11) (k := 14) (by decide +kernel : decode cX11_isCell 22 = .ok (.getfield 54, 3)) rfl (by decide) wd1347 inX11 rfl).to, ?_⟩
  refine List.forall_mem_cons.mpr ⟨(s_aloadn (by decide +kernel : decode cX11_isCell 25 = .ok (.aload_n 0, 1)) rfl).to, ?_⟩
  refine List.forall_mem_cons.mpr ⟨(s_get (ci := 11) (k := 12) (by decide +kernel : decode cX11_isCell 26 = .ok (.getfield 48, 3)) rfl (by decide) wd1345 inX11 rfl).to, ?_⟩
  refine List.forall_mem_cons.mpr ⟨(s_iald (by decide +kernel : decode cX11_isCell 29 = .ok (.iaload, 1))).to, ?_⟩
  refine List.forall_mem_cons.mpr ⟨(s_iconst (by decide +kernel : decode cX11_isCell 30 = .ok (.iconst 1, 1)) (by decide)).to, ?_⟩
  refine List.forall_mem_cons.mpr ⟨(s_isub (by decide +kernel : decode cX11_isCell 31 = .ok (.isub, 1))).to, ?_⟩
  refine List.forall_mem_cons.mpr ⟨z_cs (by decide +kernel : decode cX11_isCell 32 = .ok (.invokestatic 343, 3)) mt167 wd1630, ?_⟩
  refine List.forall_mem_cons.mpr ⟨(s_if_eq (by decide +kernel : decode cX11_isCell 35 = .ok (.ifCond .eq 7, 3)) (by decide)).to, ?_⟩
  refine List.forall_mem_cons.mpr ⟨(s_iconst (by decide +kernel : decode cX11_isCell 38 = .ok (.iconst 1, 1)) (by decide)).to, ?_⟩
  refine List.forall_mem_cons.mpr ⟨(s_goto (by decide +kernel : decode cX11_isCell 39 = .ok (.goto 4, 3)) (by decide)).to, ?_⟩
  refine List.forall_mem_cons.mpr ⟨(s_iconst (by decide +kernel : decode cX11_isCell 42 = .ok (.iconst 0, 1)) (by decide)).to, ?_⟩
  refine List.forall_mem_cons.mpr ⟨s_zret (by decide +kernel : decode cX11_isCell 43 = .ok (.ireturn, 1)) rfl, ?_⟩
  exact fun _ h => absurd h List.not_mem_nil
theorem sn_tX11_at : ∀ q ∈ tX11_at, am_Snd am_P0 RX11 cX11_at 3 (Option.some FieldType.int) "at" q.1 q.2 := by
  unfold tX11_at
  refine List.forall_mem_cons.mpr ⟨(s_aloadn (by decide +kernel : decode cX11_at 0 = .ok (.aload_n 0, 1)) rfl).to, ?_⟩
  refine List.forall_mem_cons.mpr ⟨(s_get (ci := 11) (k := 13) (by decide +kernel : decode cX11_at 1 = .ok (.getfield 51, 3)) rfl (by decide) wd1346 inX11 rfl).to, ?_⟩
  refine List.forall_mem_cons.mpr ⟨(s_aloadn (by decide +kernel : decode cX11_at 4 = .ok (.aload_n 0, 1)) rfl).to, ?_⟩
  refine List.forall_mem_cons.mpr ⟨(s_get (ci := 11) (k := 12) (by decide +kernel : decode cX11_at 5 = .ok (.getfield 48, 3)) rfl (by decide) wd1345 inX11 rfl).to, ?_⟩
  refine List.forall_mem_cons.mpr ⟨(s_iald (by decide +kernel : decode cX11_at 8 = .ok (.iaload, 1))).to, ?_⟩
  refine List.forall_mem_cons.mpr ⟨(s_iloadn (by decide +kernel : decode cX11_at 9 = .ok (.iload_n 2, 1)) rfl).to, ?_⟩
  refine List.forall_mem_cons.mpr ⟨(s_imul (by decide +kernel : decode cX11_at 10 = .ok (.imul, 1))).to, ?_⟩
  refine List.forall_mem_cons.mpr ⟨(s_iloadn (by decide +kernel : decode cX11_at 11 = .ok (.iload_n 1, 1)) rfl).to, ?_⟩
  refine List.forall_mem_cons.mpr ⟨(s_iadd (by decide +kernel : decode cX11_at 12 = .ok (.iadd, 1))).to, ?_⟩
  refine List.forall_mem_cons.mpr ⟨s_iret (by decide +kernel : decode cX11_at 13 = .ok (.ireturn, 1)) rfl, ?_⟩
  exact fun _ h => absurd h List.not_mem_nil
theorem sn_tX11_isHour : ∀ q ∈ tX11_isHour, am_Snd am_P0 RX11 cX11_isHour 1 (Option.some FieldType.boolean) "isHour" q.1 q.2 := by
  unfold tX11_isHour
  refine List.forall_mem_cons.mpr ⟨(s_iloadn (by decide +kernel : decode cX11_isHour 0 = .ok (.iload_n 0, 1)) rfl).to, ?_⟩
  refine List.forall_mem_cons.mpr ⟨(s_iconst (by decide +kernel : decode cX11_isHour 1 = .ok (.iconst 0, 1)) (by decide)).to, ?_⟩
  refine List.forall_mem_cons.mpr ⟨(s_bipush (by decide +kernel : decode cX11_isHour 2 = .ok (.bipush 47, 2)) (by decide)).to, ?_⟩
  refine List.forall_mem_cons.mpr ⟨z_cs (by decide +kernel : decode cX11_isHour 4 = .ok (.invokestatic 343, 3)) mt167 wd1630, ?_⟩
  refine List.forall_mem_cons.mpr ⟨s_zret (by decide +kernel : decode cX11_isHour 7 = .ok (.ireturn, 1)) rfl, ?_⟩
  exact fun _ h => absurd h List.not_mem_nil
theorem sn_tX11_isShip : ∀ q ∈ tX11_isShip, am_Snd am_P0 RX11 cX11_isShip 2 (Option.some FieldType.boolean) "isShip" q.1 q.2 := by
  unfold tX11_isShip
  refine List.forall_mem_cons.mpr ⟨(s_iloadn (by decide +kernel : decode cX11_isShip 0 = .ok (.iload_n 1, 1)) rfl).to, ?_⟩
  refine List.forall_mem_cons.mpr ⟨(s_iconst (by decide +kernel : decode cX11_isShip 1 = .ok (.iconst 0, 1)) (by decide)).to, ?_⟩
  refine List.forall_mem_cons.mpr ⟨(s_aloadn (by decide +kernel : decode cX11_isShip 2 = .ok (.aload_n 0, 1)) rfl).to, ?_⟩
  refine List.forall_mem_cons.mpr ⟨(s_get (ci := 11) (k := 19) (by decide +kernel : decode cX11_isShip 3 = .ok (.getfield 69, 3)) rfl (by decide) wd1352 inX11 rfl).to, ?_⟩
  refine List.forall_mem_cons.mpr ⟨(s_aloadn (by decide +kernel : decode cX11_isShip 6 = .ok (.aload_n 0, 1)) rfl).to, ?_⟩
  refine List.forall_mem_cons.mpr ⟨(s_get (ci := 11) (k := 12) (by decide +kernel : decode cX11_isShip 7 = .ok (.getfield 48, 3)) rfl (by decide) wd1345 inX11 rfl).to, ?_⟩
  refine List.forall_mem_cons.mpr ⟨(s_iald (by decide +kernel : decode cX11_isShip 10 = .ok (.iaload, 1))).to, ?_⟩
  refine List.forall_mem_cons.mpr ⟨(s_iconst (by decide +kernel : decode cX11_isShip 11 = .ok (.iconst 1, 1)) (by decide)).to, ?_⟩
  refine List.forall_mem_cons.mpr ⟨(s_isub (by decide +kernel : decode cX11_isShip 12 = .ok (.isub, 1))).to, ?_⟩
  refine List.forall_mem_cons.mpr ⟨z_cs (by decide +kernel : decode cX11_isShip 13 = .ok (.invokestatic 343, 3)) mt167 wd1630, ?_⟩
  refine List.forall_mem_cons.mpr ⟨s_zret (by decide +kernel : decode cX11_isShip 16 = .ok (.ireturn, 1)) rfl, ?_⟩
  exact fun _ h => absurd h List.not_mem_nil
theorem sn_tX11_ruleOf_0 : ∀ q ∈ tX11_ruleOf_0, am_Snd am_P0 RX11 cX11_ruleOf 7 (Option.some FieldType.int) "ruleOf" q.1 q.2 := by
  unfold tX11_ruleOf_0
  refine List.forall_mem_cons.mpr ⟨(s_aloadn (by decide +kernel : decode cX11_ruleOf 0 = .ok (.aload_n 0, 1)) rfl).to, ?_⟩
  refine List.forall_mem_cons.mpr ⟨(s_get (ci := 11) (k := 54) (by decide +kernel : decode cX11_ruleOf 1 = .ok (.getfield 177, 3)) rfl (by decide) wd1387 inX11 rfl).to, ?_⟩
  refine List.forall_mem_cons.mpr ⟨(s_iconst (by decide +kernel : decode cX11_ruleOf 4 = .ok (.iconst 1, 1)) (by decide)).to, ?_⟩
  refine List.forall_mem_cons.mpr ⟨(s_aloadn (by decide +kernel : decode cX11_ruleOf 5 = .ok (.aload_n 0, 1)) rfl).to, ?_⟩
  refine List.forall_mem_cons.mpr ⟨(s_iloadn (by decide +kernel : decode cX11_ruleOf 6 = .ok (.iload_n 2, 1)) rfl).to, ?_⟩
  refine List.forall_mem_cons.mpr ⟨z_cv (by decide +kernel : decode cX11_ruleOf 7 = .ok (.invokevirtual 463, 3)) mt215 wd1783 (ci := 11) rfl (by decide), ?_⟩
  refine List.forall_mem_cons.mpr ⟨(s_iast (by decide +kernel : decode cX11_ruleOf 10 = .ok (.iastore, 1))).to, ?_⟩
  refine List.forall_mem_cons.mpr ⟨(s_aloadn (by decide +kernel : decode cX11_ruleOf 11 = .ok (.aload_n 0, 1)) rfl).to, ?_⟩
  refine List.forall_mem_cons.mpr ⟨(s_get (ci := 11) (k := 54) (by decide +kernel : decode cX11_ruleOf 12 = .ok (.getfield 177, 3)) rfl (by decide) wd1387 inX11 rfl).to, ?_⟩
  refine List.forall_mem_cons.mpr ⟨(s_iconst (by decide +kernel : decode cX11_ruleOf 15 = .ok (.iconst 2, 1)) (by decide)).to, ?_⟩
  refine List.forall_mem_cons.mpr ⟨(s_aloadn (by decide +kernel : decode cX11_ruleOf 16 = .ok (.aload_n 0, 1)) rfl).to, ?_⟩
  refine List.forall_mem_cons.mpr ⟨(s_iloadn (by decide +kernel : decode cX11_ruleOf 17 = .ok (.iload_n 2, 1)) rfl).to, ?_⟩
  refine List.forall_mem_cons.mpr ⟨z_cv (by decide +kernel : decode cX11_ruleOf 18 = .ok (.invokevirtual 466, 3)) mt216 wd1787 (ci := 11) rfl (by decide), ?_⟩
  refine List.forall_mem_cons.mpr ⟨(s_iast (by decide +kernel : decode cX11_ruleOf 21 = .ok (.iastore, 1))).to, ?_⟩
  refine List.forall_mem_cons.mpr ⟨(s_aloadn (by decide +kernel : decode cX11_ruleOf 22 = .ok (.aload_n 0, 1)) rfl).to, ?_⟩
  refine List.forall_mem_cons.mpr ⟨(s_get (ci := 11) (k := 54) (by decide +kernel : decode cX11_ruleOf 23 = .ok (.getfield 177, 3)) rfl (by decide) wd1387 inX11 rfl).to, ?_⟩
  refine List.forall_mem_cons.mpr ⟨(s_iconst (by decide +kernel : decode cX11_ruleOf 26 = .ok (.iconst 3, 1)) (by decide)).to, ?_⟩
  refine List.forall_mem_cons.mpr ⟨(s_iloadn (by decide +kernel : decode cX11_ruleOf 27 = .ok (.iload_n 3, 1)) rfl).to, ?_⟩
  refine List.forall_mem_cons.mpr ⟨(s_iast (by decide +kernel : decode cX11_ruleOf 28 = .ok (.iastore, 1))).to, ?_⟩
  refine List.forall_mem_cons.mpr ⟨(s_aloadn (by decide +kernel : decode cX11_ruleOf 29 = .ok (.aload_n 0, 1)) rfl).to, ?_⟩
  refine List.forall_mem_cons.mpr ⟨(s_get (ci := 11) (k := 54) (by decide +kernel : decode cX11_ruleOf 30 = .ok (.getfield 177, 3)) rfl (by decide) wd1387 inX11 rfl).to, ?_⟩
  refine List.forall_mem_cons.mpr ⟨(s_iconst (by decide +kernel : decode cX11_ruleOf 33 = .ok (.iconst 4, 1)) (by decide)).to, ?_⟩
  refine List.forall_mem_cons.mpr ⟨(s_iload (by decide +kernel : decode cX11_ruleOf 34 = .ok (.iload 4, 2))).to, ?_⟩
  refine List.forall_mem_cons.mpr ⟨(s_iast (by decide +kernel : decode cX11_ruleOf 36 = .ok (.iastore, 1))).to, ?_⟩
  refine List.forall_mem_cons.mpr ⟨(s_bipush (by decide +kernel : decode cX11_ruleOf 37 = .ok (.bipush 30, 2)) (by decide)).to, ?_⟩
  refine List.forall_mem_cons.mpr ⟨(s_aloadn (by decide +kernel : decode cX11_ruleOf 39 = .ok (.aload_n 0, 1)) rfl).to, ?_⟩
  refine List.forall_mem_cons.mpr ⟨(s_get (ci := 11) (k := 12) (by decide +kernel : decode cX11_ruleOf 40 = .ok (.getfield 48, 3)) rfl (by decide) wd1345 inX11 rfl).to, ?_⟩
  refine List.forall_mem_cons.mpr ⟨(s_imul (by decide +kernel : decode cX11_ruleOf 43 = .ok (.imul, 1))).to, ?_⟩
  refine List.forall_mem_cons.mpr ⟨(s_iloadn (by decide +kernel : decode cX11_ruleOf 44 = .ok (.iload_n 1, 1)) rfl).to, ?_⟩
  refine List.forall_mem_cons.mpr ⟨z_cs (by decide +kernel : decode cX11_ruleOf 45 = .ok (.invokestatic 399, 3)) mt179 wd1657, ?_⟩
  refine List.forall_mem_cons.mpr ⟨(s_iadd (by decide +kernel : decode cX11_ruleOf 48 = .ok (.iadd, 1))).to, ?_⟩
  refine List.forall_mem_cons.mpr ⟨(s_istore (by decide +kernel : decode cX11_ruleOf 49 = .ok (.istore 5, 2)) (by decide)).to, ?_⟩
  refine List.forall_mem_cons.mpr ⟨(s_iload (by decide +kernel : decode cX11_ruleOf 51 = .ok (.iload 5, 2))).to, ?_⟩
  refine List.forall_mem_cons.mpr ⟨(s_istore (by decide +kernel : decode cX11_ruleOf 53 = .ok (.istore 6, 2)) (by decide)).to, ?_⟩
  refine List.forall_mem_cons.mpr ⟨(s_iload (by decide +kernel : decode cX11_ruleOf 55 = .ok (.iload 6, 2))).to, ?_⟩
  refine List.forall_mem_cons.mpr ⟨(s_iload (by decide +kernel : decode cX11_ruleOf 57 = .ok (.iload 5, 2))).to, ?_⟩
  refine List.forall_mem_cons.mpr ⟨(s_aloadn (by decide +kernel : decode cX11_ruleOf 59 = .ok (.aload_n 0, 1)) rfl).to, ?_⟩
  refine List.forall_mem_cons.mpr ⟨(s_get (ci := 11) (k := 15) (by decide +kernel : decode cX11_ruleOf 60 = .ok (.getfield 57, 3)) rfl (by decide) wd1348 inX11 rfl).to, ?_⟩
  refine List.forall_mem_cons.mpr ⟨(s_iconst (by decide +kernel : decode cX11_ruleOf 63 = .ok (.iconst 3, 1)) (by decide)).to, ?_⟩
  refine List.forall_mem_cons.mpr ⟨(s_aloadn (by decide +kernel : decode cX11_ruleOf 64 = .ok (.aload_n 0, 1)) rfl).to, ?_⟩
  refine List.forall_mem_cons.mpr ⟨(s_get (ci := 11) (k := 12) (by decide +kernel : decode cX11_ruleOf 65 = .ok (.getfield 48, 3)) rfl (by decide) wd1345 inX11 rfl).to, ?_⟩
  refine List.forall_mem_cons.mpr ⟨(s_imul (by decide +kernel : decode cX11_ruleOf 68 = .ok (.imul, 1))).to, ?_⟩
  refine List.forall_mem_cons.mpr ⟨(s_iloadn (by decide +kernel : decode cX11_ruleOf 69 = .ok (.iload_n 1, 1)) rfl).to, ?_⟩
  refine List.forall_mem_cons.mpr ⟨(s_iadd (by decide +kernel : decode cX11_ruleOf 70 = .ok (.iadd, 1))).to, ?_⟩
  refine List.forall_mem_cons.mpr ⟨(s_iald (by decide +kernel : decode cX11_ruleOf 71 = .ok (.iaload, 1))).to, ?_⟩
  refine List.forall_mem_cons.mpr ⟨(s_iadd (by decide +kernel : decode cX11_ruleOf 72 = .ok (.iadd, 1))).to, ?_⟩
  refine List.forall_mem_cons.mpr ⟨(s_icmp_ge (by decide +kernel : decode cX11_ruleOf 73 = .ok (.if_icmp .ge 35, 3)) (by decide)).to, ?_⟩
  refine List.forall_mem_cons.mpr ⟨(s_aloadn (by decide +kernel : decode cX11_ruleOf 76 = .ok (.aload_n 0, 1)) rfl).to, ?_⟩
  refine List.forall_mem_cons.mpr ⟨(s_aloadn (by decide +kernel : decode cX11_ruleOf 77 = .ok (.aload_n 0, 1)) rfl).to, ?_⟩
  refine List.forall_mem_cons.mpr ⟨(s_get (ci := 11) (k := 17) (by decide +kernel : decode cX11_ruleOf 78 = .ok (.getfield 63, 3)) rfl (by decide) wd1350 inX11 rfl).to, ?_⟩
  refine List.forall_mem_cons.mpr ⟨(s_iload (by decide +kernel : decode cX11_ruleOf 81 = .ok (.iload 6, 2))).to, ?_⟩
  refine List.forall_mem_cons.mpr ⟨(s_iald (by decide +kernel : decode cX11_ruleOf 83 = .ok (.iaload, 1))).to, ?_⟩
  refine List.forall_mem_cons.mpr ⟨(s_aloadn (by decide +kernel : decode cX11_ruleOf 84 = .ok (.aload_n 0, 1)) rfl).to, ?_⟩
  refine List.forall_mem_cons.mpr ⟨(s_get (ci := 11) (k := 18) (by decide +kernel : decode cX11_ruleOf 85 = .ok (.getfield 66, 3)) rfl (by decide) wd1351 inX11 rfl).to, ?_⟩
  refine List.forall_mem_cons.mpr ⟨(s_iload (by decide +kernel : decode cX11_ruleOf 88 = .ok (.iload 6, 2))).to, ?_⟩
  refine List.forall_mem_cons.mpr ⟨(s_iald (by decide +kernel : decode cX11_ruleOf 90 = .ok (.iaload, 1))).to, ?_⟩
  refine List.forall_mem_cons.mpr ⟨z_cv (by decide +kernel : decode cX11_ruleOf 91 = .ok (.invokevirtual 469, 3)) mt213 wd1791 (ci := 11) rfl (by decide), ?_⟩
  refine List.forall_mem_cons.mpr ⟨(s_lconst (by decide +kernel : decode cX11_ruleOf 94 = .ok (.lconst 1, 1)) (by decide)).to, ?_⟩
  refine List.forall_mem_cons.mpr ⟨(s_lcmp (by decide +kernel : decode cX11_ruleOf 95 = .ok (.lcmp, 1))).to, ?_⟩
  refine List.forall_mem_cons.mpr ⟨(s_if_ne (by decide +kernel : decode cX11_ruleOf 96 = .ok (.ifCond .ne 6, 3)) (by decide)).to, ?_⟩
  exact fun _ h => absurd h List.not_mem_nil
theorem sn_tX11_ruleOf_1 : ∀ q ∈ tX11_ruleOf_1, am_Snd am_P0 RX11 cX11_ruleOf 7 (Option.some FieldType.int) "ruleOf" q.1 q.2 := by
  unfold tX11_ruleOf_1
  refine List.forall_mem_cons.mpr ⟨(s_iload (by decide +kernel : decode cX11_ruleOf 99 = .ok (.iload 6, 2))).to, ?_⟩
  refine List.forall_mem_cons.mpr ⟨s_iret (by decide +kernel : decode cX11_ruleOf 101 = .ok (.ireturn, 1)) rfl, ?_⟩
  refine List.forall_mem_cons.mpr ⟨(s_iinc (by decide +kernel : decode cX11_ruleOf 102 = .ok (.iinc 6 1, 3)) (by decide) (by decide)).to, ?_⟩
  refine List.forall_mem_cons.mpr ⟨(s_goto (by decide +kernel : decode cX11_ruleOf 105 = .ok (.goto (-50), 3)) (by decide)).to, ?_⟩
  refine List.forall_mem_cons.mpr ⟨(s_iconst (by decide +kernel : decode cX11_ruleOf 108 = .ok (.iconst (-1), 1)) (by decide)).to, ?_⟩
  refine List.forall_mem_cons.mpr ⟨s_iret (by decide +kernel : decode cX11_ruleOf 109 = .ok (.ireturn, 1)) rfl, ?_⟩
  exact fun _ h => absurd h List.not_mem_nil
theorem sn_tX11_ruleOf : ∀ q ∈ tX11_ruleOf, am_Snd am_P0 RX11 cX11_ruleOf 7 (Option.some FieldType.int) "ruleOf" q.1 q.2 := by
  unfold tX11_ruleOf
  exact List.forall_mem_append.mpr ⟨sn_tX11_ruleOf_0, sn_tX11_ruleOf_1⟩
theorem sn_tX11_sumOf : ∀ q ∈ tX11_sumOf, am_Snd am_P0 RX11 cX11_sumOf 7 (Option.some FieldType.int) "sumOf" q.1 q.2 := by
  unfold tX11_sumOf
  refine List.forall_mem_cons.mpr ⟨(s_aloadn (by decide +kernel : decode cX11_sumOf 0 = .ok (.aload_n 0, 1)) rfl).to, ?_⟩
  refine List.forall_mem_cons.mpr ⟨(s_iloadn (by decide +kernel : decode cX11_sumOf 1 = .ok (.iload_n 1, 1)) rfl).to, ?_⟩
  refine List.forall_mem_cons.mpr ⟨(s_iloadn (by decide +kernel : decode cX11_sumOf 2 = .ok (.iload_n 2, 1)) rfl).to, ?_⟩
  refine List.forall_mem_cons.mpr ⟨(s_iconst (by decide +kernel : decode cX11_sumOf 3 = .ok (.iconst 0, 1)) (by decide)).to, ?_⟩
  refine List.forall_mem_cons.mpr ⟨(s_iloadn (by decide +kernel : decode cX11_sumOf 4 = .ok (.iload_n 3, 1)) rfl).to, ?_⟩
  refine List.forall_mem_cons.mpr ⟨z_cv (by decide +kernel : decode cX11_sumOf 5 = .ok (.invokevirtual 473, 3)) mt221 wd1779 (ci := 11) rfl (by decide), ?_⟩
  refine List.forall_mem_cons.mpr ⟨(s_istore (by decide +kernel : decode cX11_sumOf 8 = .ok (.istore 4, 2)) (by decide)).to, ?_⟩
  refine List.forall_mem_cons.mpr ⟨(s_iload (by decide +kernel : decode cX11_sumOf 10 = .ok (.iload 4, 2))).to, ?_⟩
  refine List.forall_mem_cons.mpr ⟨(s_iconst (by decide +kernel : decode cX11_sumOf 12 = .ok (.iconst (-1), 1)) (by decide)).to, ?_⟩
  refine List.forall_mem_cons.mpr ⟨(s_icmp_ne (by decide +kernel : decode cX11_sumOf 13 = .ok (.if_icmp .ne 7, 3)) (by decide)).to, ?_⟩
  refine List.forall_mem_cons.mpr ⟨(s_lconst (by decide +kernel : decode cX11_sumOf 16 = .ok (.lconst 0, 1)) (by decide)).to, ?_⟩
  refine List.forall_mem_cons.mpr ⟨(s_goto (by decide +kernel : decode cX11_sumOf 17 = .ok (.goto 21, 3)) (by decide)).to, ?_⟩
  refine List.forall_mem_cons.mpr ⟨(s_aloadn (by decide +kernel : decode cX11_sumOf 20 = .ok (.aload_n 0, 1)) rfl).to, ?_⟩
  refine List.forall_mem_cons.mpr ⟨(s_aloadn (by decide +kernel : decode cX11_sumOf 21 = .ok (.aload_n 0, 1)) rfl).to, ?_⟩
  refine List.forall_mem_cons.mpr ⟨(s_get (ci := 11) (k := 16) (by decide +kernel : decode cX11_sumOf 22 = .ok (.getfield 60, 3)) rfl (by decide) wd1349 inX11 rfl).to, ?_⟩
  refine List.forall_mem_cons.mpr ⟨(s_iload (by decide +kernel : decode cX11_sumOf 25 = .ok (.iload 4, 2))).to, ?_⟩
  refine List.forall_mem_cons.mpr ⟨(s_iald (by decide +kernel : decode cX11_sumOf 27 = .ok (.iaload, 1))).to, ?_⟩
  refine List.forall_mem_cons.mpr ⟨(s_aloadn (by decide +kernel : decode cX11_sumOf 28 = .ok (.aload_n 0, 1)) rfl).to, ?_⟩
  refine List.forall_mem_cons.mpr ⟨(s_get (ci := 11) (k := 17) (by decide +kernel : decode cX11_sumOf 29 = .ok (.getfield 63, 3)) rfl (by decide) wd1350 inX11 rfl).to, ?_⟩
  refine List.forall_mem_cons.mpr ⟨(s_iload (by decide +kernel : decode cX11_sumOf 32 = .ok (.iload 4, 2))).to, ?_⟩
  refine List.forall_mem_cons.mpr ⟨(s_iald (by decide +kernel : decode cX11_sumOf 34 = .ok (.iaload, 1))).to, ?_⟩
  refine List.forall_mem_cons.mpr ⟨z_cv (by decide +kernel : decode cX11_sumOf 35 = .ok (.invokevirtual 469, 3)) mt213 wd1791 (ci := 11) rfl (by decide), ?_⟩
  refine List.forall_mem_cons.mpr ⟨(s_lstore (by decide +kernel : decode cX11_sumOf 38 = .ok (.lstore 5, 2)) (by decide)).to, ?_⟩
  refine List.forall_mem_cons.mpr ⟨(s_lload (by decide +kernel : decode cX11_sumOf 40 = .ok (.lload 5, 2))).to, ?_⟩
  refine List.forall_mem_cons.mpr ⟨(s_lconst (by decide +kernel : decode cX11_sumOf 42 = .ok (.lconst 0, 1)) (by decide)).to, ?_⟩
  refine List.forall_mem_cons.mpr ⟨(s_lcmp (by decide +kernel : decode cX11_sumOf 43 = .ok (.lcmp, 1))).to, ?_⟩
  refine List.forall_mem_cons.mpr ⟨(s_if_ge (by decide +kernel : decode cX11_sumOf 44 = .ok (.ifCond .ge 7, 3)) (by decide)).to, ?_⟩
  refine List.forall_mem_cons.mpr ⟨(s_iconst (by decide +kernel : decode cX11_sumOf 47 = .ok (.iconst 0, 1)) (by decide)).to, ?_⟩
  refine List.forall_mem_cons.mpr ⟨(s_goto (by decide +kernel : decode cX11_sumOf 48 = .ok (.goto 20, 3)) (by decide)).to, ?_⟩
  refine List.forall_mem_cons.mpr ⟨(s_lload (by decide +kernel : decode cX11_sumOf 51 = .ok (.lload 5, 2))).to, ?_⟩
  refine List.forall_mem_cons.mpr ⟨(s_ldc2 (by decide +kernel : decode cX11_sumOf 53 = .ok (.ldc2_w 477, 3)) wd1806).to, ?_⟩
  refine List.forall_mem_cons.mpr ⟨(s_lcmp (by decide +kernel : decode cX11_sumOf 56 = .ok (.lcmp, 1))).to, ?_⟩
  refine List.forall_mem_cons.mpr ⟨(s_if_le (by decide +kernel : decode cX11_sumOf 57 = .ok (.ifCond .le 8, 3)) (by decide)).to, ?_⟩
  refine List.forall_mem_cons.mpr ⟨(s_bipush (by decide +kernel : decode cX11_sumOf 60 = .ok (.bipush 99, 2)) (by decide)).to, ?_⟩
  refine List.forall_mem_cons.mpr ⟨(s_goto (by decide +kernel : decode cX11_sumOf 62 = .ok (.goto 6, 3)) (by decide)).to, ?_⟩
  refine List.forall_mem_cons.mpr ⟨(s_lload (by decide +kernel : decode cX11_sumOf 65 = .ok (.lload 5, 2))).to, ?_⟩
  refine List.forall_mem_cons.mpr ⟨(s_l2i (by decide +kernel : decode cX11_sumOf 67 = .ok (.l2i, 1))).to, ?_⟩
  refine List.forall_mem_cons.mpr ⟨s_iret (by decide +kernel : decode cX11_sumOf 68 = .ok (.ireturn, 1)) rfl, ?_⟩
  exact fun _ h => absurd h List.not_mem_nil
theorem sn_tX11_lays : ∀ q ∈ tX11_lays, am_Snd am_P0 RX11 cX11_lays 2 (Option.none : Option FieldType) "lays" q.1 q.2 := by
  unfold tX11_lays
  refine List.forall_mem_cons.mpr ⟨(s_iconst (by decide +kernel : decode cX11_lays 0 = .ok (.iconst 0, 1)) (by decide)).to, ?_⟩
  refine List.forall_mem_cons.mpr ⟨(s_istoren (by decide +kernel : decode cX11_lays 1 = .ok (.istore_n 1, 1)) rfl (by decide)).to, ?_⟩
  refine List.forall_mem_cons.mpr ⟨(s_iloadn (by decide +kernel : decode cX11_lays 2 = .ok (.iload_n 1, 1)) rfl).to, ?_⟩
  refine List.forall_mem_cons.mpr ⟨(s_aloadn (by decide +kernel : decode cX11_lays 3 = .ok (.aload_n 0, 1)) rfl).to, ?_⟩
  refine List.forall_mem_cons.mpr ⟨z_cv (by decide +kernel : decode cX11_lays 4 = .ok (.invokevirtual 479, 3)) mt214 wd1771 (ci := 11) rfl (by decide), ?_⟩
  refine List.forall_mem_cons.mpr ⟨(s_icmp_ge (by decide +kernel : decode cX11_lays 7 = .ok (.if_icmp .ge 40, 3)) (by decide)).to, ?_⟩
  refine List.forall_mem_cons.mpr ⟨(s_aloadn (by decide +kernel : decode cX11_lays 10 = .ok (.aload_n 0, 1)) rfl).to, ?_⟩
  refine List.forall_mem_cons.mpr ⟨(s_get (ci := 11) (k := 55) (by decide +kernel : decode cX11_lays 11 = .ok (.getfield 180, 3)) rfl (by decide) wd1388 inX11 rfl).to, ?_⟩
  refine List.forall_mem_cons.mpr ⟨(s_iloadn (by decide +kernel : decode cX11_lays 14 = .ok (.iload_n 1, 1)) rfl).to, ?_⟩
  refine List.forall_mem_cons.mpr ⟨(s_aloadn (by decide +kernel : decode cX11_lays 15 = .ok (.aload_n 0, 1)) rfl).to, ?_⟩
  refine List.forall_mem_cons.mpr ⟨(s_iconst (by decide +kernel : decode cX11_lays 16 = .ok (.iconst 0, 1)) (by decide)).to, ?_⟩
  refine List.forall_mem_cons.mpr ⟨(s_iloadn (by decide +kernel : decode cX11_lays 17 = .ok (.iload_n 1, 1)) rfl).to, ?_⟩
  refine List.forall_mem_cons.mpr ⟨(s_iconst (by decide +kernel : decode cX11_lays 18 = .ok (.iconst 0, 1)) (by decide)).to, ?_⟩
  refine List.forall_mem_cons.mpr ⟨z_cv (by decide +kernel : decode cX11_lays 19 = .ok (.invokevirtual 482, 3)) mt222 wd1775 (ci := 11) rfl (by decide), ?_⟩
  refine List.forall_mem_cons.mpr ⟨(s_iast (by decide +kernel : decode cX11_lays 22 = .ok (.iastore, 1))).to, ?_⟩
  refine List.forall_mem_cons.mpr ⟨(s_aloadn (by decide +kernel : decode cX11_lays 23 = .ok (.aload_n 0, 1)) rfl).to, ?_⟩
  refine List.forall_mem_cons.mpr ⟨(s_get (ci := 11) (k := 56) (by decide +kernel : decode cX11_lays 24 = .ok (.getfield 183, 3)) rfl (by decide) wd1389 inX11 rfl).to, ?_⟩
  refine List.forall_mem_cons.mpr ⟨(s_iloadn (by decide +kernel : decode cX11_lays 27 = .ok (.iload_n 1, 1)) rfl).to, ?_⟩
  refine List.forall_mem_cons.mpr ⟨(s_aloadn (by decide +kernel : decode cX11_lays 28 = .ok (.aload_n 0, 1)) rfl).to, ?_⟩
  refine List.forall_mem_cons.mpr ⟨(s_iconst (by decide +kernel : decode cX11_lays 29 = .ok (.iconst 1, 1)) (by decide)).to, ?_⟩
  refine List.forall_mem_cons.mpr ⟨(s_iloadn (by decide +kernel : decode cX11_lays 30 = .ok (.iload_n 1, 1)) rfl).to, ?_⟩
  refine List.forall_mem_cons.mpr ⟨(s_aloadn (by decide +kernel : decode cX11_lays 31 = .ok (.aload_n 0, 1)) rfl).to, ?_⟩
  refine List.forall_mem_cons.mpr ⟨(s_get (ci := 11) (k := 55) (by decide +kernel : decode cX11_lays 32 = .ok (.getfield 180, 3)) rfl (by decide) wd1388 inX11 rfl).to, ?_⟩
  refine List.forall_mem_cons.mpr ⟨(s_iloadn (by decide +kernel : decode cX11_lays 35 = .ok (.iload_n 1, 1)) rfl).to, ?_⟩
  refine List.forall_mem_cons.mpr ⟨(s_iald (by decide +kernel : decode cX11_lays 36 = .ok (.iaload, 1))).to, ?_⟩
  refine List.forall_mem_cons.mpr ⟨z_cv (by decide +kernel : decode cX11_lays 37 = .ok (.invokevirtual 482, 3)) mt222 wd1775 (ci := 11) rfl (by decide), ?_⟩
  refine List.forall_mem_cons.mpr ⟨(s_iast (by decide +kernel : decode cX11_lays 40 = .ok (.iastore, 1))).to, ?_⟩
  refine List.forall_mem_cons.mpr ⟨(s_iinc (by decide +kernel : decode cX11_lays 41 = .ok (.iinc 1 1, 3)) (by decide) (by decide)).to, ?_⟩
  refine List.forall_mem_cons.mpr ⟨(s_goto (by decide +kernel : decode cX11_lays 44 = .ok (.goto (-42), 3)) (by decide)).to, ?_⟩
  refine List.forall_mem_cons.mpr ⟨s_vret (by decide +kernel : decode cX11_lays 47 = .ok (.return_, 1)) rfl, ?_⟩
  exact fun _ h => absurd h List.not_mem_nil
theorem sn_tX11_isQuiet : ∀ q ∈ tX11_isQuiet, am_Snd am_P0 RX11 cX11_isQuiet 3 (Option.some FieldType.boolean) "isQuiet" q.1 q.2 := by
  unfold tX11_isQuiet
  refine List.forall_mem_cons.mpr ⟨(s_aloadn (by decide +kernel : decode cX11_isQuiet 0 = .ok (.aload_n 0, 1)) rfl).to, ?_⟩
  refine List.forall_mem_cons.mpr ⟨(s_iconst (by decide +kernel : decode cX11_isQuiet 1 = .ok (.iconst 2, 1)) (by decide)).to, ?_⟩
  refine List.forall_mem_cons.mpr ⟨(s_iloadn (by decide +kernel : decode cX11_isQuiet 2 = .ok (.iload_n 1, 1)) rfl).to, ?_⟩
  refine List.forall_mem_cons.mpr ⟨(s_iloadn (by decide +kernel : decode cX11_isQuiet 3 = .ok (.iload_n 2, 1)) rfl).to, ?_⟩
  refine List.forall_mem_cons.mpr ⟨(s_aloadn (by decide +kernel : decode cX11_isQuiet 4 = .ok (.aload_n 0, 1)) rfl).to, ?_⟩
  refine List.forall_mem_cons.mpr ⟨(s_get (ci := 11) (k := 55) (by decide +kernel : decode cX11_isQuiet 5 = .ok (.getfield 180, 3)) rfl (by decide) wd1388 inX11 rfl).to, ?_⟩
  refine List.forall_mem_cons.mpr ⟨(s_iloadn (by decide +kernel : decode cX11_isQuiet 8 = .ok (.iload_n 1, 1)) rfl).to, ?_⟩
  refine List.forall_mem_cons.mpr ⟨(s_iald (by decide +kernel : decode cX11_isQuiet 9 = .ok (.iaload, 1))).to, ?_⟩
  refine List.forall_mem_cons.mpr ⟨z_cv (by decide +kernel : decode cX11_isQuiet 10 = .ok (.invokevirtual 473, 3)) mt221 wd1779 (ci := 11) rfl (by decide), ?_⟩
  refine List.forall_mem_cons.mpr ⟨(s_iconst (by decide +kernel : decode cX11_isQuiet 13 = .ok (.iconst (-1), 1)) (by decide)).to, ?_⟩
  refine List.forall_mem_cons.mpr ⟨(s_icmp_eq (by decide +kernel : decode cX11_isQuiet 14 = .ok (.if_icmp .eq 7, 3)) (by decide)).to, ?_⟩
  refine List.forall_mem_cons.mpr ⟨(s_iconst (by decide +kernel : decode cX11_isQuiet 17 = .ok (.iconst 1, 1)) (by decide)).to, ?_⟩
  refine List.forall_mem_cons.mpr ⟨(s_goto (by decide +kernel : decode cX11_isQuiet 18 = .ok (.goto 4, 3)) (by decide)).to, ?_⟩
  refine List.forall_mem_cons.mpr ⟨(s_iconst (by decide +kernel : decode cX11_isQuiet 21 = .ok (.iconst 0, 1)) (by decide)).to, ?_⟩
  refine List.forall_mem_cons.mpr ⟨s_zret (by decide +kernel : decode cX11_isQuiet 22 = .ok (.ireturn, 1)) rfl, ?_⟩
  exact fun _ h => absurd h List.not_mem_nil
theorem sn_tX11_cell : ∀ q ∈ tX11_cell, am_Snd am_P0 RX11 cX11_cell 6 (Option.some FieldType.int) "cell" q.1 q.2 := by
  unfold tX11_cell
  refine List.forall_mem_cons.mpr ⟨(s_aloadn (by decide +kernel : decode cX11_cell 0 = .ok (.aload_n 0, 1)) rfl).to, ?_⟩
  refine List.forall_mem_cons.mpr ⟨(s_iloadn (by decide +kernel : decode cX11_cell 1 = .ok (.iload_n 1, 1)) rfl).to, ?_⟩
  refine List.forall_mem_cons.mpr ⟨(s_iloadn (by decide +kernel : decode cX11_cell 2 = .ok (.iload_n 2, 1)) rfl).to, ?_⟩
  refine List.forall_mem_cons.mpr ⟨z_cv (by decide +kernel : decode cX11_cell 3 = .ok (.invokevirtual 486, 3)) mt217 wd1819 (ci := 11) rfl (by decide), ?_⟩
  refine List.forall_mem_cons.mpr ⟨(s_if_eq (by decide +kernel : decode cX11_cell 6 = .ok (.ifCond .eq 10, 3)) (by decide)).to, ?_⟩
  refine List.forall_mem_cons.mpr ⟨(s_iloadn (by decide +kernel : decode cX11_cell 9 = .ok (.iload_n 3, 1)) rfl).to, ?_⟩
  refine List.forall_mem_cons.mpr ⟨z_cs (by decide +kernel : decode cX11_cell 10 = .ok (.invokestatic 490, 3)) mt219 wd1823, ?_⟩
  refine List.forall_mem_cons.mpr ⟨(s_if_ne (by decide +kernel : decode cX11_cell 13 = .ok (.ifCond .ne 5, 3)) (by decide)).to, ?_⟩
  refine List.forall_mem_cons.mpr ⟨(s_iconst (by decide +kernel : decode cX11_cell 16 = .ok (.iconst (-1), 1)) (by decide)).to, ?_⟩
  refine List.forall_mem_cons.mpr ⟨s_iret (by decide +kernel : decode cX11_cell 17 = .ok (.ireturn, 1)) rfl, ?_⟩
  refine List.forall_mem_cons.mpr ⟨(s_aloadn (by decide +kernel : decode cX11_cell 18 = .ok (.aload_n 0, 1)) rfl).to, ?_⟩
  refine List.forall_mem_cons.mpr ⟨(s_iloadn (by decide +kernel : decode cX11_cell 19 = .ok (.iload_n 1, 1)) rfl).to, ?_⟩
  refine List.forall_mem_cons.mpr ⟨(s_iloadn (by decide +kernel : decode cX11_cell 20 = .ok (.iload_n 2, 1)) rfl).to, ?_⟩
  refine List.forall_mem_cons.mpr ⟨z_cv (by decide +kernel : decode cX11_cell 21 = .ok (.invokevirtual 493, 3)) mt218 wd1826 (ci := 11) rfl (by decide), ?_⟩
  refine List.forall_mem_cons.mpr ⟨(s_istore (by decide +kernel : decode cX11_cell 24 = .ok (.istore 5, 2)) (by decide)).to, ?_⟩
  refine List.forall_mem_cons.mpr ⟨(s_iload (by decide +kernel : decode cX11_cell 26 = .ok (.iload 4, 2))).to, ?_⟩
  refine List.forall_mem_cons.mpr ⟨(s_if_ne (by decide +kernel : decode cX11_cell 28 = .ok (.ifCond .ne 13, 3)) (by decide)).to, ?_⟩
  refine List.forall_mem_cons.mpr ⟨(s_aloadn (by decide +kernel : decode cX11_cell 31 = .ok (.aload_n 0, 1)) rfl).to, ?_⟩
  refine List.forall_mem_cons.mpr ⟨(s_get (ci := 11) (k := 55) (by decide +kernel : decode cX11_cell 32 = .ok (.getfield 180, 3)) rfl (by decide) wd1388 inX11 rfl).to, ?_⟩
  refine List.forall_mem_cons.mpr ⟨(s_iload (by decide +kernel : decode cX11_cell 35 = .ok (.iload 5, 2))).to, ?_⟩
  refine List.forall_mem_cons.mpr ⟨(s_iald (by decide +kernel : decode cX11_cell 37 = .ok (.iaload, 1))).to, ?_⟩
  refine List.forall_mem_cons.mpr ⟨(s_goto (by decide +kernel : decode cX11_cell 38 = .ok (.goto 44, 3)) (by decide)).to, ?_⟩
  refine List.forall_mem_cons.mpr ⟨(s_iload (by decide +kernel : decode cX11_cell 41 = .ok (.iload 4, 2))).to, ?_⟩
  refine List.forall_mem_cons.mpr ⟨(s_iconst (by decide +kernel : decode cX11_cell 43 = .ok (.iconst 1, 1)) (by decide)).to, ?_⟩
  refine List.forall_mem_cons.mpr ⟨(s_icmp_ne (by decide +kernel : decode cX11_cell 44 = .ok (.if_icmp .ne 13, 3)) (by decide)).to, ?_⟩
  refine List.forall_mem_cons.mpr ⟨(s_aloadn (by decide +kernel : decode cX11_cell 47 = .ok (.aload_n 0, 1)) rfl).to, ?_⟩
  refine List.forall_mem_cons.mpr ⟨(s_get (ci := 11) (k := 56) (by decide +kernel : decode cX11_cell 48 = .ok (.getfield 183, 3)) rfl (by decide) wd1389 inX11 rfl).to, ?_⟩
  refine List.forall_mem_cons.mpr ⟨(s_iload (by decide +kernel : decode cX11_cell 51 = .ok (.iload 5, 2))).to, ?_⟩
  refine List.forall_mem_cons.mpr ⟨(s_iald (by decide +kernel : decode cX11_cell 53 = .ok (.iaload, 1))).to, ?_⟩
  refine List.forall_mem_cons.mpr ⟨(s_goto (by decide +kernel : decode cX11_cell 54 = .ok (.goto 28, 3)) (by decide)).to, ?_⟩
  refine List.forall_mem_cons.mpr ⟨(s_iload (by decide +kernel : decode cX11_cell 57 = .ok (.iload 4, 2))).to, ?_⟩
  refine List.forall_mem_cons.mpr ⟨(s_iconst (by decide +kernel : decode cX11_cell 59 = .ok (.iconst 2, 1)) (by decide)).to, ?_⟩
  refine List.forall_mem_cons.mpr ⟨(s_icmp_ne (by decide +kernel : decode cX11_cell 60 = .ok (.if_icmp .ne 21, 3)) (by decide)).to, ?_⟩
  refine List.forall_mem_cons.mpr ⟨(s_aloadn (by decide +kernel : decode cX11_cell 63 = .ok (.aload_n 0, 1)) rfl).to, ?_⟩
  refine List.forall_mem_cons.mpr ⟨(s_iload (by decide +kernel : decode cX11_cell 64 = .ok (.iload 5, 2))).to, ?_⟩
  refine List.forall_mem_cons.mpr ⟨(s_iloadn (by decide +kernel : decode cX11_cell 66 = .ok (.iload_n 3, 1)) rfl).to, ?_⟩
  refine List.forall_mem_cons.mpr ⟨z_cv (by decide +kernel : decode cX11_cell 67 = .ok (.invokevirtual 496, 3)) mt224 wd1830 (ci := 11) rfl (by decide), ?_⟩
  refine List.forall_mem_cons.mpr ⟨(s_if_eq (by decide +kernel : decode cX11_cell 70 = .ok (.ifCond .eq 7, 3)) (by decide)).to, ?_⟩
  refine List.forall_mem_cons.mpr ⟨(s_iconst (by decide +kernel : decode cX11_cell 73 = .ok (.iconst 1, 1)) (by decide)).to, ?_⟩
  refine List.forall_mem_cons.mpr ⟨(s_goto (by decide +kernel : decode cX11_cell 74 = .ok (.goto 8, 3)) (by decide)).to, ?_⟩
  refine List.forall_mem_cons.mpr ⟨(s_iconst (by decide +kernel : decode cX11_cell 77 = .ok (.iconst 0, 1)) (by decide)).to, ?_⟩
  refine List.forall_mem_cons.mpr ⟨(s_goto (by decide +kernel : decode cX11_cell 78 = .ok (.goto 4, 3)) (by decide)).to, ?_⟩
  refine List.forall_mem_cons.mpr ⟨(s_iconst (by decide +kernel : decode cX11_cell 81 = .ok (.iconst (-1), 1)) (by decide)).to, ?_⟩
  refine List.forall_mem_cons.mpr ⟨s_iret (by decide +kernel : decode cX11_cell 82 = .ok (.ireturn, 1)) rfl, ?_⟩
  exact fun _ h => absurd h List.not_mem_nil
theorem sn_tX11_said : ∀ q ∈ tX11_said, am_Snd am_P0 RX11 cX11_said 3 (Option.some FieldType.int) "said" q.1 q.2 := by
  unfold tX11_said
  refine List.forall_mem_cons.mpr ⟨(s_aloadn (by decide +kernel : decode cX11_said 0 = .ok (.aload_n 0, 1)) rfl).to, ?_⟩
  refine List.forall_mem_cons.mpr ⟨(s_get (ci := 11) (k := 26) (by decide +kernel : decode cX11_said 1 = .ok (.getfield 91, 3)) rfl (by decide) wd1359 inX11 rfl).to, ?_⟩
  refine List.forall_mem_cons.mpr ⟨(s_sipush (by decide +kernel : decode cX11_said 4 = .ok (.sipush 384, 3)) (by decide)).to, ?_⟩
  refine List.forall_mem_cons.mpr ⟨(s_aloadn (by decide +kernel : decode cX11_said 7 = .ok (.aload_n 0, 1)) rfl).to, ?_⟩
  refine List.forall_mem_cons.mpr ⟨(s_get (ci := 11) (k := 12) (by decide +kernel : decode cX11_said 8 = .ok (.getfield 48, 3)) rfl (by decide) wd1345 inX11 rfl).to, ?_⟩
  refine List.forall_mem_cons.mpr ⟨(s_imul (by decide +kernel : decode cX11_said 11 = .ok (.imul, 1))).to, ?_⟩
  refine List.forall_mem_cons.mpr ⟨(s_bipush (by decide +kernel : decode cX11_said 12 = .ok (.bipush 48, 2)) (by decide)).to, ?_⟩
  refine List.forall_mem_cons.mpr ⟨(s_iloadn (by decide +kernel : decode cX11_said 14 = .ok (.iload_n 1, 1)) rfl).to, ?_⟩
  refine List.forall_mem_cons.mpr ⟨(s_imul (by decide +kernel : decode cX11_said 15 = .ok (.imul, 1))).to, ?_⟩
  refine List.forall_mem_cons.mpr ⟨(s_iadd (by decide +kernel : decode cX11_said 16 = .ok (.iadd, 1))).to, ?_⟩
  refine List.forall_mem_cons.mpr ⟨(s_iloadn (by decide +kernel : decode cX11_said 17 = .ok (.iload_n 2, 1)) rfl).to, ?_⟩
  refine List.forall_mem_cons.mpr ⟨(s_iadd (by decide +kernel : decode cX11_said 18 = .ok (.iadd, 1))).to, ?_⟩
  refine List.forall_mem_cons.mpr ⟨(s_iald (by decide +kernel : decode cX11_said 19 = .ok (.iaload, 1))).to, ?_⟩
  refine List.forall_mem_cons.mpr ⟨s_iret (by decide +kernel : decode cX11_said 20 = .ok (.ireturn, 1)) rfl, ?_⟩
  exact fun _ h => absurd h List.not_mem_nil
theorem sn_tX11_laden : ∀ q ∈ tX11_laden, am_Snd am_P0 RX11 cX11_laden 3 (Option.some FieldType.boolean) "laden" q.1 q.2 := by
  unfold tX11_laden
  refine List.forall_mem_cons.mpr ⟨(s_aloadn (by decide +kernel : decode cX11_laden 0 = .ok (.aload_n 0, 1)) rfl).to, ?_⟩
  refine List.forall_mem_cons.mpr ⟨(s_get (ci := 11) (k := 27) (by decide +kernel : decode cX11_laden 1 = .ok (.getfield 94, 3)) rfl (by decide) wd1360 inX11 rfl).to, ?_⟩
  refine List.forall_mem_cons.mpr ⟨(s_sipush (by decide +kernel : decode cX11_laden 4 = .ok (.sipush 384, 3)) (by decide)).to, ?_⟩
  refine List.forall_mem_cons.mpr ⟨(s_aloadn (by decide +kernel : decode cX11_laden 7 = .ok (.aload_n 0, 1)) rfl).to, ?_⟩
  refine List.forall_mem_cons.mpr ⟨(s_get (ci := 11) (k := 12) (by decide +kernel : decode cX11_laden 8 = .ok (.getfield 48, 3)) rfl (by decide) wd1345 inX11 rfl).to, ?_⟩
  refine List.forall_mem_cons.mpr ⟨(s_imul (by decide +kernel : decode cX11_laden 11 = .ok (.imul, 1))).to, ?_⟩
  refine List.forall_mem_cons.mpr ⟨(s_bipush (by decide +kernel : decode cX11_laden 12 = .ok (.bipush 48, 2)) (by decide)).to, ?_⟩
  refine List.forall_mem_cons.mpr ⟨(s_iloadn (by decide +kernel : decode cX11_laden 14 = .ok (.iload_n 1, 1)) rfl).to, ?_⟩
  refine List.forall_mem_cons.mpr ⟨(s_imul (by decide +kernel : decode cX11_laden 15 = .ok (.imul, 1))).to, ?_⟩
  refine List.forall_mem_cons.mpr ⟨(s_iadd (by decide +kernel : decode cX11_laden 16 = .ok (.iadd, 1))).to, ?_⟩
  refine List.forall_mem_cons.mpr ⟨(s_iloadn (by decide +kernel : decode cX11_laden 17 = .ok (.iload_n 2, 1)) rfl).to, ?_⟩
  refine List.forall_mem_cons.mpr ⟨(s_iadd (by decide +kernel : decode cX11_laden 18 = .ok (.iadd, 1))).to, ?_⟩
  refine List.forall_mem_cons.mpr ⟨(s_zald (by decide +kernel : decode cX11_laden 19 = .ok (.baload, 1))).to, ?_⟩
  refine List.forall_mem_cons.mpr ⟨s_zret (by decide +kernel : decode cX11_laden 20 = .ok (.ireturn, 1)) rfl, ?_⟩
  exact fun _ h => absurd h List.not_mem_nil
theorem sn_tX11_sayingsOf : ∀ q ∈ tX11_sayingsOf, am_Snd am_P0 RX11 cX11_sayingsOf 4 (Option.some FieldType.int) "sayingsOf" q.1 q.2 := by
  unfold tX11_sayingsOf
  refine List.forall_mem_cons.mpr ⟨(s_iconst (by decide +kernel : decode cX11_sayingsOf 0 = .ok (.iconst 0, 1)) (by decide)).to, ?_⟩
  refine List.forall_mem_cons.mpr ⟨(s_istoren (by decide +kernel : decode cX11_sayingsOf 1 = .ok (.istore_n 2, 1)) rfl (by decide)).to, ?_⟩
  refine List.forall_mem_cons.mpr ⟨(s_iconst (by decide +kernel : decode cX11_sayingsOf 2 = .ok (.iconst 0, 1)) (by decide)).to, ?_⟩
  refine List.forall_mem_cons.mpr ⟨(s_istoren (by decide +kernel : decode cX11_sayingsOf 3 = .ok (.istore_n 3, 1)) rfl (by decide)).to, ?_⟩
  refine List.forall_mem_cons.mpr ⟨(s_iloadn (by decide +kernel : decode cX11_sayingsOf 4 = .ok (.iload_n 3, 1)) rfl).to, ?_⟩
  refine List.forall_mem_cons.mpr ⟨(s_bipush (by decide +kernel : decode cX11_sayingsOf 5 = .ok (.bipush 48, 2)) (by decide)).to, ?_⟩
  refine List.forall_mem_cons.mpr ⟨(s_icmp_ge (by decide +kernel : decode cX11_sayingsOf 7 = .ok (.if_icmp .ge 27, 3)) (by decide)).to, ?_⟩
  refine List.forall_mem_cons.mpr ⟨(s_iloadn (by decide +kernel : decode cX11_sayingsOf 10 = .ok (.iload_n 2, 1)) rfl).to, ?_⟩
  refine List.forall_mem_cons.mpr ⟨(s_aloadn (by decide +kernel : decode cX11_sayingsOf 11 = .ok (.aload_n 0, 1)) rfl).to, ?_⟩
  refine List.forall_mem_cons.mpr ⟨(s_iloadn (by decide +kernel : decode cX11_sayingsOf 12 = .ok (.iload_n 1, 1)) rfl).to, ?_⟩
  refine List.forall_mem_cons.mpr ⟨(s_iloadn (by decide +kernel : decode cX11_sayingsOf 13 = .ok (.iload_n 3, 1)) rfl).to, ?_⟩
  refine List.forall_mem_cons.mpr ⟨z_cv (by decide +kernel : decode cX11_sayingsOf 14 = .ok (.invokevirtual 499, 3)) mt226 wd1842 (ci := 11) rfl (by decide), ?_⟩
  refine List.forall_mem_cons.mpr ⟨(s_iconst (by decide +kernel : decode cX11_sayingsOf 17 = .ok (.iconst (-1), 1)) (by decide)).to, ?_⟩
  refine List.forall_mem_cons.mpr ⟨(s_icmp_eq (by decide +kernel : decode cX11_sayingsOf 18 = .ok (.if_icmp .eq 7, 3)) (by decide)).to, ?_⟩
  refine List.forall_mem_cons.mpr ⟨(s_iconst (by decide +kernel : decode cX11_sayingsOf 21 = .ok (.iconst 1, 1)) (by decide)).to, ?_⟩
  refine List.forall_mem_cons.mpr ⟨(s_goto (by decide +kernel : decode cX11_sayingsOf 22 = .ok (.goto 4, 3)) (by decide)).to, ?_⟩
  refine List.forall_mem_cons.mpr ⟨(s_iconst (by decide +kernel : decode cX11_sayingsOf 25 = .ok (.iconst 0, 1)) (by decide)).to, ?_⟩
  refine List.forall_mem_cons.mpr ⟨(s_iadd (by decide +kernel : decode cX11_sayingsOf 26 = .ok (.iadd, 1))).to, ?_⟩
  refine List.forall_mem_cons.mpr ⟨(s_istoren (by decide +kernel : decode cX11_sayingsOf 27 = .ok (.istore_n 2, 1)) rfl (by decide)).to, ?_⟩
  refine List.forall_mem_cons.mpr ⟨(s_iinc (by decide +kernel : decode cX11_sayingsOf 28 = .ok (.iinc 3 1, 3)) (by decide) (by decide)).to, ?_⟩
  refine List.forall_mem_cons.mpr ⟨(s_goto (by decide +kernel : decode cX11_sayingsOf 31 = .ok (.goto (-27), 3)) (by decide)).to, ?_⟩
  refine List.forall_mem_cons.mpr ⟨(s_iloadn (by decide +kernel : decode cX11_sayingsOf 34 = .ok (.iload_n 2, 1)) rfl).to, ?_⟩
  refine List.forall_mem_cons.mpr ⟨s_iret (by decide +kernel : decode cX11_sayingsOf 35 = .ok (.ireturn, 1)) rfl, ?_⟩
  exact fun _ h => absurd h List.not_mem_nil
theorem sn_tX11_hourOf : ∀ q ∈ tX11_hourOf, am_Snd am_P0 RX11 cX11_hourOf 5 (Option.some FieldType.int) "hourOf" q.1 q.2 := by
  unfold tX11_hourOf
  refine List.forall_mem_cons.mpr ⟨(s_iloadn (by decide +kernel : decode cX11_hourOf 0 = .ok (.iload_n 2, 1)) rfl).to, ?_⟩
  refine List.forall_mem_cons.mpr ⟨(s_istoren (by decide +kernel : decode cX11_hourOf 1 = .ok (.istore_n 3, 1)) rfl (by decide)).to, ?_⟩
  refine List.forall_mem_cons.mpr ⟨(s_iconst (by decide +kernel : decode cX11_hourOf 2 = .ok (.iconst 0, 1)) (by decide)).to, ?_⟩
  refine List.forall_mem_cons.mpr ⟨(s_istore (by decide +kernel : decode cX11_hourOf 3 = .ok (.istore 4, 2)) (by decide)).to, ?_⟩
  refine List.forall_mem_cons.mpr ⟨(s_iload (by decide +kernel : decode cX11_hourOf 5 = .ok (.iload 4, 2))).to, ?_⟩
  refine List.forall_mem_cons.mpr ⟨(s_bipush (by decide +kernel : decode cX11_hourOf 7 = .ok (.bipush 48, 2)) (by decide)).to, ?_⟩
  refine List.forall_mem_cons.mpr ⟨(s_icmp_ge (by decide +kernel : decode cX11_hourOf 9 = .ok (.if_icmp .ge 37, 3)) (by decide)).to, ?_⟩
  refine List.forall_mem_cons.mpr ⟨(s_iloadn (by decide +kernel : decode cX11_hourOf 12 = .ok (.iload_n 3, 1)) rfl).to, ?_⟩
  refine List.forall_mem_cons.mpr ⟨(s_if_lt (by decide +kernel : decode cX11_hourOf 13 = .ok (.ifCond .lt 33, 3)) (by decide)).to, ?_⟩
  refine List.forall_mem_cons.mpr ⟨(s_aloadn (by decide +kernel : decode cX11_hourOf 16 = .ok (.aload_n 0, 1)) rfl).to, ?_⟩
  refine List.forall_mem_cons.mpr ⟨(s_iloadn (by decide +kernel : decode cX11_hourOf 17 = .ok (.iload_n 1, 1)) rfl).to, ?_⟩
  refine List.forall_mem_cons.mpr ⟨(s_iload (by decide +kernel : decode cX11_hourOf 18 = .ok (.iload 4, 2))).to, ?_⟩
  refine List.forall_mem_cons.mpr ⟨z_cv (by decide +kernel : decode cX11_hourOf 20 = .ok (.invokevirtual 499, 3)) mt226 wd1842 (ci := 11) rfl (by decide), ?_⟩
  refine List.forall_mem_cons.mpr ⟨(s_iconst (by decide +kernel : decode cX11_hourOf 23 = .ok (.iconst (-1), 1)) (by decide)).to, ?_⟩
  refine List.forall_mem_cons.mpr ⟨(s_icmp_ne (by decide +kernel : decode cX11_hourOf 24 = .ok (.if_icmp .ne 6, 3)) (by decide)).to, ?_⟩
  refine List.forall_mem_cons.mpr ⟨(s_goto (by decide +kernel : decode cX11_hourOf 27 = .ok (.goto 13, 3)) (by decide)).to, ?_⟩
  refine List.forall_mem_cons.mpr ⟨(s_iloadn (by decide +kernel : decode cX11_hourOf 30 = .ok (.iload_n 3, 1)) rfl).to, ?_⟩
  refine List.forall_mem_cons.mpr ⟨(s_if_ne (by decide +kernel : decode cX11_hourOf 31 = .ok (.ifCond .ne 6, 3)) (by decide)).to, ?_⟩
  refine List.forall_mem_cons.mpr ⟨(s_iload (by decide +kernel : decode cX11_hourOf 34 = .ok (.iload 4, 2))).to, ?_⟩
  refine List.forall_mem_cons.mpr ⟨s_iret (by decide +kernel : decode cX11_hourOf 36 = .ok (.ireturn, 1)) rfl, ?_⟩
  refine List.forall_mem_cons.mpr ⟨(s_iinc (by decide +kernel : decode cX11_hourOf 37 = .ok (.iinc 3 (-1), 3)) (by decide) (by decide)).to, ?_⟩
  refine List.forall_mem_cons.mpr ⟨(s_iinc (by decide +kernel : decode cX11_hourOf 40 = .ok (.iinc 4 1, 3)) (by decide) (by decide)).to, ?_⟩
  refine List.forall_mem_cons.mpr ⟨(s_goto (by decide +kernel : decode cX11_hourOf 43 = .ok (.goto (-38), 3)) (by decide)).to, ?_⟩
  refine List.forall_mem_cons.mpr ⟨(s_iconst (by decide +kernel : decode cX11_hourOf 46 = .ok (.iconst (-1), 1)) (by decide)).to, ?_⟩
  refine List.forall_mem_cons.mpr ⟨s_iret (by decide +kernel : decode cX11_hourOf 47 = .ok (.ireturn, 1)) rfl, ?_⟩
  exact fun _ h => absurd h List.not_mem_nil
theorem sn_tX11_numberOf : ∀ q ∈ tX11_numberOf, am_Snd am_P0 RX11 cX11_numberOf 5 (Option.some FieldType.int) "numberOf" q.1 q.2 := by
  unfold tX11_numberOf
  refine List.forall_mem_cons.mpr ⟨(s_iconst (by decide +kernel : decode cX11_numberOf 0 = .ok (.iconst 0, 1)) (by decide)).to, ?_⟩
  refine List.forall_mem_cons.mpr ⟨(s_istoren (by decide +kernel : decode cX11_numberOf 1 = .ok (.istore_n 3, 1)) rfl (by decide)).to, ?_⟩
  refine List.forall_mem_cons.mpr ⟨(s_iconst (by decide +kernel : decode cX11_numberOf 2 = .ok (.iconst 0, 1)) (by decide)).to, ?_⟩
  refine List.forall_mem_cons.mpr ⟨(s_istore (by decide +kernel : decode cX11_numberOf 3 = .ok (.istore 4, 2)) (by decide)).to, ?_⟩
  refine List.forall_mem_cons.mpr ⟨(s_iload (by decide +kernel : decode cX11_numberOf 5 = .ok (.iload 4, 2))).to, ?_⟩
  refine List.forall_mem_cons.mpr ⟨(s_iloadn (by decide +kernel : decode cX11_numberOf 7 = .ok (.iload_n 2, 1)) rfl).to, ?_⟩
  refine List.forall_mem_cons.mpr ⟨(s_icmp_ge (by decide +kernel : decode cX11_numberOf 8 = .ok (.if_icmp .ge 28, 3)) (by decide)).to, ?_⟩
  refine List.forall_mem_cons.mpr ⟨(s_iloadn (by decide +kernel : decode cX11_numberOf 11 = .ok (.iload_n 3, 1)) rfl).to, ?_⟩
  refine List.forall_mem_cons.mpr ⟨(s_aloadn (by decide +kernel : decode cX11_numberOf 12 = .ok (.aload_n 0, 1)) rfl).to, ?_⟩
  refine List.forall_mem_cons.mpr ⟨(s_iloadn (by decide +kernel : decode cX11_numberOf 13 = .ok (.iload_n 1, 1)) rfl).to, ?_⟩
  refine List.forall_mem_cons.mpr ⟨(s_iload (by decide +kernel : decode cX11_numberOf 14 = .ok (.iload 4, 2))).to, ?_⟩
  refine List.forall_mem_cons.mpr ⟨z_cv (by decide +kernel : decode cX11_numberOf 16 = .ok (.invokevirtual 499, 3)) mt226 wd1842 (ci := 11) rfl (by decide), ?_⟩
  refine List.forall_mem_cons.mpr ⟨(s_iconst (by decide +kernel : decode cX11_numberOf 19 = .ok (.iconst (-1), 1)) (by decide)).to, ?_⟩
  refine List.forall_mem_cons.mpr ⟨(s_icmp_eq (by decide +kernel : decode cX11_numberOf 20 = .ok (.if_icmp .eq 7, 3)) (by decide)).to, ?_⟩
  refine List.forall_mem_cons.mpr ⟨(s_iconst (by decide +kernel : decode cX11_numberOf 23 = .ok (.iconst 1, 1)) (by decide)).to, ?_⟩
  refine List.forall_mem_cons.mpr ⟨(s_goto (by decide +kernel : decode cX11_numberOf 24 = .ok (.goto 4, 3)) (by decide)).to, ?_⟩
  refine List.forall_mem_cons.mpr ⟨(s_iconst (by decide +kernel : decode cX11_numberOf 27 = .ok (.iconst 0, 1)) (by decide)).to, ?_⟩
  refine List.forall_mem_cons.mpr ⟨(s_iadd (by decide +kernel : decode cX11_numberOf 28 = .ok (.iadd, 1))).to, ?_⟩
  refine List.forall_mem_cons.mpr ⟨(s_istoren (by decide +kernel : decode cX11_numberOf 29 = .ok (.istore_n 3, 1)) rfl (by decide)).to, ?_⟩
  refine List.forall_mem_cons.mpr ⟨(s_iinc (by decide +kernel : decode cX11_numberOf 30 = .ok (.iinc 4 1, 3)) (by decide) (by decide)).to, ?_⟩
  refine List.forall_mem_cons.mpr ⟨(s_goto (by decide +kernel : decode cX11_numberOf 33 = .ok (.goto (-28), 3)) (by decide)).to, ?_⟩
  refine List.forall_mem_cons.mpr ⟨(s_iloadn (by decide +kernel : decode cX11_numberOf 36 = .ok (.iload_n 3, 1)) rfl).to, ?_⟩
  refine List.forall_mem_cons.mpr ⟨s_iret (by decide +kernel : decode cX11_numberOf 37 = .ok (.ireturn, 1)) rfl, ?_⟩
  exact fun _ h => absurd h List.not_mem_nil
