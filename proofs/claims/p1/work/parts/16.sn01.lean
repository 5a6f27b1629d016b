/-! the machine follows each instruction (by program: gen_prog.py) -/
theorem sn_tX2_readSum : ∀ q ∈ tX2_readSum, am_Snd am_P0 RX2 cX2_readSum 4 (Option.none : Option FieldType) "readSum" q.1 q.2 := by
  unfold tX2_readSum
  refine List.forall_mem_cons.mpr ⟨(s_aloadn (by decide +kernel : decode cX2_readSum 0 = .ok (.aload_n 0, 1)) rfl).to, ?_⟩
  refine List.forall_mem_cons.mpr ⟨(s_iloadn (by decide +kernel : decode cX2_readSum 1 = .ok (.iload_n 1, 1)) rfl).to, ?_⟩
  refine List.forall_mem_cons.mpr ⟨z_cv (by decide +kernel : decode cX2_readSum 2 = .ok (.invokevirtual 203, 3)) mt27 wd715 (ci := 2) rfl (by decide), ?_⟩
  refine List.forall_mem_cons.mpr ⟨(s_iconst (by decide +kernel : decode cX2_readSum 5 = .ok (.iconst 0, 1)) (by decide)).to, ?_⟩
  refine List.forall_mem_cons.mpr ⟨(s_istoren (by decide +kernel : decode cX2_readSum 6 = .ok (.istore_n 2, 1)) rfl (by decide)).to, ?_⟩
  refine List.forall_mem_cons.mpr ⟨(s_iloadn (by decide +kernel : decode cX2_readSum 7 = .ok (.iload_n 2, 1)) rfl).to, ?_⟩
  refine List.forall_mem_cons.mpr ⟨(s_sipush (by decide +kernel : decode cX2_readSum 8 = .ok (.sipush 1800, 3)) (by decide)).to, ?_⟩
  refine List.forall_mem_cons.mpr ⟨(s_icmp_ge (by decide +kernel : decode cX2_readSum 11 = .ok (.if_icmp .ge 76, 3)) (by decide)).to, ?_⟩
  refine List.forall_mem_cons.mpr ⟨(s_aloadn (by decide +kernel : decode cX2_readSum 14 = .ok (.aload_n 0, 1)) rfl).to, ?_⟩
  refine List.forall_mem_cons.mpr ⟨(s_get (ci := 2) (k := 0) (by decide +kernel : decode cX2_readSum 15 = .ok (.getfield 12, 3)) rfl (by decide) wd467 inX2 rfl).to, ?_⟩
  refine List.forall_mem_cons.mpr ⟨(s_bipush (by decide +kernel : decode cX2_readSum 18 = .ok (.bipush 43, 2)) (by decide)).to, ?_⟩
  refine List.forall_mem_cons.mpr ⟨z_cv (by decide +kernel : decode cX2_readSum 20 = .ok (.invokevirtual 191, 3)) mt40 wd731 (ci := 3) rfl (by decide), ?_⟩
  refine List.forall_mem_cons.mpr ⟨(s_if_ne (by decide +kernel : decode cX2_readSum 23 = .ok (.ifCond .ne 15, 3)) (by decide)).to, ?_⟩
  refine List.forall_mem_cons.mpr ⟨(s_aloadn (by decide +kernel : decode cX2_readSum 26 = .ok (.aload_n 0, 1)) rfl).to, ?_⟩
  refine List.forall_mem_cons.mpr ⟨(s_get (ci := 2) (k := 0) (by decide +kernel : decode cX2_readSum 27 = .ok (.getfield 12, 3)) rfl (by decide) wd467 inX2 rfl).to, ?_⟩
  refine List.forall_mem_cons.mpr ⟨(s_bipush (by decide +kernel : decode cX2_readSum 30 = .ok (.bipush 45, 2)) (by decide)).to, ?_⟩
  refine List.forall_mem_cons.mpr ⟨z_cv (by decide +kernel : decode cX2_readSum 32 = .ok (.invokevirtual 191, 3)) mt40 wd731 (ci := 3) rfl (by decide), ?_⟩
  refine List.forall_mem_cons.mpr ⟨(s_if_eq (by decide +kernel : decode cX2_readSum 35 = .ok (.ifCond .eq 52, 3)) (by decide)).to, ?_⟩
  refine List.forall_mem_cons.mpr ⟨(s_aloadn (by decide +kernel : decode cX2_readSum 38 = .ok (.aload_n 0, 1)) rfl).to, ?_⟩
  refine List.forall_mem_cons.mpr ⟨(s_get (ci := 2) (k := 0) (by decide +kernel : decode cX2_readSum 39 = .ok (.getfield 12, 3)) rfl (by decide) wd467 inX2 rfl).to, ?_⟩
  refine List.forall_mem_cons.mpr ⟨(s_bipush (by decide +kernel : decode cX2_readSum 42 = .ok (.bipush 43, 2)) (by decide)).to, ?_⟩
  refine List.forall_mem_cons.mpr ⟨z_cv (by decide +kernel : decode cX2_readSum 44 = .ok (.invokevirtual 191, 3)) mt40 wd731 (ci := 3) rfl (by decide), ?_⟩
  refine List.forall_mem_cons.mpr ⟨(s_if_eq (by decide +kernel : decode cX2_readSum 47 = .ok (.ifCond .eq 8, 3)) (by decide)).to, ?_⟩
  refine List.forall_mem_cons.mpr ⟨(s_bipush (by decide +kernel : decode cX2_readSum 50 = .ok (.bipush (-6), 2)) (by decide)).to, ?_⟩
  refine List.forall_mem_cons.mpr ⟨(s_goto (by decide +kernel : decode cX2_readSum 52 = .ok (.goto 5, 3)) (by decide)).to, ?_⟩
  refine List.forall_mem_cons.mpr ⟨(s_bipush (by decide +kernel : decode cX2_readSum 55 = .ok (.bipush (-7), 2)) (by decide)).to, ?_⟩
  refine List.forall_mem_cons.mpr ⟨(s_istoren (by decide +kernel : decode cX2_readSum 57 = .ok (.istore_n 3, 1)) rfl (by decide)).to, ?_⟩
  refine List.forall_mem_cons.mpr ⟨(s_aloadn (by decide +kernel : decode cX2_readSum 58 = .ok (.aload_n 0, 1)) rfl).to, ?_⟩
  refine List.forall_mem_cons.mpr ⟨(s_get (ci := 2) (k := 0) (by decide +kernel : decode cX2_readSum 59 = .ok (.getfield 12, 3)) rfl (by decide) wd467 inX2 rfl).to, ?_⟩
  refine List.forall_mem_cons.mpr ⟨z_cv (by decide +kernel : decode cX2_readSum 62 = .ok (.invokevirtual 68, 3)) mt35 wd689 (ci := 3) rfl (by decide), ?_⟩
  refine List.forall_mem_cons.mpr ⟨(s_aloadn (by decide +kernel : decode cX2_readSum 65 = .ok (.aload_n 0, 1)) rfl).to, ?_⟩
  refine List.forall_mem_cons.mpr ⟨(s_iloadn (by decide +kernel : decode cX2_readSum 66 = .ok (.iload_n 1, 1)) rfl).to, ?_⟩
  refine List.forall_mem_cons.mpr ⟨z_cv (by decide +kernel : decode cX2_readSum 67 = .ok (.invokevirtual 203, 3)) mt27 wd715 (ci := 2) rfl (by decide), ?_⟩
  refine List.forall_mem_cons.mpr ⟨(s_aloadn (by decide +kernel : decode cX2_readSum 70 = .ok (.aload_n 0, 1)) rfl).to, ?_⟩
  refine List.forall_mem_cons.mpr ⟨(s_get (ci := 2) (k := 1) (by decide +kernel : decode cX2_readSum 71 = .ok (.getfield 18, 3)) rfl (by decide) wd469 inX2 rfl).to, ?_⟩
  refine List.forall_mem_cons.mpr ⟨(s_get (ci := 5) (k := 6) (by decide +kernel : decode cX2_readSum 74 = .ok (.getfield 94, 3)) rfl (by decide) wd324 inX5 rfl).to, ?_⟩
  refine List.forall_mem_cons.mpr ⟨(s_iloadn (by decide +kernel : decode cX2_readSum 77 = .ok (.iload_n 3, 1)) rfl).to, ?_⟩
  refine List.forall_mem_cons.mpr ⟨z_cv (by decide +kernel : decode cX2_readSum 78 = .ok (.invokevirtual 185, 3)) mt1 wd727 (ci := 0) rfl (by decide), ?_⟩
  refine List.forall_mem_cons.mpr ⟨(s_iinc (by decide +kernel : decode cX2_readSum 81 = .ok (.iinc 2 1, 3)) (by decide) (by decide)).to, ?_⟩
  refine List.forall_mem_cons.mpr ⟨(s_goto (by decide +kernel : decode cX2_readSum 84 = .ok (.goto (-77), 3)) (by decide)).to, ?_⟩
  refine List.forall_mem_cons.mpr ⟨s_vret (by decide +kernel : decode cX2_readSum 87 = .ok (.return_, 1)) rfl, ?_⟩
  exact fun _ h => absurd h List.not_mem_nil
theorem sn_tX2_readProduct : ∀ q ∈ tX2_readProduct, am_Snd am_P0 RX2 cX2_readProduct 4 (Option.none : Option FieldType) "readProduct" q.1 q.2 := by
  unfold tX2_readProduct
  refine List.forall_mem_cons.mpr ⟨(s_aloadn (by decide +kernel : decode cX2_readProduct 0 = .ok (.aload_n 0, 1)) rfl).to, ?_⟩
  refine List.forall_mem_cons.mpr ⟨(s_iloadn (by decide +kernel : decode cX2_readProduct 1 = .ok (.iload_n 1, 1)) rfl).to, ?_⟩
  refine List.forall_mem_cons.mpr ⟨z_cv (by decide +kernel : decode cX2_readProduct 2 = .ok (.invokevirtual 206, 3)) mt29 wd719 (ci := 2) rfl (by decide), ?_⟩
  refine List.forall_mem_cons.mpr ⟨(s_iconst (by decide +kernel : decode cX2_readProduct 5 = .ok (.iconst 0, 1)) (by decide)).to, ?_⟩
  refine List.forall_mem_cons.mpr ⟨(s_istoren (by decide +kernel : decode cX2_readProduct 6 = .ok (.istore_n 2, 1)) rfl (by decide)).to, ?_⟩
  refine List.forall_mem_cons.mpr ⟨(s_iloadn (by decide +kernel : decode cX2_readProduct 7 = .ok (.iload_n 2, 1)) rfl).to, ?_⟩
  refine List.forall_mem_cons.mpr ⟨(s_sipush (by decide +kernel : decode cX2_readProduct 8 = .ok (.sipush 1800, 3)) (by decide)).to, ?_⟩
  refine List.forall_mem_cons.mpr ⟨(s_icmp_ge (by decide +kernel : decode cX2_readProduct 11 = .ok (.if_icmp .ge 44, 3)) (by decide)).to, ?_⟩
  refine List.forall_mem_cons.mpr ⟨(s_aloadn (by decide +kernel : decode cX2_readProduct 14 = .ok (.aload_n 0, 1)) rfl).to, ?_⟩
  refine List.forall_mem_cons.mpr ⟨z_cv (by decide +kernel : decode cX2_readProduct 15 = .ok (.invokevirtual 209, 3)) mt28 wd748 (ci := 2) rfl (by decide), ?_⟩
  refine List.forall_mem_cons.mpr ⟨(s_if_eq (by decide +kernel : decode cX2_readProduct 18 = .ok (.ifCond .eq 37, 3)) (by decide)).to, ?_⟩
  refine List.forall_mem_cons.mpr ⟨(s_aloadn (by decide +kernel : decode cX2_readProduct 21 = .ok (.aload_n 0, 1)) rfl).to, ?_⟩
  refine List.forall_mem_cons.mpr ⟨z_cv (by decide +kernel : decode cX2_readProduct 22 = .ok (.invokevirtual 209, 3)) mt28 wd748 (ci := 2) rfl (by decide), ?_⟩
  refine List.forall_mem_cons.mpr ⟨(s_istoren (by decide +kernel : decode cX2_readProduct 25 = .ok (.istore_n 3, 1)) rfl (by decide)).to, ?_⟩
  refine List.forall_mem_cons.mpr ⟨(s_aloadn (by decide +kernel : decode cX2_readProduct 26 = .ok (.aload_n 0, 1)) rfl).to, ?_⟩
  refine List.forall_mem_cons.mpr ⟨(s_get (ci := 2) (k := 0) (by decide +kernel : decode cX2_readProduct 27 = .ok (.getfield 12, 3)) rfl (by decide) wd467 inX2 rfl).to, ?_⟩
  refine List.forall_mem_cons.mpr ⟨z_cv (by decide +kernel : decode cX2_readProduct 30 = .ok (.invokevirtual 68, 3)) mt35 wd689 (ci := 3) rfl (by decide), ?_⟩
  refine List.forall_mem_cons.mpr ⟨(s_aloadn (by decide +kernel : decode cX2_readProduct 33 = .ok (.aload_n 0, 1)) rfl).to, ?_⟩
  refine List.forall_mem_cons.mpr ⟨(s_iloadn (by decide +kernel : decode cX2_readProduct 34 = .ok (.iload_n 1, 1)) rfl).to, ?_⟩
  refine List.forall_mem_cons.mpr ⟨z_cv (by decide +kernel : decode cX2_readProduct 35 = .ok (.invokevirtual 206, 3)) mt29 wd719 (ci := 2) rfl (by decide), ?_⟩
  refine List.forall_mem_cons.mpr ⟨(s_aloadn (by decide +kernel : decode cX2_readProduct 38 = .ok (.aload_n 0, 1)) rfl).to, ?_⟩
  refine List.forall_mem_cons.mpr ⟨(s_get (ci := 2) (k := 1) (by decide +kernel : decode cX2_readProduct 39 = .ok (.getfield 18, 3)) rfl (by decide) wd469 inX2 rfl).to, ?_⟩
  refine List.forall_mem_cons.mpr ⟨(s_get (ci := 5) (k := 6) (by decide +kernel : decode cX2_readProduct 42 = .ok (.getfield 94, 3)) rfl (by decide) wd324 inX5 rfl).to, ?_⟩
  refine List.forall_mem_cons.mpr ⟨(s_iloadn (by decide +kernel : decode cX2_readProduct 45 = .ok (.iload_n 3, 1)) rfl).to, ?_⟩
  refine List.forall_mem_cons.mpr ⟨z_cv (by decide +kernel : decode cX2_readProduct 46 = .ok (.invokevirtual 185, 3)) mt1 wd727 (ci := 0) rfl (by decide), ?_⟩
  refine List.forall_mem_cons.mpr ⟨(s_iinc (by decide +kernel : decode cX2_readProduct 49 = .ok (.iinc 2 1, 3)) (by decide) (by decide)).to, ?_⟩
  refine List.forall_mem_cons.mpr ⟨(s_goto (by decide +kernel : decode cX2_readProduct 52 = .ok (.goto (-45), 3)) (by decide)).to, ?_⟩
  refine List.forall_mem_cons.mpr ⟨s_vret (by decide +kernel : decode cX2_readProduct 55 = .ok (.return_, 1)) rfl, ?_⟩
  exact fun _ h => absurd h List.not_mem_nil
theorem sn_tX2_timesSign : ∀ q ∈ tX2_timesSign, am_Snd am_P0 RX2 cX2_timesSign 1 (Option.some FieldType.int) "timesSign" q.1 q.2 := by
  unfold tX2_timesSign
  refine List.forall_mem_cons.mpr ⟨(s_aloadn (by decide +kernel : decode cX2_timesSign 0 = .ok (.aload_n 0, 1)) rfl).to, ?_⟩
  refine List.forall_mem_cons.mpr ⟨(s_get (ci := 2) (k := 0) (by decide +kernel : decode cX2_timesSign 1 = .ok (.getfield 12, 3)) rfl (by decide) wd467 inX2 rfl).to, ?_⟩
  refine List.forall_mem_cons.mpr ⟨(s_bipush (by decide +kernel : decode cX2_timesSign 4 = .ok (.bipush 42, 2)) (by decide)).to, ?_⟩
  refine List.forall_mem_cons.mpr ⟨z_cv (by decide +kernel : decode cX2_timesSign 6 = .ok (.invokevirtual 191, 3)) mt40 wd731 (ci := 3) rfl (by decide), ?_⟩
  refine List.forall_mem_cons.mpr ⟨(s_if_eq (by decide +kernel : decode cX2_timesSign 9 = .ok (.ifCond .eq 6, 3)) (by decide)).to, ?_⟩
  refine List.forall_mem_cons.mpr ⟨(s_bipush (by decide +kernel : decode cX2_timesSign 12 = .ok (.bipush (-8), 2)) (by decide)).to, ?_⟩
  refine List.forall_mem_cons.mpr ⟨s_iret (by decide +kernel : decode cX2_timesSign 14 = .ok (.ireturn, 1)) rfl, ?_⟩
  refine List.forall_mem_cons.mpr ⟨(s_aloadn (by decide +kernel : decode cX2_timesSign 15 = .ok (.aload_n 0, 1)) rfl).to, ?_⟩
  refine List.forall_mem_cons.mpr ⟨(s_get (ci := 2) (k := 0) (by decide +kernel : decode cX2_timesSign 16 = .ok (.getfield 12, 3)) rfl (by decide) wd467 inX2 rfl).to, ?_⟩
  refine List.forall_mem_cons.mpr ⟨(s_bipush (by decide +kernel : decode cX2_timesSign 19 = .ok (.bipush 47, 2)) (by decide)).to, ?_⟩
  refine List.forall_mem_cons.mpr ⟨z_cv (by decide +kernel : decode cX2_timesSign 21 = .ok (.invokevirtual 191, 3)) mt40 wd731 (ci := 3) rfl (by decide), ?_⟩
  refine List.forall_mem_cons.mpr ⟨(s_if_eq (by decide +kernel : decode cX2_timesSign 24 = .ok (.ifCond .eq 6, 3)) (by decide)).to, ?_⟩
  refine List.forall_mem_cons.mpr ⟨(s_bipush (by decide +kernel : decode cX2_timesSign 27 = .ok (.bipush (-9), 2)) (by decide)).to, ?_⟩
  refine List.forall_mem_cons.mpr ⟨s_iret (by decide +kernel : decode cX2_timesSign 29 = .ok (.ireturn, 1)) rfl, ?_⟩
  refine List.forall_mem_cons.mpr ⟨(s_aloadn (by decide +kernel : decode cX2_timesSign 30 = .ok (.aload_n 0, 1)) rfl).to, ?_⟩
  refine List.forall_mem_cons.mpr ⟨(s_get (ci := 2) (k := 0) (by decide +kernel : decode cX2_timesSign 31 = .ok (.getfield 12, 3)) rfl (by decide) wd467 inX2 rfl).to, ?_⟩
  refine List.forall_mem_cons.mpr ⟨(s_bipush (by decide +kernel : decode cX2_timesSign 34 = .ok (.bipush 37, 2)) (by decide)).to, ?_⟩
  refine List.forall_mem_cons.mpr ⟨z_cv (by decide +kernel : decode cX2_timesSign 36 = .ok (.invokevirtual 191, 3)) mt40 wd731 (ci := 3) rfl (by decide), ?_⟩
  refine List.forall_mem_cons.mpr ⟨(s_if_eq (by decide +kernel : decode cX2_timesSign 39 = .ok (.ifCond .eq 8, 3)) (by decide)).to, ?_⟩
  refine List.forall_mem_cons.mpr ⟨(s_bipush (by decide +kernel : decode cX2_timesSign 42 = .ok (.bipush (-10), 2)) (by decide)).to, ?_⟩
  refine List.forall_mem_cons.mpr ⟨(s_goto (by decide +kernel : decode cX2_timesSign 44 = .ok (.goto 4, 3)) (by decide)).to, ?_⟩
  refine List.forall_mem_cons.mpr ⟨(s_iconst (by decide +kernel : decode cX2_timesSign 47 = .ok (.iconst 0, 1)) (by decide)).to, ?_⟩
  refine List.forall_mem_cons.mpr ⟨s_iret (by decide +kernel : decode cX2_timesSign 48 = .ok (.ireturn, 1)) rfl, ?_⟩
  exact fun _ h => absurd h List.not_mem_nil
theorem sn_tX2_readPart_0 : ∀ q ∈ tX2_readPart_0, am_Snd am_P0 RX2 cX2_readPart 2 (Option.none : Option FieldType) "readPart" q.1 q.2 := by
  unfold tX2_readPart_0
  refine List.forall_mem_cons.mpr ⟨(s_aloadn (by decide +kernel : decode cX2_readPart 0 = .ok (.aload_n 0, 1)) rfl).to, ?_⟩
  refine List.forall_mem_cons.mpr ⟨(s_get (ci := 2) (k := 0) (by decide +kernel : decode cX2_readPart 1 = .ok (.getfield 12, 3)) rfl (by decide) wd467 inX2 rfl).to, ?_⟩
  refine List.forall_mem_cons.mpr ⟨(s_get (ci := 3) (k := 4) (by decide +kernel : decode cX2_readPart 4 = .ok (.getfield 212, 3)) rfl (by decide) wd434 inX3 rfl).to, ?_⟩
  refine List.forall_mem_cons.mpr ⟨(s_iconst (by decide +kernel : decode cX2_readPart 7 = .ok (.iconst 2, 1)) (by decide)).to, ?_⟩
  refine List.forall_mem_cons.mpr ⟨(s_icmp_ne (by decide +kernel : decode cX2_readPart 8 = .ok (.if_icmp .ne 15, 3)) (by decide)).to, ?_⟩
  refine List.forall_mem_cons.mpr ⟨(s_aloadn (by decide +kernel : decode cX2_readPart 11 = .ok (.aload_n 0, 1)) rfl).to, ?_⟩
  refine List.forall_mem_cons.mpr ⟨(s_aloadn (by decide +kernel : decode cX2_readPart 12 = .ok (.aload_n 0, 1)) rfl).to, ?_⟩
  refine List.forall_mem_cons.mpr ⟨(s_get (ci := 2) (k := 0) (by decide +kernel : decode cX2_readPart 13 = .ok (.getfield 12, 3)) rfl (by decide) wd467 inX2 rfl).to, ?_⟩
  refine List.forall_mem_cons.mpr ⟨(s_get (ci := 3) (k := 5) (by decide +kernel : decode cX2_readPart 16 = .ok (.getfield 125, 3)) rfl (by decide) wd436 inX3 rfl).to, ?_⟩
  refine List.forall_mem_cons.mpr ⟨z_cv (by decide +kernel : decode cX2_readPart 19 = .ok (.invokevirtual 215, 3)) mt30 wd723 (ci := 2) rfl (by decide), ?_⟩
  refine List.forall_mem_cons.mpr ⟨s_vret (by decide +kernel : decode cX2_readPart 22 = .ok (.return_, 1)) rfl, ?_⟩
  refine List.forall_mem_cons.mpr ⟨(s_aloadn (by decide +kernel : decode cX2_readPart 23 = .ok (.aload_n 0, 1)) rfl).to, ?_⟩
  refine List.forall_mem_cons.mpr ⟨(s_get (ci := 2) (k := 0) (by decide +kernel : decode cX2_readPart 24 = .ok (.getfield 12, 3)) rfl (by decide) wd467 inX2 rfl).to, ?_⟩
  refine List.forall_mem_cons.mpr ⟨(s_bipush (by decide +kernel : decode cX2_readPart 27 = .ok (.bipush 40, 2)) (by decide)).to, ?_⟩
  refine List.forall_mem_cons.mpr ⟨z_cv (by decide +kernel : decode cX2_readPart 29 = .ok (.invokevirtual 191, 3)) mt40 wd731 (ci := 3) rfl (by decide), ?_⟩
  refine List.forall_mem_cons.mpr ⟨(s_if_eq (by decide +kernel : decode cX2_readPart 32 = .ok (.ifCond .eq 30, 3)) (by decide)).to, ?_⟩
  refine List.forall_mem_cons.mpr ⟨(s_aloadn (by decide +kernel : decode cX2_readPart 35 = .ok (.aload_n 0, 1)) rfl).to, ?_⟩
  refine List.forall_mem_cons.mpr ⟨(s_bipush (by decide +kernel : decode cX2_readPart 36 = .ok (.bipush 40, 2)) (by decide)).to, ?_⟩
  refine List.forall_mem_cons.mpr ⟨(s_iloadn (by decide +kernel : decode cX2_readPart 38 = .ok (.iload_n 1, 1)) rfl).to, ?_⟩
  refine List.forall_mem_cons.mpr ⟨z_cv (by decide +kernel : decode cX2_readPart 39 = .ok (.invokevirtual 194, 3)) mt32 wd735 (ci := 2) rfl (by decide), ?_⟩
  refine List.forall_mem_cons.mpr ⟨(s_if_eq (by decide +kernel : decode cX2_readPart 42 = .ok (.ifCond .eq 19, 3)) (by decide)).to, ?_⟩
  refine List.forall_mem_cons.mpr ⟨(s_aloadn (by decide +kernel : decode cX2_readPart 45 = .ok (.aload_n 0, 1)) rfl).to, ?_⟩
  refine List.forall_mem_cons.mpr ⟨(s_iloadn (by decide +kernel : decode cX2_readPart 46 = .ok (.iload_n 1, 1)) rfl).to, ?_⟩
  refine List.forall_mem_cons.mpr ⟨(s_iconst (by decide +kernel : decode cX2_readPart 47 = .ok (.iconst 1, 1)) (by decide)).to, ?_⟩
  refine List.forall_mem_cons.mpr ⟨(s_iadd (by decide +kernel : decode cX2_readPart 48 = .ok (.iadd, 1))).to, ?_⟩
  refine List.forall_mem_cons.mpr ⟨z_cv (by decide +kernel : decode cX2_readPart 49 = .ok (.invokevirtual 103, 3)) mt26 wd711 (ci := 2) rfl (by decide), ?_⟩
  refine List.forall_mem_cons.mpr ⟨(s_aloadn (by decide +kernel : decode cX2_readPart 52 = .ok (.aload_n 0, 1)) rfl).to, ?_⟩
  refine List.forall_mem_cons.mpr ⟨(s_get (ci := 2) (k := 0) (by decide +kernel : decode cX2_readPart 53 = .ok (.getfield 12, 3)) rfl (by decide) wd467 inX2 rfl).to, ?_⟩
  refine List.forall_mem_cons.mpr ⟨(s_bipush (by decide +kernel : decode cX2_readPart 56 = .ok (.bipush 41, 2)) (by decide)).to, ?_⟩
  refine List.forall_mem_cons.mpr ⟨z_cv (by decide +kernel : decode cX2_readPart 58 = .ok (.invokevirtual 197, 3)) mt41 wd739 (ci := 3) rfl (by decide), ?_⟩
  refine List.forall_mem_cons.mpr ⟨s_vret (by decide +kernel : decode cX2_readPart 61 = .ok (.return_, 1)) rfl, ?_⟩
  refine List.forall_mem_cons.mpr ⟨(s_aloadn (by decide +kernel : decode cX2_readPart 62 = .ok (.aload_n 0, 1)) rfl).to, ?_⟩
  refine List.forall_mem_cons.mpr ⟨(s_get (ci := 2) (k := 0) (by decide +kernel : decode cX2_readPart 63 = .ok (.getfield 12, 3)) rfl (by decide) wd467 inX2 rfl).to, ?_⟩
  refine List.forall_mem_cons.mpr ⟨(s_get (ci := 3) (k := 6) (by decide +kernel : decode cX2_readPart 66 = .ok (.getfield 31, 3)) rfl (by decide) wd437 inX3 rfl).to, ?_⟩
  refine List.forall_mem_cons.mpr ⟨(s_look (by decide +kernel : decode cX2_readPart 69 = .ok (.lookupswitch 114 #[(1, 85), (16, 76), (23, 59), (24, 67), (25, 94), (26, 104)], 59)) (by decide) (by decide) (by decide)).to, ?_⟩
  refine List.forall_mem_cons.mpr ⟨(s_aloadn (by decide +kernel : decode cX2_readPart 128 = .ok (.aload_n 0, 1)) rfl).to, ?_⟩
  refine List.forall_mem_cons.mpr ⟨(s_iconst (by decide +kernel : decode cX2_readPart 129 = .ok (.iconst (-1), 1)) (by decide)).to, ?_⟩
  refine List.forall_mem_cons.mpr ⟨z_cv (by decide +kernel : decode cX2_readPart 130 = .ok (.invokevirtual 215, 3)) mt30 wd723 (ci := 2) rfl (by decide), ?_⟩
  refine List.forall_mem_cons.mpr ⟨(s_goto (by decide +kernel : decode cX2_readPart 133 = .ok (.goto 58, 3)) (by decide)).to, ?_⟩
  refine List.forall_mem_cons.mpr ⟨(s_aloadn (by decide +kernel : decode cX2_readPart 136 = .ok (.aload_n 0, 1)) rfl).to, ?_⟩
  refine List.forall_mem_cons.mpr ⟨(s_bipush (by decide +kernel : decode cX2_readPart 137 = .ok (.bipush (-2), 2)) (by decide)).to, ?_⟩
  refine List.forall_mem_cons.mpr ⟨z_cv (by decide +kernel : decode cX2_readPart 139 = .ok (.invokevirtual 215, 3)) mt30 wd723 (ci := 2) rfl (by decide), ?_⟩
  refine List.forall_mem_cons.mpr ⟨(s_goto (by decide +kernel : decode cX2_readPart 142 = .ok (.goto 49, 3)) (by decide)).to, ?_⟩
  refine List.forall_mem_cons.mpr ⟨(s_aloadn (by decide +kernel : decode cX2_readPart 145 = .ok (.aload_n 0, 1)) rfl).to, ?_⟩
  refine List.forall_mem_cons.mpr ⟨(s_bipush (by decide +kernel : decode cX2_readPart 146 = .ok (.bipush (-3), 2)) (by decide)).to, ?_⟩
  refine List.forall_mem_cons.mpr ⟨z_cv (by decide +kernel : decode cX2_readPart 148 = .ok (.invokevirtual 215, 3)) mt30 wd723 (ci := 2) rfl (by decide), ?_⟩
  refine List.forall_mem_cons.mpr ⟨(s_goto (by decide +kernel : decode cX2_readPart 151 = .ok (.goto 40, 3)) (by decide)).to, ?_⟩
  refine List.forall_mem_cons.mpr ⟨(s_aloadn (by decide +kernel : decode cX2_readPart 154 = .ok (.aload_n 0, 1)) rfl).to, ?_⟩
  refine List.forall_mem_cons.mpr ⟨(s_bipush (by decide +kernel : decode cX2_readPart 155 = .ok (.bipush (-4), 2)) (by decide)).to, ?_⟩
  refine List.forall_mem_cons.mpr ⟨z_cv (by decide +kernel : decode cX2_readPart 157 = .ok (.invokevirtual 215, 3)) mt30 wd723 (ci := 2) rfl (by decide), ?_⟩
  refine List.forall_mem_cons.mpr ⟨(s_goto (by decide +kernel : decode cX2_readPart 160 = .ok (.goto 31, 3)) (by decide)).to, ?_⟩
  refine List.forall_mem_cons.mpr ⟨(s_aloadn (by decide +kernel : decode cX2_readPart 163 = .ok (.aload_n 0, 1)) rfl).to, ?_⟩
  refine List.forall_mem_cons.mpr ⟨(s_bipush (by decide +kernel : decode cX2_readPart 164 = .ok (.bipush (-11), 2)) (by decide)).to, ?_⟩
  refine List.forall_mem_cons.mpr ⟨(s_iloadn (by decide +kernel : decode cX2_readPart 166 = .ok (.iload_n 1, 1)) rfl).to, ?_⟩
  refine List.forall_mem_cons.mpr ⟨z_cv (by decide +kernel : decode cX2_readPart 167 = .ok (.invokevirtual 218, 3)) mt31 wd744 (ci := 2) rfl (by decide), ?_⟩
  refine List.forall_mem_cons.mpr ⟨(s_goto (by decide +kernel : decode cX2_readPart 170 = .ok (.goto 21, 3)) (by decide)).to, ?_⟩
  refine List.forall_mem_cons.mpr ⟨(s_aloadn (by decide +kernel : decode cX2_readPart 173 = .ok (.aload_n 0, 1)) rfl).to, ?_⟩
  refine List.forall_mem_cons.mpr ⟨(s_bipush (by decide +kernel : decode cX2_readPart 174 = .ok (.bipush (-12), 2)) (by decide)).to, ?_⟩
  refine List.forall_mem_cons.mpr ⟨(s_iloadn (by decide +kernel : decode cX2_readPart 176 = .ok (.iload_n 1, 1)) rfl).to, ?_⟩
  refine List.forall_mem_cons.mpr ⟨z_cv (by decide +kernel : decode cX2_readPart 177 = .ok (.invokevirtual 218, 3)) mt31 wd744 (ci := 2) rfl (by decide), ?_⟩
  exact fun _ h => absurd h List.not_mem_nil
theorem sn_tX2_readPart_1 : ∀ q ∈ tX2_readPart_1, am_Snd am_P0 RX2 cX2_readPart 2 (Option.none : Option FieldType) "readPart" q.1 q.2 := by
  unfold tX2_readPart_1
  refine List.forall_mem_cons.mpr ⟨(s_goto (by decide +kernel : decode cX2_readPart 180 = .ok (.goto 11, 3)) (by decide)).to, ?_⟩
  refine List.forall_mem_cons.mpr ⟨(s_aloadn (by decide +kernel : decode cX2_readPart 183 = .ok (.aload_n 0, 1)) rfl).to, ?_⟩
  refine List.forall_mem_cons.mpr ⟨(s_get (ci := 2) (k := 0) (by decide +kernel : decode cX2_readPart 184 = .ok (.getfield 12, 3)) rfl (by decide) wd467 inX2 rfl).to, ?_⟩
  refine List.forall_mem_cons.mpr ⟨(s_iconst (by decide +kernel : decode cX2_readPart 187 = .ok (.iconst 1, 1)) (by decide)).to, ?_⟩
  refine List.forall_mem_cons.mpr ⟨z_cv (by decide +kernel : decode cX2_readPart 188 = .ok (.invokevirtual 35, 3)) mt39 wd681 (ci := 3) rfl (by decide), ?_⟩
  refine List.forall_mem_cons.mpr ⟨s_vret (by decide +kernel : decode cX2_readPart 191 = .ok (.return_, 1)) rfl, ?_⟩
  exact fun _ h => absurd h List.not_mem_nil
theorem sn_tX2_readPart : ∀ q ∈ tX2_readPart, am_Snd am_P0 RX2 cX2_readPart 2 (Option.none : Option FieldType) "readPart" q.1 q.2 := by
  unfold tX2_readPart
  exact List.forall_mem_append.mpr ⟨sn_tX2_readPart_0, sn_tX2_readPart_1⟩
theorem sn_tX2_readLeaf : ∀ q ∈ tX2_readLeaf, am_Snd am_P0 RX2 cX2_readLeaf 2 (Option.none : Option FieldType) "readLeaf" q.1 q.2 := by
  unfold tX2_readLeaf
  refine List.forall_mem_cons.mpr ⟨(s_aloadn (by decide +kernel : decode cX2_readLeaf 0 = .ok (.aload_n 0, 1)) rfl).to, ?_⟩
  refine List.forall_mem_cons.mpr ⟨(s_get (ci := 2) (k := 1) (by decide +kernel : decode cX2_readLeaf 1 = .ok (.getfield 18, 3)) rfl (by decide) wd469 inX2 rfl).to, ?_⟩
  refine List.forall_mem_cons.mpr ⟨(s_get (ci := 5) (k := 6) (by decide +kernel : decode cX2_readLeaf 4 = .ok (.getfield 94, 3)) rfl (by decide) wd324 inX5 rfl).to, ?_⟩
  refine List.forall_mem_cons.mpr ⟨(s_iloadn (by decide +kernel : decode cX2_readLeaf 7 = .ok (.iload_n 1, 1)) rfl).to, ?_⟩
  refine List.forall_mem_cons.mpr ⟨z_cv (by decide +kernel : decode cX2_readLeaf 8 = .ok (.invokevirtual 185, 3)) mt1 wd727 (ci := 0) rfl (by decide), ?_⟩
  refine List.forall_mem_cons.mpr ⟨(s_aloadn (by decide +kernel : decode cX2_readLeaf 11 = .ok (.aload_n 0, 1)) rfl).to, ?_⟩
  refine List.forall_mem_cons.mpr ⟨(s_get (ci := 2) (k := 0) (by decide +kernel : decode cX2_readLeaf 12 = .ok (.getfield 12, 3)) rfl (by decide) wd467 inX2 rfl).to, ?_⟩
  refine List.forall_mem_cons.mpr ⟨z_cv (by decide +kernel : decode cX2_readLeaf 15 = .ok (.invokevirtual 68, 3)) mt35 wd689 (ci := 3) rfl (by decide), ?_⟩
  refine List.forall_mem_cons.mpr ⟨s_vret (by decide +kernel : decode cX2_readLeaf 18 = .ok (.return_, 1)) rfl, ?_⟩
  exact fun _ h => absurd h List.not_mem_nil
theorem sn_tX2_readChoice : ∀ q ∈ tX2_readChoice, am_Snd am_P0 RX2 cX2_readChoice 3 (Option.none : Option FieldType) "readChoice" q.1 q.2 := by
  unfold tX2_readChoice
  refine List.forall_mem_cons.mpr ⟨(s_aloadn (by decide +kernel : decode cX2_readChoice 0 = .ok (.aload_n 0, 1)) rfl).to, ?_⟩
  refine List.forall_mem_cons.mpr ⟨(s_get (ci := 2) (k := 0) (by decide +kernel : decode cX2_readChoice 1 = .ok (.getfield 12, 3)) rfl (by decide) wd467 inX2 rfl).to, ?_⟩
  refine List.forall_mem_cons.mpr ⟨z_cv (by decide +kernel : decode cX2_readChoice 4 = .ok (.invokevirtual 68, 3)) mt35 wd689 (ci := 3) rfl (by decide), ?_⟩
  refine List.forall_mem_cons.mpr ⟨(s_aloadn (by decide +kernel : decode cX2_readChoice 7 = .ok (.aload_n 0, 1)) rfl).to, ?_⟩
  refine List.forall_mem_cons.mpr ⟨(s_bipush (by decide +kernel : decode cX2_readChoice 8 = .ok (.bipush 40, 2)) (by decide)).to, ?_⟩
  refine List.forall_mem_cons.mpr ⟨(s_iloadn (by decide +kernel : decode cX2_readChoice 10 = .ok (.iload_n 2, 1)) rfl).to, ?_⟩
  refine List.forall_mem_cons.mpr ⟨z_cv (by decide +kernel : decode cX2_readChoice 11 = .ok (.invokevirtual 194, 3)) mt32 wd735 (ci := 2) rfl (by decide), ?_⟩
  refine List.forall_mem_cons.mpr ⟨(s_if_ne (by decide +kernel : decode cX2_readChoice 14 = .ok (.ifCond .ne 4, 3)) (by decide)).to, ?_⟩
  refine List.forall_mem_cons.mpr ⟨s_vret (by decide +kernel : decode cX2_readChoice 17 = .ok (.return_, 1)) rfl, ?_⟩
  refine List.forall_mem_cons.mpr ⟨(s_aloadn (by decide +kernel : decode cX2_readChoice 18 = .ok (.aload_n 0, 1)) rfl).to, ?_⟩
  refine List.forall_mem_cons.mpr ⟨(s_iloadn (by decide +kernel : decode cX2_readChoice 19 = .ok (.iload_n 2, 1)) rfl).to, ?_⟩
  refine List.forall_mem_cons.mpr ⟨(s_iconst (by decide +kernel : decode cX2_readChoice 20 = .ok (.iconst 1, 1)) (by decide)).to, ?_⟩
  refine List.forall_mem_cons.mpr ⟨(s_iadd (by decide +kernel : decode cX2_readChoice 21 = .ok (.iadd, 1))).to, ?_⟩
  refine List.forall_mem_cons.mpr ⟨z_cv (by decide +kernel : decode cX2_readChoice 22 = .ok (.invokevirtual 103, 3)) mt26 wd711 (ci := 2) rfl (by decide), ?_⟩
  refine List.forall_mem_cons.mpr ⟨(s_aloadn (by decide +kernel : decode cX2_readChoice 25 = .ok (.aload_n 0, 1)) rfl).to, ?_⟩
  refine List.forall_mem_cons.mpr ⟨(s_get (ci := 2) (k := 0) (by decide +kernel : decode cX2_readChoice 26 = .ok (.getfield 12, 3)) rfl (by decide) wd467 inX2 rfl).to, ?_⟩
  refine List.forall_mem_cons.mpr ⟨(s_bipush (by decide +kernel : decode cX2_readChoice 29 = .ok (.bipush 44, 2)) (by decide)).to, ?_⟩
  refine List.forall_mem_cons.mpr ⟨z_cv (by decide +kernel : decode cX2_readChoice 31 = .ok (.invokevirtual 197, 3)) mt41 wd739 (ci := 3) rfl (by decide), ?_⟩
  refine List.forall_mem_cons.mpr ⟨(s_aloadn (by decide +kernel : decode cX2_readChoice 34 = .ok (.aload_n 0, 1)) rfl).to, ?_⟩
  refine List.forall_mem_cons.mpr ⟨(s_iloadn (by decide +kernel : decode cX2_readChoice 35 = .ok (.iload_n 2, 1)) rfl).to, ?_⟩
  refine List.forall_mem_cons.mpr ⟨(s_iconst (by decide +kernel : decode cX2_readChoice 36 = .ok (.iconst 1, 1)) (by decide)).to, ?_⟩
  refine List.forall_mem_cons.mpr ⟨(s_iadd (by decide +kernel : decode cX2_readChoice 37 = .ok (.iadd, 1))).to, ?_⟩
  refine List.forall_mem_cons.mpr ⟨z_cv (by decide +kernel : decode cX2_readChoice 38 = .ok (.invokevirtual 103, 3)) mt26 wd711 (ci := 2) rfl (by decide), ?_⟩
  refine List.forall_mem_cons.mpr ⟨(s_aloadn (by decide +kernel : decode cX2_readChoice 41 = .ok (.aload_n 0, 1)) rfl).to, ?_⟩
  refine List.forall_mem_cons.mpr ⟨(s_get (ci := 2) (k := 0) (by decide +kernel : decode cX2_readChoice 42 = .ok (.getfield 12, 3)) rfl (by decide) wd467 inX2 rfl).to, ?_⟩
  refine List.forall_mem_cons.mpr ⟨(s_bipush (by decide +kernel : decode cX2_readChoice 45 = .ok (.bipush 41, 2)) (by decide)).to, ?_⟩
  refine List.forall_mem_cons.mpr ⟨z_cv (by decide +kernel : decode cX2_readChoice 47 = .ok (.invokevirtual 197, 3)) mt41 wd739 (ci := 3) rfl (by decide), ?_⟩
  refine List.forall_mem_cons.mpr ⟨(s_aloadn (by decide +kernel : decode cX2_readChoice 50 = .ok (.aload_n 0, 1)) rfl).to, ?_⟩
  refine List.forall_mem_cons.mpr ⟨(s_get (ci := 2) (k := 1) (by decide +kernel : decode cX2_readChoice 51 = .ok (.getfield 18, 3)) rfl (by decide) wd469 inX2 rfl).to, ?_⟩
  refine List.forall_mem_cons.mpr ⟨(s_get (ci := 5) (k := 6) (by decide +kernel : decode cX2_readChoice 54 = .ok (.getfield 94, 3)) rfl (by decide) wd324 inX5 rfl).to, ?_⟩
  refine List.forall_mem_cons.mpr ⟨(s_iloadn (by decide +kernel : decode cX2_readChoice 57 = .ok (.iload_n 1, 1)) rfl).to, ?_⟩
  refine List.forall_mem_cons.mpr ⟨z_cv (by decide +kernel : decode cX2_readChoice 58 = .ok (.invokevirtual 185, 3)) mt1 wd727 (ci := 0) rfl (by decide), ?_⟩
  refine List.forall_mem_cons.mpr ⟨s_vret (by decide +kernel : decode cX2_readChoice 61 = .ok (.return_, 1)) rfl, ?_⟩
  exact fun _ h => absurd h List.not_mem_nil
theorem sn_tX2_takeOpening : ∀ q ∈ tX2_takeOpening, am_Snd am_P0 RX2 cX2_takeOpening 3 (Option.some FieldType.boolean) "takeOpening" q.1 q.2 := by
  unfold tX2_takeOpening
  refine List.forall_mem_cons.mpr ⟨(s_aloadn (by decide +kernel : decode cX2_takeOpening 0 = .ok (.aload_n 0, 1)) rfl).to, ?_⟩
  refine List.forall_mem_cons.mpr ⟨(s_get (ci := 2) (k := 0) (by decide +kernel : decode cX2_takeOpening 1 = .ok (.getfield 12, 3)) rfl (by decide) wd467 inX2 rfl).to, ?_⟩
  refine List.forall_mem_cons.mpr ⟨(s_iloadn (by decide +kernel : decode cX2_takeOpening 4 = .ok (.iload_n 1, 1)) rfl).to, ?_⟩
  refine List.forall_mem_cons.mpr ⟨z_cv (by decide +kernel : decode cX2_takeOpening 5 = .ok (.invokevirtual 191, 3)) mt40 wd731 (ci := 3) rfl (by decide), ?_⟩
  refine List.forall_mem_cons.mpr ⟨(s_if_ne (by decide +kernel : decode cX2_takeOpening 8 = .ok (.ifCond .ne 13, 3)) (by decide)).to, ?_⟩
  refine List.forall_mem_cons.mpr ⟨(s_aloadn (by decide +kernel : decode cX2_takeOpening 11 = .ok (.aload_n 0, 1)) rfl).to, ?_⟩
  refine List.forall_mem_cons.mpr ⟨(s_get (ci := 2) (k := 0) (by decide +kernel : decode cX2_takeOpening 12 = .ok (.getfield 12, 3)) rfl (by decide) wd467 inX2 rfl).to, ?_⟩
  refine List.forall_mem_cons.mpr ⟨(s_iconst (by decide +kernel : decode cX2_takeOpening 15 = .ok (.iconst 1, 1)) (by decide)).to, ?_⟩
  refine List.forall_mem_cons.mpr ⟨z_cv (by decide +kernel : decode cX2_takeOpening 16 = .ok (.invokevirtual 35, 3)) mt39 wd681 (ci := 3) rfl (by decide), ?_⟩
  refine List.forall_mem_cons.mpr ⟨(s_iconst (by decide +kernel : decode cX2_takeOpening 19 = .ok (.iconst 0, 1)) (by decide)).to, ?_⟩
  refine List.forall_mem_cons.mpr ⟨s_zret (by decide +kernel : decode cX2_takeOpening 20 = .ok (.ireturn, 1)) rfl, ?_⟩
  refine List.forall_mem_cons.mpr ⟨(s_iloadn (by decide +kernel : decode cX2_takeOpening 21 = .ok (.iload_n 2, 1)) rfl).to, ?_⟩
  refine List.forall_mem_cons.mpr ⟨(s_bipush (by decide +kernel : decode cX2_takeOpening 22 = .ok (.bipush 8, 2)) (by decide)).to, ?_⟩
  refine List.forall_mem_cons.mpr ⟨(s_icmp_lt (by decide +kernel : decode cX2_takeOpening 24 = .ok (.if_icmp .lt 13, 3)) (by decide)).to, ?_⟩
  refine List.forall_mem_cons.mpr ⟨(s_aloadn (by decide +kernel : decode cX2_takeOpening 27 = .ok (.aload_n 0, 1)) rfl).to, ?_⟩
  refine List.forall_mem_cons.mpr ⟨(s_get (ci := 2) (k := 0) (by decide +kernel : decode cX2_takeOpening 28 = .ok (.getfield 12, 3)) rfl (by decide) wd467 inX2 rfl).to, ?_⟩
  refine List.forall_mem_cons.mpr ⟨(s_iconst (by decide +kernel : decode cX2_takeOpening 31 = .ok (.iconst 5, 1)) (by decide)).to, ?_⟩
  refine List.forall_mem_cons.mpr ⟨z_cv (by decide +kernel : decode cX2_takeOpening 32 = .ok (.invokevirtual 35, 3)) mt39 wd681 (ci := 3) rfl (by decide), ?_⟩
  refine List.forall_mem_cons.mpr ⟨(s_iconst (by decide +kernel : decode cX2_takeOpening 35 = .ok (.iconst 0, 1)) (by decide)).to, ?_⟩
  refine List.forall_mem_cons.mpr ⟨s_zret (by decide +kernel : decode cX2_takeOpening 36 = .ok (.ireturn, 1)) rfl, ?_⟩
  refine List.forall_mem_cons.mpr ⟨(s_aloadn (by decide +kernel : decode cX2_takeOpening 37 = .ok (.aload_n 0, 1)) rfl).to, ?_⟩
  refine List.forall_mem_cons.mpr ⟨(s_get (ci := 2) (k := 0) (by decide +kernel : decode cX2_takeOpening 38 = .ok (.getfield 12, 3)) rfl (by decide) wd467 inX2 rfl).to, ?_⟩
  refine List.forall_mem_cons.mpr ⟨z_cv (by decide +kernel : decode cX2_takeOpening 41 = .ok (.invokevirtual 68, 3)) mt35 wd689 (ci := 3) rfl (by decide), ?_⟩
  refine List.forall_mem_cons.mpr ⟨(s_iconst (by decide +kernel : decode cX2_takeOpening 44 = .ok (.iconst 1, 1)) (by decide)).to, ?_⟩
  refine List.forall_mem_cons.mpr ⟨s_zret (by decide +kernel : decode cX2_takeOpening 45 = .ok (.ireturn, 1)) rfl, ?_⟩
  exact fun _ h => absurd h List.not_mem_nil
theorem sn_tX3_init : ∀ q ∈ tX3_init, am_Snd am_P0 RX3 cX3_init 4 (Option.none : Option FieldType) "<init>" q.1 q.2 := by
  unfold tX3_init
  refine List.forall_mem_cons.mpr ⟨(s_aloadn (by decide +kernel : decode cX3_init 0 = .ok (.aload_n 0, 1)) rfl).to, ?_⟩
  refine List.forall_mem_cons.mpr ⟨(s_obj (by decide +kernel : decode cX3_init 1 = .ok (.invokespecial 3, 3)) wd378 wd160 wd161).to, ?_⟩
  refine List.forall_mem_cons.mpr ⟨(s_aloadn (by decide +kernel : decode cX3_init 4 = .ok (.aload_n 0, 1)) rfl).to, ?_⟩
  refine List.forall_mem_cons.mpr ⟨(s_bipush (by decide +kernel : decode cX3_init 5 = .ok (.bipush 27, 2)) (by decide)).to, ?_⟩
  refine List.forall_mem_cons.mpr ⟨(s_newa (kd := 0) (ty := .int) (by decide +kernel : decode cX3_init 7 = .ok (.newarray .int, 2)) rfl rfl wd195 (by decide) (by decide) (fun _ _ h => h)).to, ?_⟩
  refine List.forall_mem_cons.mpr ⟨(s_putF (ci := 3) (k := 0) (by decide +kernel : decode cX3_init 9 = .ok (.putfield 11, 3)) rfl (by decide) wd428 inX3 tyX3_ok nmX3 rfl rfl rfl rfl).to, ?_⟩
  refine List.forall_mem_cons.mpr ⟨(s_aloadn (by decide +kernel : decode cX3_init 12 = .ok (.aload_n 0, 1)) rfl).to, ?_⟩
  refine List.forall_mem_cons.mpr ⟨(s_iconst (by decide +kernel : decode cX3_init 13 = .ok (.iconst 0, 1)) (by decide)).to, ?_⟩
  refine List.forall_mem_cons.mpr ⟨(s_newa (kd := 0) (ty := .int) (by decide +kernel : decode cX3_init 14 = .ok (.newarray .int, 2)) rfl rfl wd195 (by decide) (by decide) (fun _ _ h => h)).to, ?_⟩
  refine List.forall_mem_cons.mpr ⟨(s_put (ci := 3) (k := 1) (by decide +kernel : decode cX3_init 16 = .ok (.putfield 15, 3)) rfl (by decide) wd429 inX3 tyX3_ok nmX3 rfl rfl).to, ?_⟩
  refine List.forall_mem_cons.mpr ⟨(s_iconst (by decide +kernel : decode cX3_init 19 = .ok (.iconst 0, 1)) (by decide)).to, ?_⟩
  refine List.forall_mem_cons.mpr ⟨(s_istoren (by decide +kernel : decode cX3_init 20 = .ok (.istore_n 1, 1)) rfl (by decide)).to, ?_⟩
  refine List.forall_mem_cons.mpr ⟨(s_iconst (by decide +kernel : decode cX3_init 21 = .ok (.iconst 0, 1)) (by decide)).to, ?_⟩
  refine List.forall_mem_cons.mpr ⟨(s_istoren (by decide +kernel : decode cX3_init 22 = .ok (.istore_n 2, 1)) rfl (by decide)).to, ?_⟩
  refine List.forall_mem_cons.mpr ⟨(s_iconst (by decide +kernel : decode cX3_init 23 = .ok (.iconst 0, 1)) (by decide)).to, ?_⟩
  refine List.forall_mem_cons.mpr ⟨(s_istoren (by decide +kernel : decode cX3_init 24 = .ok (.istore_n 3, 1)) rfl (by decide)).to, ?_⟩
  refine List.forall_mem_cons.mpr ⟨(s_iloadn (by decide +kernel : decode cX3_init 25 = .ok (.iload_n 3, 1)) rfl).to, ?_⟩
  refine List.forall_mem_cons.mpr ⟨(s_ldS (by decide +kernel : decode cX3_init 26 = .ok (.ldc 18, 2)) rfl).to, ?_⟩
  refine List.forall_mem_cons.mpr ⟨z_cvS (by decide +kernel : decode cX3_init 28 = .ok (.invokevirtual 20, 3)) mt311 wd380 (by decide), ?_⟩
  refine List.forall_mem_cons.mpr ⟨(s_icmp_ge (by decide +kernel : decode cX3_init 31 = .ok (.if_icmp .ge 59, 3)) (by decide)).to, ?_⟩
  refine List.forall_mem_cons.mpr ⟨(s_iloadn (by decide +kernel : decode cX3_init 34 = .ok (.iload_n 1, 1)) rfl).to, ?_⟩
  refine List.forall_mem_cons.mpr ⟨(s_bipush (by decide +kernel : decode cX3_init 35 = .ok (.bipush 27, 2)) (by decide)).to, ?_⟩
  refine List.forall_mem_cons.mpr ⟨(s_icmp_ge (by decide +kernel : decode cX3_init 37 = .ok (.if_icmp .ge 53, 3)) (by decide)).to, ?_⟩
  refine List.forall_mem_cons.mpr ⟨(s_ldS (by decide +kernel : decode cX3_init 40 = .ok (.ldc 18, 2)) rfl).to, ?_⟩
  refine List.forall_mem_cons.mpr ⟨(s_iloadn (by decide +kernel : decode cX3_init 42 = .ok (.iload_n 3, 1)) rfl).to, ?_⟩
  refine List.forall_mem_cons.mpr ⟨z_cvS (by decide +kernel : decode cX3_init 43 = .ok (.invokevirtual 26, 3)) mt312 wd390 (by decide), ?_⟩
  refine List.forall_mem_cons.mpr ⟨(s_bipush (by decide +kernel : decode cX3_init 46 = .ok (.bipush 32, 2)) (by decide)).to, ?_⟩
  refine List.forall_mem_cons.mpr ⟨(s_icmp_ne (by decide +kernel : decode cX3_init 48 = .ok (.if_icmp .ne 11, 3)) (by decide)).to, ?_⟩
  refine List.forall_mem_cons.mpr ⟨(s_iinc (by decide +kernel : decode cX3_init 51 = .ok (.iinc 1 1, 3)) (by decide) (by decide)).to, ?_⟩
  refine List.forall_mem_cons.mpr ⟨(s_iconst (by decide +kernel : decode cX3_init 54 = .ok (.iconst 0, 1)) (by decide)).to, ?_⟩
  refine List.forall_mem_cons.mpr ⟨(s_istoren (by decide +kernel : decode cX3_init 55 = .ok (.istore_n 2, 1)) rfl (by decide)).to, ?_⟩
  refine List.forall_mem_cons.mpr ⟨(s_goto (by decide +kernel : decode cX3_init 56 = .ok (.goto 28, 3)) (by decide)).to, ?_⟩
  refine List.forall_mem_cons.mpr ⟨(s_aloadn (by decide +kernel : decode cX3_init 59 = .ok (.aload_n 0, 1)) rfl).to, ?_⟩
  refine List.forall_mem_cons.mpr ⟨(s_get (ci := 3) (k := 0) (by decide +kernel : decode cX3_init 60 = .ok (.getfield 11, 3)) rfl (by decide) wd428 inX3 rfl).to, ?_⟩
  refine List.forall_mem_cons.mpr ⟨(s_iloadn (by decide +kernel : decode cX3_init 63 = .ok (.iload_n 1, 1)) rfl).to, ?_⟩
  refine List.forall_mem_cons.mpr ⟨(s_dup2 (by decide +kernel : decode cX3_init 64 = .ok (.dup2, 1))).to, ?_⟩
  refine List.forall_mem_cons.mpr ⟨(s_iald (by decide +kernel : decode cX3_init 65 = .ok (.iaload, 1))).to, ?_⟩
  refine List.forall_mem_cons.mpr ⟨(s_ldS (by decide +kernel : decode cX3_init 66 = .ok (.ldc 18, 2)) rfl).to, ?_⟩
  refine List.forall_mem_cons.mpr ⟨(s_iloadn (by decide +kernel : decode cX3_init 68 = .ok (.iload_n 3, 1)) rfl).to, ?_⟩
  refine List.forall_mem_cons.mpr ⟨z_cvS (by decide +kernel : decode cX3_init 69 = .ok (.invokevirtual 26, 3)) mt312 wd390 (by decide), ?_⟩
  refine List.forall_mem_cons.mpr ⟨(s_bipush (by decide +kernel : decode cX3_init 72 = .ok (.bipush 96, 2)) (by decide)).to, ?_⟩
  refine List.forall_mem_cons.mpr ⟨(s_isub (by decide +kernel : decode cX3_init 74 = .ok (.isub, 1))).to, ?_⟩
  refine List.forall_mem_cons.mpr ⟨(s_iconst (by decide +kernel : decode cX3_init 75 = .ok (.iconst 5, 1)) (by decide)).to, ?_⟩
  refine List.forall_mem_cons.mpr ⟨(s_iloadn (by decide +kernel : decode cX3_init 76 = .ok (.iload_n 2, 1)) rfl).to, ?_⟩
  refine List.forall_mem_cons.mpr ⟨(s_imul (by decide +kernel : decode cX3_init 77 = .ok (.imul, 1))).to, ?_⟩
  refine List.forall_mem_cons.mpr ⟨(s_ishl (by decide +kernel : decode cX3_init 78 = .ok (.ishl, 1))).to, ?_⟩
  refine List.forall_mem_cons.mpr ⟨(s_ior (by decide +kernel : decode cX3_init 79 = .ok (.ior, 1))).to, ?_⟩
  refine List.forall_mem_cons.mpr ⟨(s_iast (by decide +kernel : decode cX3_init 80 = .ok (.iastore, 1))).to, ?_⟩
  refine List.forall_mem_cons.mpr ⟨(s_iinc (by decide +kernel : decode cX3_init 81 = .ok (.iinc 2 1, 3)) (by decide) (by decide)).to, ?_⟩
  refine List.forall_mem_cons.mpr ⟨(s_iinc (by decide +kernel : decode cX3_init 84 = .ok (.iinc 3 1, 3)) (by decide) (by decide)).to, ?_⟩
  refine List.forall_mem_cons.mpr ⟨(s_goto (by decide +kernel : decode cX3_init 87 = .ok (.goto (-62), 3)) (by decide)).to, ?_⟩
  refine List.forall_mem_cons.mpr ⟨s_vret (by decide +kernel : decode cX3_init 90 = .ok (.return_, 1)) rfl, ?_⟩
  exact fun _ h => absurd h List.not_mem_nil
theorem sn_tX3_open : ∀ q ∈ tX3_open, am_Snd am_P0 RX3 cX3_open 3 (Option.none : Option FieldType) "open" q.1 q.2 := by
  unfold tX3_open
  refine List.forall_mem_cons.mpr ⟨(s_aloadn (by decide +kernel : decode cX3_open 0 = .ok (.aload_n 0, 1)) rfl).to, ?_⟩
  refine List.forall_mem_cons.mpr ⟨(s_aloadn (by decide +kernel : decode cX3_open 1 = .ok (.aload_n 1, 1)) rfl).to, ?_⟩
  refine List.forall_mem_cons.mpr ⟨(s_put (ci := 3) (k := 1) (by decide +kernel : decode cX3_open 2 = .ok (.putfield 15, 3)) rfl (by decide) wd429 inX3 tyX3_ok nmX3 rfl rfl).to, ?_⟩
  refine List.forall_mem_cons.mpr ⟨(s_aloadn (by decide +kernel : decode cX3_open 5 = .ok (.aload_n 0, 1)) rfl).to, ?_⟩
  refine List.forall_mem_cons.mpr ⟨(s_iloadn (by decide +kernel : decode cX3_open 6 = .ok (.iload_n 2, 1)) rfl).to, ?_⟩
  refine List.forall_mem_cons.mpr ⟨(s_aloadn (by decide +kernel : decode cX3_open 7 = .ok (.aload_n 1, 1)) rfl).to, ?_⟩
  refine List.forall_mem_cons.mpr ⟨(s_len (by decide +kernel : decode cX3_open 8 = .ok (.arraylength, 1))).to, ?_⟩
  refine List.forall_mem_cons.mpr ⟨z_cs (by decide +kernel : decode cX3_open 9 = .ok (.invokestatic 30, 3)) mt309 wd659, ?_⟩
  refine List.forall_mem_cons.mpr ⟨(s_put (ci := 3) (k := 2) (by decide +kernel : decode cX3_open 12 = .ok (.putfield 36, 3)) rfl (by decide) wd430 inX3 tyX3_ok nmX3 rfl rfl).to, ?_⟩
  refine List.forall_mem_cons.mpr ⟨(s_aloadn (by decide +kernel : decode cX3_open 15 = .ok (.aload_n 0, 1)) rfl).to, ?_⟩
  refine List.forall_mem_cons.mpr ⟨(s_iconst (by decide +kernel : decode cX3_open 16 = .ok (.iconst 0, 1)) (by decide)).to, ?_⟩
  refine List.forall_mem_cons.mpr ⟨(s_put (ci := 3) (k := 3) (by decide +kernel : decode cX3_open 17 = .ok (.putfield 39, 3)) rfl (by decide) wd431 inX3 tyX3_ok nmX3 rfl rfl).to, ?_⟩
  refine List.forall_mem_cons.mpr ⟨(s_aloadn (by decide +kernel : decode cX3_open 20 = .ok (.aload_n 0, 1)) rfl).to, ?_⟩
  refine List.forall_mem_cons.mpr ⟨(s_iconst (by decide +kernel : decode cX3_open 21 = .ok (.iconst 0, 1)) (by decide)).to, ?_⟩
  refine List.forall_mem_cons.mpr ⟨(s_put (ci := 3) (k := 8) (by decide +kernel : decode cX3_open 22 = .ok (.putfield 42, 3)) rfl (by decide) wd440 inX3 tyX3_ok nmX3 rfl rfl).to, ?_⟩
  refine List.forall_mem_cons.mpr ⟨(s_aloadn (by decide +kernel : decode cX3_open 25 = .ok (.aload_n 0, 1)) rfl).to, ?_⟩
  refine List.forall_mem_cons.mpr ⟨(s_iconst (by decide +kernel : decode cX3_open 26 = .ok (.iconst (-1), 1)) (by decide)).to, ?_⟩
  refine List.forall_mem_cons.mpr ⟨(s_put (ci := 3) (k := 9) (by decide +kernel : decode cX3_open 27 = .ok (.putfield 45, 3)) rfl (by decide) wd443 inX3 tyX3_ok nmX3 rfl rfl).to, ?_⟩
  refine List.forall_mem_cons.mpr ⟨(s_aloadn (by decide +kernel : decode cX3_open 30 = .ok (.aload_n 0, 1)) rfl).to, ?_⟩
  refine List.forall_mem_cons.mpr ⟨(s_iconst (by decide +kernel : decode cX3_open 31 = .ok (.iconst 0, 1)) (by decide)).to, ?_⟩
  refine List.forall_mem_cons.mpr ⟨(s_put (ci := 3) (k := 4) (by decide +kernel : decode cX3_open 32 = .ok (.putfield 48, 3)) rfl (by decide) wd432 inX3 tyX3_ok nmX3 rfl rfl).to, ?_⟩
  refine List.forall_mem_cons.mpr ⟨(s_aloadn (by decide +kernel : decode cX3_open 35 = .ok (.aload_n 0, 1)) rfl).to, ?_⟩
  refine List.forall_mem_cons.mpr ⟨z_cv (by decide +kernel : decode cX3_open 36 = .ok (.invokevirtual 51, 3)) mt35 wd662 (ci := 3) rfl (by decide), ?_⟩
  refine List.forall_mem_cons.mpr ⟨s_vret (by decide +kernel : decode cX3_open 39 = .ok (.return_, 1)) rfl, ?_⟩
  exact fun _ h => absurd h List.not_mem_nil
theorem sn_tX3_step_0 : ∀ q ∈ tX3_step_0, am_Snd am_P0 RX3 cX3_step 3 (Option.none : Option FieldType) "step" q.1 q.2 := by
  unfold tX3_step_0
  refine List.forall_mem_cons.mpr ⟨(s_aloadn (by decide +kernel : decode cX3_step 0 = .ok (.aload_n 0, 1)) rfl).to, ?_⟩
  refine List.forall_mem_cons.mpr ⟨(s_get (ci := 3) (k := 8) (by decide +kernel : decode cX3_step 1 = .ok (.getfield 42, 3)) rfl (by decide) wd440 inX3 rfl).to, ?_⟩
  refine List.forall_mem_cons.mpr ⟨(s_if_eq (by decide +kernel : decode cX3_step 4 = .ok (.ifCond .eq 4, 3)) (by decide)).to, ?_⟩
  refine List.forall_mem_cons.mpr ⟨s_vret (by decide +kernel : decode cX3_step 7 = .ok (.return_, 1)) rfl, ?_⟩
  refine List.forall_mem_cons.mpr ⟨(s_aloadn (by decide +kernel : decode cX3_step 8 = .ok (.aload_n 0, 1)) rfl).to, ?_⟩
  refine List.forall_mem_cons.mpr ⟨(s_get (ci := 3) (k := 4) (by decide +kernel : decode cX3_step 9 = .ok (.getfield 48, 3)) rfl (by decide) wd432 inX3 rfl).to, ?_⟩
  refine List.forall_mem_cons.mpr ⟨(s_iconst (by decide +kernel : decode cX3_step 12 = .ok (.iconst 1, 1)) (by decide)).to, ?_⟩
  refine List.forall_mem_cons.mpr ⟨(s_icmp_eq (by decide +kernel : decode cX3_step 13 = .ok (.if_icmp .eq 11, 3)) (by decide)).to, ?_⟩
  refine List.forall_mem_cons.mpr ⟨(s_aloadn (by decide +kernel : decode cX3_step 16 = .ok (.aload_n 0, 1)) rfl).to, ?_⟩
  refine List.forall_mem_cons.mpr ⟨(s_get (ci := 3) (k := 4) (by decide +kernel : decode cX3_step 17 = .ok (.getfield 48, 3)) rfl (by decide) wd432 inX3 rfl).to, ?_⟩
  refine List.forall_mem_cons.mpr ⟨(s_iconst (by decide +kernel : decode cX3_step 20 = .ok (.iconst 2, 1)) (by decide)).to, ?_⟩
  refine List.forall_mem_cons.mpr ⟨(s_icmp_ne (by decide +kernel : decode cX3_step 21 = .ok (.if_icmp .ne 10, 3)) (by decide)).to, ?_⟩
  refine List.forall_mem_cons.mpr ⟨(s_aloadn (by decide +kernel : decode cX3_step 24 = .ok (.aload_n 0, 1)) rfl).to, ?_⟩
  refine List.forall_mem_cons.mpr ⟨(s_get (ci := 3) (k := 3) (by decide +kernel : decode cX3_step 25 = .ok (.getfield 39, 3)) rfl (by decide) wd431 inX3 rfl).to, ?_⟩
  refine List.forall_mem_cons.mpr ⟨(s_goto (by decide +kernel : decode cX3_step 28 = .ok (.goto 4, 3)) (by decide)).to, ?_⟩
  refine List.forall_mem_cons.mpr ⟨(s_iconst (by decide +kernel : decode cX3_step 31 = .ok (.iconst (-1), 1)) (by decide)).to, ?_⟩
  refine List.forall_mem_cons.mpr ⟨(s_istoren (by decide +kernel : decode cX3_step 32 = .ok (.istore_n 1, 1)) rfl (by decide)).to, ?_⟩
  refine List.forall_mem_cons.mpr ⟨(s_aloadn (by decide +kernel : decode cX3_step 33 = .ok (.aload_n 0, 1)) rfl).to, ?_⟩
  refine List.forall_mem_cons.mpr ⟨(s_get (ci := 3) (k := 3) (by decide +kernel : decode cX3_step 34 = .ok (.getfield 39, 3)) rfl (by decide) wd431 inX3 rfl).to, ?_⟩
  refine List.forall_mem_cons.mpr ⟨(s_aloadn (by decide +kernel : decode cX3_step 37 = .ok (.aload_n 0, 1)) rfl).to, ?_⟩
  refine List.forall_mem_cons.mpr ⟨(s_get (ci := 3) (k := 2) (by decide +kernel : decode cX3_step 38 = .ok (.getfield 36, 3)) rfl (by decide) wd430 inX3 rfl).to, ?_⟩
  refine List.forall_mem_cons.mpr ⟨(s_icmp_ge (by decide +kernel : decode cX3_step 41 = .ok (.if_icmp .ge 44, 3)) (by decide)).to, ?_⟩
  refine List.forall_mem_cons.mpr ⟨(s_aloadn (by decide +kernel : decode cX3_step 44 = .ok (.aload_n 0, 1)) rfl).to, ?_⟩
  refine List.forall_mem_cons.mpr ⟨(s_get (ci := 3) (k := 1) (by decide +kernel : decode cX3_step 45 = .ok (.getfield 15, 3)) rfl (by decide) wd429 inX3 rfl).to, ?_⟩
  refine List.forall_mem_cons.mpr ⟨(s_aloadn (by decide +kernel : decode cX3_step 48 = .ok (.aload_n 0, 1)) rfl).to, ?_⟩
  refine List.forall_mem_cons.mpr ⟨(s_get (ci := 3) (k := 3) (by decide +kernel : decode cX3_step 49 = .ok (.getfield 39, 3)) rfl (by decide) wd431 inX3 rfl).to, ?_⟩
  refine List.forall_mem_cons.mpr ⟨(s_iald (by decide +kernel : decode cX3_step 52 = .ok (.iaload, 1))).to, ?_⟩
  refine List.forall_mem_cons.mpr ⟨(s_bipush (by decide +kernel : decode cX3_step 53 = .ok (.bipush 10, 2)) (by decide)).to, ?_⟩
  refine List.forall_mem_cons.mpr ⟨(s_icmp_eq (by decide +kernel : decode cX3_step 55 = .ok (.if_icmp .eq 17, 3)) (by decide)).to, ?_⟩
  refine List.forall_mem_cons.mpr ⟨(s_aloadn (by decide +kernel : decode cX3_step 58 = .ok (.aload_n 0, 1)) rfl).to, ?_⟩
  refine List.forall_mem_cons.mpr ⟨(s_get (ci := 3) (k := 1) (by decide +kernel : decode cX3_step 59 = .ok (.getfield 15, 3)) rfl (by decide) wd429 inX3 rfl).to, ?_⟩
  refine List.forall_mem_cons.mpr ⟨(s_aloadn (by decide +kernel : decode cX3_step 62 = .ok (.aload_n 0, 1)) rfl).to, ?_⟩
  refine List.forall_mem_cons.mpr ⟨(s_get (ci := 3) (k := 3) (by decide +kernel : decode cX3_step 63 = .ok (.getfield 39, 3)) rfl (by decide) wd431 inX3 rfl).to, ?_⟩
  refine List.forall_mem_cons.mpr ⟨(s_iald (by decide +kernel : decode cX3_step 66 = .ok (.iaload, 1))).to, ?_⟩
  refine List.forall_mem_cons.mpr ⟨(s_bipush (by decide +kernel : decode cX3_step 67 = .ok (.bipush 32, 2)) (by decide)).to, ?_⟩
  refine List.forall_mem_cons.mpr ⟨(s_icmp_ne (by decide +kernel : decode cX3_step 69 = .ok (.if_icmp .ne 16, 3)) (by decide)).to, ?_⟩
  refine List.forall_mem_cons.mpr ⟨(s_aloadn (by decide +kernel : decode cX3_step 72 = .ok (.aload_n 0, 1)) rfl).to, ?_⟩
  refine List.forall_mem_cons.mpr ⟨(s_dup (by decide +kernel : decode cX3_step 73 = .ok (.dup, 1))).to, ?_⟩
  refine List.forall_mem_cons.mpr ⟨(s_get (ci := 3) (k := 3) (by decide +kernel : decode cX3_step 74 = .ok (.getfield 39, 3)) rfl (by decide) wd431 inX3 rfl).to, ?_⟩
  refine List.forall_mem_cons.mpr ⟨(s_iconst (by decide +kernel : decode cX3_step 77 = .ok (.iconst 1, 1)) (by decide)).to, ?_⟩
  refine List.forall_mem_cons.mpr ⟨(s_iadd (by decide +kernel : decode cX3_step 78 = .ok (.iadd, 1))).to, ?_⟩
  refine List.forall_mem_cons.mpr ⟨(s_put (ci := 3) (k := 3) (by decide +kernel : decode cX3_step 79 = .ok (.putfield 39, 3)) rfl (by decide) wd431 inX3 tyX3_ok nmX3 rfl rfl).to, ?_⟩
  refine List.forall_mem_cons.mpr ⟨(s_goto (by decide +kernel : decode cX3_step 82 = .ok (.goto (-49), 3)) (by decide)).to, ?_⟩
  refine List.forall_mem_cons.mpr ⟨(s_aloadn (by decide +kernel : decode cX3_step 85 = .ok (.aload_n 0, 1)) rfl).to, ?_⟩
  refine List.forall_mem_cons.mpr ⟨(s_aloadn (by decide +kernel : decode cX3_step 86 = .ok (.aload_n 0, 1)) rfl).to, ?_⟩
  refine List.forall_mem_cons.mpr ⟨(s_get (ci := 3) (k := 3) (by decide +kernel : decode cX3_step 87 = .ok (.getfield 39, 3)) rfl (by decide) wd431 inX3 rfl).to, ?_⟩
  refine List.forall_mem_cons.mpr ⟨(s_put (ci := 3) (k := 7) (by decide +kernel : decode cX3_step 90 = .ok (.putfield 54, 3)) rfl (by decide) wd439 inX3 tyX3_ok nmX3 rfl rfl).to, ?_⟩
  refine List.forall_mem_cons.mpr ⟨(s_aloadn (by decide +kernel : decode cX3_step 93 = .ok (.aload_n 0, 1)) rfl).to, ?_⟩
  refine List.forall_mem_cons.mpr ⟨(s_iconst (by decide +kernel : decode cX3_step 94 = .ok (.iconst 0, 1)) (by decide)).to, ?_⟩
  refine List.forall_mem_cons.mpr ⟨(s_put (ci := 3) (k := 5) (by decide +kernel : decode cX3_step 95 = .ok (.putfield 57, 3)) rfl (by decide) wd435 inX3 tyX3_ok nmX3 rfl rfl).to, ?_⟩
  refine List.forall_mem_cons.mpr ⟨(s_aloadn (by decide +kernel : decode cX3_step 98 = .ok (.aload_n 0, 1)) rfl).to, ?_⟩
  refine List.forall_mem_cons.mpr ⟨(s_iconst (by decide +kernel : decode cX3_step 99 = .ok (.iconst (-1), 1)) (by decide)).to, ?_⟩
  refine List.forall_mem_cons.mpr ⟨(s_put (ci := 3) (k := 6) (by decide +kernel : decode cX3_step 100 = .ok (.putfield 60, 3)) rfl (by decide) wd438 inX3 tyX3_ok nmX3 rfl rfl).to, ?_⟩
  refine List.forall_mem_cons.mpr ⟨(s_aloadn (by decide +kernel : decode cX3_step 103 = .ok (.aload_n 0, 1)) rfl).to, ?_⟩
  refine List.forall_mem_cons.mpr ⟨(s_aloadn (by decide +kernel : decode cX3_step 104 = .ok (.aload_n 0, 1)) rfl).to, ?_⟩
  refine List.forall_mem_cons.mpr ⟨(s_get (ci := 3) (k := 3) (by decide +kernel : decode cX3_step 105 = .ok (.getfield 39, 3)) rfl (by decide) wd431 inX3 rfl).to, ?_⟩
  refine List.forall_mem_cons.mpr ⟨(s_aloadn (by decide +kernel : decode cX3_step 108 = .ok (.aload_n 0, 1)) rfl).to, ?_⟩
  refine List.forall_mem_cons.mpr ⟨(s_get (ci := 3) (k := 2) (by decide +kernel : decode cX3_step 109 = .ok (.getfield 36, 3)) rfl (by decide) wd430 inX3 rfl).to, ?_⟩
  refine List.forall_mem_cons.mpr ⟨(s_icmp_ge (by decide +kernel : decode cX3_step 112 = .ok (.if_icmp .ge 18, 3)) (by decide)).to, ?_⟩
  refine List.forall_mem_cons.mpr ⟨(s_aloadn (by decide +kernel : decode cX3_step 115 = .ok (.aload_n 0, 1)) rfl).to, ?_⟩
  exact fun _ h => absurd h List.not_mem_nil
theorem sn_tX3_step_1 : ∀ q ∈ tX3_step_1, am_Snd am_P0 RX3 cX3_step 3 (Option.none : Option FieldType) "step" q.1 q.2 := by
  unfold tX3_step_1
  refine List.forall_mem_cons.mpr ⟨(s_get (ci := 3) (k := 1) (by decide +kernel : decode cX3_step 116 = .ok (.getfield 15, 3)) rfl (by decide) wd429 inX3 rfl).to, ?_⟩
  refine List.forall_mem_cons.mpr ⟨(s_aloadn (by decide +kernel : decode cX3_step 119 = .ok (.aload_n 0, 1)) rfl).to, ?_⟩
  refine List.forall_mem_cons.mpr ⟨(s_get (ci := 3) (k := 3) (by decide +kernel : decode cX3_step 120 = .ok (.getfield 39, 3)) rfl (by decide) wd431 inX3 rfl).to, ?_⟩
  refine List.forall_mem_cons.mpr ⟨(s_iald (by decide +kernel : decode cX3_step 123 = .ok (.iaload, 1))).to, ?_⟩
  refine List.forall_mem_cons.mpr ⟨z_cs (by decide +kernel : decode cX3_step 124 = .ok (.invokestatic 63, 3)) mt37 wd666, ?_⟩
  refine List.forall_mem_cons.mpr ⟨(s_goto (by decide +kernel : decode cX3_step 127 = .ok (.goto 4, 3)) (by decide)).to, ?_⟩
  refine List.forall_mem_cons.mpr ⟨(s_iconst (by decide +kernel : decode cX3_step 130 = .ok (.iconst 0, 1)) (by decide)).to, ?_⟩
  refine List.forall_mem_cons.mpr ⟨(s_put (ci := 3) (k := 4) (by decide +kernel : decode cX3_step 131 = .ok (.putfield 48, 3)) rfl (by decide) wd432 inX3 tyX3_ok nmX3 rfl rfl).to, ?_⟩
  refine List.forall_mem_cons.mpr ⟨(s_aloadn (by decide +kernel : decode cX3_step 134 = .ok (.aload_n 0, 1)) rfl).to, ?_⟩
  refine List.forall_mem_cons.mpr ⟨(s_get (ci := 3) (k := 4) (by decide +kernel : decode cX3_step 135 = .ok (.getfield 48, 3)) rfl (by decide) wd432 inX3 rfl).to, ?_⟩
  refine List.forall_mem_cons.mpr ⟨(s_if_ne (by decide +kernel : decode cX3_step 138 = .ok (.ifCond .ne 4, 3)) (by decide)).to, ?_⟩
  refine List.forall_mem_cons.mpr ⟨s_vret (by decide +kernel : decode cX3_step 141 = .ok (.return_, 1)) rfl, ?_⟩
  refine List.forall_mem_cons.mpr ⟨(s_aloadn (by decide +kernel : decode cX3_step 142 = .ok (.aload_n 0, 1)) rfl).to, ?_⟩
  refine List.forall_mem_cons.mpr ⟨(s_get (ci := 3) (k := 4) (by decide +kernel : decode cX3_step 143 = .ok (.getfield 48, 3)) rfl (by decide) wd432 inX3 rfl).to, ?_⟩
  refine List.forall_mem_cons.mpr ⟨(s_iconst (by decide +kernel : decode cX3_step 146 = .ok (.iconst 3, 1)) (by decide)).to, ?_⟩
  refine List.forall_mem_cons.mpr ⟨(s_icmp_ne (by decide +kernel : decode cX3_step 147 = .ok (.if_icmp .ne 27, 3)) (by decide)).to, ?_⟩
  refine List.forall_mem_cons.mpr ⟨(s_aloadn (by decide +kernel : decode cX3_step 150 = .ok (.aload_n 0, 1)) rfl).to, ?_⟩
  refine List.forall_mem_cons.mpr ⟨(s_aloadn (by decide +kernel : decode cX3_step 151 = .ok (.aload_n 0, 1)) rfl).to, ?_⟩
  refine List.forall_mem_cons.mpr ⟨(s_get (ci := 3) (k := 1) (by decide +kernel : decode cX3_step 152 = .ok (.getfield 15, 3)) rfl (by decide) wd429 inX3 rfl).to, ?_⟩
  refine List.forall_mem_cons.mpr ⟨(s_aloadn (by decide +kernel : decode cX3_step 155 = .ok (.aload_n 0, 1)) rfl).to, ?_⟩
  refine List.forall_mem_cons.mpr ⟨(s_get (ci := 3) (k := 3) (by decide +kernel : decode cX3_step 156 = .ok (.getfield 39, 3)) rfl (by decide) wd431 inX3 rfl).to, ?_⟩
  refine List.forall_mem_cons.mpr ⟨(s_iald (by decide +kernel : decode cX3_step 159 = .ok (.iaload, 1))).to, ?_⟩
  refine List.forall_mem_cons.mpr ⟨(s_put (ci := 3) (k := 5) (by decide +kernel : decode cX3_step 160 = .ok (.putfield 57, 3)) rfl (by decide) wd435 inX3 tyX3_ok nmX3 rfl rfl).to, ?_⟩
  refine List.forall_mem_cons.mpr ⟨(s_aloadn (by decide +kernel : decode cX3_step 163 = .ok (.aload_n 0, 1)) rfl).to, ?_⟩
  refine List.forall_mem_cons.mpr ⟨(s_dup (by decide +kernel : decode cX3_step 164 = .ok (.dup, 1))).to, ?_⟩
  refine List.forall_mem_cons.mpr ⟨(s_get (ci := 3) (k := 3) (by decide +kernel : decode cX3_step 165 = .ok (.getfield 39, 3)) rfl (by decide) wd431 inX3 rfl).to, ?_⟩
  refine List.forall_mem_cons.mpr ⟨(s_iconst (by decide +kernel : decode cX3_step 168 = .ok (.iconst 1, 1)) (by decide)).to, ?_⟩
  refine List.forall_mem_cons.mpr ⟨(s_iadd (by decide +kernel : decode cX3_step 169 = .ok (.iadd, 1))).to, ?_⟩
  refine List.forall_mem_cons.mpr ⟨(s_put (ci := 3) (k := 3) (by decide +kernel : decode cX3_step 170 = .ok (.putfield 39, 3)) rfl (by decide) wd431 inX3 tyX3_ok nmX3 rfl rfl).to, ?_⟩
  refine List.forall_mem_cons.mpr ⟨s_vret (by decide +kernel : decode cX3_step 173 = .ok (.return_, 1)) rfl, ?_⟩
  refine List.forall_mem_cons.mpr ⟨(s_aloadn (by decide +kernel : decode cX3_step 174 = .ok (.aload_n 0, 1)) rfl).to, ?_⟩
  refine List.forall_mem_cons.mpr ⟨(s_get (ci := 3) (k := 4) (by decide +kernel : decode cX3_step 175 = .ok (.getfield 48, 3)) rfl (by decide) wd432 inX3 rfl).to, ?_⟩
  refine List.forall_mem_cons.mpr ⟨(s_iconst (by decide +kernel : decode cX3_step 178 = .ok (.iconst 1, 1)) (by decide)).to, ?_⟩
  refine List.forall_mem_cons.mpr ⟨(s_icmp_ne (by decide +kernel : decode cX3_step 179 = .ok (.if_icmp .ne 8, 3)) (by decide)).to, ?_⟩
  refine List.forall_mem_cons.mpr ⟨(s_bipush (by decide +kernel : decode cX3_step 182 = .ok (.bipush 6, 2)) (by decide)).to, ?_⟩
  refine List.forall_mem_cons.mpr ⟨(s_goto (by decide +kernel : decode cX3_step 184 = .ok (.goto 4, 3)) (by decide)).to, ?_⟩
  refine List.forall_mem_cons.mpr ⟨(s_iconst (by decide +kernel : decode cX3_step 187 = .ok (.iconst 4, 1)) (by decide)).to, ?_⟩
  refine List.forall_mem_cons.mpr ⟨(s_istoren (by decide +kernel : decode cX3_step 188 = .ok (.istore_n 2, 1)) rfl (by decide)).to, ?_⟩
  refine List.forall_mem_cons.mpr ⟨(s_aloadn (by decide +kernel : decode cX3_step 189 = .ok (.aload_n 0, 1)) rfl).to, ?_⟩
  refine List.forall_mem_cons.mpr ⟨(s_get (ci := 3) (k := 3) (by decide +kernel : decode cX3_step 190 = .ok (.getfield 39, 3)) rfl (by decide) wd431 inX3 rfl).to, ?_⟩
  refine List.forall_mem_cons.mpr ⟨(s_aloadn (by decide +kernel : decode cX3_step 193 = .ok (.aload_n 0, 1)) rfl).to, ?_⟩
  refine List.forall_mem_cons.mpr ⟨(s_get (ci := 3) (k := 2) (by decide +kernel : decode cX3_step 194 = .ok (.getfield 36, 3)) rfl (by decide) wd430 inX3 rfl).to, ?_⟩
  refine List.forall_mem_cons.mpr ⟨(s_icmp_ge (by decide +kernel : decode cX3_step 197 = .ok (.if_icmp .ge 122, 3)) (by decide)).to, ?_⟩
  refine List.forall_mem_cons.mpr ⟨(s_aloadn (by decide +kernel : decode cX3_step 200 = .ok (.aload_n 0, 1)) rfl).to, ?_⟩
  refine List.forall_mem_cons.mpr ⟨(s_get (ci := 3) (k := 1) (by decide +kernel : decode cX3_step 201 = .ok (.getfield 15, 3)) rfl (by decide) wd429 inX3 rfl).to, ?_⟩
  refine List.forall_mem_cons.mpr ⟨(s_aloadn (by decide +kernel : decode cX3_step 204 = .ok (.aload_n 0, 1)) rfl).to, ?_⟩
  refine List.forall_mem_cons.mpr ⟨(s_get (ci := 3) (k := 3) (by decide +kernel : decode cX3_step 205 = .ok (.getfield 39, 3)) rfl (by decide) wd431 inX3 rfl).to, ?_⟩
  refine List.forall_mem_cons.mpr ⟨(s_iald (by decide +kernel : decode cX3_step 208 = .ok (.iaload, 1))).to, ?_⟩
  refine List.forall_mem_cons.mpr ⟨z_cs (by decide +kernel : decode cX3_step 209 = .ok (.invokestatic 63, 3)) mt37 wd666, ?_⟩
  refine List.forall_mem_cons.mpr ⟨(s_aloadn (by decide +kernel : decode cX3_step 212 = .ok (.aload_n 0, 1)) rfl).to, ?_⟩
  refine List.forall_mem_cons.mpr ⟨(s_get (ci := 3) (k := 4) (by decide +kernel : decode cX3_step 213 = .ok (.getfield 48, 3)) rfl (by decide) wd432 inX3 rfl).to, ?_⟩
  refine List.forall_mem_cons.mpr ⟨(s_icmp_ne (by decide +kernel : decode cX3_step 216 = .ok (.if_icmp .ne 103, 3)) (by decide)).to, ?_⟩
  refine List.forall_mem_cons.mpr ⟨(s_aloadn (by decide +kernel : decode cX3_step 219 = .ok (.aload_n 0, 1)) rfl).to, ?_⟩
  refine List.forall_mem_cons.mpr ⟨(s_get (ci := 3) (k := 3) (by decide +kernel : decode cX3_step 220 = .ok (.getfield 39, 3)) rfl (by decide) wd431 inX3 rfl).to, ?_⟩
  refine List.forall_mem_cons.mpr ⟨(s_aloadn (by decide +kernel : decode cX3_step 223 = .ok (.aload_n 0, 1)) rfl).to, ?_⟩
  refine List.forall_mem_cons.mpr ⟨(s_get (ci := 3) (k := 7) (by decide +kernel : decode cX3_step 224 = .ok (.getfield 54, 3)) rfl (by decide) wd439 inX3 rfl).to, ?_⟩
  refine List.forall_mem_cons.mpr ⟨(s_isub (by decide +kernel : decode cX3_step 227 = .ok (.isub, 1))).to, ?_⟩
  refine List.forall_mem_cons.mpr ⟨(s_iloadn (by decide +kernel : decode cX3_step 228 = .ok (.iload_n 2, 1)) rfl).to, ?_⟩
  refine List.forall_mem_cons.mpr ⟨(s_icmp_lt (by decide +kernel : decode cX3_step 229 = .ok (.if_icmp .lt 13, 3)) (by decide)).to, ?_⟩
  refine List.forall_mem_cons.mpr ⟨(s_aloadn (by decide +kernel : decode cX3_step 232 = .ok (.aload_n 0, 1)) rfl).to, ?_⟩
  exact fun _ h => absurd h List.not_mem_nil
theorem sn_tX3_step_2 : ∀ q ∈ tX3_step_2, am_Snd am_P0 RX3 cX3_step 3 (Option.none : Option FieldType) "step" q.1 q.2 := by
  unfold tX3_step_2
  refine List.forall_mem_cons.mpr ⟨(s_iconst (by decide +kernel : decode cX3_step 233 = .ok (.iconst 1, 1)) (by decide)).to, ?_⟩
  refine List.forall_mem_cons.mpr ⟨(s_aloadn (by decide +kernel : decode cX3_step 234 = .ok (.aload_n 0, 1)) rfl).to, ?_⟩
  refine List.forall_mem_cons.mpr ⟨(s_get (ci := 3) (k := 3) (by decide +kernel : decode cX3_step 235 = .ok (.getfield 39, 3)) rfl (by decide) wd431 inX3 rfl).to, ?_⟩
  refine List.forall_mem_cons.mpr ⟨z_cv (by decide +kernel : decode cX3_step 238 = .ok (.invokevirtual 67, 3)) mt38 wd669 (ci := 3) rfl (by decide), ?_⟩
  refine List.forall_mem_cons.mpr ⟨s_vret (by decide +kernel : decode cX3_step 241 = .ok (.return_, 1)) rfl, ?_⟩
  refine List.forall_mem_cons.mpr ⟨(s_aloadn (by decide +kernel : decode cX3_step 242 = .ok (.aload_n 0, 1)) rfl).to, ?_⟩
  refine List.forall_mem_cons.mpr ⟨(s_aloadn (by decide +kernel : decode cX3_step 243 = .ok (.aload_n 0, 1)) rfl).to, ?_⟩
  refine List.forall_mem_cons.mpr ⟨(s_get (ci := 3) (k := 4) (by decide +kernel : decode cX3_step 244 = .ok (.getfield 48, 3)) rfl (by decide) wd432 inX3 rfl).to, ?_⟩
  refine List.forall_mem_cons.mpr ⟨(s_iconst (by decide +kernel : decode cX3_step 247 = .ok (.iconst 2, 1)) (by decide)).to, ?_⟩
  refine List.forall_mem_cons.mpr ⟨(s_icmp_ne (by decide +kernel : decode cX3_step 248 = .ok (.if_icmp .ne 26, 3)) (by decide)).to, ?_⟩
  refine List.forall_mem_cons.mpr ⟨(s_aloadn (by decide +kernel : decode cX3_step 251 = .ok (.aload_n 0, 1)) rfl).to, ?_⟩
  refine List.forall_mem_cons.mpr ⟨(s_get (ci := 3) (k := 5) (by decide +kernel : decode cX3_step 252 = .ok (.getfield 57, 3)) rfl (by decide) wd435 inX3 rfl).to, ?_⟩
  refine List.forall_mem_cons.mpr ⟨(s_bipush (by decide +kernel : decode cX3_step 255 = .ok (.bipush 10, 2)) (by decide)).to, ?_⟩
  refine List.forall_mem_cons.mpr ⟨(s_imul (by decide +kernel : decode cX3_step 257 = .ok (.imul, 1))).to, ?_⟩
  refine List.forall_mem_cons.mpr ⟨(s_aloadn (by decide +kernel : decode cX3_step 258 = .ok (.aload_n 0, 1)) rfl).to, ?_⟩
  refine List.forall_mem_cons.mpr ⟨(s_get (ci := 3) (k := 1) (by decide +kernel : decode cX3_step 259 = .ok (.getfield 15, 3)) rfl (by decide) wd429 inX3 rfl).to, ?_⟩
  refine List.forall_mem_cons.mpr ⟨(s_aloadn (by decide +kernel : decode cX3_step 262 = .ok (.aload_n 0, 1)) rfl).to, ?_⟩
  refine List.forall_mem_cons.mpr ⟨(s_get (ci := 3) (k := 3) (by decide +kernel : decode cX3_step 263 = .ok (.getfield 39, 3)) rfl (by decide) wd431 inX3 rfl).to, ?_⟩
  refine List.forall_mem_cons.mpr ⟨(s_iald (by decide +kernel : decode cX3_step 266 = .ok (.iaload, 1))).to, ?_⟩
  refine List.forall_mem_cons.mpr ⟨(s_iadd (by decide +kernel : decode cX3_step 267 = .ok (.iadd, 1))).to, ?_⟩
  refine List.forall_mem_cons.mpr ⟨(s_bipush (by decide +kernel : decode cX3_step 268 = .ok (.bipush 48, 2)) (by decide)).to, ?_⟩
  refine List.forall_mem_cons.mpr ⟨(s_isub (by decide +kernel : decode cX3_step 270 = .ok (.isub, 1))).to, ?_⟩
  refine List.forall_mem_cons.mpr ⟨(s_goto (by decide +kernel : decode cX3_step 271 = .ok (.goto 32, 3)) (by decide)).to, ?_⟩
  refine List.forall_mem_cons.mpr ⟨(s_aloadn (by decide +kernel : decode cX3_step 274 = .ok (.aload_n 0, 1)) rfl).to, ?_⟩
  refine List.forall_mem_cons.mpr ⟨(s_get (ci := 3) (k := 5) (by decide +kernel : decode cX3_step 275 = .ok (.getfield 57, 3)) rfl (by decide) wd435 inX3 rfl).to, ?_⟩
  refine List.forall_mem_cons.mpr ⟨(s_aloadn (by decide +kernel : decode cX3_step 278 = .ok (.aload_n 0, 1)) rfl).to, ?_⟩
  refine List.forall_mem_cons.mpr ⟨(s_get (ci := 3) (k := 1) (by decide +kernel : decode cX3_step 279 = .ok (.getfield 15, 3)) rfl (by decide) wd429 inX3 rfl).to, ?_⟩
  refine List.forall_mem_cons.mpr ⟨(s_aloadn (by decide +kernel : decode cX3_step 282 = .ok (.aload_n 0, 1)) rfl).to, ?_⟩
  refine List.forall_mem_cons.mpr ⟨(s_get (ci := 3) (k := 3) (by decide +kernel : decode cX3_step 283 = .ok (.getfield 39, 3)) rfl (by decide) wd431 inX3 rfl).to, ?_⟩
  refine List.forall_mem_cons.mpr ⟨(s_iald (by decide +kernel : decode cX3_step 286 = .ok (.iaload, 1))).to, ?_⟩
  refine List.forall_mem_cons.mpr ⟨(s_bipush (by decide +kernel : decode cX3_step 287 = .ok (.bipush 96, 2)) (by decide)).to, ?_⟩
  refine List.forall_mem_cons.mpr ⟨(s_isub (by decide +kernel : decode cX3_step 289 = .ok (.isub, 1))).to, ?_⟩
  refine List.forall_mem_cons.mpr ⟨(s_iconst (by decide +kernel : decode cX3_step 290 = .ok (.iconst 5, 1)) (by decide)).to, ?_⟩
  refine List.forall_mem_cons.mpr ⟨(s_aloadn (by decide +kernel : decode cX3_step 291 = .ok (.aload_n 0, 1)) rfl).to, ?_⟩
  refine List.forall_mem_cons.mpr ⟨(s_get (ci := 3) (k := 3) (by decide +kernel : decode cX3_step 292 = .ok (.getfield 39, 3)) rfl (by decide) wd431 inX3 rfl).to, ?_⟩
  refine List.forall_mem_cons.mpr ⟨(s_aloadn (by decide +kernel : decode cX3_step 295 = .ok (.aload_n 0, 1)) rfl).to, ?_⟩
  refine List.forall_mem_cons.mpr ⟨(s_get (ci := 3) (k := 7) (by decide +kernel : decode cX3_step 296 = .ok (.getfield 54, 3)) rfl (by decide) wd439 inX3 rfl).to, ?_⟩
  refine List.forall_mem_cons.mpr ⟨(s_isub (by decide +kernel : decode cX3_step 299 = .ok (.isub, 1))).to, ?_⟩
  refine List.forall_mem_cons.mpr ⟨(s_imul (by decide +kernel : decode cX3_step 300 = .ok (.imul, 1))).to, ?_⟩
  refine List.forall_mem_cons.mpr ⟨(s_ishl (by decide +kernel : decode cX3_step 301 = .ok (.ishl, 1))).to, ?_⟩
  refine List.forall_mem_cons.mpr ⟨(s_ior (by decide +kernel : decode cX3_step 302 = .ok (.ior, 1))).to, ?_⟩
  refine List.forall_mem_cons.mpr ⟨(s_put (ci := 3) (k := 5) (by decide +kernel : decode cX3_step 303 = .ok (.putfield 57, 3)) rfl (by decide) wd435 inX3 tyX3_ok nmX3 rfl rfl).to, ?_⟩
  refine List.forall_mem_cons.mpr ⟨(s_aloadn (by decide +kernel : decode cX3_step 306 = .ok (.aload_n 0, 1)) rfl).to, ?_⟩
  refine List.forall_mem_cons.mpr ⟨(s_dup (by decide +kernel : decode cX3_step 307 = .ok (.dup, 1))).to, ?_⟩
  refine List.forall_mem_cons.mpr ⟨(s_get (ci := 3) (k := 3) (by decide +kernel : decode cX3_step 308 = .ok (.getfield 39, 3)) rfl (by decide) wd431 inX3 rfl).to, ?_⟩
  refine List.forall_mem_cons.mpr ⟨(s_iconst (by decide +kernel : decode cX3_step 311 = .ok (.iconst 1, 1)) (by decide)).to, ?_⟩
  refine List.forall_mem_cons.mpr ⟨(s_iadd (by decide +kernel : decode cX3_step 312 = .ok (.iadd, 1))).to, ?_⟩
  refine List.forall_mem_cons.mpr ⟨(s_put (ci := 3) (k := 3) (by decide +kernel : decode cX3_step 313 = .ok (.putfield 39, 3)) rfl (by decide) wd431 inX3 tyX3_ok nmX3 rfl rfl).to, ?_⟩
  refine List.forall_mem_cons.mpr ⟨(s_goto (by decide +kernel : decode cX3_step 316 = .ok (.goto (-127), 3)) (by decide)).to, ?_⟩
  refine List.forall_mem_cons.mpr ⟨(s_aloadn (by decide +kernel : decode cX3_step 319 = .ok (.aload_n 0, 1)) rfl).to, ?_⟩
  refine List.forall_mem_cons.mpr ⟨(s_get (ci := 3) (k := 7) (by decide +kernel : decode cX3_step 320 = .ok (.getfield 54, 3)) rfl (by decide) wd439 inX3 rfl).to, ?_⟩
  refine List.forall_mem_cons.mpr ⟨(s_iloadn (by decide +kernel : decode cX3_step 323 = .ok (.iload_n 1, 1)) rfl).to, ?_⟩
  refine List.forall_mem_cons.mpr ⟨(s_icmp_ne (by decide +kernel : decode cX3_step 324 = .ok (.if_icmp .ne 13, 3)) (by decide)).to, ?_⟩
  refine List.forall_mem_cons.mpr ⟨(s_aloadn (by decide +kernel : decode cX3_step 327 = .ok (.aload_n 0, 1)) rfl).to, ?_⟩
  refine List.forall_mem_cons.mpr ⟨(s_iconst (by decide +kernel : decode cX3_step 328 = .ok (.iconst 1, 1)) (by decide)).to, ?_⟩
  refine List.forall_mem_cons.mpr ⟨(s_aloadn (by decide +kernel : decode cX3_step 329 = .ok (.aload_n 0, 1)) rfl).to, ?_⟩
  refine List.forall_mem_cons.mpr ⟨(s_get (ci := 3) (k := 7) (by decide +kernel : decode cX3_step 330 = .ok (.getfield 54, 3)) rfl (by decide) wd439 inX3 rfl).to, ?_⟩
  refine List.forall_mem_cons.mpr ⟨z_cv (by decide +kernel : decode cX3_step 333 = .ok (.invokevirtual 67, 3)) mt38 wd669 (ci := 3) rfl (by decide), ?_⟩
  refine List.forall_mem_cons.mpr ⟨s_vret (by decide +kernel : decode cX3_step 336 = .ok (.return_, 1)) rfl, ?_⟩
  refine List.forall_mem_cons.mpr ⟨(s_aloadn (by decide +kernel : decode cX3_step 337 = .ok (.aload_n 0, 1)) rfl).to, ?_⟩
  exact fun _ h => absurd h List.not_mem_nil
theorem sn_tX3_step_3 : ∀ q ∈ tX3_step_3, am_Snd am_P0 RX3 cX3_step 3 (Option.none : Option FieldType) "step" q.1 q.2 := by
  unfold tX3_step_3
  refine List.forall_mem_cons.mpr ⟨(s_aloadn (by decide +kernel : decode cX3_step 338 = .ok (.aload_n 0, 1)) rfl).to, ?_⟩
  refine List.forall_mem_cons.mpr ⟨(s_get (ci := 3) (k := 4) (by decide +kernel : decode cX3_step 339 = .ok (.getfield 48, 3)) rfl (by decide) wd432 inX3 rfl).to, ?_⟩
  refine List.forall_mem_cons.mpr ⟨(s_iconst (by decide +kernel : decode cX3_step 342 = .ok (.iconst 1, 1)) (by decide)).to, ?_⟩
  refine List.forall_mem_cons.mpr ⟨(s_icmp_ne (by decide +kernel : decode cX3_step 343 = .ok (.if_icmp .ne 14, 3)) (by decide)).to, ?_⟩
  refine List.forall_mem_cons.mpr ⟨(s_aloadn (by decide +kernel : decode cX3_step 346 = .ok (.aload_n 0, 1)) rfl).to, ?_⟩
  refine List.forall_mem_cons.mpr ⟨(s_aloadn (by decide +kernel : decode cX3_step 347 = .ok (.aload_n 0, 1)) rfl).to, ?_⟩
  refine List.forall_mem_cons.mpr ⟨(s_get (ci := 3) (k := 5) (by decide +kernel : decode cX3_step 348 = .ok (.getfield 57, 3)) rfl (by decide) wd435 inX3 rfl).to, ?_⟩
  refine List.forall_mem_cons.mpr ⟨z_cv (by decide +kernel : decode cX3_step 351 = .ok (.invokevirtual 71, 3)) mt36 wd673 (ci := 3) rfl (by decide), ?_⟩
  refine List.forall_mem_cons.mpr ⟨(s_goto (by decide +kernel : decode cX3_step 354 = .ok (.goto 4, 3)) (by decide)).to, ?_⟩
  refine List.forall_mem_cons.mpr ⟨(s_iconst (by decide +kernel : decode cX3_step 357 = .ok (.iconst (-1), 1)) (by decide)).to, ?_⟩
  refine List.forall_mem_cons.mpr ⟨(s_put (ci := 3) (k := 6) (by decide +kernel : decode cX3_step 358 = .ok (.putfield 60, 3)) rfl (by decide) wd438 inX3 tyX3_ok nmX3 rfl rfl).to, ?_⟩
  refine List.forall_mem_cons.mpr ⟨s_vret (by decide +kernel : decode cX3_step 361 = .ok (.return_, 1)) rfl, ?_⟩
  exact fun _ h => absurd h List.not_mem_nil
theorem sn_tX3_step : ∀ q ∈ tX3_step, am_Snd am_P0 RX3 cX3_step 3 (Option.none : Option FieldType) "step" q.1 q.2 := by
  unfold tX3_step
  exact List.forall_mem_append.mpr ⟨List.forall_mem_append.mpr ⟨List.forall_mem_append.mpr ⟨sn_tX3_step_0, sn_tX3_step_1⟩, sn_tX3_step_2⟩, sn_tX3_step_3⟩
theorem sn_tX3_ownWord : ∀ q ∈ tX3_ownWord, am_Snd am_P0 RX3 cX3_ownWord 3 (Option.some FieldType.int) "ownWord" q.1 q.2 := by
  unfold tX3_ownWord
  refine List.forall_mem_cons.mpr ⟨(s_iconst (by decide +kernel : decode cX3_ownWord 0 = .ok (.iconst 0, 1)) (by decide)).to, ?_⟩
  refine List.forall_mem_cons.mpr ⟨(s_istoren (by decide +kernel : decode cX3_ownWord 1 = .ok (.istore_n 2, 1)) rfl (by decide)).to, ?_⟩
  refine List.forall_mem_cons.mpr ⟨(s_iloadn (by decide +kernel : decode cX3_ownWord 2 = .ok (.iload_n 2, 1)) rfl).to, ?_⟩
  refine List.forall_mem_cons.mpr ⟨(s_bipush (by decide +kernel : decode cX3_ownWord 3 = .ok (.bipush 27, 2)) (by decide)).to, ?_⟩
  refine List.forall_mem_cons.mpr ⟨(s_icmp_ge (by decide +kernel : decode cX3_ownWord 5 = .ok (.if_icmp .ge 21, 3)) (by decide)).to, ?_⟩
  refine List.forall_mem_cons.mpr ⟨(s_aloadn (by decide +kernel : decode cX3_ownWord 8 = .ok (.aload_n 0, 1)) rfl).to, ?_⟩
  refine List.forall_mem_cons.mpr ⟨(s_get (ci := 3) (k := 0) (by decide +kernel : decode cX3_ownWord 9 = .ok (.getfield 11, 3)) rfl (by decide) wd428 inX3 rfl).to, ?_⟩
  refine List.forall_mem_cons.mpr ⟨(s_iloadn (by decide +kernel : decode cX3_ownWord 12 = .ok (.iload_n 2, 1)) rfl).to, ?_⟩
  refine List.forall_mem_cons.mpr ⟨(s_iald (by decide +kernel : decode cX3_ownWord 13 = .ok (.iaload, 1))).to, ?_⟩
  refine List.forall_mem_cons.mpr ⟨(s_iloadn (by decide +kernel : decode cX3_ownWord 14 = .ok (.iload_n 1, 1)) rfl).to, ?_⟩
  refine List.forall_mem_cons.mpr ⟨(s_icmp_ne (by decide +kernel : decode cX3_ownWord 15 = .ok (.if_icmp .ne 5, 3)) (by decide)).to, ?_⟩
  refine List.forall_mem_cons.mpr ⟨(s_iloadn (by decide +kernel : decode cX3_ownWord 18 = .ok (.iload_n 2, 1)) rfl).to, ?_⟩
  refine List.forall_mem_cons.mpr ⟨s_iret (by decide +kernel : decode cX3_ownWord 19 = .ok (.ireturn, 1)) rfl, ?_⟩
  refine List.forall_mem_cons.mpr ⟨(s_iinc (by decide +kernel : decode cX3_ownWord 20 = .ok (.iinc 2 1, 3)) (by decide) (by decide)).to, ?_⟩
  refine List.forall_mem_cons.mpr ⟨(s_goto (by decide +kernel : decode cX3_ownWord 23 = .ok (.goto (-21), 3)) (by decide)).to, ?_⟩
  refine List.forall_mem_cons.mpr ⟨(s_iconst (by decide +kernel : decode cX3_ownWord 26 = .ok (.iconst (-1), 1)) (by decide)).to, ?_⟩
  refine List.forall_mem_cons.mpr ⟨s_iret (by decide +kernel : decode cX3_ownWord 27 = .ok (.ireturn, 1)) rfl, ?_⟩
  exact fun _ h => absurd h List.not_mem_nil
theorem sn_tX3_kindOf : ∀ q ∈ tX3_kindOf, am_Snd am_P0 RX3 cX3_kindOf 1 (Option.some FieldType.int) "kindOf" q.1 q.2 := by
  unfold tX3_kindOf
  refine List.forall_mem_cons.mpr ⟨(s_iloadn (by decide +kernel : decode cX3_kindOf 0 = .ok (.iload_n 0, 1)) rfl).to, ?_⟩
  refine List.forall_mem_cons.mpr ⟨(s_bipush (by decide +kernel : decode cX3_kindOf 1 = .ok (.bipush 97, 2)) (by decide)).to, ?_⟩
  refine List.forall_mem_cons.mpr ⟨(s_icmp_lt (by decide +kernel : decode cX3_kindOf 3 = .ok (.if_icmp .lt 11, 3)) (by decide)).to, ?_⟩
  refine List.forall_mem_cons.mpr ⟨(s_iloadn (by decide +kernel : decode cX3_kindOf 6 = .ok (.iload_n 0, 1)) rfl).to, ?_⟩
  refine List.forall_mem_cons.mpr ⟨(s_bipush (by decide +kernel : decode cX3_kindOf 7 = .ok (.bipush 122, 2)) (by decide)).to, ?_⟩
  refine List.forall_mem_cons.mpr ⟨(s_icmp_gt (by decide +kernel : decode cX3_kindOf 9 = .ok (.if_icmp .gt 5, 3)) (by decide)).to, ?_⟩
  refine List.forall_mem_cons.mpr ⟨(s_iconst (by decide +kernel : decode cX3_kindOf 12 = .ok (.iconst 1, 1)) (by decide)).to, ?_⟩
  refine List.forall_mem_cons.mpr ⟨s_iret (by decide +kernel : decode cX3_kindOf 13 = .ok (.ireturn, 1)) rfl, ?_⟩
  refine List.forall_mem_cons.mpr ⟨(s_iloadn (by decide +kernel : decode cX3_kindOf 14 = .ok (.iload_n 0, 1)) rfl).to, ?_⟩
  refine List.forall_mem_cons.mpr ⟨(s_bipush (by decide +kernel : decode cX3_kindOf 15 = .ok (.bipush 48, 2)) (by decide)).to, ?_⟩
  refine List.forall_mem_cons.mpr ⟨(s_icmp_lt (by decide +kernel : decode cX3_kindOf 17 = .ok (.if_icmp .lt 13, 3)) (by decide)).to, ?_⟩
  refine List.forall_mem_cons.mpr ⟨(s_iloadn (by decide +kernel : decode cX3_kindOf 20 = .ok (.iload_n 0, 1)) rfl).to, ?_⟩
  refine List.forall_mem_cons.mpr ⟨(s_bipush (by decide +kernel : decode cX3_kindOf 21 = .ok (.bipush 57, 2)) (by decide)).to, ?_⟩
  refine List.forall_mem_cons.mpr ⟨(s_icmp_gt (by decide +kernel : decode cX3_kindOf 23 = .ok (.if_icmp .gt 7, 3)) (by decide)).to, ?_⟩
  refine List.forall_mem_cons.mpr ⟨(s_iconst (by decide +kernel : decode cX3_kindOf 26 = .ok (.iconst 2, 1)) (by decide)).to, ?_⟩
  refine List.forall_mem_cons.mpr ⟨(s_goto (by decide +kernel : decode cX3_kindOf 27 = .ok (.goto 4, 3)) (by decide)).to, ?_⟩
  refine List.forall_mem_cons.mpr ⟨(s_iconst (by decide +kernel : decode cX3_kindOf 30 = .ok (.iconst 3, 1)) (by decide)).to, ?_⟩
  refine List.forall_mem_cons.mpr ⟨s_iret (by decide +kernel : decode cX3_kindOf 31 = .ok (.ireturn, 1)) rfl, ?_⟩
  exact fun _ h => absurd h List.not_mem_nil
theorem sn_tX3_refuseAt : ∀ q ∈ tX3_refuseAt, am_Snd am_P0 RX3 cX3_refuseAt 3 (Option.none : Option FieldType) "refuseAt" q.1 q.2 := by
  unfold tX3_refuseAt
  refine List.forall_mem_cons.mpr ⟨(s_aloadn (by decide +kernel : decode cX3_refuseAt 0 = .ok (.aload_n 0, 1)) rfl).to, ?_⟩
  refine List.forall_mem_cons.mpr ⟨(s_get (ci := 3) (k := 8) (by decide +kernel : decode cX3_refuseAt 1 = .ok (.getfield 42, 3)) rfl (by decide) wd440 inX3 rfl).to, ?_⟩
  refine List.forall_mem_cons.mpr ⟨(s_if_ne (by decide +kernel : decode cX3_refuseAt 4 = .ok (.ifCond .ne 13, 3)) (by decide)).to, ?_⟩
  refine List.forall_mem_cons.mpr ⟨(s_aloadn (by decide +kernel : decode cX3_refuseAt 7 = .ok (.aload_n 0, 1)) rfl).to, ?_⟩
  refine List.forall_mem_cons.mpr ⟨(s_iloadn (by decide +kernel : decode cX3_refuseAt 8 = .ok (.iload_n 1, 1)) rfl).to, ?_⟩
  refine List.forall_mem_cons.mpr ⟨(s_put (ci := 3) (k := 8) (by decide +kernel : decode cX3_refuseAt 9 = .ok (.putfield 42, 3)) rfl (by decide) wd440 inX3 tyX3_ok nmX3 rfl rfl).to, ?_⟩
  refine List.forall_mem_cons.mpr ⟨(s_aloadn (by decide +kernel : decode cX3_refuseAt 12 = .ok (.aload_n 0, 1)) rfl).to, ?_⟩
  refine List.forall_mem_cons.mpr ⟨(s_iloadn (by decide +kernel : decode cX3_refuseAt 13 = .ok (.iload_n 2, 1)) rfl).to, ?_⟩
  refine List.forall_mem_cons.mpr ⟨(s_put (ci := 3) (k := 9) (by decide +kernel : decode cX3_refuseAt 14 = .ok (.putfield 45, 3)) rfl (by decide) wd443 inX3 tyX3_ok nmX3 rfl rfl).to, ?_⟩
  refine List.forall_mem_cons.mpr ⟨(s_aloadn (by decide +kernel : decode cX3_refuseAt 17 = .ok (.aload_n 0, 1)) rfl).to, ?_⟩
  refine List.forall_mem_cons.mpr ⟨(s_iconst (by decide +kernel : decode cX3_refuseAt 18 = .ok (.iconst 0, 1)) (by decide)).to, ?_⟩
  refine List.forall_mem_cons.mpr ⟨(s_put (ci := 3) (k := 4) (by decide +kernel : decode cX3_refuseAt 19 = .ok (.putfield 48, 3)) rfl (by decide) wd432 inX3 tyX3_ok nmX3 rfl rfl).to, ?_⟩
  refine List.forall_mem_cons.mpr ⟨(s_aloadn (by decide +kernel : decode cX3_refuseAt 22 = .ok (.aload_n 0, 1)) rfl).to, ?_⟩
  refine List.forall_mem_cons.mpr ⟨(s_iconst (by decide +kernel : decode cX3_refuseAt 23 = .ok (.iconst (-1), 1)) (by decide)).to, ?_⟩
  refine List.forall_mem_cons.mpr ⟨(s_put (ci := 3) (k := 6) (by decide +kernel : decode cX3_refuseAt 24 = .ok (.putfield 60, 3)) rfl (by decide) wd438 inX3 tyX3_ok nmX3 rfl rfl).to, ?_⟩
  refine List.forall_mem_cons.mpr ⟨s_vret (by decide +kernel : decode cX3_refuseAt 27 = .ok (.return_, 1)) rfl, ?_⟩
  exact fun _ h => absurd h List.not_mem_nil
theorem sn_tX3_refuse : ∀ q ∈ tX3_refuse, am_Snd am_P0 RX3 cX3_refuse 2 (Option.none : Option FieldType) "refuse" q.1 q.2 := by
  unfold tX3_refuse
  refine List.forall_mem_cons.mpr ⟨(s_aloadn (by decide +kernel : decode cX3_refuse 0 = .ok (.aload_n 0, 1)) rfl).to, ?_⟩
  refine List.forall_mem_cons.mpr ⟨(s_iloadn (by decide +kernel : decode cX3_refuse 1 = .ok (.iload_n 1, 1)) rfl).to, ?_⟩
  refine List.forall_mem_cons.mpr ⟨(s_aloadn (by decide +kernel : decode cX3_refuse 2 = .ok (.aload_n 0, 1)) rfl).to, ?_⟩
  refine List.forall_mem_cons.mpr ⟨(s_get (ci := 3) (k := 7) (by decide +kernel : decode cX3_refuse 3 = .ok (.getfield 54, 3)) rfl (by decide) wd439 inX3 rfl).to, ?_⟩
  refine List.forall_mem_cons.mpr ⟨z_cv (by decide +kernel : decode cX3_refuse 6 = .ok (.invokevirtual 67, 3)) mt38 wd669 (ci := 3) rfl (by decide), ?_⟩
  refine List.forall_mem_cons.mpr ⟨s_vret (by decide +kernel : decode cX3_refuse 9 = .ok (.return_, 1)) rfl, ?_⟩
  exact fun _ h => absurd h List.not_mem_nil
theorem sn_tX3_isSign : ∀ q ∈ tX3_isSign, am_Snd am_P0 RX3 cX3_isSign 2 (Option.some FieldType.boolean) "isSign" q.1 q.2 := by
  unfold tX3_isSign
  refine List.forall_mem_cons.mpr ⟨(s_aloadn (by decide +kernel : decode cX3_isSign 0 = .ok (.aload_n 0, 1)) rfl).to, ?_⟩
  refine List.forall_mem_cons.mpr ⟨(s_get (ci := 3) (k := 4) (by decide +kernel : decode cX3_isSign 1 = .ok (.getfield 48, 3)) rfl (by decide) wd432 inX3 rfl).to, ?_⟩
  refine List.forall_mem_cons.mpr ⟨(s_iconst (by decide +kernel : decode cX3_isSign 4 = .ok (.iconst 3, 1)) (by decide)).to, ?_⟩
  refine List.forall_mem_cons.mpr ⟨(s_icmp_ne (by decide +kernel : decode cX3_isSign 5 = .ok (.if_icmp .ne 15, 3)) (by decide)).to, ?_⟩
  refine List.forall_mem_cons.mpr ⟨(s_aloadn (by decide +kernel : decode cX3_isSign 8 = .ok (.aload_n 0, 1)) rfl).to, ?_⟩
  refine List.forall_mem_cons.mpr ⟨(s_get (ci := 3) (k := 5) (by decide +kernel : decode cX3_isSign 9 = .ok (.getfield 57, 3)) rfl (by decide) wd435 inX3 rfl).to, ?_⟩
  refine List.forall_mem_cons.mpr ⟨(s_iloadn (by decide +kernel : decode cX3_isSign 12 = .ok (.iload_n 1, 1)) rfl).to, ?_⟩
  refine List.forall_mem_cons.mpr ⟨(s_icmp_ne (by decide +kernel : decode cX3_isSign 13 = .ok (.if_icmp .ne 7, 3)) (by decide)).to, ?_⟩
  refine List.forall_mem_cons.mpr ⟨(s_iconst (by decide +kernel : decode cX3_isSign 16 = .ok (.iconst 1, 1)) (by decide)).to, ?_⟩
  refine List.forall_mem_cons.mpr ⟨(s_goto (by decide +kernel : decode cX3_isSign 17 = .ok (.goto 4, 3)) (by decide)).to, ?_⟩
  refine List.forall_mem_cons.mpr ⟨(s_iconst (by decide +kernel : decode cX3_isSign 20 = .ok (.iconst 0, 1)) (by decide)).to, ?_⟩
  refine List.forall_mem_cons.mpr ⟨s_zret (by decide +kernel : decode cX3_isSign 21 = .ok (.ireturn, 1)) rfl, ?_⟩
  exact fun _ h => absurd h List.not_mem_nil
theorem sn_tX3_takeSign : ∀ q ∈ tX3_takeSign, am_Snd am_P0 RX3 cX3_takeSign 2 (Option.none : Option FieldType) "takeSign" q.1 q.2 := by
  unfold tX3_takeSign
  refine List.forall_mem_cons.mpr ⟨(s_aloadn (by decide +kernel : decode cX3_takeSign 0 = .ok (.aload_n 0, 1)) rfl).to, ?_⟩
  refine List.forall_mem_cons.mpr ⟨(s_iloadn (by decide +kernel : decode cX3_takeSign 1 = .ok (.iload_n 1, 1)) rfl).to, ?_⟩
  refine List.forall_mem_cons.mpr ⟨z_cv (by decide +kernel : decode cX3_takeSign 2 = .ok (.invokevirtual 74, 3)) mt40 wd743 (ci := 3) rfl (by decide), ?_⟩
  refine List.forall_mem_cons.mpr ⟨(s_if_eq (by decide +kernel : decode cX3_takeSign 5 = .ok (.ifCond .eq 10, 3)) (by decide)).to, ?_⟩
  refine List.forall_mem_cons.mpr ⟨(s_aloadn (by decide +kernel : decode cX3_takeSign 8 = .ok (.aload_n 0, 1)) rfl).to, ?_⟩
  refine List.forall_mem_cons.mpr ⟨z_cv (by decide +kernel : decode cX3_takeSign 9 = .ok (.invokevirtual 51, 3)) mt35 wd662 (ci := 3) rfl (by decide), ?_⟩
  refine List.forall_mem_cons.mpr ⟨(s_goto (by decide +kernel : decode cX3_takeSign 12 = .ok (.goto 8, 3)) (by decide)).to, ?_⟩
  refine List.forall_mem_cons.mpr ⟨(s_aloadn (by decide +kernel : decode cX3_takeSign 15 = .ok (.aload_n 0, 1)) rfl).to, ?_⟩
  refine List.forall_mem_cons.mpr ⟨(s_iconst (by decide +kernel : decode cX3_takeSign 16 = .ok (.iconst 1, 1)) (by decide)).to, ?_⟩
  refine List.forall_mem_cons.mpr ⟨z_cv (by decide +kernel : decode cX3_takeSign 17 = .ok (.invokevirtual 78, 3)) mt39 wd698 (ci := 3) rfl (by decide), ?_⟩
  refine List.forall_mem_cons.mpr ⟨s_vret (by decide +kernel : decode cX3_takeSign 20 = .ok (.return_, 1)) rfl, ?_⟩
  exact fun _ h => absurd h List.not_mem_nil
theorem sn_tX3_takeWord : ∀ q ∈ tX3_takeWord, am_Snd am_P0 RX3 cX3_takeWord 2 (Option.none : Option FieldType) "takeWord" q.1 q.2 := by
  unfold tX3_takeWord
  refine List.forall_mem_cons.mpr ⟨(s_aloadn (by decide +kernel : decode cX3_takeWord 0 = .ok (.aload_n 0, 1)) rfl).to, ?_⟩
  refine List.forall_mem_cons.mpr ⟨(s_get (ci := 3) (k := 6) (by decide +kernel : decode cX3_takeWord 1 = .ok (.getfield 60, 3)) rfl (by decide) wd438 inX3 rfl).to, ?_⟩
  refine List.forall_mem_cons.mpr ⟨(s_iloadn (by decide +kernel : decode cX3_takeWord 4 = .ok (.iload_n 1, 1)) rfl).to, ?_⟩
  refine List.forall_mem_cons.mpr ⟨(s_icmp_ne (by decide +kernel : decode cX3_takeWord 5 = .ok (.if_icmp .ne 10, 3)) (by decide)).to, ?_⟩
  refine List.forall_mem_cons.mpr ⟨(s_aloadn (by decide +kernel : decode cX3_takeWord 8 = .ok (.aload_n 0, 1)) rfl).to, ?_⟩
  refine List.forall_mem_cons.mpr ⟨z_cv (by decide +kernel : decode cX3_takeWord 9 = .ok (.invokevirtual 51, 3)) mt35 wd662 (ci := 3) rfl (by decide), ?_⟩
  refine List.forall_mem_cons.mpr ⟨(s_goto (by decide +kernel : decode cX3_takeWord 12 = .ok (.goto 8, 3)) (by decide)).to, ?_⟩
  refine List.forall_mem_cons.mpr ⟨(s_aloadn (by decide +kernel : decode cX3_takeWord 15 = .ok (.aload_n 0, 1)) rfl).to, ?_⟩
  refine List.forall_mem_cons.mpr ⟨(s_iconst (by decide +kernel : decode cX3_takeWord 16 = .ok (.iconst 1, 1)) (by decide)).to, ?_⟩
  refine List.forall_mem_cons.mpr ⟨z_cv (by decide +kernel : decode cX3_takeWord 17 = .ok (.invokevirtual 78, 3)) mt39 wd698 (ci := 3) rfl (by decide), ?_⟩
  refine List.forall_mem_cons.mpr ⟨s_vret (by decide +kernel : decode cX3_takeWord 20 = .ok (.return_, 1)) rfl, ?_⟩
  exact fun _ h => absurd h List.not_mem_nil
theorem sn_tX3_checkNumber : ∀ q ∈ tX3_checkNumber, am_Snd am_P0 RX3 cX3_checkNumber 3 (Option.some FieldType.boolean) "checkNumber" q.1 q.2 := by
  unfold tX3_checkNumber
  refine List.forall_mem_cons.mpr ⟨(s_aloadn (by decide +kernel : decode cX3_checkNumber 0 = .ok (.aload_n 0, 1)) rfl).to, ?_⟩
  refine List.forall_mem_cons.mpr ⟨(s_get (ci := 3) (k := 4) (by decide +kernel : decode cX3_checkNumber 1 = .ok (.getfield 48, 3)) rfl (by decide) wd432 inX3 rfl).to, ?_⟩
  refine List.forall_mem_cons.mpr ⟨(s_iconst (by decide +kernel : decode cX3_checkNumber 4 = .ok (.iconst 2, 1)) (by decide)).to, ?_⟩
  refine List.forall_mem_cons.mpr ⟨(s_icmp_eq (by decide +kernel : decode cX3_checkNumber 5 = .ok (.if_icmp .eq 10, 3)) (by decide)).to, ?_⟩
  refine List.forall_mem_cons.mpr ⟨(s_aloadn (by decide +kernel : decode cX3_checkNumber 8 = .ok (.aload_n 0, 1)) rfl).to, ?_⟩
  refine List.forall_mem_cons.mpr ⟨(s_iconst (by decide +kernel : decode cX3_checkNumber 9 = .ok (.iconst 1, 1)) (by decide)).to, ?_⟩
  refine List.forall_mem_cons.mpr ⟨z_cv (by decide +kernel : decode cX3_checkNumber 10 = .ok (.invokevirtual 78, 3)) mt39 wd698 (ci := 3) rfl (by decide), ?_⟩
  refine List.forall_mem_cons.mpr ⟨(s_iconst (by decide +kernel : decode cX3_checkNumber 13 = .ok (.iconst 0, 1)) (by decide)).to, ?_⟩
  refine List.forall_mem_cons.mpr ⟨s_zret (by decide +kernel : decode cX3_checkNumber 14 = .ok (.ireturn, 1)) rfl, ?_⟩
  refine List.forall_mem_cons.mpr ⟨(s_aloadn (by decide +kernel : decode cX3_checkNumber 15 = .ok (.aload_n 0, 1)) rfl).to, ?_⟩
  refine List.forall_mem_cons.mpr ⟨(s_get (ci := 3) (k := 5) (by decide +kernel : decode cX3_checkNumber 16 = .ok (.getfield 57, 3)) rfl (by decide) wd435 inX3 rfl).to, ?_⟩
  refine List.forall_mem_cons.mpr ⟨(s_iloadn (by decide +kernel : decode cX3_checkNumber 19 = .ok (.iload_n 1, 1)) rfl).to, ?_⟩
  refine List.forall_mem_cons.mpr ⟨(s_icmp_lt (by decide +kernel : decode cX3_checkNumber 20 = .ok (.if_icmp .lt 11, 3)) (by decide)).to, ?_⟩
  refine List.forall_mem_cons.mpr ⟨(s_aloadn (by decide +kernel : decode cX3_checkNumber 23 = .ok (.aload_n 0, 1)) rfl).to, ?_⟩
  refine List.forall_mem_cons.mpr ⟨(s_get (ci := 3) (k := 5) (by decide +kernel : decode cX3_checkNumber 24 = .ok (.getfield 57, 3)) rfl (by decide) wd435 inX3 rfl).to, ?_⟩
  refine List.forall_mem_cons.mpr ⟨(s_iloadn (by decide +kernel : decode cX3_checkNumber 27 = .ok (.iload_n 2, 1)) rfl).to, ?_⟩
  refine List.forall_mem_cons.mpr ⟨(s_icmp_le (by decide +kernel : decode cX3_checkNumber 28 = .ok (.if_icmp .le 10, 3)) (by decide)).to, ?_⟩
  refine List.forall_mem_cons.mpr ⟨(s_aloadn (by decide +kernel : decode cX3_checkNumber 31 = .ok (.aload_n 0, 1)) rfl).to, ?_⟩
  refine List.forall_mem_cons.mpr ⟨(s_iconst (by decide +kernel : decode cX3_checkNumber 32 = .ok (.iconst 4, 1)) (by decide)).to, ?_⟩
  refine List.forall_mem_cons.mpr ⟨z_cv (by decide +kernel : decode cX3_checkNumber 33 = .ok (.invokevirtual 78, 3)) mt39 wd698 (ci := 3) rfl (by decide), ?_⟩
  refine List.forall_mem_cons.mpr ⟨(s_iconst (by decide +kernel : decode cX3_checkNumber 36 = .ok (.iconst 0, 1)) (by decide)).to, ?_⟩
  refine List.forall_mem_cons.mpr ⟨s_zret (by decide +kernel : decode cX3_checkNumber 37 = .ok (.ireturn, 1)) rfl, ?_⟩
  refine List.forall_mem_cons.mpr ⟨(s_iconst (by decide +kernel : decode cX3_checkNumber 38 = .ok (.iconst 1, 1)) (by decide)).to, ?_⟩
  refine List.forall_mem_cons.mpr ⟨s_zret (by decide +kernel : decode cX3_checkNumber 39 = .ok (.ireturn, 1)) rfl, ?_⟩
  exact fun _ h => absurd h List.not_mem_nil
theorem sn_tX3_takeNumber : ∀ q ∈ tX3_takeNumber, am_Snd am_P0 RX3 cX3_takeNumber 4 (Option.some FieldType.int) "takeNumber" q.1 q.2 := by
  unfold tX3_takeNumber
  refine List.forall_mem_cons.mpr ⟨(s_aloadn (by decide +kernel : decode cX3_takeNumber 0 = .ok (.aload_n 0, 1)) rfl).to, ?_⟩
  refine List.forall_mem_cons.mpr ⟨(s_iloadn (by decide +kernel : decode cX3_takeNumber 1 = .ok (.iload_n 1, 1)) rfl).to, ?_⟩
  refine List.forall_mem_cons.mpr ⟨(s_iloadn (by decide +kernel : decode cX3_takeNumber 2 = .ok (.iload_n 2, 1)) rfl).to, ?_⟩
  refine List.forall_mem_cons.mpr ⟨z_cv (by decide +kernel : decode cX3_takeNumber 3 = .ok (.invokevirtual 82, 3)) mt43 wd694 (ci := 3) rfl (by decide), ?_⟩
  refine List.forall_mem_cons.mpr ⟨(s_if_ne (by decide +kernel : decode cX3_takeNumber 6 = .ok (.ifCond .ne 5, 3)) (by decide)).to, ?_⟩
  refine List.forall_mem_cons.mpr ⟨(s_iloadn (by decide +kernel : decode cX3_takeNumber 9 = .ok (.iload_n 1, 1)) rfl).to, ?_⟩
  refine List.forall_mem_cons.mpr ⟨s_iret (by decide +kernel : decode cX3_takeNumber 10 = .ok (.ireturn, 1)) rfl, ?_⟩
  refine List.forall_mem_cons.mpr ⟨(s_aloadn (by decide +kernel : decode cX3_takeNumber 11 = .ok (.aload_n 0, 1)) rfl).to, ?_⟩
  refine List.forall_mem_cons.mpr ⟨(s_get (ci := 3) (k := 5) (by decide +kernel : decode cX3_takeNumber 12 = .ok (.getfield 57, 3)) rfl (by decide) wd435 inX3 rfl).to, ?_⟩
  refine List.forall_mem_cons.mpr ⟨(s_istoren (by decide +kernel : decode cX3_takeNumber 15 = .ok (.istore_n 3, 1)) rfl (by decide)).to, ?_⟩
  refine List.forall_mem_cons.mpr ⟨(s_aloadn (by decide +kernel : decode cX3_takeNumber 16 = .ok (.aload_n 0, 1)) rfl).to, ?_⟩
  refine List.forall_mem_cons.mpr ⟨z_cv (by decide +kernel : decode cX3_takeNumber 17 = .ok (.invokevirtual 51, 3)) mt35 wd662 (ci := 3) rfl (by decide), ?_⟩
  refine List.forall_mem_cons.mpr ⟨(s_iloadn (by decide +kernel : decode cX3_takeNumber 20 = .ok (.iload_n 3, 1)) rfl).to, ?_⟩
  refine List.forall_mem_cons.mpr ⟨s_iret (by decide +kernel : decode cX3_takeNumber 21 = .ok (.ireturn, 1)) rfl, ?_⟩
  exact fun _ h => absurd h List.not_mem_nil
theorem sn_tX3_checkName : ∀ q ∈ tX3_checkName, am_Snd am_P0 RX3 cX3_checkName 1 (Option.some FieldType.boolean) "checkName" q.1 q.2 := by
  unfold tX3_checkName
  refine List.forall_mem_cons.mpr ⟨(s_aloadn (by decide +kernel : decode cX3_checkName 0 = .ok (.aload_n 0, 1)) rfl).to, ?_⟩
  refine List.forall_mem_cons.mpr ⟨(s_get (ci := 3) (k := 4) (by decide +kernel : decode cX3_checkName 1 = .ok (.getfield 48, 3)) rfl (by decide) wd432 inX3 rfl).to, ?_⟩
  refine List.forall_mem_cons.mpr ⟨(s_iconst (by decide +kernel : decode cX3_checkName 4 = .ok (.iconst 1, 1)) (by decide)).to, ?_⟩
  refine List.forall_mem_cons.mpr ⟨(s_icmp_ne (by decide +kernel : decode cX3_checkName 5 = .ok (.if_icmp .ne 11, 3)) (by decide)).to, ?_⟩
  refine List.forall_mem_cons.mpr ⟨(s_aloadn (by decide +kernel : decode cX3_checkName 8 = .ok (.aload_n 0, 1)) rfl).to, ?_⟩
  refine List.forall_mem_cons.mpr ⟨(s_get (ci := 3) (k := 6) (by decide +kernel : decode cX3_checkName 9 = .ok (.getfield 60, 3)) rfl (by decide) wd438 inX3 rfl).to, ?_⟩
  refine List.forall_mem_cons.mpr ⟨(s_iconst (by decide +kernel : decode cX3_checkName 12 = .ok (.iconst (-1), 1)) (by decide)).to, ?_⟩
  refine List.forall_mem_cons.mpr ⟨(s_icmp_eq (by decide +kernel : decode cX3_checkName 13 = .ok (.if_icmp .eq 10, 3)) (by decide)).to, ?_⟩
  refine List.forall_mem_cons.mpr ⟨(s_aloadn (by decide +kernel : decode cX3_checkName 16 = .ok (.aload_n 0, 1)) rfl).to, ?_⟩
  refine List.forall_mem_cons.mpr ⟨(s_iconst (by decide +kernel : decode cX3_checkName 17 = .ok (.iconst 1, 1)) (by decide)).to, ?_⟩
  refine List.forall_mem_cons.mpr ⟨z_cv (by decide +kernel : decode cX3_checkName 18 = .ok (.invokevirtual 78, 3)) mt39 wd698 (ci := 3) rfl (by decide), ?_⟩
  refine List.forall_mem_cons.mpr ⟨(s_iconst (by decide +kernel : decode cX3_checkName 21 = .ok (.iconst 0, 1)) (by decide)).to, ?_⟩
  refine List.forall_mem_cons.mpr ⟨s_zret (by decide +kernel : decode cX3_checkName 22 = .ok (.ireturn, 1)) rfl, ?_⟩
  refine List.forall_mem_cons.mpr ⟨(s_iconst (by decide +kernel : decode cX3_checkName 23 = .ok (.iconst 1, 1)) (by decide)).to, ?_⟩
  refine List.forall_mem_cons.mpr ⟨s_zret (by decide +kernel : decode cX3_checkName 24 = .ok (.ireturn, 1)) rfl, ?_⟩
  exact fun _ h => absurd h List.not_mem_nil
theorem sn_tX4_init : ∀ q ∈ tX4_init, am_Snd am_P0 RX4 cX4_init 2 (Option.none : Option FieldType) "<init>" q.1 q.2 := by
  unfold tX4_init
  refine List.forall_mem_cons.mpr ⟨(s_aloadn (by decide +kernel : decode cX4_init 0 = .ok (.aload_n 0, 1)) rfl).to, ?_⟩
  refine List.forall_mem_cons.mpr ⟨(s_obj (by decide +kernel : decode cX4_init 1 = .ok (.invokespecial 3, 3)) wd219 wd160 wd161).to, ?_⟩
  refine List.forall_mem_cons.mpr ⟨(s_aloadn (by decide +kernel : decode cX4_init 4 = .ok (.aload_n 0, 1)) rfl).to, ?_⟩
  refine List.forall_mem_cons.mpr ⟨(s_iloadn (by decide +kernel : decode cX4_init 5 = .ok (.iload_n 1, 1)) rfl).to, ?_⟩
  refine List.forall_mem_cons.mpr ⟨(s_newa (kd := 0) (ty := .int) (by decide +kernel : decode cX4_init 6 = .ok (.newarray .int, 2)) rfl rfl wd195 (by decide) (by decide) (fun _ _ h => h)).to, ?_⟩
  refine List.forall_mem_cons.mpr ⟨(s_putF (ci := 4) (k := 1) (by decide +kernel : decode cX4_init 8 = .ok (.putfield 9, 3)) rfl (by decide) wd222 inX4 tyX4_ok nmX4 rfl rfl rfl rfl).to, ?_⟩
  refine List.forall_mem_cons.mpr ⟨(s_aloadn (by decide +kernel : decode cX4_init 11 = .ok (.aload_n 0, 1)) rfl).to, ?_⟩
  refine List.forall_mem_cons.mpr ⟨(s_iloadn (by decide +kernel : decode cX4_init 12 = .ok (.iload_n 1, 1)) rfl).to, ?_⟩
  refine List.forall_mem_cons.mpr ⟨(s_newa (kd := 0) (ty := .int) (by decide +kernel : decode cX4_init 13 = .ok (.newarray .int, 2)) rfl rfl wd195 (by decide) (by decide) (fun _ _ h => h)).to, ?_⟩
  refine List.forall_mem_cons.mpr ⟨(s_putF (ci := 4) (k := 2) (by decide +kernel : decode cX4_init 15 = .ok (.putfield 15, 3)) rfl (by decide) wd223 inX4 tyX4_ok nmX4 rfl rfl rfl rfl).to, ?_⟩
  refine List.forall_mem_cons.mpr ⟨(s_aloadn (by decide +kernel : decode cX4_init 18 = .ok (.aload_n 0, 1)) rfl).to, ?_⟩
  refine List.forall_mem_cons.mpr ⟨(s_iloadn (by decide +kernel : decode cX4_init 19 = .ok (.iload_n 1, 1)) rfl).to, ?_⟩
  refine List.forall_mem_cons.mpr ⟨(s_newa (kd := 0) (ty := .int) (by decide +kernel : decode cX4_init 20 = .ok (.newarray .int, 2)) rfl rfl wd195 (by decide) (by decide) (fun _ _ h => h)).to, ?_⟩
  refine List.forall_mem_cons.mpr ⟨(s_putF (ci := 4) (k := 3) (by decide +kernel : decode cX4_init 22 = .ok (.putfield 18, 3)) rfl (by decide) wd224 inX4 tyX4_ok nmX4 rfl rfl rfl rfl).to, ?_⟩
  refine List.forall_mem_cons.mpr ⟨s_vret (by decide +kernel : decode cX4_init 25 = .ok (.return_, 1)) rfl, ?_⟩
  exact fun _ h => absurd h List.not_mem_nil
theorem sn_tX4_isFull : ∀ q ∈ tX4_isFull, am_Snd am_P0 RX4 cX4_isFull 1 (Option.some FieldType.boolean) "isFull" q.1 q.2 := by
  unfold tX4_isFull
  refine List.forall_mem_cons.mpr ⟨(s_aloadn (by decide +kernel : decode cX4_isFull 0 = .ok (.aload_n 0, 1)) rfl).to, ?_⟩
  refine List.forall_mem_cons.mpr ⟨(s_get (ci := 4) (k := 0) (by decide +kernel : decode cX4_isFull 1 = .ok (.getfield 21, 3)) rfl (by decide) wd220 inX4 rfl).to, ?_⟩
  refine List.forall_mem_cons.mpr ⟨(s_aloadn (by decide +kernel : decode cX4_isFull 4 = .ok (.aload_n 0, 1)) rfl).to, ?_⟩
  refine List.forall_mem_cons.mpr ⟨(s_get (ci := 4) (k := 1) (by decide +kernel : decode cX4_isFull 5 = .ok (.getfield 9, 3)) rfl (by decide) wd222 inX4 rfl).to, ?_⟩
  refine List.forall_mem_cons.mpr ⟨(s_len (by decide +kernel : decode cX4_isFull 8 = .ok (.arraylength, 1))).to, ?_⟩
  refine List.forall_mem_cons.mpr ⟨(s_icmp_lt (by decide +kernel : decode cX4_isFull 9 = .ok (.if_icmp .lt 7, 3)) (by decide)).to, ?_⟩
  refine List.forall_mem_cons.mpr ⟨(s_iconst (by decide +kernel : decode cX4_isFull 12 = .ok (.iconst 1, 1)) (by decide)).to, ?_⟩
  refine List.forall_mem_cons.mpr ⟨(s_goto (by decide +kernel : decode cX4_isFull 13 = .ok (.goto 4, 3)) (by decide)).to, ?_⟩
  refine List.forall_mem_cons.mpr ⟨(s_iconst (by decide +kernel : decode cX4_isFull 16 = .ok (.iconst 0, 1)) (by decide)).to, ?_⟩
  refine List.forall_mem_cons.mpr ⟨s_zret (by decide +kernel : decode cX4_isFull 17 = .ok (.ireturn, 1)) rfl, ?_⟩
  exact fun _ h => absurd h List.not_mem_nil
theorem sn_tX4_append : ∀ q ∈ tX4_append, am_Snd am_P0 RX4 cX4_append 4 (Option.none : Option FieldType) "append" q.1 q.2 := by
  unfold tX4_append
  refine List.forall_mem_cons.mpr ⟨(s_aloadn (by decide +kernel : decode cX4_append 0 = .ok (.aload_n 0, 1)) rfl).to, ?_⟩
  refine List.forall_mem_cons.mpr ⟨z_cv (by decide +kernel : decode cX4_append 1 = .ok (.invokevirtual 25, 3)) mt47 wd776 (ci := 4) rfl (by decide), ?_⟩
  refine List.forall_mem_cons.mpr ⟨(s_if_ne (by decide +kernel : decode cX4_append 4 = .ok (.ifCond .ne 43, 3)) (by decide)).to, ?_⟩
  refine List.forall_mem_cons.mpr ⟨(s_aloadn (by decide +kernel : decode cX4_append 7 = .ok (.aload_n 0, 1)) rfl).to, ?_⟩
  refine List.forall_mem_cons.mpr ⟨(s_get (ci := 4) (k := 1) (by decide +kernel : decode cX4_append 8 = .ok (.getfield 9, 3)) rfl (by decide) wd222 inX4 rfl).to, ?_⟩
  refine List.forall_mem_cons.mpr ⟨(s_aloadn (by decide +kernel : decode cX4_append 11 = .ok (.aload_n 0, 1)) rfl).to, ?_⟩
  refine List.forall_mem_cons.mpr ⟨(s_get (ci := 4) (k := 0) (by decide +kernel : decode cX4_append 12 = .ok (.getfield 21, 3)) rfl (by decide) wd220 inX4 rfl).to, ?_⟩
  refine List.forall_mem_cons.mpr ⟨(s_iloadn (by decide +kernel : decode cX4_append 15 = .ok (.iload_n 1, 1)) rfl).to, ?_⟩
  refine List.forall_mem_cons.mpr ⟨(s_iast (by decide +kernel : decode cX4_append 16 = .ok (.iastore, 1))).to, ?_⟩
  refine List.forall_mem_cons.mpr ⟨(s_aloadn (by decide +kernel : decode cX4_append 17 = .ok (.aload_n 0, 1)) rfl).to, ?_⟩
  refine List.forall_mem_cons.mpr ⟨(s_get (ci := 4) (k := 2) (by decide +kernel : decode cX4_append 18 = .ok (.getfield 15, 3)) rfl (by decide) wd223 inX4 rfl).to, ?_⟩
  refine List.forall_mem_cons.mpr ⟨(s_aloadn (by decide +kernel : decode cX4_append 21 = .ok (.aload_n 0, 1)) rfl).to, ?_⟩
  refine List.forall_mem_cons.mpr ⟨(s_get (ci := 4) (k := 0) (by decide +kernel : decode cX4_append 22 = .ok (.getfield 21, 3)) rfl (by decide) wd220 inX4 rfl).to, ?_⟩
  refine List.forall_mem_cons.mpr ⟨(s_iloadn (by decide +kernel : decode cX4_append 25 = .ok (.iload_n 2, 1)) rfl).to, ?_⟩
  refine List.forall_mem_cons.mpr ⟨(s_iast (by decide +kernel : decode cX4_append 26 = .ok (.iastore, 1))).to, ?_⟩
  refine List.forall_mem_cons.mpr ⟨(s_aloadn (by decide +kernel : decode cX4_append 27 = .ok (.aload_n 0, 1)) rfl).to, ?_⟩
  refine List.forall_mem_cons.mpr ⟨(s_get (ci := 4) (k := 3) (by decide +kernel : decode cX4_append 28 = .ok (.getfield 18, 3)) rfl (by decide) wd224 inX4 rfl).to, ?_⟩
  refine List.forall_mem_cons.mpr ⟨(s_aloadn (by decide +kernel : decode cX4_append 31 = .ok (.aload_n 0, 1)) rfl).to, ?_⟩
  refine List.forall_mem_cons.mpr ⟨(s_get (ci := 4) (k := 0) (by decide +kernel : decode cX4_append 32 = .ok (.getfield 21, 3)) rfl (by decide) wd220 inX4 rfl).to, ?_⟩
  refine List.forall_mem_cons.mpr ⟨(s_iloadn (by decide +kernel : decode cX4_append 35 = .ok (.iload_n 3, 1)) rfl).to, ?_⟩
  refine List.forall_mem_cons.mpr ⟨(s_iast (by decide +kernel : decode cX4_append 36 = .ok (.iastore, 1))).to, ?_⟩
  refine List.forall_mem_cons.mpr ⟨(s_aloadn (by decide +kernel : decode cX4_append 37 = .ok (.aload_n 0, 1)) rfl).to, ?_⟩
  refine List.forall_mem_cons.mpr ⟨(s_dup (by decide +kernel : decode cX4_append 38 = .ok (.dup, 1))).to, ?_⟩
  refine List.forall_mem_cons.mpr ⟨(s_get (ci := 4) (k := 0) (by decide +kernel : decode cX4_append 39 = .ok (.getfield 21, 3)) rfl (by decide) wd220 inX4 rfl).to, ?_⟩
  refine List.forall_mem_cons.mpr ⟨(s_iconst (by decide +kernel : decode cX4_append 42 = .ok (.iconst 1, 1)) (by decide)).to, ?_⟩
  refine List.forall_mem_cons.mpr ⟨(s_iadd (by decide +kernel : decode cX4_append 43 = .ok (.iadd, 1))).to, ?_⟩
  refine List.forall_mem_cons.mpr ⟨(s_put (ci := 4) (k := 0) (by decide +kernel : decode cX4_append 44 = .ok (.putfield 21, 3)) rfl (by decide) wd220 inX4 tyX4_ok nmX4 rfl rfl).to, ?_⟩
  refine List.forall_mem_cons.mpr ⟨s_vret (by decide +kernel : decode cX4_append 47 = .ok (.return_, 1)) rfl, ?_⟩
  exact fun _ h => absurd h List.not_mem_nil
theorem sn_tX4_firstHolding : ∀ q ∈ tX4_firstHolding, am_Snd am_P0 RX4 cX4_firstHolding 6 (Option.some FieldType.int) "firstHolding" q.1 q.2 := by
  unfold tX4_firstHolding
  refine List.forall_mem_cons.mpr ⟨(s_iconst (by decide +kernel : decode cX4_firstHolding 0 = .ok (.iconst 0, 1)) (by decide)).to, ?_⟩
  refine List.forall_mem_cons.mpr ⟨(s_istore (by decide +kernel : decode cX4_firstHolding 1 = .ok (.istore 5, 2)) (by decide)).to, ?_⟩
  refine List.forall_mem_cons.mpr ⟨(s_iload (by decide +kernel : decode cX4_firstHolding 3 = .ok (.iload 5, 2))).to, ?_⟩
  refine List.forall_mem_cons.mpr ⟨(s_aloadn (by decide +kernel : decode cX4_firstHolding 5 = .ok (.aload_n 0, 1)) rfl).to, ?_⟩
  refine List.forall_mem_cons.mpr ⟨(s_get (ci := 4) (k := 0) (by decide +kernel : decode cX4_firstHolding 6 = .ok (.getfield 21, 3)) rfl (by decide) wd220 inX4 rfl).to, ?_⟩
  refine List.forall_mem_cons.mpr ⟨(s_icmp_ge (by decide +kernel : decode cX4_firstHolding 9 = .ok (.if_icmp .ge 37, 3)) (by decide)).to, ?_⟩
  refine List.forall_mem_cons.mpr ⟨(s_aloadn (by decide +kernel : decode cX4_firstHolding 12 = .ok (.aload_n 1, 1)) rfl).to, ?_⟩
  refine List.forall_mem_cons.mpr ⟨(s_aloadn (by decide +kernel : decode cX4_firstHolding 13 = .ok (.aload_n 0, 1)) rfl).to, ?_⟩
  refine List.forall_mem_cons.mpr ⟨(s_get (ci := 4) (k := 2) (by decide +kernel : decode cX4_firstHolding 14 = .ok (.getfield 15, 3)) rfl (by decide) wd223 inX4 rfl).to, ?_⟩
  refine List.forall_mem_cons.mpr ⟨(s_iload (by decide +kernel : decode cX4_firstHolding 17 = .ok (.iload 5, 2))).to, ?_⟩
  refine List.forall_mem_cons.mpr ⟨(s_iald (by decide +kernel : decode cX4_firstHolding 19 = .ok (.iaload, 1))).to, ?_⟩
  refine List.forall_mem_cons.mpr ⟨(s_aloadn (by decide +kernel : decode cX4_firstHolding 20 = .ok (.aload_n 0, 1)) rfl).to, ?_⟩
  refine List.forall_mem_cons.mpr ⟨(s_get (ci := 4) (k := 3) (by decide +kernel : decode cX4_firstHolding 21 = .ok (.getfield 18, 3)) rfl (by decide) wd224 inX4 rfl).to, ?_⟩
  refine List.forall_mem_cons.mpr ⟨(s_iload (by decide +kernel : decode cX4_firstHolding 24 = .ok (.iload 5, 2))).to, ?_⟩
  refine List.forall_mem_cons.mpr ⟨(s_iald (by decide +kernel : decode cX4_firstHolding 26 = .ok (.iaload, 1))).to, ?_⟩
  refine List.forall_mem_cons.mpr ⟨(s_iloadn (by decide +kernel : decode cX4_firstHolding 27 = .ok (.iload_n 2, 1)) rfl).to, ?_⟩
  refine List.forall_mem_cons.mpr ⟨(s_iloadn (by decide +kernel : decode cX4_firstHolding 28 = .ok (.iload_n 3, 1)) rfl).to, ?_⟩
  refine List.forall_mem_cons.mpr ⟨(s_iload (by decide +kernel : decode cX4_firstHolding 29 = .ok (.iload 4, 2))).to, ?_⟩
  refine List.forall_mem_cons.mpr ⟨z_cv (by decide +kernel : decode cX4_firstHolding 31 = .ok (.invokevirtual 29, 3)) mt2 wd861 (ci := 0) rfl (by decide), ?_⟩
  refine List.forall_mem_cons.mpr ⟨(s_if_eq (by decide +kernel : decode cX4_firstHolding 34 = .ok (.ifCond .eq 6, 3)) (by decide)).to, ?_⟩
  refine List.forall_mem_cons.mpr ⟨(s_iload (by decide +kernel : decode cX4_firstHolding 37 = .ok (.iload 5, 2))).to, ?_⟩
  refine List.forall_mem_cons.mpr ⟨s_iret (by decide +kernel : decode cX4_firstHolding 39 = .ok (.ireturn, 1)) rfl, ?_⟩
  refine List.forall_mem_cons.mpr ⟨(s_iinc (by decide +kernel : decode cX4_firstHolding 40 = .ok (.iinc 5 1, 3)) (by decide) (by decide)).to, ?_⟩
  refine List.forall_mem_cons.mpr ⟨(s_goto (by decide +kernel : decode cX4_firstHolding 43 = .ok (.goto (-40), 3)) (by decide)).to, ?_⟩
  refine List.forall_mem_cons.mpr ⟨(s_iconst (by decide +kernel : decode cX4_firstHolding 46 = .ok (.iconst (-1), 1)) (by decide)).to, ?_⟩
  refine List.forall_mem_cons.mpr ⟨s_iret (by decide +kernel : decode cX4_firstHolding 47 = .ok (.ireturn, 1)) rfl, ?_⟩
  exact fun _ h => absurd h List.not_mem_nil
theorem sn_tX4_firstSum : ∀ q ∈ tX4_firstSum, am_Snd am_P0 RX4 cX4_firstSum 6 (Option.some FieldType.int) "firstSum" q.1 q.2 := by
  unfold tX4_firstSum
  refine List.forall_mem_cons.mpr ⟨(s_aloadn (by decide +kernel : decode cX4_firstSum 0 = .ok (.aload_n 0, 1)) rfl).to, ?_⟩
  refine List.forall_mem_cons.mpr ⟨(s_aloadn (by decide +kernel : decode cX4_firstSum 1 = .ok (.aload_n 1, 1)) rfl).to, ?_⟩
  refine List.forall_mem_cons.mpr ⟨(s_iloadn (by decide +kernel : decode cX4_firstSum 2 = .ok (.iload_n 2, 1)) rfl).to, ?_⟩
  refine List.forall_mem_cons.mpr ⟨(s_iconst (by decide +kernel : decode cX4_firstSum 3 = .ok (.iconst 0, 1)) (by decide)).to, ?_⟩
  refine List.forall_mem_cons.mpr ⟨(s_iloadn (by decide +kernel : decode cX4_firstSum 4 = .ok (.iload_n 3, 1)) rfl).to, ?_⟩
  refine List.forall_mem_cons.mpr ⟨z_cv (by decide +kernel : decode cX4_firstSum 5 = .ok (.invokevirtual 35, 3)) mt49 wd857 (ci := 4) rfl (by decide), ?_⟩
  refine List.forall_mem_cons.mpr ⟨(s_istore (by decide +kernel : decode cX4_firstSum 8 = .ok (.istore 4, 2)) (by decide)).to, ?_⟩
  refine List.forall_mem_cons.mpr ⟨(s_iload (by decide +kernel : decode cX4_firstSum 10 = .ok (.iload 4, 2))).to, ?_⟩
  refine List.forall_mem_cons.mpr ⟨(s_iconst (by decide +kernel : decode cX4_firstSum 12 = .ok (.iconst (-1), 1)) (by decide)).to, ?_⟩
  refine List.forall_mem_cons.mpr ⟨(s_icmp_ne (by decide +kernel : decode cX4_firstSum 13 = .ok (.if_icmp .ne 5, 3)) (by decide)).to, ?_⟩
  refine List.forall_mem_cons.mpr ⟨(s_iconst (by decide +kernel : decode cX4_firstSum 16 = .ok (.iconst 0, 1)) (by decide)).to, ?_⟩
  refine List.forall_mem_cons.mpr ⟨s_iret (by decide +kernel : decode cX4_firstSum 17 = .ok (.ireturn, 1)) rfl, ?_⟩
  refine List.forall_mem_cons.mpr ⟨(s_aloadn (by decide +kernel : decode cX4_firstSum 18 = .ok (.aload_n 1, 1)) rfl).to, ?_⟩
  refine List.forall_mem_cons.mpr ⟨(s_aloadn (by decide +kernel : decode cX4_firstSum 19 = .ok (.aload_n 0, 1)) rfl).to, ?_⟩
  refine List.forall_mem_cons.mpr ⟨(s_get (ci := 4) (k := 1) (by decide +kernel : decode cX4_firstSum 20 = .ok (.getfield 9, 3)) rfl (by decide) wd222 inX4 rfl).to, ?_⟩
  refine List.forall_mem_cons.mpr ⟨(s_iload (by decide +kernel : decode cX4_firstSum 23 = .ok (.iload 4, 2))).to, ?_⟩
  refine List.forall_mem_cons.mpr ⟨(s_iald (by decide +kernel : decode cX4_firstSum 25 = .ok (.iaload, 1))).to, ?_⟩
  refine List.forall_mem_cons.mpr ⟨(s_aloadn (by decide +kernel : decode cX4_firstSum 26 = .ok (.aload_n 0, 1)) rfl).to, ?_⟩
  refine List.forall_mem_cons.mpr ⟨(s_get (ci := 4) (k := 2) (by decide +kernel : decode cX4_firstSum 27 = .ok (.getfield 15, 3)) rfl (by decide) wd223 inX4 rfl).to, ?_⟩
  refine List.forall_mem_cons.mpr ⟨(s_iload (by decide +kernel : decode cX4_firstSum 30 = .ok (.iload 4, 2))).to, ?_⟩
  refine List.forall_mem_cons.mpr ⟨(s_iald (by decide +kernel : decode cX4_firstSum 32 = .ok (.iaload, 1))).to, ?_⟩
  refine List.forall_mem_cons.mpr ⟨(s_iloadn (by decide +kernel : decode cX4_firstSum 33 = .ok (.iload_n 2, 1)) rfl).to, ?_⟩
  refine List.forall_mem_cons.mpr ⟨(s_iconst (by decide +kernel : decode cX4_firstSum 34 = .ok (.iconst 0, 1)) (by decide)).to, ?_⟩
  refine List.forall_mem_cons.mpr ⟨(s_iloadn (by decide +kernel : decode cX4_firstSum 35 = .ok (.iload_n 3, 1)) rfl).to, ?_⟩
  refine List.forall_mem_cons.mpr ⟨z_cv (by decide +kernel : decode cX4_firstSum 36 = .ok (.invokevirtual 29, 3)) mt2 wd861 (ci := 0) rfl (by decide), ?_⟩
  refine List.forall_mem_cons.mpr ⟨(s_istore (by decide +kernel : decode cX4_firstSum 39 = .ok (.istore 5, 2)) (by decide)).to, ?_⟩
  refine List.forall_mem_cons.mpr ⟨(s_iconst (by decide +kernel : decode cX4_firstSum 41 = .ok (.iconst 0, 1)) (by decide)).to, ?_⟩
  refine List.forall_mem_cons.mpr ⟨(s_bipush (by decide +kernel : decode cX4_firstSum 42 = .ok (.bipush 99, 2)) (by decide)).to, ?_⟩
  refine List.forall_mem_cons.mpr ⟨(s_iload (by decide +kernel : decode cX4_firstSum 44 = .ok (.iload 5, 2))).to, ?_⟩
  refine List.forall_mem_cons.mpr ⟨z_cs (by decide +kernel : decode cX4_firstSum 46 = .ok (.invokestatic 39, 3)) mt309 wd885, ?_⟩
  refine List.forall_mem_cons.mpr ⟨z_cs (by decide +kernel : decode cX4_firstSum 49 = .ok (.invokestatic 45, 3)) mt307 wd886, ?_⟩
  refine List.forall_mem_cons.mpr ⟨s_iret (by decide +kernel : decode cX4_firstSum 52 = .ok (.ireturn, 1)) rfl, ?_⟩
  exact fun _ h => absurd h List.not_mem_nil
theorem sn_tX5_init_0 : ∀ q ∈ tX5_init_0, am_Snd am_P0 RX5 cX5_init 2 (Option.none : Option FieldType) "<init>" q.1 q.2 := by
  unfold tX5_init_0
  refine List.forall_mem_cons.mpr ⟨(s_aloadn (by decide +kernel : decode cX5_init 0 = .ok (.aload_n 0, 1)) rfl).to, ?_⟩
  refine List.forall_mem_cons.mpr ⟨(s_obj (by decide +kernel : decode cX5_init 1 = .ok (.invokespecial 3, 3)) wd167 wd160 wd161).to, ?_⟩
  refine List.forall_mem_cons.mpr ⟨(s_aloadn (by decide +kernel : decode cX5_init 4 = .ok (.aload_n 0, 1)) rfl).to, ?_⟩
  refine List.forall_mem_cons.mpr ⟨(s_bipush (by decide +kernel : decode cX5_init 5 = .ok (.bipush 10, 2)) (by decide)).to, ?_⟩
  refine List.forall_mem_cons.mpr ⟨(s_put (ci := 5) (k := 2) (by decide +kernel : decode cX5_init 7 = .ok (.putfield 9, 3)) rfl (by decide) wd311 inX5 tyX5_ok nmX5 rfl rfl).to, ?_⟩
  refine List.forall_mem_cons.mpr ⟨(s_aloadn (by decide +kernel : decode cX5_init 10 = .ok (.aload_n 0, 1)) rfl).to, ?_⟩
  refine List.forall_mem_cons.mpr ⟨(s_bipush (by decide +kernel : decode cX5_init 11 = .ok (.bipush 8, 2)) (by decide)).to, ?_⟩
  refine List.forall_mem_cons.mpr ⟨(s_newq (kd := 3) (by decide +kernel : decode cX5_init 13 = .ok (.anewarray 15, 3)) rfl wd168 (fun _ _ h => h.2.2.2.1)).to, ?_⟩
  refine List.forall_mem_cons.mpr ⟨(s_putF (ci := 5) (k := 4) (by decide +kernel : decode cX5_init 16 = .ok (.putfield 17, 3)) rfl (by decide) wd317 inX5 tyX5_ok nmX5 rfl rfl rfl rfl).to, ?_⟩
  refine List.forall_mem_cons.mpr ⟨(s_aloadn (by decide +kernel : decode cX5_init 19 = .ok (.aload_n 0, 1)) rfl).to, ?_⟩
  refine List.forall_mem_cons.mpr ⟨(s_new (ci := 7) (by decide +kernel : decode cX5_init 20 = .ok (.new 21, 3)) rfl wd170 wd171 wd136 inX7 tyX7_ok (by decide)).to, ?_⟩
  refine List.forall_mem_cons.mpr ⟨(s_dup (by decide +kernel : decode cX5_init 23 = .ok (.dup, 1))).to, ?_⟩
  refine List.forall_mem_cons.mpr ⟨z_cin (ci := 7) (by decide +kernel : decode cX5_init 24 = .ok (.invokespecial 23, 3)) mt70 wd172 rfl rfl, ?_⟩
  refine List.forall_mem_cons.mpr ⟨(s_putF (ci := 5) (k := 5) (by decide +kernel : decode cX5_init 27 = .ok (.putfield 24, 3)) rfl (by decide) wd320 inX5 tyX5_ok nmX5 rfl rfl rfl rfl).to, ?_⟩
  refine List.forall_mem_cons.mpr ⟨(s_aloadn (by decide +kernel : decode cX5_init 30 = .ok (.aload_n 0, 1)) rfl).to, ?_⟩
  refine List.forall_mem_cons.mpr ⟨(s_new (ci := 0) (by decide +kernel : decode cX5_init 31 = .ok (.new 28, 3)) rfl wd196 wd197 wd137 inX0 tyX0_ok (by decide)).to, ?_⟩
  refine List.forall_mem_cons.mpr ⟨(s_dup (by decide +kernel : decode cX5_init 34 = .ok (.dup, 1))).to, ?_⟩
  refine List.forall_mem_cons.mpr ⟨z_cin (ci := 0) (by decide +kernel : decode cX5_init 35 = .ok (.invokespecial 30, 3)) mt0 wd198 rfl rfl, ?_⟩
  refine List.forall_mem_cons.mpr ⟨(s_putF (ci := 5) (k := 6) (by decide +kernel : decode cX5_init 38 = .ok (.putfield 31, 3)) rfl (by decide) wd323 inX5 tyX5_ok nmX5 rfl rfl rfl rfl).to, ?_⟩
  refine List.forall_mem_cons.mpr ⟨(s_aloadn (by decide +kernel : decode cX5_init 41 = .ok (.aload_n 0, 1)) rfl).to, ?_⟩
  refine List.forall_mem_cons.mpr ⟨(s_new (ci := 4) (by decide +kernel : decode cX5_init 42 = .ok (.new 35, 3)) rfl wd214 wd215 wd138 inX4 tyX4_ok (by decide)).to, ?_⟩
  refine List.forall_mem_cons.mpr ⟨(s_dup (by decide +kernel : decode cX5_init 45 = .ok (.dup, 1))).to, ?_⟩
  refine List.forall_mem_cons.mpr ⟨(s_bipush (by decide +kernel : decode cX5_init 46 = .ok (.bipush 12, 2)) (by decide)).to, ?_⟩
  refine List.forall_mem_cons.mpr ⟨z_ci (ci := 4) (by decide +kernel : decode cX5_init 48 = .ok (.invokespecial 37, 3)) mt46 wd216 rfl rfl, ?_⟩
  refine List.forall_mem_cons.mpr ⟨(s_putF (ci := 5) (k := 7) (by decide +kernel : decode cX5_init 51 = .ok (.putfield 40, 3)) rfl (by decide) wd325 inX5 tyX5_ok nmX5 rfl rfl rfl rfl).to, ?_⟩
  refine List.forall_mem_cons.mpr ⟨(s_aloadn (by decide +kernel : decode cX5_init 54 = .ok (.aload_n 0, 1)) rfl).to, ?_⟩
  refine List.forall_mem_cons.mpr ⟨(s_new (ci := 4) (by decide +kernel : decode cX5_init 55 = .ok (.new 35, 3)) rfl wd214 wd215 wd138 inX4 tyX4_ok (by decide)).to, ?_⟩
  refine List.forall_mem_cons.mpr ⟨(s_dup (by decide +kernel : decode cX5_init 58 = .ok (.dup, 1))).to, ?_⟩
  refine List.forall_mem_cons.mpr ⟨(s_bipush (by decide +kernel : decode cX5_init 59 = .ok (.bipush 12, 2)) (by decide)).to, ?_⟩
  refine List.forall_mem_cons.mpr ⟨z_ci (ci := 4) (by decide +kernel : decode cX5_init 61 = .ok (.invokespecial 37, 3)) mt46 wd216 rfl rfl, ?_⟩
  refine List.forall_mem_cons.mpr ⟨(s_putF (ci := 5) (k := 8) (by decide +kernel : decode cX5_init 64 = .ok (.putfield 44, 3)) rfl (by decide) wd327 inX5 tyX5_ok nmX5 rfl rfl rfl rfl).to, ?_⟩
  refine List.forall_mem_cons.mpr ⟨(s_aloadn (by decide +kernel : decode cX5_init 67 = .ok (.aload_n 0, 1)) rfl).to, ?_⟩
  refine List.forall_mem_cons.mpr ⟨(s_new (ci := 4) (by decide +kernel : decode cX5_init 68 = .ok (.new 35, 3)) rfl wd214 wd215 wd138 inX4 tyX4_ok (by decide)).to, ?_⟩
  refine List.forall_mem_cons.mpr ⟨(s_dup (by decide +kernel : decode cX5_init 71 = .ok (.dup, 1))).to, ?_⟩
  refine List.forall_mem_cons.mpr ⟨(s_bipush (by decide +kernel : decode cX5_init 72 = .ok (.bipush 6, 2)) (by decide)).to, ?_⟩
  refine List.forall_mem_cons.mpr ⟨z_ci (ci := 4) (by decide +kernel : decode cX5_init 74 = .ok (.invokespecial 37, 3)) mt46 wd216 rfl rfl, ?_⟩
  refine List.forall_mem_cons.mpr ⟨(s_putF (ci := 5) (k := 9) (by decide +kernel : decode cX5_init 77 = .ok (.putfield 47, 3)) rfl (by decide) wd329 inX5 tyX5_ok nmX5 rfl rfl rfl rfl).to, ?_⟩
  refine List.forall_mem_cons.mpr ⟨(s_aloadn (by decide +kernel : decode cX5_init 80 = .ok (.aload_n 0, 1)) rfl).to, ?_⟩
  refine List.forall_mem_cons.mpr ⟨(s_sipush (by decide +kernel : decode cX5_init 81 = .ok (.sipush 256, 3)) (by decide)).to, ?_⟩
  refine List.forall_mem_cons.mpr ⟨(s_newa (kd := 0) (ty := .int) (by decide +kernel : decode cX5_init 84 = .ok (.newarray .int, 2)) rfl rfl wd195 (by decide) (by decide) (fun _ _ h => h)).to, ?_⟩
  refine List.forall_mem_cons.mpr ⟨(s_putF (ci := 5) (k := 10) (by decide +kernel : decode cX5_init 86 = .ok (.putfield 50, 3)) rfl (by decide) wd331 inX5 tyX5_ok nmX5 rfl rfl rfl rfl).to, ?_⟩
  refine List.forall_mem_cons.mpr ⟨(s_aloadn (by decide +kernel : decode cX5_init 89 = .ok (.aload_n 0, 1)) rfl).to, ?_⟩
  refine List.forall_mem_cons.mpr ⟨(s_sipush (by decide +kernel : decode cX5_init 90 = .ok (.sipush 256, 3)) (by decide)).to, ?_⟩
  refine List.forall_mem_cons.mpr ⟨(s_newa (kd := 0) (ty := .int) (by decide +kernel : decode cX5_init 93 = .ok (.newarray .int, 2)) rfl rfl wd195 (by decide) (by decide) (fun _ _ h => h)).to, ?_⟩
  refine List.forall_mem_cons.mpr ⟨(s_putF (ci := 5) (k := 11) (by decide +kernel : decode cX5_init 95 = .ok (.putfield 54, 3)) rfl (by decide) wd335 inX5 tyX5_ok nmX5 rfl rfl rfl rfl).to, ?_⟩
  refine List.forall_mem_cons.mpr ⟨(s_aloadn (by decide +kernel : decode cX5_init 98 = .ok (.aload_n 0, 1)) rfl).to, ?_⟩
  refine List.forall_mem_cons.mpr ⟨(s_sipush (by decide +kernel : decode cX5_init 99 = .ok (.sipush 192, 3)) (by decide)).to, ?_⟩
  refine List.forall_mem_cons.mpr ⟨(s_newa (kd := 1) (ty := .long) (by decide +kernel : decode cX5_init 102 = .ok (.newarray .long, 2)) rfl rfl wd303 (by decide) (by decide) (fun _ _ h => h)).to, ?_⟩
  refine List.forall_mem_cons.mpr ⟨(s_putF (ci := 5) (k := 12) (by decide +kernel : decode cX5_init 104 = .ok (.putfield 57, 3)) rfl (by decide) wd336 inX5 tyX5_ok nmX5 rfl rfl rfl rfl).to, ?_⟩
  refine List.forall_mem_cons.mpr ⟨(s_aloadn (by decide +kernel : decode cX5_init 107 = .ok (.aload_n 0, 1)) rfl).to, ?_⟩
  refine List.forall_mem_cons.mpr ⟨(s_sipush (by decide +kernel : decode cX5_init 108 = .ok (.sipush 192, 3)) (by decide)).to, ?_⟩
  refine List.forall_mem_cons.mpr ⟨(s_newa (kd := 1) (ty := .long) (by decide +kernel : decode cX5_init 111 = .ok (.newarray .long, 2)) rfl rfl wd303 (by decide) (by decide) (fun _ _ h => h)).to, ?_⟩
  refine List.forall_mem_cons.mpr ⟨(s_putF (ci := 5) (k := 13) (by decide +kernel : decode cX5_init 113 = .ok (.putfield 61, 3)) rfl (by decide) wd337 inX5 tyX5_ok nmX5 rfl rfl rfl rfl).to, ?_⟩
  refine List.forall_mem_cons.mpr ⟨(s_iconst (by decide +kernel : decode cX5_init 116 = .ok (.iconst 0, 1)) (by decide)).to, ?_⟩
  refine List.forall_mem_cons.mpr ⟨(s_istoren (by decide +kernel : decode cX5_init 117 = .ok (.istore_n 1, 1)) rfl (by decide)).to, ?_⟩
  refine List.forall_mem_cons.mpr ⟨(s_iloadn (by decide +kernel : decode cX5_init 118 = .ok (.iload_n 1, 1)) rfl).to, ?_⟩
  refine List.forall_mem_cons.mpr ⟨(s_bipush (by decide +kernel : decode cX5_init 119 = .ok (.bipush 8, 2)) (by decide)).to, ?_⟩
  refine List.forall_mem_cons.mpr ⟨(s_icmp_ge (by decide +kernel : decode cX5_init 121 = .ok (.if_icmp .ge 22, 3)) (by decide)).to, ?_⟩
  refine List.forall_mem_cons.mpr ⟨(s_aloadn (by decide +kernel : decode cX5_init 124 = .ok (.aload_n 0, 1)) rfl).to, ?_⟩
  refine List.forall_mem_cons.mpr ⟨(s_get (ci := 5) (k := 4) (by decide +kernel : decode cX5_init 125 = .ok (.getfield 17, 3)) rfl (by decide) wd317 inX5 rfl).to, ?_⟩
  exact fun _ h => absurd h List.not_mem_nil
theorem sn_tX5_init_1 : ∀ q ∈ tX5_init_1, am_Snd am_P0 RX5 cX5_init 2 (Option.none : Option FieldType) "<init>" q.1 q.2 := by
  unfold tX5_init_1
  refine List.forall_mem_cons.mpr ⟨(s_iloadn (by decide +kernel : decode cX5_init 128 = .ok (.iload_n 1, 1)) rfl).to, ?_⟩
  refine List.forall_mem_cons.mpr ⟨(s_new (ci := 6) (by decide +kernel : decode cX5_init 129 = .ok (.new 15, 3)) rfl wd168 wd234 wd139 inX6 tyX6_ok (by decide)).to, ?_⟩
  refine List.forall_mem_cons.mpr ⟨(s_dup (by decide +kernel : decode cX5_init 132 = .ok (.dup, 1))).to, ?_⟩
  refine List.forall_mem_cons.mpr ⟨z_cin (ci := 6) (by decide +kernel : decode cX5_init 133 = .ok (.invokespecial 64, 3)) mt64 wd235 rfl rfl, ?_⟩
  refine List.forall_mem_cons.mpr ⟨(s_aas (by decide +kernel : decode cX5_init 136 = .ok (.aastore, 1))).to, ?_⟩
  refine List.forall_mem_cons.mpr ⟨(s_iinc (by decide +kernel : decode cX5_init 137 = .ok (.iinc 1 1, 3)) (by decide) (by decide)).to, ?_⟩
  refine List.forall_mem_cons.mpr ⟨(s_goto (by decide +kernel : decode cX5_init 140 = .ok (.goto (-22), 3)) (by decide)).to, ?_⟩
  refine List.forall_mem_cons.mpr ⟨s_vret (by decide +kernel : decode cX5_init 143 = .ok (.return_, 1)) rfl, ?_⟩
  exact fun _ h => absurd h List.not_mem_nil
theorem sn_tX5_init : ∀ q ∈ tX5_init, am_Snd am_P0 RX5 cX5_init 2 (Option.none : Option FieldType) "<init>" q.1 q.2 := by
  unfold tX5_init
  exact List.forall_mem_append.mpr ⟨sn_tX5_init_0, sn_tX5_init_1⟩
theorem sn_tX5_clear : ∀ q ∈ tX5_clear, am_Snd am_P0 RX5 cX5_clear 1 (Option.none : Option FieldType) "clear" q.1 q.2 := by
  unfold tX5_clear
  refine List.forall_mem_cons.mpr ⟨(s_aloadn (by decide +kernel : decode cX5_clear 0 = .ok (.aload_n 0, 1)) rfl).to, ?_⟩
  refine List.forall_mem_cons.mpr ⟨(s_iconst (by decide +kernel : decode cX5_clear 1 = .ok (.iconst 0, 1)) (by decide)).to, ?_⟩
  refine List.forall_mem_cons.mpr ⟨(s_put (ci := 5) (k := 0) (by decide +kernel : decode cX5_clear 2 = .ok (.putfield 65, 3)) rfl (by decide) wd305 inX5 tyX5_ok nmX5 rfl rfl).to, ?_⟩
  refine List.forall_mem_cons.mpr ⟨(s_aloadn (by decide +kernel : decode cX5_clear 5 = .ok (.aload_n 0, 1)) rfl).to, ?_⟩
  refine List.forall_mem_cons.mpr ⟨(s_iconst (by decide +kernel : decode cX5_clear 6 = .ok (.iconst 0, 1)) (by decide)).to, ?_⟩
  refine List.forall_mem_cons.mpr ⟨(s_put (ci := 5) (k := 1) (by decide +kernel : decode cX5_clear 7 = .ok (.putfield 68, 3)) rfl (by decide) wd308 inX5 tyX5_ok nmX5 rfl rfl).to, ?_⟩
  refine List.forall_mem_cons.mpr ⟨(s_aloadn (by decide +kernel : decode cX5_clear 10 = .ok (.aload_n 0, 1)) rfl).to, ?_⟩
  refine List.forall_mem_cons.mpr ⟨(s_bipush (by decide +kernel : decode cX5_clear 11 = .ok (.bipush 10, 2)) (by decide)).to, ?_⟩
  refine List.forall_mem_cons.mpr ⟨(s_put (ci := 5) (k := 2) (by decide +kernel : decode cX5_clear 13 = .ok (.putfield 9, 3)) rfl (by decide) wd311 inX5 tyX5_ok nmX5 rfl rfl).to, ?_⟩
  refine List.forall_mem_cons.mpr ⟨(s_aloadn (by decide +kernel : decode cX5_clear 16 = .ok (.aload_n 0, 1)) rfl).to, ?_⟩
  refine List.forall_mem_cons.mpr ⟨(s_iconst (by decide +kernel : decode cX5_clear 17 = .ok (.iconst 0, 1)) (by decide)).to, ?_⟩
  refine List.forall_mem_cons.mpr ⟨(s_put (ci := 5) (k := 3) (by decide +kernel : decode cX5_clear 18 = .ok (.putfield 71, 3)) rfl (by decide) wd314 inX5 tyX5_ok nmX5 rfl rfl).to, ?_⟩
  refine List.forall_mem_cons.mpr ⟨(s_aloadn (by decide +kernel : decode cX5_clear 21 = .ok (.aload_n 0, 1)) rfl).to, ?_⟩
  refine List.forall_mem_cons.mpr ⟨(s_get (ci := 5) (k := 5) (by decide +kernel : decode cX5_clear 22 = .ok (.getfield 24, 3)) rfl (by decide) wd320 inX5 rfl).to, ?_⟩
  refine List.forall_mem_cons.mpr ⟨(s_iconst (by decide +kernel : decode cX5_clear 25 = .ok (.iconst 0, 1)) (by decide)).to, ?_⟩
  refine List.forall_mem_cons.mpr ⟨(s_put (ci := 7) (k := 0) (by decide +kernel : decode cX5_clear 26 = .ok (.putfield 74, 3)) rfl (by decide) wd177 inX7 tyX7_ok nmX7 rfl rfl).to, ?_⟩
  refine List.forall_mem_cons.mpr ⟨(s_aloadn (by decide +kernel : decode cX5_clear 29 = .ok (.aload_n 0, 1)) rfl).to, ?_⟩
  refine List.forall_mem_cons.mpr ⟨(s_get (ci := 5) (k := 6) (by decide +kernel : decode cX5_clear 30 = .ok (.getfield 31, 3)) rfl (by decide) wd323 inX5 rfl).to, ?_⟩
  refine List.forall_mem_cons.mpr ⟨(s_iconst (by decide +kernel : decode cX5_clear 33 = .ok (.iconst 0, 1)) (by decide)).to, ?_⟩
  refine List.forall_mem_cons.mpr ⟨(s_put (ci := 0) (k := 1) (by decide +kernel : decode cX5_clear 34 = .ok (.putfield 77, 3)) rfl (by decide) wd204 inX0 tyX0_ok nmX0 rfl rfl).to, ?_⟩
  refine List.forall_mem_cons.mpr ⟨(s_aloadn (by decide +kernel : decode cX5_clear 37 = .ok (.aload_n 0, 1)) rfl).to, ?_⟩
  refine List.forall_mem_cons.mpr ⟨(s_get (ci := 5) (k := 7) (by decide +kernel : decode cX5_clear 38 = .ok (.getfield 40, 3)) rfl (by decide) wd325 inX5 rfl).to, ?_⟩
  refine List.forall_mem_cons.mpr ⟨(s_iconst (by decide +kernel : decode cX5_clear 41 = .ok (.iconst 0, 1)) (by decide)).to, ?_⟩
  refine List.forall_mem_cons.mpr ⟨(s_put (ci := 4) (k := 0) (by decide +kernel : decode cX5_clear 42 = .ok (.putfield 78, 3)) rfl (by decide) wd221 inX4 tyX4_ok nmX4 rfl rfl).to, ?_⟩
  refine List.forall_mem_cons.mpr ⟨(s_aloadn (by decide +kernel : decode cX5_clear 45 = .ok (.aload_n 0, 1)) rfl).to, ?_⟩
  refine List.forall_mem_cons.mpr ⟨(s_get (ci := 5) (k := 8) (by decide +kernel : decode cX5_clear 46 = .ok (.getfield 44, 3)) rfl (by decide) wd327 inX5 rfl).to, ?_⟩
  refine List.forall_mem_cons.mpr ⟨(s_iconst (by decide +kernel : decode cX5_clear 49 = .ok (.iconst 0, 1)) (by decide)).to, ?_⟩
  refine List.forall_mem_cons.mpr ⟨(s_put (ci := 4) (k := 0) (by decide +kernel : decode cX5_clear 50 = .ok (.putfield 78, 3)) rfl (by decide) wd221 inX4 tyX4_ok nmX4 rfl rfl).to, ?_⟩
  refine List.forall_mem_cons.mpr ⟨(s_aloadn (by decide +kernel : decode cX5_clear 53 = .ok (.aload_n 0, 1)) rfl).to, ?_⟩
  refine List.forall_mem_cons.mpr ⟨(s_get (ci := 5) (k := 9) (by decide +kernel : decode cX5_clear 54 = .ok (.getfield 47, 3)) rfl (by decide) wd329 inX5 rfl).to, ?_⟩
  refine List.forall_mem_cons.mpr ⟨(s_iconst (by decide +kernel : decode cX5_clear 57 = .ok (.iconst 0, 1)) (by decide)).to, ?_⟩
  refine List.forall_mem_cons.mpr ⟨(s_put (ci := 4) (k := 0) (by decide +kernel : decode cX5_clear 58 = .ok (.putfield 78, 3)) rfl (by decide) wd221 inX4 tyX4_ok nmX4 rfl rfl).to, ?_⟩
  refine List.forall_mem_cons.mpr ⟨s_vret (by decide +kernel : decode cX5_clear 61 = .ok (.return_, 1)) rfl, ?_⟩
  exact fun _ h => absurd h List.not_mem_nil
theorem sn_tX5_measure : ∀ q ∈ tX5_measure, am_Snd am_P0 RX5 cX5_measure 4 (Option.none : Option FieldType) "measure" q.1 q.2 := by
  unfold tX5_measure
  refine List.forall_mem_cons.mpr ⟨(s_aloadn (by decide +kernel : decode cX5_measure 0 = .ok (.aload_n 0, 1)) rfl).to, ?_⟩
  refine List.forall_mem_cons.mpr ⟨(s_get (ci := 5) (k := 10) (by decide +kernel : decode cX5_measure 1 = .ok (.getfield 50, 3)) rfl (by decide) wd331 inX5 rfl).to, ?_⟩
  refine List.forall_mem_cons.mpr ⟨(s_iconst (by decide +kernel : decode cX5_measure 4 = .ok (.iconst 0, 1)) (by decide)).to, ?_⟩
  refine List.forall_mem_cons.mpr ⟨z_cs (by decide +kernel : decode cX5_measure 5 = .ok (.invokestatic 79, 3)) mt324 wd847, ?_⟩
  refine List.forall_mem_cons.mpr ⟨(s_aloadn (by decide +kernel : decode cX5_measure 8 = .ok (.aload_n 0, 1)) rfl).to, ?_⟩
  refine List.forall_mem_cons.mpr ⟨(s_get (ci := 5) (k := 11) (by decide +kernel : decode cX5_measure 9 = .ok (.getfield 54, 3)) rfl (by decide) wd335 inX5 rfl).to, ?_⟩
  refine List.forall_mem_cons.mpr ⟨(s_iconst (by decide +kernel : decode cX5_measure 12 = .ok (.iconst (-1), 1)) (by decide)).to, ?_⟩
  refine List.forall_mem_cons.mpr ⟨z_cs (by decide +kernel : decode cX5_measure 13 = .ok (.invokestatic 79, 3)) mt324 wd847, ?_⟩
  refine List.forall_mem_cons.mpr ⟨(s_aloadn (by decide +kernel : decode cX5_measure 16 = .ok (.aload_n 0, 1)) rfl).to, ?_⟩
  refine List.forall_mem_cons.mpr ⟨(s_get (ci := 5) (k := 12) (by decide +kernel : decode cX5_measure 17 = .ok (.getfield 57, 3)) rfl (by decide) wd336 inX5 rfl).to, ?_⟩
  refine List.forall_mem_cons.mpr ⟨(s_lconst (by decide +kernel : decode cX5_measure 20 = .ok (.lconst 0, 1)) (by decide)).to, ?_⟩
  refine List.forall_mem_cons.mpr ⟨z_cs (by decide +kernel : decode cX5_measure 21 = .ok (.invokestatic 85, 3)) mt322 wd850, ?_⟩
  refine List.forall_mem_cons.mpr ⟨(s_aloadn (by decide +kernel : decode cX5_measure 24 = .ok (.aload_n 0, 1)) rfl).to, ?_⟩
  refine List.forall_mem_cons.mpr ⟨(s_get (ci := 5) (k := 13) (by decide +kernel : decode cX5_measure 25 = .ok (.getfield 61, 3)) rfl (by decide) wd337 inX5 rfl).to, ?_⟩
  refine List.forall_mem_cons.mpr ⟨(s_lconst (by decide +kernel : decode cX5_measure 28 = .ok (.lconst 0, 1)) (by decide)).to, ?_⟩
  refine List.forall_mem_cons.mpr ⟨z_cs (by decide +kernel : decode cX5_measure 29 = .ok (.invokestatic 85, 3)) mt322 wd850, ?_⟩
  refine List.forall_mem_cons.mpr ⟨(s_iconst (by decide +kernel : decode cX5_measure 32 = .ok (.iconst 0, 1)) (by decide)).to, ?_⟩
  refine List.forall_mem_cons.mpr ⟨(s_istoren (by decide +kernel : decode cX5_measure 33 = .ok (.istore_n 1, 1)) rfl (by decide)).to, ?_⟩
  refine List.forall_mem_cons.mpr ⟨(s_iloadn (by decide +kernel : decode cX5_measure 34 = .ok (.iload_n 1, 1)) rfl).to, ?_⟩
  refine List.forall_mem_cons.mpr ⟨(s_aloadn (by decide +kernel : decode cX5_measure 35 = .ok (.aload_n 0, 1)) rfl).to, ?_⟩
  refine List.forall_mem_cons.mpr ⟨(s_get (ci := 5) (k := 1) (by decide +kernel : decode cX5_measure 36 = .ok (.getfield 68, 3)) rfl (by decide) wd308 inX5 rfl).to, ?_⟩
  refine List.forall_mem_cons.mpr ⟨(s_icmp_ge (by decide +kernel : decode cX5_measure 39 = .ok (.if_icmp .ge 51, 3)) (by decide)).to, ?_⟩
  refine List.forall_mem_cons.mpr ⟨(s_iconst (by decide +kernel : decode cX5_measure 42 = .ok (.iconst 0, 1)) (by decide)).to, ?_⟩
  refine List.forall_mem_cons.mpr ⟨(s_istoren (by decide +kernel : decode cX5_measure 43 = .ok (.istore_n 2, 1)) rfl (by decide)).to, ?_⟩
  refine List.forall_mem_cons.mpr ⟨(s_iloadn (by decide +kernel : decode cX5_measure 44 = .ok (.iload_n 2, 1)) rfl).to, ?_⟩
  refine List.forall_mem_cons.mpr ⟨(s_aloadn (by decide +kernel : decode cX5_measure 45 = .ok (.aload_n 0, 1)) rfl).to, ?_⟩
  refine List.forall_mem_cons.mpr ⟨(s_get (ci := 5) (k := 0) (by decide +kernel : decode cX5_measure 46 = .ok (.getfield 65, 3)) rfl (by decide) wd305 inX5 rfl).to, ?_⟩
  refine List.forall_mem_cons.mpr ⟨(s_icmp_ge (by decide +kernel : decode cX5_measure 49 = .ok (.if_icmp .ge 35, 3)) (by decide)).to, ?_⟩
  refine List.forall_mem_cons.mpr ⟨(s_iloadn (by decide +kernel : decode cX5_measure 52 = .ok (.iload_n 1, 1)) rfl).to, ?_⟩
  refine List.forall_mem_cons.mpr ⟨(s_bipush (by decide +kernel : decode cX5_measure 53 = .ok (.bipush 16, 2)) (by decide)).to, ?_⟩
  refine List.forall_mem_cons.mpr ⟨(s_imul (by decide +kernel : decode cX5_measure 55 = .ok (.imul, 1))).to, ?_⟩
  refine List.forall_mem_cons.mpr ⟨(s_iloadn (by decide +kernel : decode cX5_measure 56 = .ok (.iload_n 2, 1)) rfl).to, ?_⟩
  refine List.forall_mem_cons.mpr ⟨(s_iadd (by decide +kernel : decode cX5_measure 57 = .ok (.iadd, 1))).to, ?_⟩
  refine List.forall_mem_cons.mpr ⟨(s_istoren (by decide +kernel : decode cX5_measure 58 = .ok (.istore_n 3, 1)) rfl (by decide)).to, ?_⟩
  refine List.forall_mem_cons.mpr ⟨(s_aloadn (by decide +kernel : decode cX5_measure 59 = .ok (.aload_n 0, 1)) rfl).to, ?_⟩
  refine List.forall_mem_cons.mpr ⟨(s_get (ci := 5) (k := 10) (by decide +kernel : decode cX5_measure 60 = .ok (.getfield 50, 3)) rfl (by decide) wd331 inX5 rfl).to, ?_⟩
  refine List.forall_mem_cons.mpr ⟨(s_iloadn (by decide +kernel : decode cX5_measure 63 = .ok (.iload_n 3, 1)) rfl).to, ?_⟩
  refine List.forall_mem_cons.mpr ⟨(s_aloadn (by decide +kernel : decode cX5_measure 64 = .ok (.aload_n 0, 1)) rfl).to, ?_⟩
  refine List.forall_mem_cons.mpr ⟨(s_get (ci := 5) (k := 7) (by decide +kernel : decode cX5_measure 65 = .ok (.getfield 40, 3)) rfl (by decide) wd325 inX5 rfl).to, ?_⟩
  refine List.forall_mem_cons.mpr ⟨(s_aloadn (by decide +kernel : decode cX5_measure 68 = .ok (.aload_n 0, 1)) rfl).to, ?_⟩
  refine List.forall_mem_cons.mpr ⟨(s_get (ci := 5) (k := 6) (by decide +kernel : decode cX5_measure 69 = .ok (.getfield 31, 3)) rfl (by decide) wd323 inX5 rfl).to, ?_⟩
  refine List.forall_mem_cons.mpr ⟨(s_iloadn (by decide +kernel : decode cX5_measure 72 = .ok (.iload_n 3, 1)) rfl).to, ?_⟩
  refine List.forall_mem_cons.mpr ⟨(s_iconst (by decide +kernel : decode cX5_measure 73 = .ok (.iconst 0, 1)) (by decide)).to, ?_⟩
  refine List.forall_mem_cons.mpr ⟨z_cv (by decide +kernel : decode cX5_measure 74 = .ok (.invokevirtual 88, 3)) mt50 wd853 (ci := 4) rfl (by decide), ?_⟩
  refine List.forall_mem_cons.mpr ⟨(s_iast (by decide +kernel : decode cX5_measure 77 = .ok (.iastore, 1))).to, ?_⟩
  refine List.forall_mem_cons.mpr ⟨(s_iinc (by decide +kernel : decode cX5_measure 78 = .ok (.iinc 2 1, 3)) (by decide) (by decide)).to, ?_⟩
  refine List.forall_mem_cons.mpr ⟨(s_goto (by decide +kernel : decode cX5_measure 81 = .ok (.goto (-37), 3)) (by decide)).to, ?_⟩
  refine List.forall_mem_cons.mpr ⟨(s_iinc (by decide +kernel : decode cX5_measure 84 = .ok (.iinc 1 1, 3)) (by decide) (by decide)).to, ?_⟩
  refine List.forall_mem_cons.mpr ⟨(s_goto (by decide +kernel : decode cX5_measure 87 = .ok (.goto (-53), 3)) (by decide)).to, ?_⟩
  refine List.forall_mem_cons.mpr ⟨s_vret (by decide +kernel : decode cX5_measure 90 = .ok (.return_, 1)) rfl, ?_⟩
  exact fun _ h => absurd h List.not_mem_nil
theorem sn_tX5_costAt : ∀ q ∈ tX5_costAt, am_Snd am_P0 RX5 cX5_costAt 2 (Option.some FieldType.int) "costAt" q.1 q.2 := by
  unfold tX5_costAt
  refine List.forall_mem_cons.mpr ⟨(s_aloadn (by decide +kernel : decode cX5_costAt 0 = .ok (.aload_n 0, 1)) rfl).to, ?_⟩
  refine List.forall_mem_cons.mpr ⟨(s_get (ci := 5) (k := 11) (by decide +kernel : decode cX5_costAt 1 = .ok (.getfield 54, 3)) rfl (by decide) wd335 inX5 rfl).to, ?_⟩
  refine List.forall_mem_cons.mpr ⟨(s_iloadn (by decide +kernel : decode cX5_costAt 4 = .ok (.iload_n 1, 1)) rfl).to, ?_⟩
  refine List.forall_mem_cons.mpr ⟨(s_iald (by decide +kernel : decode cX5_costAt 5 = .ok (.iaload, 1))).to, ?_⟩
  refine List.forall_mem_cons.mpr ⟨(s_iconst (by decide +kernel : decode cX5_costAt 6 = .ok (.iconst (-1), 1)) (by decide)).to, ?_⟩
  refine List.forall_mem_cons.mpr ⟨(s_icmp_ne (by decide +kernel : decode cX5_costAt 7 = .ok (.if_icmp .ne 27, 3)) (by decide)).to, ?_⟩
  refine List.forall_mem_cons.mpr ⟨(s_aloadn (by decide +kernel : decode cX5_costAt 10 = .ok (.aload_n 0, 1)) rfl).to, ?_⟩
  refine List.forall_mem_cons.mpr ⟨(s_get (ci := 5) (k := 11) (by decide +kernel : decode cX5_costAt 11 = .ok (.getfield 54, 3)) rfl (by decide) wd335 inX5 rfl).to, ?_⟩
  refine List.forall_mem_cons.mpr ⟨(s_iloadn (by decide +kernel : decode cX5_costAt 14 = .ok (.iload_n 1, 1)) rfl).to, ?_⟩
  refine List.forall_mem_cons.mpr ⟨(s_aloadn (by decide +kernel : decode cX5_costAt 15 = .ok (.aload_n 0, 1)) rfl).to, ?_⟩
  refine List.forall_mem_cons.mpr ⟨(s_get (ci := 5) (k := 8) (by decide +kernel : decode cX5_costAt 16 = .ok (.getfield 44, 3)) rfl (by decide) wd327 inX5 rfl).to, ?_⟩
  refine List.forall_mem_cons.mpr ⟨(s_aloadn (by decide +kernel : decode cX5_costAt 19 = .ok (.aload_n 0, 1)) rfl).to, ?_⟩
  refine List.forall_mem_cons.mpr ⟨(s_get (ci := 5) (k := 6) (by decide +kernel : decode cX5_costAt 20 = .ok (.getfield 31, 3)) rfl (by decide) wd323 inX5 rfl).to, ?_⟩
  refine List.forall_mem_cons.mpr ⟨(s_iloadn (by decide +kernel : decode cX5_costAt 23 = .ok (.iload_n 1, 1)) rfl).to, ?_⟩
  refine List.forall_mem_cons.mpr ⟨(s_aloadn (by decide +kernel : decode cX5_costAt 24 = .ok (.aload_n 0, 1)) rfl).to, ?_⟩
  refine List.forall_mem_cons.mpr ⟨(s_get (ci := 5) (k := 10) (by decide +kernel : decode cX5_costAt 25 = .ok (.getfield 50, 3)) rfl (by decide) wd331 inX5 rfl).to, ?_⟩
  refine List.forall_mem_cons.mpr ⟨(s_iloadn (by decide +kernel : decode cX5_costAt 28 = .ok (.iload_n 1, 1)) rfl).to, ?_⟩
  refine List.forall_mem_cons.mpr ⟨(s_iald (by decide +kernel : decode cX5_costAt 29 = .ok (.iaload, 1))).to, ?_⟩
  refine List.forall_mem_cons.mpr ⟨z_cv (by decide +kernel : decode cX5_costAt 30 = .ok (.invokevirtual 88, 3)) mt50 wd853 (ci := 4) rfl (by decide), ?_⟩
  refine List.forall_mem_cons.mpr ⟨(s_iast (by decide +kernel : decode cX5_costAt 33 = .ok (.iastore, 1))).to, ?_⟩
  refine List.forall_mem_cons.mpr ⟨(s_aloadn (by decide +kernel : decode cX5_costAt 34 = .ok (.aload_n 0, 1)) rfl).to, ?_⟩
  refine List.forall_mem_cons.mpr ⟨(s_get (ci := 5) (k := 11) (by decide +kernel : decode cX5_costAt 35 = .ok (.getfield 54, 3)) rfl (by decide) wd335 inX5 rfl).to, ?_⟩
  refine List.forall_mem_cons.mpr ⟨(s_iloadn (by decide +kernel : decode cX5_costAt 38 = .ok (.iload_n 1, 1)) rfl).to, ?_⟩
  refine List.forall_mem_cons.mpr ⟨(s_iald (by decide +kernel : decode cX5_costAt 39 = .ok (.iaload, 1))).to, ?_⟩
  refine List.forall_mem_cons.mpr ⟨s_iret (by decide +kernel : decode cX5_costAt 40 = .ok (.ireturn, 1)) rfl, ?_⟩
  exact fun _ h => absurd h List.not_mem_nil
theorem sn_tX5_isQuiet_0 : ∀ q ∈ tX5_isQuiet_0, am_Snd am_P0 RX5 cX5_isQuiet 6 (Option.some FieldType.boolean) "isQuiet" q.1 q.2 := by
  unfold tX5_isQuiet_0
  refine List.forall_mem_cons.mpr ⟨(s_iloadn (by decide +kernel : decode cX5_isQuiet 0 = .ok (.iload_n 2, 1)) rfl).to, ?_⟩
  refine List.forall_mem_cons.mpr ⟨(s_iconst (by decide +kernel : decode cX5_isQuiet 1 = .ok (.iconst 4, 1)) (by decide)).to, ?_⟩
  refine List.forall_mem_cons.mpr ⟨(s_imul (by decide +kernel : decode cX5_isQuiet 2 = .ok (.imul, 1))).to, ?_⟩
  refine List.forall_mem_cons.mpr ⟨(s_iloadn (by decide +kernel : decode cX5_isQuiet 3 = .ok (.iload_n 1, 1)) rfl).to, ?_⟩
  refine List.forall_mem_cons.mpr ⟨(s_bipush (by decide +kernel : decode cX5_isQuiet 4 = .ok (.bipush 6, 2)) (by decide)).to, ?_⟩
  refine List.forall_mem_cons.mpr ⟨(s_ishr (by decide +kernel : decode cX5_isQuiet 6 = .ok (.ishr, 1))).to, ?_⟩
  refine List.forall_mem_cons.mpr ⟨(s_iadd (by decide +kernel : decode cX5_isQuiet 7 = .ok (.iadd, 1))).to, ?_⟩
  refine List.forall_mem_cons.mpr ⟨(s_istoren (by decide +kernel : decode cX5_isQuiet 8 = .ok (.istore_n 3, 1)) rfl (by decide)).to, ?_⟩
  refine List.forall_mem_cons.mpr ⟨(s_lconst (by decide +kernel : decode cX5_isQuiet 9 = .ok (.lconst 1, 1)) (by decide)).to, ?_⟩
  refine List.forall_mem_cons.mpr ⟨(s_iloadn (by decide +kernel : decode cX5_isQuiet 10 = .ok (.iload_n 1, 1)) rfl).to, ?_⟩
  refine List.forall_mem_cons.mpr ⟨(s_bipush (by decide +kernel : decode cX5_isQuiet 11 = .ok (.bipush 63, 2)) (by decide)).to, ?_⟩
  refine List.forall_mem_cons.mpr ⟨(s_iand (by decide +kernel : decode cX5_isQuiet 13 = .ok (.iand, 1))).to, ?_⟩
  refine List.forall_mem_cons.mpr ⟨(s_lshl (by decide +kernel : decode cX5_isQuiet 14 = .ok (.lshl, 1))).to, ?_⟩
  refine List.forall_mem_cons.mpr ⟨(s_lstore (by decide +kernel : decode cX5_isQuiet 15 = .ok (.lstore 4, 2)) (by decide)).to, ?_⟩
  refine List.forall_mem_cons.mpr ⟨(s_aloadn (by decide +kernel : decode cX5_isQuiet 17 = .ok (.aload_n 0, 1)) rfl).to, ?_⟩
  refine List.forall_mem_cons.mpr ⟨(s_get (ci := 5) (k := 12) (by decide +kernel : decode cX5_isQuiet 18 = .ok (.getfield 57, 3)) rfl (by decide) wd336 inX5 rfl).to, ?_⟩
  refine List.forall_mem_cons.mpr ⟨(s_iloadn (by decide +kernel : decode cX5_isQuiet 21 = .ok (.iload_n 3, 1)) rfl).to, ?_⟩
  refine List.forall_mem_cons.mpr ⟨(s_lald (by decide +kernel : decode cX5_isQuiet 22 = .ok (.laload, 1))).to, ?_⟩
  refine List.forall_mem_cons.mpr ⟨(s_lload (by decide +kernel : decode cX5_isQuiet 23 = .ok (.lload 4, 2))).to, ?_⟩
  refine List.forall_mem_cons.mpr ⟨(s_land (by decide +kernel : decode cX5_isQuiet 25 = .ok (.land, 1))).to, ?_⟩
  refine List.forall_mem_cons.mpr ⟨(s_lconst (by decide +kernel : decode cX5_isQuiet 26 = .ok (.lconst 0, 1)) (by decide)).to, ?_⟩
  refine List.forall_mem_cons.mpr ⟨(s_lcmp (by decide +kernel : decode cX5_isQuiet 27 = .ok (.lcmp, 1))).to, ?_⟩
  refine List.forall_mem_cons.mpr ⟨(s_if_ne (by decide +kernel : decode cX5_isQuiet 28 = .ok (.ifCond .ne 48, 3)) (by decide)).to, ?_⟩
  refine List.forall_mem_cons.mpr ⟨(s_aloadn (by decide +kernel : decode cX5_isQuiet 31 = .ok (.aload_n 0, 1)) rfl).to, ?_⟩
  refine List.forall_mem_cons.mpr ⟨(s_get (ci := 5) (k := 12) (by decide +kernel : decode cX5_isQuiet 32 = .ok (.getfield 57, 3)) rfl (by decide) wd336 inX5 rfl).to, ?_⟩
  refine List.forall_mem_cons.mpr ⟨(s_iloadn (by decide +kernel : decode cX5_isQuiet 35 = .ok (.iload_n 3, 1)) rfl).to, ?_⟩
  refine List.forall_mem_cons.mpr ⟨(s_dup2 (by decide +kernel : decode cX5_isQuiet 36 = .ok (.dup2, 1))).to, ?_⟩
  refine List.forall_mem_cons.mpr ⟨(s_lald (by decide +kernel : decode cX5_isQuiet 37 = .ok (.laload, 1))).to, ?_⟩
  refine List.forall_mem_cons.mpr ⟨(s_lload (by decide +kernel : decode cX5_isQuiet 38 = .ok (.lload 4, 2))).to, ?_⟩
  refine List.forall_mem_cons.mpr ⟨(s_lor (by decide +kernel : decode cX5_isQuiet 40 = .ok (.lor, 1))).to, ?_⟩
  refine List.forall_mem_cons.mpr ⟨(s_last (by decide +kernel : decode cX5_isQuiet 41 = .ok (.lastore, 1))).to, ?_⟩
  refine List.forall_mem_cons.mpr ⟨(s_aloadn (by decide +kernel : decode cX5_isQuiet 42 = .ok (.aload_n 0, 1)) rfl).to, ?_⟩
  refine List.forall_mem_cons.mpr ⟨(s_get (ci := 5) (k := 9) (by decide +kernel : decode cX5_isQuiet 43 = .ok (.getfield 47, 3)) rfl (by decide) wd329 inX5 rfl).to, ?_⟩
  refine List.forall_mem_cons.mpr ⟨(s_aloadn (by decide +kernel : decode cX5_isQuiet 46 = .ok (.aload_n 0, 1)) rfl).to, ?_⟩
  refine List.forall_mem_cons.mpr ⟨(s_get (ci := 5) (k := 6) (by decide +kernel : decode cX5_isQuiet 47 = .ok (.getfield 31, 3)) rfl (by decide) wd323 inX5 rfl).to, ?_⟩
  refine List.forall_mem_cons.mpr ⟨(s_iloadn (by decide +kernel : decode cX5_isQuiet 50 = .ok (.iload_n 1, 1)) rfl).to, ?_⟩
  refine List.forall_mem_cons.mpr ⟨(s_iloadn (by decide +kernel : decode cX5_isQuiet 51 = .ok (.iload_n 2, 1)) rfl).to, ?_⟩
  refine List.forall_mem_cons.mpr ⟨(s_aloadn (by decide +kernel : decode cX5_isQuiet 52 = .ok (.aload_n 0, 1)) rfl).to, ?_⟩
  refine List.forall_mem_cons.mpr ⟨(s_get (ci := 5) (k := 10) (by decide +kernel : decode cX5_isQuiet 53 = .ok (.getfield 50, 3)) rfl (by decide) wd331 inX5 rfl).to, ?_⟩
  refine List.forall_mem_cons.mpr ⟨(s_iloadn (by decide +kernel : decode cX5_isQuiet 56 = .ok (.iload_n 1, 1)) rfl).to, ?_⟩
  refine List.forall_mem_cons.mpr ⟨(s_iald (by decide +kernel : decode cX5_isQuiet 57 = .ok (.iaload, 1))).to, ?_⟩
  refine List.forall_mem_cons.mpr ⟨z_cv (by decide +kernel : decode cX5_isQuiet 58 = .ok (.invokevirtual 92, 3)) mt49 wd1039 (ci := 4) rfl (by decide), ?_⟩
  refine List.forall_mem_cons.mpr ⟨(s_iconst (by decide +kernel : decode cX5_isQuiet 61 = .ok (.iconst (-1), 1)) (by decide)).to, ?_⟩
  refine List.forall_mem_cons.mpr ⟨(s_icmp_eq (by decide +kernel : decode cX5_isQuiet 62 = .ok (.if_icmp .eq 14, 3)) (by decide)).to, ?_⟩
  refine List.forall_mem_cons.mpr ⟨(s_aloadn (by decide +kernel : decode cX5_isQuiet 65 = .ok (.aload_n 0, 1)) rfl).to, ?_⟩
  refine List.forall_mem_cons.mpr ⟨(s_get (ci := 5) (k := 13) (by decide +kernel : decode cX5_isQuiet 66 = .ok (.getfield 61, 3)) rfl (by decide) wd337 inX5 rfl).to, ?_⟩
  refine List.forall_mem_cons.mpr ⟨(s_iloadn (by decide +kernel : decode cX5_isQuiet 69 = .ok (.iload_n 3, 1)) rfl).to, ?_⟩
  refine List.forall_mem_cons.mpr ⟨(s_dup2 (by decide +kernel : decode cX5_isQuiet 70 = .ok (.dup2, 1))).to, ?_⟩
  refine List.forall_mem_cons.mpr ⟨(s_lald (by decide +kernel : decode cX5_isQuiet 71 = .ok (.laload, 1))).to, ?_⟩
  refine List.forall_mem_cons.mpr ⟨(s_lload (by decide +kernel : decode cX5_isQuiet 72 = .ok (.lload 4, 2))).to, ?_⟩
  refine List.forall_mem_cons.mpr ⟨(s_lor (by decide +kernel : decode cX5_isQuiet 74 = .ok (.lor, 1))).to, ?_⟩
  refine List.forall_mem_cons.mpr ⟨(s_last (by decide +kernel : decode cX5_isQuiet 75 = .ok (.lastore, 1))).to, ?_⟩
  refine List.forall_mem_cons.mpr ⟨(s_aloadn (by decide +kernel : decode cX5_isQuiet 76 = .ok (.aload_n 0, 1)) rfl).to, ?_⟩
  refine List.forall_mem_cons.mpr ⟨(s_get (ci := 5) (k := 13) (by decide +kernel : decode cX5_isQuiet 77 = .ok (.getfield 61, 3)) rfl (by decide) wd337 inX5 rfl).to, ?_⟩
  refine List.forall_mem_cons.mpr ⟨(s_iloadn (by decide +kernel : decode cX5_isQuiet 80 = .ok (.iload_n 3, 1)) rfl).to, ?_⟩
  refine List.forall_mem_cons.mpr ⟨(s_lald (by decide +kernel : decode cX5_isQuiet 81 = .ok (.laload, 1))).to, ?_⟩
  refine List.forall_mem_cons.mpr ⟨(s_lload (by decide +kernel : decode cX5_isQuiet 82 = .ok (.lload 4, 2))).to, ?_⟩
  refine List.forall_mem_cons.mpr ⟨(s_land (by decide +kernel : decode cX5_isQuiet 84 = .ok (.land, 1))).to, ?_⟩
  refine List.forall_mem_cons.mpr ⟨(s_lconst (by decide +kernel : decode cX5_isQuiet 85 = .ok (.lconst 0, 1)) (by decide)).to, ?_⟩
  refine List.forall_mem_cons.mpr ⟨(s_lcmp (by decide +kernel : decode cX5_isQuiet 86 = .ok (.lcmp, 1))).to, ?_⟩
  exact fun _ h => absurd h List.not_mem_nil
theorem sn_tX5_isQuiet_1 : ∀ q ∈ tX5_isQuiet_1, am_Snd am_P0 RX5 cX5_isQuiet 6 (Option.some FieldType.boolean) "isQuiet" q.1 q.2 := by
  unfold tX5_isQuiet_1
  refine List.forall_mem_cons.mpr ⟨(s_if_eq (by decide +kernel : decode cX5_isQuiet 87 = .ok (.ifCond .eq 7, 3)) (by decide)).to, ?_⟩
  refine List.forall_mem_cons.mpr ⟨(s_iconst (by decide +kernel : decode cX5_isQuiet 90 = .ok (.iconst 1, 1)) (by decide)).to, ?_⟩
  refine List.forall_mem_cons.mpr ⟨(s_goto (by decide +kernel : decode cX5_isQuiet 91 = .ok (.goto 4, 3)) (by decide)).to, ?_⟩
  refine List.forall_mem_cons.mpr ⟨(s_iconst (by decide +kernel : decode cX5_isQuiet 94 = .ok (.iconst 0, 1)) (by decide)).to, ?_⟩
  refine List.forall_mem_cons.mpr ⟨s_zret (by decide +kernel : decode cX5_isQuiet 95 = .ok (.ireturn, 1)) rfl, ?_⟩
  exact fun _ h => absurd h List.not_mem_nil
theorem sn_tX5_isQuiet : ∀ q ∈ tX5_isQuiet, am_Snd am_P0 RX5 cX5_isQuiet 6 (Option.some FieldType.boolean) "isQuiet" q.1 q.2 := by
  unfold tX5_isQuiet
  exact List.forall_mem_append.mpr ⟨sn_tX5_isQuiet_0, sn_tX5_isQuiet_1⟩
theorem sn_tX5_placeAt : ∀ q ∈ tX5_placeAt, am_Snd am_P0 RX5 cX5_placeAt 3 (Option.some FieldType.int) "placeAt" q.1 q.2 := by
  unfold tX5_placeAt
  refine List.forall_mem_cons.mpr ⟨(s_iloadn (by decide +kernel : decode cX5_placeAt 0 = .ok (.iload_n 1, 1)) rfl).to, ?_⟩
  refine List.forall_mem_cons.mpr ⟨(s_if_lt (by decide +kernel : decode cX5_placeAt 1 = .ok (.ifCond .lt 23, 3)) (by decide)).to, ?_⟩
  refine List.forall_mem_cons.mpr ⟨(s_iloadn (by decide +kernel : decode cX5_placeAt 4 = .ok (.iload_n 1, 1)) rfl).to, ?_⟩
  refine List.forall_mem_cons.mpr ⟨(s_aloadn (by decide +kernel : decode cX5_placeAt 5 = .ok (.aload_n 0, 1)) rfl).to, ?_⟩
  refine List.forall_mem_cons.mpr ⟨(s_get (ci := 5) (k := 0) (by decide +kernel : decode cX5_placeAt 6 = .ok (.getfield 65, 3)) rfl (by decide) wd305 inX5 rfl).to, ?_⟩
  refine List.forall_mem_cons.mpr ⟨(s_icmp_ge (by decide +kernel : decode cX5_placeAt 9 = .ok (.if_icmp .ge 15, 3)) (by decide)).to, ?_⟩
  refine List.forall_mem_cons.mpr ⟨(s_iloadn (by decide +kernel : decode cX5_placeAt 12 = .ok (.iload_n 2, 1)) rfl).to, ?_⟩
  refine List.forall_mem_cons.mpr ⟨(s_if_lt (by decide +kernel : decode cX5_placeAt 13 = .ok (.ifCond .lt 11, 3)) (by decide)).to, ?_⟩
  refine List.forall_mem_cons.mpr ⟨(s_iloadn (by decide +kernel : decode cX5_placeAt 16 = .ok (.iload_n 2, 1)) rfl).to, ?_⟩
  refine List.forall_mem_cons.mpr ⟨(s_aloadn (by decide +kernel : decode cX5_placeAt 17 = .ok (.aload_n 0, 1)) rfl).to, ?_⟩
  refine List.forall_mem_cons.mpr ⟨(s_get (ci := 5) (k := 1) (by decide +kernel : decode cX5_placeAt 18 = .ok (.getfield 68, 3)) rfl (by decide) wd308 inX5 rfl).to, ?_⟩
  refine List.forall_mem_cons.mpr ⟨(s_icmp_lt (by decide +kernel : decode cX5_placeAt 21 = .ok (.if_icmp .lt 5, 3)) (by decide)).to, ?_⟩
  refine List.forall_mem_cons.mpr ⟨(s_iconst (by decide +kernel : decode cX5_placeAt 24 = .ok (.iconst (-1), 1)) (by decide)).to, ?_⟩
  refine List.forall_mem_cons.mpr ⟨s_iret (by decide +kernel : decode cX5_placeAt 25 = .ok (.ireturn, 1)) rfl, ?_⟩
  refine List.forall_mem_cons.mpr ⟨(s_iloadn (by decide +kernel : decode cX5_placeAt 26 = .ok (.iload_n 2, 1)) rfl).to, ?_⟩
  refine List.forall_mem_cons.mpr ⟨(s_bipush (by decide +kernel : decode cX5_placeAt 27 = .ok (.bipush 16, 2)) (by decide)).to, ?_⟩
  refine List.forall_mem_cons.mpr ⟨(s_imul (by decide +kernel : decode cX5_placeAt 29 = .ok (.imul, 1))).to, ?_⟩
  refine List.forall_mem_cons.mpr ⟨(s_iloadn (by decide +kernel : decode cX5_placeAt 30 = .ok (.iload_n 1, 1)) rfl).to, ?_⟩
  refine List.forall_mem_cons.mpr ⟨(s_iadd (by decide +kernel : decode cX5_placeAt 31 = .ok (.iadd, 1))).to, ?_⟩
  refine List.forall_mem_cons.mpr ⟨s_iret (by decide +kernel : decode cX5_placeAt 32 = .ok (.ireturn, 1)) rfl, ?_⟩
  exact fun _ h => absurd h List.not_mem_nil
theorem sn_tX5_placeOf : ∀ q ∈ tX5_placeOf, am_Snd am_P0 RX5 cX5_placeOf 2 (Option.some FieldType.int) "placeOf" q.1 q.2 := by
  unfold tX5_placeOf
  refine List.forall_mem_cons.mpr ⟨(s_aloadn (by decide +kernel : decode cX5_placeOf 0 = .ok (.aload_n 0, 1)) rfl).to, ?_⟩
  refine List.forall_mem_cons.mpr ⟨(s_get (ci := 5) (k := 0) (by decide +kernel : decode cX5_placeOf 1 = .ok (.getfield 65, 3)) rfl (by decide) wd305 inX5 rfl).to, ?_⟩
  refine List.forall_mem_cons.mpr ⟨(s_if_eq (by decide +kernel : decode cX5_placeOf 4 = .ok (.ifCond .eq 20, 3)) (by decide)).to, ?_⟩
  refine List.forall_mem_cons.mpr ⟨(s_iloadn (by decide +kernel : decode cX5_placeOf 7 = .ok (.iload_n 1, 1)) rfl).to, ?_⟩
  refine List.forall_mem_cons.mpr ⟨(s_if_lt (by decide +kernel : decode cX5_placeOf 8 = .ok (.ifCond .lt 16, 3)) (by decide)).to, ?_⟩
  refine List.forall_mem_cons.mpr ⟨(s_iloadn (by decide +kernel : decode cX5_placeOf 11 = .ok (.iload_n 1, 1)) rfl).to, ?_⟩
  refine List.forall_mem_cons.mpr ⟨(s_aloadn (by decide +kernel : decode cX5_placeOf 12 = .ok (.aload_n 0, 1)) rfl).to, ?_⟩
  refine List.forall_mem_cons.mpr ⟨(s_get (ci := 5) (k := 0) (by decide +kernel : decode cX5_placeOf 13 = .ok (.getfield 65, 3)) rfl (by decide) wd305 inX5 rfl).to, ?_⟩
  refine List.forall_mem_cons.mpr ⟨(s_aloadn (by decide +kernel : decode cX5_placeOf 16 = .ok (.aload_n 0, 1)) rfl).to, ?_⟩
  refine List.forall_mem_cons.mpr ⟨(s_get (ci := 5) (k := 1) (by decide +kernel : decode cX5_placeOf 17 = .ok (.getfield 68, 3)) rfl (by decide) wd308 inX5 rfl).to, ?_⟩
  refine List.forall_mem_cons.mpr ⟨(s_imul (by decide +kernel : decode cX5_placeOf 20 = .ok (.imul, 1))).to, ?_⟩
  refine List.forall_mem_cons.mpr ⟨(s_icmp_lt (by decide +kernel : decode cX5_placeOf 21 = .ok (.if_icmp .lt 5, 3)) (by decide)).to, ?_⟩
  refine List.forall_mem_cons.mpr ⟨(s_iconst (by decide +kernel : decode cX5_placeOf 24 = .ok (.iconst (-1), 1)) (by decide)).to, ?_⟩
  refine List.forall_mem_cons.mpr ⟨s_iret (by decide +kernel : decode cX5_placeOf 25 = .ok (.ireturn, 1)) rfl, ?_⟩
  refine List.forall_mem_cons.mpr ⟨(s_iloadn (by decide +kernel : decode cX5_placeOf 26 = .ok (.iload_n 1, 1)) rfl).to, ?_⟩
  refine List.forall_mem_cons.mpr ⟨(s_aloadn (by decide +kernel : decode cX5_placeOf 27 = .ok (.aload_n 0, 1)) rfl).to, ?_⟩
  refine List.forall_mem_cons.mpr ⟨(s_get (ci := 5) (k := 0) (by decide +kernel : decode cX5_placeOf 28 = .ok (.getfield 65, 3)) rfl (by decide) wd305 inX5 rfl).to, ?_⟩
  refine List.forall_mem_cons.mpr ⟨(s_idiv (by decide +kernel : decode cX5_placeOf 31 = .ok (.idiv, 1))).to, ?_⟩
  refine List.forall_mem_cons.mpr ⟨(s_bipush (by decide +kernel : decode cX5_placeOf 32 = .ok (.bipush 16, 2)) (by decide)).to, ?_⟩
  refine List.forall_mem_cons.mpr ⟨(s_imul (by decide +kernel : decode cX5_placeOf 34 = .ok (.imul, 1))).to, ?_⟩
  refine List.forall_mem_cons.mpr ⟨(s_iloadn (by decide +kernel : decode cX5_placeOf 35 = .ok (.iload_n 1, 1)) rfl).to, ?_⟩
  refine List.forall_mem_cons.mpr ⟨(s_aloadn (by decide +kernel : decode cX5_placeOf 36 = .ok (.aload_n 0, 1)) rfl).to, ?_⟩
  refine List.forall_mem_cons.mpr ⟨(s_get (ci := 5) (k := 0) (by decide +kernel : decode cX5_placeOf 37 = .ok (.getfield 65, 3)) rfl (by decide) wd305 inX5 rfl).to, ?_⟩
  refine List.forall_mem_cons.mpr ⟨(s_irem (by decide +kernel : decode cX5_placeOf 40 = .ok (.irem, 1))).to, ?_⟩
  refine List.forall_mem_cons.mpr ⟨(s_iadd (by decide +kernel : decode cX5_placeOf 41 = .ok (.iadd, 1))).to, ?_⟩
  refine List.forall_mem_cons.mpr ⟨s_iret (by decide +kernel : decode cX5_placeOf 42 = .ok (.ireturn, 1)) rfl, ?_⟩
  exact fun _ h => absurd h List.not_mem_nil
theorem sn_tX5_numberOf : ∀ q ∈ tX5_numberOf, am_Snd am_P0 RX5 cX5_numberOf 2 (Option.some FieldType.int) "numberOf" q.1 q.2 := by
  unfold tX5_numberOf
  refine List.forall_mem_cons.mpr ⟨(s_iloadn (by decide +kernel : decode cX5_numberOf 0 = .ok (.iload_n 1, 1)) rfl).to, ?_⟩
  refine List.forall_mem_cons.mpr ⟨(s_bipush (by decide +kernel : decode cX5_numberOf 1 = .ok (.bipush 16, 2)) (by decide)).to, ?_⟩
  refine List.forall_mem_cons.mpr ⟨(s_idiv (by decide +kernel : decode cX5_numberOf 3 = .ok (.idiv, 1))).to, ?_⟩
  refine List.forall_mem_cons.mpr ⟨(s_aloadn (by decide +kernel : decode cX5_numberOf 4 = .ok (.aload_n 0, 1)) rfl).to, ?_⟩
  refine List.forall_mem_cons.mpr ⟨(s_get (ci := 5) (k := 0) (by decide +kernel : decode cX5_numberOf 5 = .ok (.getfield 65, 3)) rfl (by decide) wd305 inX5 rfl).to, ?_⟩
  refine List.forall_mem_cons.mpr ⟨(s_imul (by decide +kernel : decode cX5_numberOf 8 = .ok (.imul, 1))).to, ?_⟩
  refine List.forall_mem_cons.mpr ⟨(s_iloadn (by decide +kernel : decode cX5_numberOf 9 = .ok (.iload_n 1, 1)) rfl).to, ?_⟩
  refine List.forall_mem_cons.mpr ⟨(s_bipush (by decide +kernel : decode cX5_numberOf 10 = .ok (.bipush 16, 2)) (by decide)).to, ?_⟩
  refine List.forall_mem_cons.mpr ⟨(s_irem (by decide +kernel : decode cX5_numberOf 12 = .ok (.irem, 1))).to, ?_⟩
  refine List.forall_mem_cons.mpr ⟨(s_iadd (by decide +kernel : decode cX5_numberOf 13 = .ok (.iadd, 1))).to, ?_⟩
  refine List.forall_mem_cons.mpr ⟨s_iret (by decide +kernel : decode cX5_numberOf 14 = .ok (.ireturn, 1)) rfl, ?_⟩
  exact fun _ h => absurd h List.not_mem_nil
theorem sn_tX5_countSayings : ∀ q ∈ tX5_countSayings, am_Snd am_P0 RX5 cX5_countSayings 3 (Option.some FieldType.int) "countSayings" q.1 q.2 := by
  unfold tX5_countSayings
  refine List.forall_mem_cons.mpr ⟨(s_iconst (by decide +kernel : decode cX5_countSayings 0 = .ok (.iconst 0, 1)) (by decide)).to, ?_⟩
  refine List.forall_mem_cons.mpr ⟨(s_istoren (by decide +kernel : decode cX5_countSayings 1 = .ok (.istore_n 1, 1)) rfl (by decide)).to, ?_⟩
  refine List.forall_mem_cons.mpr ⟨(s_iconst (by decide +kernel : decode cX5_countSayings 2 = .ok (.iconst 0, 1)) (by decide)).to, ?_⟩
  refine List.forall_mem_cons.mpr ⟨(s_istoren (by decide +kernel : decode cX5_countSayings 3 = .ok (.istore_n 2, 1)) rfl (by decide)).to, ?_⟩
  refine List.forall_mem_cons.mpr ⟨(s_iloadn (by decide +kernel : decode cX5_countSayings 4 = .ok (.iload_n 2, 1)) rfl).to, ?_⟩
  refine List.forall_mem_cons.mpr ⟨(s_aloadn (by decide +kernel : decode cX5_countSayings 5 = .ok (.aload_n 0, 1)) rfl).to, ?_⟩
  refine List.forall_mem_cons.mpr ⟨(s_get (ci := 5) (k := 3) (by decide +kernel : decode cX5_countSayings 6 = .ok (.getfield 71, 3)) rfl (by decide) wd314 inX5 rfl).to, ?_⟩
  refine List.forall_mem_cons.mpr ⟨(s_icmp_ge (by decide +kernel : decode cX5_countSayings 9 = .ok (.if_icmp .ge 21, 3)) (by decide)).to, ?_⟩
  refine List.forall_mem_cons.mpr ⟨(s_iloadn (by decide +kernel : decode cX5_countSayings 12 = .ok (.iload_n 1, 1)) rfl).to, ?_⟩
  refine List.forall_mem_cons.mpr ⟨(s_aloadn (by decide +kernel : decode cX5_countSayings 13 = .ok (.aload_n 0, 1)) rfl).to, ?_⟩
  refine List.forall_mem_cons.mpr ⟨(s_get (ci := 5) (k := 4) (by decide +kernel : decode cX5_countSayings 14 = .ok (.getfield 17, 3)) rfl (by decide) wd317 inX5 rfl).to, ?_⟩
  refine List.forall_mem_cons.mpr ⟨(s_iloadn (by decide +kernel : decode cX5_countSayings 17 = .ok (.iload_n 2, 1)) rfl).to, ?_⟩
  refine List.forall_mem_cons.mpr ⟨(s_aald (by decide +kernel : decode cX5_countSayings 18 = .ok (.aaload, 1))).to, ?_⟩
  refine List.forall_mem_cons.mpr ⟨(s_get (ci := 6) (k := 5) (by decide +kernel : decode cX5_countSayings 19 = .ok (.getfield 96, 3)) rfl (by decide) wd256 inX6 rfl).to, ?_⟩
  refine List.forall_mem_cons.mpr ⟨(s_iadd (by decide +kernel : decode cX5_countSayings 22 = .ok (.iadd, 1))).to, ?_⟩
  refine List.forall_mem_cons.mpr ⟨(s_istoren (by decide +kernel : decode cX5_countSayings 23 = .ok (.istore_n 1, 1)) rfl (by decide)).to, ?_⟩
  refine List.forall_mem_cons.mpr ⟨(s_iinc (by decide +kernel : decode cX5_countSayings 24 = .ok (.iinc 2 1, 3)) (by decide) (by decide)).to, ?_⟩
  refine List.forall_mem_cons.mpr ⟨(s_goto (by decide +kernel : decode cX5_countSayings 27 = .ok (.goto (-23), 3)) (by decide)).to, ?_⟩
  refine List.forall_mem_cons.mpr ⟨(s_iloadn (by decide +kernel : decode cX5_countSayings 30 = .ok (.iload_n 1, 1)) rfl).to, ?_⟩
  refine List.forall_mem_cons.mpr ⟨s_iret (by decide +kernel : decode cX5_countSayings 31 = .ok (.ireturn, 1)) rfl, ?_⟩
  exact fun _ h => absurd h List.not_mem_nil
theorem sn_tX5_countSayers : ∀ q ∈ tX5_countSayers, am_Snd am_P0 RX5 cX5_countSayers 3 (Option.some FieldType.int) "countSayers" q.1 q.2 := by
  unfold tX5_countSayers
  refine List.forall_mem_cons.mpr ⟨(s_iconst (by decide +kernel : decode cX5_countSayers 0 = .ok (.iconst 0, 1)) (by decide)).to, ?_⟩
  refine List.forall_mem_cons.mpr ⟨(s_istoren (by decide +kernel : decode cX5_countSayers 1 = .ok (.istore_n 1, 1)) rfl (by decide)).to, ?_⟩
  refine List.forall_mem_cons.mpr ⟨(s_iconst (by decide +kernel : decode cX5_countSayers 2 = .ok (.iconst 0, 1)) (by decide)).to, ?_⟩
  refine List.forall_mem_cons.mpr ⟨(s_istoren (by decide +kernel : decode cX5_countSayers 3 = .ok (.istore_n 2, 1)) rfl (by decide)).to, ?_⟩
  refine List.forall_mem_cons.mpr ⟨(s_iloadn (by decide +kernel : decode cX5_countSayers 4 = .ok (.iload_n 2, 1)) rfl).to, ?_⟩
  refine List.forall_mem_cons.mpr ⟨(s_aloadn (by decide +kernel : decode cX5_countSayers 5 = .ok (.aload_n 0, 1)) rfl).to, ?_⟩
  refine List.forall_mem_cons.mpr ⟨(s_get (ci := 5) (k := 3) (by decide +kernel : decode cX5_countSayers 6 = .ok (.getfield 71, 3)) rfl (by decide) wd314 inX5 rfl).to, ?_⟩
  refine List.forall_mem_cons.mpr ⟨(s_icmp_ge (by decide +kernel : decode cX5_countSayers 9 = .ok (.if_icmp .ge 29, 3)) (by decide)).to, ?_⟩
  refine List.forall_mem_cons.mpr ⟨(s_iloadn (by decide +kernel : decode cX5_countSayers 12 = .ok (.iload_n 1, 1)) rfl).to, ?_⟩
  refine List.forall_mem_cons.mpr ⟨(s_aloadn (by decide +kernel : decode cX5_countSayers 13 = .ok (.aload_n 0, 1)) rfl).to, ?_⟩
  refine List.forall_mem_cons.mpr ⟨(s_get (ci := 5) (k := 4) (by decide +kernel : decode cX5_countSayers 14 = .ok (.getfield 17, 3)) rfl (by decide) wd317 inX5 rfl).to, ?_⟩
  refine List.forall_mem_cons.mpr ⟨(s_iloadn (by decide +kernel : decode cX5_countSayers 17 = .ok (.iload_n 2, 1)) rfl).to, ?_⟩
  refine List.forall_mem_cons.mpr ⟨(s_aald (by decide +kernel : decode cX5_countSayers 18 = .ok (.aaload, 1))).to, ?_⟩
  refine List.forall_mem_cons.mpr ⟨(s_get (ci := 6) (k := 5) (by decide +kernel : decode cX5_countSayers 19 = .ok (.getfield 96, 3)) rfl (by decide) wd256 inX6 rfl).to, ?_⟩
  refine List.forall_mem_cons.mpr ⟨(s_if_le (by decide +kernel : decode cX5_countSayers 22 = .ok (.ifCond .le 7, 3)) (by decide)).to, ?_⟩
  refine List.forall_mem_cons.mpr ⟨(s_iconst (by decide +kernel : decode cX5_countSayers 25 = .ok (.iconst 1, 1)) (by decide)).to, ?_⟩
  refine List.forall_mem_cons.mpr ⟨(s_goto (by decide +kernel : decode cX5_countSayers 26 = .ok (.goto 4, 3)) (by decide)).to, ?_⟩
  refine List.forall_mem_cons.mpr ⟨(s_iconst (by decide +kernel : decode cX5_countSayers 29 = .ok (.iconst 0, 1)) (by decide)).to, ?_⟩
  refine List.forall_mem_cons.mpr ⟨(s_iadd (by decide +kernel : decode cX5_countSayers 30 = .ok (.iadd, 1))).to, ?_⟩
  refine List.forall_mem_cons.mpr ⟨(s_istoren (by decide +kernel : decode cX5_countSayers 31 = .ok (.istore_n 1, 1)) rfl (by decide)).to, ?_⟩
  refine List.forall_mem_cons.mpr ⟨(s_iinc (by decide +kernel : decode cX5_countSayers 32 = .ok (.iinc 2 1, 3)) (by decide) (by decide)).to, ?_⟩
  refine List.forall_mem_cons.mpr ⟨(s_goto (by decide +kernel : decode cX5_countSayers 35 = .ok (.goto (-31), 3)) (by decide)).to, ?_⟩
  refine List.forall_mem_cons.mpr ⟨(s_iloadn (by decide +kernel : decode cX5_countSayers 38 = .ok (.iload_n 1, 1)) rfl).to, ?_⟩
  refine List.forall_mem_cons.mpr ⟨s_iret (by decide +kernel : decode cX5_countSayers 39 = .ok (.ireturn, 1)) rfl, ?_⟩
  exact fun _ h => absurd h List.not_mem_nil
theorem sn_tX5_countBooks : ∀ q ∈ tX5_countBooks, am_Snd am_P0 RX5 cX5_countBooks 3 (Option.some FieldType.int) "countBooks" q.1 q.2 := by
  unfold tX5_countBooks
  refine List.forall_mem_cons.mpr ⟨(s_iconst (by decide +kernel : decode cX5_countBooks 0 = .ok (.iconst 0, 1)) (by decide)).to, ?_⟩
  refine List.forall_mem_cons.mpr ⟨(s_istoren (by decide +kernel : decode cX5_countBooks 1 = .ok (.istore_n 1, 1)) rfl (by decide)).to, ?_⟩
  refine List.forall_mem_cons.mpr ⟨(s_iconst (by decide +kernel : decode cX5_countBooks 2 = .ok (.iconst 0, 1)) (by decide)).to, ?_⟩
  refine List.forall_mem_cons.mpr ⟨(s_istoren (by decide +kernel : decode cX5_countBooks 3 = .ok (.istore_n 2, 1)) rfl (by decide)).to, ?_⟩
  refine List.forall_mem_cons.mpr ⟨(s_iloadn (by decide +kernel : decode cX5_countBooks 4 = .ok (.iload_n 2, 1)) rfl).to, ?_⟩
  refine List.forall_mem_cons.mpr ⟨(s_aloadn (by decide +kernel : decode cX5_countBooks 5 = .ok (.aload_n 0, 1)) rfl).to, ?_⟩
  refine List.forall_mem_cons.mpr ⟨(s_get (ci := 5) (k := 3) (by decide +kernel : decode cX5_countBooks 6 = .ok (.getfield 71, 3)) rfl (by decide) wd314 inX5 rfl).to, ?_⟩
  refine List.forall_mem_cons.mpr ⟨(s_icmp_ge (by decide +kernel : decode cX5_countBooks 9 = .ok (.if_icmp .ge 21, 3)) (by decide)).to, ?_⟩
  refine List.forall_mem_cons.mpr ⟨(s_iloadn (by decide +kernel : decode cX5_countBooks 12 = .ok (.iload_n 1, 1)) rfl).to, ?_⟩
  refine List.forall_mem_cons.mpr ⟨(s_aloadn (by decide +kernel : decode cX5_countBooks 13 = .ok (.aload_n 0, 1)) rfl).to, ?_⟩
  refine List.forall_mem_cons.mpr ⟨(s_get (ci := 5) (k := 4) (by decide +kernel : decode cX5_countBooks 14 = .ok (.getfield 17, 3)) rfl (by decide) wd317 inX5 rfl).to, ?_⟩
  refine List.forall_mem_cons.mpr ⟨(s_iloadn (by decide +kernel : decode cX5_countBooks 17 = .ok (.iload_n 2, 1)) rfl).to, ?_⟩
  refine List.forall_mem_cons.mpr ⟨(s_aald (by decide +kernel : decode cX5_countBooks 18 = .ok (.aaload, 1))).to, ?_⟩
  refine List.forall_mem_cons.mpr ⟨(s_get (ci := 6) (k := 9) (by decide +kernel : decode cX5_countBooks 19 = .ok (.getfield 97, 3)) rfl (by decide) wd269 inX6 rfl).to, ?_⟩
  refine List.forall_mem_cons.mpr ⟨(s_iadd (by decide +kernel : decode cX5_countBooks 22 = .ok (.iadd, 1))).to, ?_⟩
  refine List.forall_mem_cons.mpr ⟨(s_istoren (by decide +kernel : decode cX5_countBooks 23 = .ok (.istore_n 1, 1)) rfl (by decide)).to, ?_⟩
  refine List.forall_mem_cons.mpr ⟨(s_iinc (by decide +kernel : decode cX5_countBooks 24 = .ok (.iinc 2 1, 3)) (by decide) (by decide)).to, ?_⟩
  refine List.forall_mem_cons.mpr ⟨(s_goto (by decide +kernel : decode cX5_countBooks 27 = .ok (.goto (-23), 3)) (by decide)).to, ?_⟩
  refine List.forall_mem_cons.mpr ⟨(s_iloadn (by decide +kernel : decode cX5_countBooks 30 = .ok (.iload_n 1, 1)) rfl).to, ?_⟩
  refine List.forall_mem_cons.mpr ⟨s_iret (by decide +kernel : decode cX5_countBooks 31 = .ok (.ireturn, 1)) rfl, ?_⟩
  exact fun _ h => absurd h List.not_mem_nil
theorem sn_tX5_shipNamed : ∀ q ∈ tX5_shipNamed, am_Snd am_P0 RX5 cX5_shipNamed 3 (Option.some FieldType.int) "shipNamed" q.1 q.2 := by
  unfold tX5_shipNamed
  refine List.forall_mem_cons.mpr ⟨(s_iconst (by decide +kernel : decode cX5_shipNamed 0 = .ok (.iconst 0, 1)) (by decide)).to, ?_⟩
  refine List.forall_mem_cons.mpr ⟨(s_istoren (by decide +kernel : decode cX5_shipNamed 1 = .ok (.istore_n 2, 1)) rfl (by decide)).to, ?_⟩
  refine List.forall_mem_cons.mpr ⟨(s_iloadn (by decide +kernel : decode cX5_shipNamed 2 = .ok (.iload_n 2, 1)) rfl).to, ?_⟩
  refine List.forall_mem_cons.mpr ⟨(s_aloadn (by decide +kernel : decode cX5_shipNamed 3 = .ok (.aload_n 0, 1)) rfl).to, ?_⟩
  refine List.forall_mem_cons.mpr ⟨(s_get (ci := 5) (k := 3) (by decide +kernel : decode cX5_shipNamed 4 = .ok (.getfield 71, 3)) rfl (by decide) wd314 inX5 rfl).to, ?_⟩
  refine List.forall_mem_cons.mpr ⟨(s_icmp_ge (by decide +kernel : decode cX5_shipNamed 7 = .ok (.if_icmp .ge 24, 3)) (by decide)).to, ?_⟩
  refine List.forall_mem_cons.mpr ⟨(s_aloadn (by decide +kernel : decode cX5_shipNamed 10 = .ok (.aload_n 0, 1)) rfl).to, ?_⟩
  refine List.forall_mem_cons.mpr ⟨(s_get (ci := 5) (k := 4) (by decide +kernel : decode cX5_shipNamed 11 = .ok (.getfield 17, 3)) rfl (by decide) wd317 inX5 rfl).to, ?_⟩
  refine List.forall_mem_cons.mpr ⟨(s_iloadn (by decide +kernel : decode cX5_shipNamed 14 = .ok (.iload_n 2, 1)) rfl).to, ?_⟩
  refine List.forall_mem_cons.mpr ⟨(s_aald (by decide +kernel : decode cX5_shipNamed 15 = .ok (.aaload, 1))).to, ?_⟩
  refine List.forall_mem_cons.mpr ⟨(s_get (ci := 6) (k := 0) (by decide +kernel : decode cX5_shipNamed 16 = .ok (.getfield 100, 3)) rfl (by decide) wd240 inX6 rfl).to, ?_⟩
  refine List.forall_mem_cons.mpr ⟨(s_iloadn (by decide +kernel : decode cX5_shipNamed 19 = .ok (.iload_n 1, 1)) rfl).to, ?_⟩
  refine List.forall_mem_cons.mpr ⟨(s_icmp_ne (by decide +kernel : decode cX5_shipNamed 20 = .ok (.if_icmp .ne 5, 3)) (by decide)).to, ?_⟩
  refine List.forall_mem_cons.mpr ⟨(s_iloadn (by decide +kernel : decode cX5_shipNamed 23 = .ok (.iload_n 2, 1)) rfl).to, ?_⟩
  refine List.forall_mem_cons.mpr ⟨s_iret (by decide +kernel : decode cX5_shipNamed 24 = .ok (.ireturn, 1)) rfl, ?_⟩
  refine List.forall_mem_cons.mpr ⟨(s_iinc (by decide +kernel : decode cX5_shipNamed 25 = .ok (.iinc 2 1, 3)) (by decide) (by decide)).to, ?_⟩
  refine List.forall_mem_cons.mpr ⟨(s_goto (by decide +kernel : decode cX5_shipNamed 28 = .ok (.goto (-26), 3)) (by decide)).to, ?_⟩
  refine List.forall_mem_cons.mpr ⟨(s_iconst (by decide +kernel : decode cX5_shipNamed 31 = .ok (.iconst (-1), 1)) (by decide)).to, ?_⟩
  refine List.forall_mem_cons.mpr ⟨s_iret (by decide +kernel : decode cX5_shipNamed 32 = .ok (.ireturn, 1)) rfl, ?_⟩
  exact fun _ h => absurd h List.not_mem_nil
theorem sn_tX5_launch : ∀ q ∈ tX5_launch, am_Snd am_P0 RX5 cX5_launch 7 (Option.none : Option FieldType) "launch" q.1 q.2 := by
  unfold tX5_launch
  refine List.forall_mem_cons.mpr ⟨(s_aloadn (by decide +kernel : decode cX5_launch 0 = .ok (.aload_n 0, 1)) rfl).to, ?_⟩
  refine List.forall_mem_cons.mpr ⟨(s_get (ci := 5) (k := 3) (by decide +kernel : decode cX5_launch 1 = .ok (.getfield 71, 3)) rfl (by decide) wd314 inX5 rfl).to, ?_⟩
  refine List.forall_mem_cons.mpr ⟨(s_bipush (by decide +kernel : decode cX5_launch 4 = .ok (.bipush 8, 2)) (by decide)).to, ?_⟩
  refine List.forall_mem_cons.mpr ⟨(s_icmp_ge (by decide +kernel : decode cX5_launch 6 = .ok (.if_icmp .ge 68, 3)) (by decide)).to, ?_⟩
  refine List.forall_mem_cons.mpr ⟨(s_aloadn (by decide +kernel : decode cX5_launch 9 = .ok (.aload_n 0, 1)) rfl).to, ?_⟩
  refine List.forall_mem_cons.mpr ⟨(s_get (ci := 5) (k := 4) (by decide +kernel : decode cX5_launch 10 = .ok (.getfield 17, 3)) rfl (by decide) wd317 inX5 rfl).to, ?_⟩
  refine List.forall_mem_cons.mpr ⟨(s_aloadn (by decide +kernel : decode cX5_launch 13 = .ok (.aload_n 0, 1)) rfl).to, ?_⟩
  refine List.forall_mem_cons.mpr ⟨(s_get (ci := 5) (k := 3) (by decide +kernel : decode cX5_launch 14 = .ok (.getfield 71, 3)) rfl (by decide) wd314 inX5 rfl).to, ?_⟩
  refine List.forall_mem_cons.mpr ⟨(s_aald (by decide +kernel : decode cX5_launch 17 = .ok (.aaload, 1))).to, ?_⟩
  refine List.forall_mem_cons.mpr ⟨(s_astore (by decide +kernel : decode cX5_launch 18 = .ok (.astore 6, 2)) (by decide)).to, ?_⟩
  refine List.forall_mem_cons.mpr ⟨(s_aload (by decide +kernel : decode cX5_launch 20 = .ok (.aload 6, 2))).to, ?_⟩
  refine List.forall_mem_cons.mpr ⟨(s_iloadn (by decide +kernel : decode cX5_launch 22 = .ok (.iload_n 1, 1)) rfl).to, ?_⟩
  refine List.forall_mem_cons.mpr ⟨(s_put (ci := 6) (k := 0) (by decide +kernel : decode cX5_launch 23 = .ok (.putfield 100, 3)) rfl (by decide) wd240 inX6 tyX6_ok nmX6 rfl rfl).to, ?_⟩
  refine List.forall_mem_cons.mpr ⟨(s_aload (by decide +kernel : decode cX5_launch 26 = .ok (.aload 6, 2))).to, ?_⟩
  refine List.forall_mem_cons.mpr ⟨(s_iloadn (by decide +kernel : decode cX5_launch 28 = .ok (.iload_n 2, 1)) rfl).to, ?_⟩
  refine List.forall_mem_cons.mpr ⟨(s_put (ci := 6) (k := 1) (by decide +kernel : decode cX5_launch 29 = .ok (.putfield 103, 3)) rfl (by decide) wd242 inX6 tyX6_ok nmX6 rfl rfl).to, ?_⟩
  refine List.forall_mem_cons.mpr ⟨(s_aload (by decide +kernel : decode cX5_launch 32 = .ok (.aload 6, 2))).to, ?_⟩
  refine List.forall_mem_cons.mpr ⟨(s_iloadn (by decide +kernel : decode cX5_launch 34 = .ok (.iload_n 3, 1)) rfl).to, ?_⟩
  refine List.forall_mem_cons.mpr ⟨(s_put (ci := 6) (k := 2) (by decide +kernel : decode cX5_launch 35 = .ok (.putfield 106, 3)) rfl (by decide) wd245 inX6 tyX6_ok nmX6 rfl rfl).to, ?_⟩
  refine List.forall_mem_cons.mpr ⟨(s_aload (by decide +kernel : decode cX5_launch 38 = .ok (.aload 6, 2))).to, ?_⟩
  refine List.forall_mem_cons.mpr ⟨(s_iload (by decide +kernel : decode cX5_launch 40 = .ok (.iload 4, 2))).to, ?_⟩
  refine List.forall_mem_cons.mpr ⟨(s_put (ci := 6) (k := 3) (by decide +kernel : decode cX5_launch 42 = .ok (.putfield 109, 3)) rfl (by decide) wd249 inX6 tyX6_ok nmX6 rfl rfl).to, ?_⟩
  refine List.forall_mem_cons.mpr ⟨(s_aload (by decide +kernel : decode cX5_launch 45 = .ok (.aload 6, 2))).to, ?_⟩
  refine List.forall_mem_cons.mpr ⟨(s_iload (by decide +kernel : decode cX5_launch 47 = .ok (.iload 5, 2))).to, ?_⟩
  refine List.forall_mem_cons.mpr ⟨(s_put (ci := 6) (k := 4) (by decide +kernel : decode cX5_launch 49 = .ok (.putfield 112, 3)) rfl (by decide) wd252 inX6 tyX6_ok nmX6 rfl rfl).to, ?_⟩
  refine List.forall_mem_cons.mpr ⟨(s_aload (by decide +kernel : decode cX5_launch 52 = .ok (.aload 6, 2))).to, ?_⟩
  refine List.forall_mem_cons.mpr ⟨(s_iconst (by decide +kernel : decode cX5_launch 54 = .ok (.iconst 0, 1)) (by decide)).to, ?_⟩
  refine List.forall_mem_cons.mpr ⟨(s_put (ci := 6) (k := 5) (by decide +kernel : decode cX5_launch 55 = .ok (.putfield 96, 3)) rfl (by decide) wd256 inX6 tyX6_ok nmX6 rfl rfl).to, ?_⟩
  refine List.forall_mem_cons.mpr ⟨(s_aload (by decide +kernel : decode cX5_launch 58 = .ok (.aload 6, 2))).to, ?_⟩
  refine List.forall_mem_cons.mpr ⟨(s_iconst (by decide +kernel : decode cX5_launch 60 = .ok (.iconst 0, 1)) (by decide)).to, ?_⟩
  refine List.forall_mem_cons.mpr ⟨(s_put (ci := 6) (k := 9) (by decide +kernel : decode cX5_launch 61 = .ok (.putfield 97, 3)) rfl (by decide) wd269 inX6 tyX6_ok nmX6 rfl rfl).to, ?_⟩
  refine List.forall_mem_cons.mpr ⟨(s_aloadn (by decide +kernel : decode cX5_launch 64 = .ok (.aload_n 0, 1)) rfl).to, ?_⟩
  refine List.forall_mem_cons.mpr ⟨(s_dup (by decide +kernel : decode cX5_launch 65 = .ok (.dup, 1))).to, ?_⟩
  refine List.forall_mem_cons.mpr ⟨(s_get (ci := 5) (k := 3) (by decide +kernel : decode cX5_launch 66 = .ok (.getfield 71, 3)) rfl (by decide) wd314 inX5 rfl).to, ?_⟩
  refine List.forall_mem_cons.mpr ⟨(s_iconst (by decide +kernel : decode cX5_launch 69 = .ok (.iconst 1, 1)) (by decide)).to, ?_⟩
  refine List.forall_mem_cons.mpr ⟨(s_iadd (by decide +kernel : decode cX5_launch 70 = .ok (.iadd, 1))).to, ?_⟩
  refine List.forall_mem_cons.mpr ⟨(s_put (ci := 5) (k := 3) (by decide +kernel : decode cX5_launch 71 = .ok (.putfield 71, 3)) rfl (by decide) wd314 inX5 tyX5_ok nmX5 rfl rfl).to, ?_⟩
  refine List.forall_mem_cons.mpr ⟨s_vret (by decide +kernel : decode cX5_launch 74 = .ok (.return_, 1)) rfl, ?_⟩
  exact fun _ h => absurd h List.not_mem_nil
theorem sn_tX6_init : ∀ q ∈ tX6_init, am_Snd am_P0 RX6 cX6_init 1 (Option.none : Option FieldType) "<init>" q.1 q.2 := by
  unfold tX6_init
  refine List.forall_mem_cons.mpr ⟨(s_aloadn (by decide +kernel : decode cX6_init 0 = .ok (.aload_n 0, 1)) rfl).to, ?_⟩
  refine List.forall_mem_cons.mpr ⟨(s_obj (by decide +kernel : decode cX6_init 1 = .ok (.invokespecial 3, 3)) wd238 wd160 wd161).to, ?_⟩
  refine List.forall_mem_cons.mpr ⟨(s_aloadn (by decide +kernel : decode cX6_init 4 = .ok (.aload_n 0, 1)) rfl).to, ?_⟩
  refine List.forall_mem_cons.mpr ⟨(s_bipush (by decide +kernel : decode cX6_init 5 = .ok (.bipush 48, 2)) (by decide)).to, ?_⟩
  refine List.forall_mem_cons.mpr ⟨(s_newa (kd := 0) (ty := .int) (by decide +kernel : decode cX6_init 7 = .ok (.newarray .int, 2)) rfl rfl wd195 (by decide) (by decide) (fun _ _ h => h)).to, ?_⟩
  refine List.forall_mem_cons.mpr ⟨(s_putF (ci := 6) (k := 6) (by decide +kernel : decode cX6_init 9 = .ok (.putfield 9, 3)) rfl (by decide) wd257 inX6 tyX6_ok nmX6 rfl rfl rfl rfl).to, ?_⟩
  refine List.forall_mem_cons.mpr ⟨(s_aloadn (by decide +kernel : decode cX6_init 12 = .ok (.aload_n 0, 1)) rfl).to, ?_⟩
  refine List.forall_mem_cons.mpr ⟨(s_bipush (by decide +kernel : decode cX6_init 13 = .ok (.bipush 48, 2)) (by decide)).to, ?_⟩
  refine List.forall_mem_cons.mpr ⟨(s_newa (kd := 0) (ty := .int) (by decide +kernel : decode cX6_init 15 = .ok (.newarray .int, 2)) rfl rfl wd195 (by decide) (by decide) (fun _ _ h => h)).to, ?_⟩
  refine List.forall_mem_cons.mpr ⟨(s_putF (ci := 6) (k := 7) (by decide +kernel : decode cX6_init 17 = .ok (.putfield 15, 3)) rfl (by decide) wd260 inX6 tyX6_ok nmX6 rfl rfl rfl rfl).to, ?_⟩
  refine List.forall_mem_cons.mpr ⟨(s_aloadn (by decide +kernel : decode cX6_init 20 = .ok (.aload_n 0, 1)) rfl).to, ?_⟩
  refine List.forall_mem_cons.mpr ⟨(s_bipush (by decide +kernel : decode cX6_init 21 = .ok (.bipush 48, 2)) (by decide)).to, ?_⟩
  refine List.forall_mem_cons.mpr ⟨(s_newa (kd := 2) (ty := .boolean) (by decide +kernel : decode cX6_init 23 = .ok (.newarray .boolean, 2)) rfl rfl wd304 (by decide) (by decide) (fun _ _ h => h)).to, ?_⟩
  refine List.forall_mem_cons.mpr ⟨(s_putF (ci := 6) (k := 8) (by decide +kernel : decode cX6_init 25 = .ok (.putfield 18, 3)) rfl (by decide) wd263 inX6 tyX6_ok nmX6 rfl rfl rfl rfl).to, ?_⟩
  refine List.forall_mem_cons.mpr ⟨(s_aloadn (by decide +kernel : decode cX6_init 28 = .ok (.aload_n 0, 1)) rfl).to, ?_⟩
  refine List.forall_mem_cons.mpr ⟨(s_bipush (by decide +kernel : decode cX6_init 29 = .ok (.bipush 12, 2)) (by decide)).to, ?_⟩
  refine List.forall_mem_cons.mpr ⟨(s_newa (kd := 0) (ty := .int) (by decide +kernel : decode cX6_init 31 = .ok (.newarray .int, 2)) rfl rfl wd195 (by decide) (by decide) (fun _ _ h => h)).to, ?_⟩
  refine List.forall_mem_cons.mpr ⟨(s_putF (ci := 6) (k := 10) (by decide +kernel : decode cX6_init 33 = .ok (.putfield 22, 3)) rfl (by decide) wd270 inX6 tyX6_ok nmX6 rfl rfl rfl rfl).to, ?_⟩
  refine List.forall_mem_cons.mpr ⟨(s_aloadn (by decide +kernel : decode cX6_init 36 = .ok (.aload_n 0, 1)) rfl).to, ?_⟩
  refine List.forall_mem_cons.mpr ⟨(s_bipush (by decide +kernel : decode cX6_init 37 = .ok (.bipush 12, 2)) (by decide)).to, ?_⟩
  refine List.forall_mem_cons.mpr ⟨(s_newa (kd := 0) (ty := .int) (by decide +kernel : decode cX6_init 39 = .ok (.newarray .int, 2)) rfl rfl wd195 (by decide) (by decide) (fun _ _ h => h)).to, ?_⟩
  refine List.forall_mem_cons.mpr ⟨(s_putF (ci := 6) (k := 11) (by decide +kernel : decode cX6_init 41 = .ok (.putfield 25, 3)) rfl (by decide) wd272 inX6 tyX6_ok nmX6 rfl rfl rfl rfl).to, ?_⟩
  refine List.forall_mem_cons.mpr ⟨(s_aloadn (by decide +kernel : decode cX6_init 44 = .ok (.aload_n 0, 1)) rfl).to, ?_⟩
  refine List.forall_mem_cons.mpr ⟨(s_bipush (by decide +kernel : decode cX6_init 45 = .ok (.bipush 12, 2)) (by decide)).to, ?_⟩
  refine List.forall_mem_cons.mpr ⟨(s_newa (kd := 0) (ty := .int) (by decide +kernel : decode cX6_init 47 = .ok (.newarray .int, 2)) rfl rfl wd195 (by decide) (by decide) (fun _ _ h => h)).to, ?_⟩
  refine List.forall_mem_cons.mpr ⟨(s_putF (ci := 6) (k := 12) (by decide +kernel : decode cX6_init 49 = .ok (.putfield 28, 3)) rfl (by decide) wd274 inX6 tyX6_ok nmX6 rfl rfl rfl rfl).to, ?_⟩
  refine List.forall_mem_cons.mpr ⟨s_vret (by decide +kernel : decode cX6_init 52 = .ok (.return_, 1)) rfl, ?_⟩
  exact fun _ h => absurd h List.not_mem_nil
theorem sn_tX6_hasSaid : ∀ q ∈ tX6_hasSaid, am_Snd am_P0 RX6 cX6_hasSaid 3 (Option.some FieldType.boolean) "hasSaid" q.1 q.2 := by
  unfold tX6_hasSaid
  refine List.forall_mem_cons.mpr ⟨(s_iconst (by decide +kernel : decode cX6_hasSaid 0 = .ok (.iconst 0, 1)) (by decide)).to, ?_⟩
  refine List.forall_mem_cons.mpr ⟨(s_istoren (by decide +kernel : decode cX6_hasSaid 1 = .ok (.istore_n 2, 1)) rfl (by decide)).to, ?_⟩
  refine List.forall_mem_cons.mpr ⟨(s_iloadn (by decide +kernel : decode cX6_hasSaid 2 = .ok (.iload_n 2, 1)) rfl).to, ?_⟩
  refine List.forall_mem_cons.mpr ⟨(s_aloadn (by decide +kernel : decode cX6_hasSaid 3 = .ok (.aload_n 0, 1)) rfl).to, ?_⟩
  refine List.forall_mem_cons.mpr ⟨(s_get (ci := 6) (k := 5) (by decide +kernel : decode cX6_hasSaid 4 = .ok (.getfield 31, 3)) rfl (by decide) wd253 inX6 rfl).to, ?_⟩
  refine List.forall_mem_cons.mpr ⟨(s_icmp_ge (by decide +kernel : decode cX6_hasSaid 7 = .ok (.if_icmp .ge 21, 3)) (by decide)).to, ?_⟩
  refine List.forall_mem_cons.mpr ⟨(s_aloadn (by decide +kernel : decode cX6_hasSaid 10 = .ok (.aload_n 0, 1)) rfl).to, ?_⟩
  refine List.forall_mem_cons.mpr ⟨(s_get (ci := 6) (k := 6) (by decide +kernel : decode cX6_hasSaid 11 = .ok (.getfield 9, 3)) rfl (by decide) wd257 inX6 rfl).to, ?_⟩
  refine List.forall_mem_cons.mpr ⟨(s_iloadn (by decide +kernel : decode cX6_hasSaid 14 = .ok (.iload_n 2, 1)) rfl).to, ?_⟩
  refine List.forall_mem_cons.mpr ⟨(s_iald (by decide +kernel : decode cX6_hasSaid 15 = .ok (.iaload, 1))).to, ?_⟩
  refine List.forall_mem_cons.mpr ⟨(s_iloadn (by decide +kernel : decode cX6_hasSaid 16 = .ok (.iload_n 1, 1)) rfl).to, ?_⟩
  refine List.forall_mem_cons.mpr ⟨(s_icmp_ne (by decide +kernel : decode cX6_hasSaid 17 = .ok (.if_icmp .ne 5, 3)) (by decide)).to, ?_⟩
  refine List.forall_mem_cons.mpr ⟨(s_iconst (by decide +kernel : decode cX6_hasSaid 20 = .ok (.iconst 1, 1)) (by decide)).to, ?_⟩
  refine List.forall_mem_cons.mpr ⟨s_zret (by decide +kernel : decode cX6_hasSaid 21 = .ok (.ireturn, 1)) rfl, ?_⟩
  refine List.forall_mem_cons.mpr ⟨(s_iinc (by decide +kernel : decode cX6_hasSaid 22 = .ok (.iinc 2 1, 3)) (by decide) (by decide)).to, ?_⟩
  refine List.forall_mem_cons.mpr ⟨(s_goto (by decide +kernel : decode cX6_hasSaid 25 = .ok (.goto (-23), 3)) (by decide)).to, ?_⟩
  refine List.forall_mem_cons.mpr ⟨(s_iconst (by decide +kernel : decode cX6_hasSaid 28 = .ok (.iconst 0, 1)) (by decide)).to, ?_⟩
  refine List.forall_mem_cons.mpr ⟨s_zret (by decide +kernel : decode cX6_hasSaid 29 = .ok (.ireturn, 1)) rfl, ?_⟩
  exact fun _ h => absurd h List.not_mem_nil
