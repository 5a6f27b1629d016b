/-! the machine follows each instruction (by program: gen_prog.py) -/
theorem sn_tX11_booksOf : ∀ q ∈ tX11_booksOf, am_Snd am_P0 RX11 cX11_booksOf 4 (Option.some FieldType.int) "booksOf" q.1 q.2 := by
  unfold tX11_booksOf
  refine List.forall_mem_cons.mpr ⟨(s_iconst (by decide +kernel : decode cX11_booksOf 0 = .ok (.iconst 0, 1)) (by decide)).to, ?_⟩
  refine List.forall_mem_cons.mpr ⟨(s_istoren (by decide +kernel : decode cX11_booksOf 1 = .ok (.istore_n 2, 1)) rfl (by decide)).to, ?_⟩
  refine List.forall_mem_cons.mpr ⟨(s_iconst (by decide +kernel : decode cX11_booksOf 2 = .ok (.iconst 0, 1)) (by decide)).to, ?_⟩
  refine List.forall_mem_cons.mpr ⟨(s_istoren (by decide +kernel : decode cX11_booksOf 3 = .ok (.istore_n 3, 1)) rfl (by decide)).to, ?_⟩
  refine List.forall_mem_cons.mpr ⟨(s_iloadn (by decide +kernel : decode cX11_booksOf 4 = .ok (.iload_n 3, 1)) rfl).to, ?_⟩
  refine List.forall_mem_cons.mpr ⟨(s_aloadn (by decide +kernel : decode cX11_booksOf 5 = .ok (.aload_n 0, 1)) rfl).to, ?_⟩
  refine List.forall_mem_cons.mpr ⟨(s_get (ci := 11) (k := 28) (by decide +kernel : decode cX11_booksOf 6 = .ok (.getfield 98, 3)) rfl (by decide) wd1361 inX11 rfl).to, ?_⟩
  refine List.forall_mem_cons.mpr ⟨(s_aloadn (by decide +kernel : decode cX11_booksOf 9 = .ok (.aload_n 0, 1)) rfl).to, ?_⟩
  refine List.forall_mem_cons.mpr ⟨(s_get (ci := 11) (k := 12) (by decide +kernel : decode cX11_booksOf 10 = .ok (.getfield 48, 3)) rfl (by decide) wd1345 inX11 rfl).to, ?_⟩
  refine List.forall_mem_cons.mpr ⟨(s_iald (by decide +kernel : decode cX11_booksOf 13 = .ok (.iaload, 1))).to, ?_⟩
  refine List.forall_mem_cons.mpr ⟨(s_icmp_ge (by decide +kernel : decode cX11_booksOf 14 = .ok (.if_icmp .ge 35, 3)) (by decide)).to, ?_⟩
  refine List.forall_mem_cons.mpr ⟨(s_iloadn (by decide +kernel : decode cX11_booksOf 17 = .ok (.iload_n 2, 1)) rfl).to, ?_⟩
  refine List.forall_mem_cons.mpr ⟨(s_aloadn (by decide +kernel : decode cX11_booksOf 18 = .ok (.aload_n 0, 1)) rfl).to, ?_⟩
  refine List.forall_mem_cons.mpr ⟨(s_get (ci := 11) (k := 29) (by decide +kernel : decode cX11_booksOf 19 = .ok (.getfield 101, 3)) rfl (by decide) wd1362 inX11 rfl).to, ?_⟩
  refine List.forall_mem_cons.mpr ⟨(s_bipush (by decide +kernel : decode cX11_booksOf 22 = .ok (.bipush 12, 2)) (by decide)).to, ?_⟩
  refine List.forall_mem_cons.mpr ⟨(s_aloadn (by decide +kernel : decode cX11_booksOf 24 = .ok (.aload_n 0, 1)) rfl).to, ?_⟩
  refine List.forall_mem_cons.mpr ⟨(s_get (ci := 11) (k := 12) (by decide +kernel : decode cX11_booksOf 25 = .ok (.getfield 48, 3)) rfl (by decide) wd1345 inX11 rfl).to, ?_⟩
  refine List.forall_mem_cons.mpr ⟨(s_imul (by decide +kernel : decode cX11_booksOf 28 = .ok (.imul, 1))).to, ?_⟩
  refine List.forall_mem_cons.mpr ⟨(s_iloadn (by decide +kernel : decode cX11_booksOf 29 = .ok (.iload_n 3, 1)) rfl).to, ?_⟩
  refine List.forall_mem_cons.mpr ⟨(s_iadd (by decide +kernel : decode cX11_booksOf 30 = .ok (.iadd, 1))).to, ?_⟩
  refine List.forall_mem_cons.mpr ⟨(s_iald (by decide +kernel : decode cX11_booksOf 31 = .ok (.iaload, 1))).to, ?_⟩
  refine List.forall_mem_cons.mpr ⟨(s_iloadn (by decide +kernel : decode cX11_booksOf 32 = .ok (.iload_n 1, 1)) rfl).to, ?_⟩
  refine List.forall_mem_cons.mpr ⟨(s_icmp_ne (by decide +kernel : decode cX11_booksOf 33 = .ok (.if_icmp .ne 7, 3)) (by decide)).to, ?_⟩
  refine List.forall_mem_cons.mpr ⟨(s_iconst (by decide +kernel : decode cX11_booksOf 36 = .ok (.iconst 1, 1)) (by decide)).to, ?_⟩
  refine List.forall_mem_cons.mpr ⟨(s_goto (by decide +kernel : decode cX11_booksOf 37 = .ok (.goto 4, 3)) (by decide)).to, ?_⟩
  refine List.forall_mem_cons.mpr ⟨(s_iconst (by decide +kernel : decode cX11_booksOf 40 = .ok (.iconst 0, 1)) (by decide)).to, ?_⟩
  refine List.forall_mem_cons.mpr ⟨(s_iadd (by decide +kernel : decode cX11_booksOf 41 = .ok (.iadd, 1))).to, ?_⟩
  refine List.forall_mem_cons.mpr ⟨(s_istoren (by decide +kernel : decode cX11_booksOf 42 = .ok (.istore_n 2, 1)) rfl (by decide)).to, ?_⟩
  refine List.forall_mem_cons.mpr ⟨(s_iinc (by decide +kernel : decode cX11_booksOf 43 = .ok (.iinc 3 1, 3)) (by decide) (by decide)).to, ?_⟩
  refine List.forall_mem_cons.mpr ⟨(s_goto (by decide +kernel : decode cX11_booksOf 46 = .ok (.goto (-42), 3)) (by decide)).to, ?_⟩
  refine List.forall_mem_cons.mpr ⟨(s_iloadn (by decide +kernel : decode cX11_booksOf 49 = .ok (.iload_n 2, 1)) rfl).to, ?_⟩
  refine List.forall_mem_cons.mpr ⟨s_iret (by decide +kernel : decode cX11_booksOf 50 = .ok (.ireturn, 1)) rfl, ?_⟩
  exact fun _ h => absurd h List.not_mem_nil
theorem sn_tX11_has_0 : ∀ q ∈ tX11_has_0, am_Snd am_P0 RX11 cX11_has 4 (Option.some FieldType.int) "has" q.1 q.2 := by
  unfold tX11_has_0
  refine List.forall_mem_cons.mpr ⟨(s_iconst (by decide +kernel : decode cX11_has 0 = .ok (.iconst 0, 1)) (by decide)).to, ?_⟩
  refine List.forall_mem_cons.mpr ⟨(s_istoren (by decide +kernel : decode cX11_has 1 = .ok (.istore_n 2, 1)) rfl (by decide)).to, ?_⟩
  refine List.forall_mem_cons.mpr ⟨(s_iloadn (by decide +kernel : decode cX11_has 2 = .ok (.iload_n 1, 1)) rfl).to, ?_⟩
  refine List.forall_mem_cons.mpr ⟨(s_table (by decide +kernel : decode cX11_has 3 = .ok (.tableswitch 154 0 7 #[45, 55, 65, 75, 85, 95, 105, 115], 45)) (by decide) (by decide) (by decide) (by decide)).to, ?_⟩
  refine List.forall_mem_cons.mpr ⟨(s_aloadn (by decide +kernel : decode cX11_has 48 = .ok (.aload_n 0, 1)) rfl).to, ?_⟩
  refine List.forall_mem_cons.mpr ⟨(s_get (ci := 11) (k := 13) (by decide +kernel : decode cX11_has 49 = .ok (.getfield 51, 3)) rfl (by decide) wd1346 inX11 rfl).to, ?_⟩
  refine List.forall_mem_cons.mpr ⟨(s_aloadn (by decide +kernel : decode cX11_has 52 = .ok (.aload_n 0, 1)) rfl).to, ?_⟩
  refine List.forall_mem_cons.mpr ⟨(s_get (ci := 11) (k := 12) (by decide +kernel : decode cX11_has 53 = .ok (.getfield 48, 3)) rfl (by decide) wd1345 inX11 rfl).to, ?_⟩
  refine List.forall_mem_cons.mpr ⟨(s_iald (by decide +kernel : decode cX11_has 56 = .ok (.iaload, 1))).to, ?_⟩
  refine List.forall_mem_cons.mpr ⟨s_iret (by decide +kernel : decode cX11_has 57 = .ok (.ireturn, 1)) rfl, ?_⟩
  refine List.forall_mem_cons.mpr ⟨(s_aloadn (by decide +kernel : decode cX11_has 58 = .ok (.aload_n 0, 1)) rfl).to, ?_⟩
  refine List.forall_mem_cons.mpr ⟨(s_get (ci := 11) (k := 14) (by decide +kernel : decode cX11_has 59 = .ok (.getfield 54, 3)) rfl (by decide) wd1347 inX11 rfl).to, ?_⟩
  refine List.forall_mem_cons.mpr ⟨(s_aloadn (by decide +kernel : decode cX11_has 62 = .ok (.aload_n 0, 1)) rfl).to, ?_⟩
  refine List.forall_mem_cons.mpr ⟨(s_get (ci := 11) (k := 12) (by decide +kernel : decode cX11_has 63 = .ok (.getfield 48, 3)) rfl (by decide) wd1345 inX11 rfl).to, ?_⟩
  refine List.forall_mem_cons.mpr ⟨(s_iald (by decide +kernel : decode cX11_has 66 = .ok (.iaload, 1))).to, ?_⟩
  refine List.forall_mem_cons.mpr ⟨s_iret (by decide +kernel : decode cX11_has 67 = .ok (.ireturn, 1)) rfl, ?_⟩
  refine List.forall_mem_cons.mpr ⟨(s_aloadn (by decide +kernel : decode cX11_has 68 = .ok (.aload_n 0, 1)) rfl).to, ?_⟩
  refine List.forall_mem_cons.mpr ⟨(s_get (ci := 11) (k := 19) (by decide +kernel : decode cX11_has 69 = .ok (.getfield 69, 3)) rfl (by decide) wd1352 inX11 rfl).to, ?_⟩
  refine List.forall_mem_cons.mpr ⟨(s_aloadn (by decide +kernel : decode cX11_has 72 = .ok (.aload_n 0, 1)) rfl).to, ?_⟩
  refine List.forall_mem_cons.mpr ⟨(s_get (ci := 11) (k := 12) (by decide +kernel : decode cX11_has 73 = .ok (.getfield 48, 3)) rfl (by decide) wd1345 inX11 rfl).to, ?_⟩
  refine List.forall_mem_cons.mpr ⟨(s_iald (by decide +kernel : decode cX11_has 76 = .ok (.iaload, 1))).to, ?_⟩
  refine List.forall_mem_cons.mpr ⟨s_iret (by decide +kernel : decode cX11_has 77 = .ok (.ireturn, 1)) rfl, ?_⟩
  refine List.forall_mem_cons.mpr ⟨(s_aloadn (by decide +kernel : decode cX11_has 78 = .ok (.aload_n 0, 1)) rfl).to, ?_⟩
  refine List.forall_mem_cons.mpr ⟨(s_get (ci := 11) (k := 25) (by decide +kernel : decode cX11_has 79 = .ok (.getfield 88, 3)) rfl (by decide) wd1358 inX11 rfl).to, ?_⟩
  refine List.forall_mem_cons.mpr ⟨(s_aloadn (by decide +kernel : decode cX11_has 82 = .ok (.aload_n 0, 1)) rfl).to, ?_⟩
  refine List.forall_mem_cons.mpr ⟨(s_get (ci := 11) (k := 12) (by decide +kernel : decode cX11_has 83 = .ok (.getfield 48, 3)) rfl (by decide) wd1345 inX11 rfl).to, ?_⟩
  refine List.forall_mem_cons.mpr ⟨(s_iald (by decide +kernel : decode cX11_has 86 = .ok (.iaload, 1))).to, ?_⟩
  refine List.forall_mem_cons.mpr ⟨s_iret (by decide +kernel : decode cX11_has 87 = .ok (.ireturn, 1)) rfl, ?_⟩
  refine List.forall_mem_cons.mpr ⟨(s_aloadn (by decide +kernel : decode cX11_has 88 = .ok (.aload_n 0, 1)) rfl).to, ?_⟩
  refine List.forall_mem_cons.mpr ⟨(s_get (ci := 11) (k := 28) (by decide +kernel : decode cX11_has 89 = .ok (.getfield 98, 3)) rfl (by decide) wd1361 inX11 rfl).to, ?_⟩
  refine List.forall_mem_cons.mpr ⟨(s_aloadn (by decide +kernel : decode cX11_has 92 = .ok (.aload_n 0, 1)) rfl).to, ?_⟩
  refine List.forall_mem_cons.mpr ⟨(s_get (ci := 11) (k := 12) (by decide +kernel : decode cX11_has 93 = .ok (.getfield 48, 3)) rfl (by decide) wd1345 inX11 rfl).to, ?_⟩
  refine List.forall_mem_cons.mpr ⟨(s_iald (by decide +kernel : decode cX11_has 96 = .ok (.iaload, 1))).to, ?_⟩
  refine List.forall_mem_cons.mpr ⟨s_iret (by decide +kernel : decode cX11_has 97 = .ok (.ireturn, 1)) rfl, ?_⟩
  refine List.forall_mem_cons.mpr ⟨(s_aloadn (by decide +kernel : decode cX11_has 98 = .ok (.aload_n 0, 1)) rfl).to, ?_⟩
  refine List.forall_mem_cons.mpr ⟨(s_get (ci := 11) (k := 33) (by decide +kernel : decode cX11_has 99 = .ok (.getfield 113, 3)) rfl (by decide) wd1366 inX11 rfl).to, ?_⟩
  refine List.forall_mem_cons.mpr ⟨(s_aloadn (by decide +kernel : decode cX11_has 102 = .ok (.aload_n 0, 1)) rfl).to, ?_⟩
  refine List.forall_mem_cons.mpr ⟨(s_get (ci := 11) (k := 12) (by decide +kernel : decode cX11_has 103 = .ok (.getfield 48, 3)) rfl (by decide) wd1345 inX11 rfl).to, ?_⟩
  refine List.forall_mem_cons.mpr ⟨(s_iald (by decide +kernel : decode cX11_has 106 = .ok (.iaload, 1))).to, ?_⟩
  refine List.forall_mem_cons.mpr ⟨s_iret (by decide +kernel : decode cX11_has 107 = .ok (.ireturn, 1)) rfl, ?_⟩
  refine List.forall_mem_cons.mpr ⟨(s_aloadn (by decide +kernel : decode cX11_has 108 = .ok (.aload_n 0, 1)) rfl).to, ?_⟩
  refine List.forall_mem_cons.mpr ⟨(s_get (ci := 11) (k := 37) (by decide +kernel : decode cX11_has 109 = .ok (.getfield 125, 3)) rfl (by decide) wd1370 inX11 rfl).to, ?_⟩
  refine List.forall_mem_cons.mpr ⟨(s_aloadn (by decide +kernel : decode cX11_has 112 = .ok (.aload_n 0, 1)) rfl).to, ?_⟩
  refine List.forall_mem_cons.mpr ⟨(s_get (ci := 11) (k := 12) (by decide +kernel : decode cX11_has 113 = .ok (.getfield 48, 3)) rfl (by decide) wd1345 inX11 rfl).to, ?_⟩
  refine List.forall_mem_cons.mpr ⟨(s_iald (by decide +kernel : decode cX11_has 116 = .ok (.iaload, 1))).to, ?_⟩
  refine List.forall_mem_cons.mpr ⟨s_iret (by decide +kernel : decode cX11_has 117 = .ok (.ireturn, 1)) rfl, ?_⟩
  refine List.forall_mem_cons.mpr ⟨(s_iconst (by decide +kernel : decode cX11_has 118 = .ok (.iconst 0, 1)) (by decide)).to, ?_⟩
  refine List.forall_mem_cons.mpr ⟨(s_istoren (by decide +kernel : decode cX11_has 119 = .ok (.istore_n 3, 1)) rfl (by decide)).to, ?_⟩
  refine List.forall_mem_cons.mpr ⟨(s_iloadn (by decide +kernel : decode cX11_has 120 = .ok (.iload_n 3, 1)) rfl).to, ?_⟩
  refine List.forall_mem_cons.mpr ⟨(s_aloadn (by decide +kernel : decode cX11_has 121 = .ok (.aload_n 0, 1)) rfl).to, ?_⟩
  refine List.forall_mem_cons.mpr ⟨(s_get (ci := 11) (k := 19) (by decide +kernel : decode cX11_has 122 = .ok (.getfield 69, 3)) rfl (by decide) wd1352 inX11 rfl).to, ?_⟩
  refine List.forall_mem_cons.mpr ⟨(s_aloadn (by decide +kernel : decode cX11_has 125 = .ok (.aload_n 0, 1)) rfl).to, ?_⟩
  refine List.forall_mem_cons.mpr ⟨(s_get (ci := 11) (k := 12) (by decide +kernel : decode cX11_has 126 = .ok (.getfield 48, 3)) rfl (by decide) wd1345 inX11 rfl).to, ?_⟩
  refine List.forall_mem_cons.mpr ⟨(s_iald (by decide +kernel : decode cX11_has 129 = .ok (.iaload, 1))).to, ?_⟩
  refine List.forall_mem_cons.mpr ⟨(s_icmp_ge (by decide +kernel : decode cX11_has 130 = .ok (.if_icmp .ge 25, 3)) (by decide)).to, ?_⟩
  refine List.forall_mem_cons.mpr ⟨(s_iloadn (by decide +kernel : decode cX11_has 133 = .ok (.iload_n 2, 1)) rfl).to, ?_⟩
  refine List.forall_mem_cons.mpr ⟨(s_aloadn (by decide +kernel : decode cX11_has 134 = .ok (.aload_n 0, 1)) rfl).to, ?_⟩
  refine List.forall_mem_cons.mpr ⟨(s_iloadn (by decide +kernel : decode cX11_has 135 = .ok (.iload_n 3, 1)) rfl).to, ?_⟩
  refine List.forall_mem_cons.mpr ⟨z_cv (by decide +kernel : decode cX11_has 136 = .ok (.invokevirtual 502, 3)) mt228 wd1838 (ci := 11) rfl (by decide), ?_⟩
  refine List.forall_mem_cons.mpr ⟨(s_if_le (by decide +kernel : decode cX11_has 139 = .ok (.ifCond .le 7, 3)) (by decide)).to, ?_⟩
  exact fun _ h => absurd h List.not_mem_nil
theorem sn_tX11_has_1 : ∀ q ∈ tX11_has_1, am_Snd am_P0 RX11 cX11_has 4 (Option.some FieldType.int) "has" q.1 q.2 := by
  unfold tX11_has_1
  refine List.forall_mem_cons.mpr ⟨(s_iconst (by decide +kernel : decode cX11_has 142 = .ok (.iconst 1, 1)) (by decide)).to, ?_⟩
  refine List.forall_mem_cons.mpr ⟨(s_goto (by decide +kernel : decode cX11_has 143 = .ok (.goto 4, 3)) (by decide)).to, ?_⟩
  refine List.forall_mem_cons.mpr ⟨(s_iconst (by decide +kernel : decode cX11_has 146 = .ok (.iconst 0, 1)) (by decide)).to, ?_⟩
  refine List.forall_mem_cons.mpr ⟨(s_iadd (by decide +kernel : decode cX11_has 147 = .ok (.iadd, 1))).to, ?_⟩
  refine List.forall_mem_cons.mpr ⟨(s_istoren (by decide +kernel : decode cX11_has 148 = .ok (.istore_n 2, 1)) rfl (by decide)).to, ?_⟩
  refine List.forall_mem_cons.mpr ⟨(s_iinc (by decide +kernel : decode cX11_has 149 = .ok (.iinc 3 1, 3)) (by decide) (by decide)).to, ?_⟩
  refine List.forall_mem_cons.mpr ⟨(s_goto (by decide +kernel : decode cX11_has 152 = .ok (.goto (-32), 3)) (by decide)).to, ?_⟩
  refine List.forall_mem_cons.mpr ⟨(s_iloadn (by decide +kernel : decode cX11_has 155 = .ok (.iload_n 2, 1)) rfl).to, ?_⟩
  refine List.forall_mem_cons.mpr ⟨s_iret (by decide +kernel : decode cX11_has 156 = .ok (.ireturn, 1)) rfl, ?_⟩
  refine List.forall_mem_cons.mpr ⟨(s_iconst (by decide +kernel : decode cX11_has 157 = .ok (.iconst (-1), 1)) (by decide)).to, ?_⟩
  refine List.forall_mem_cons.mpr ⟨s_iret (by decide +kernel : decode cX11_has 158 = .ok (.ireturn, 1)) rfl, ?_⟩
  exact fun _ h => absurd h List.not_mem_nil
theorem sn_tX11_has : ∀ q ∈ tX11_has, am_Snd am_P0 RX11 cX11_has 4 (Option.some FieldType.int) "has" q.1 q.2 := by
  unfold tX11_has
  exact List.forall_mem_append.mpr ⟨sn_tX11_has_0, sn_tX11_has_1⟩
theorem sn_tX11_letter : ∀ q ∈ tX11_letter, am_Snd am_P0 RX11 cX11_letter 8 (Option.some FieldType.int) "letter" q.1 q.2 := by
  unfold tX11_letter
  refine List.forall_mem_cons.mpr ⟨(s_aloadn (by decide +kernel : decode cX11_letter 0 = .ok (.aload_n 0, 1)) rfl).to, ?_⟩
  refine List.forall_mem_cons.mpr ⟨(s_iloadn (by decide +kernel : decode cX11_letter 1 = .ok (.iload_n 1, 1)) rfl).to, ?_⟩
  refine List.forall_mem_cons.mpr ⟨z_cv (by decide +kernel : decode cX11_letter 2 = .ok (.invokevirtual 505, 3)) mt220 wd1850 (ci := 11) rfl (by decide), ?_⟩
  refine List.forall_mem_cons.mpr ⟨(s_if_ne (by decide +kernel : decode cX11_letter 5 = .ok (.ifCond .ne 5, 3)) (by decide)).to, ?_⟩
  refine List.forall_mem_cons.mpr ⟨(s_iconst (by decide +kernel : decode cX11_letter 8 = .ok (.iconst (-1), 1)) (by decide)).to, ?_⟩
  refine List.forall_mem_cons.mpr ⟨s_iret (by decide +kernel : decode cX11_letter 9 = .ok (.ireturn, 1)) rfl, ?_⟩
  refine List.forall_mem_cons.mpr ⟨(s_aloadn (by decide +kernel : decode cX11_letter 10 = .ok (.aload_n 0, 1)) rfl).to, ?_⟩
  refine List.forall_mem_cons.mpr ⟨(s_get (ci := 11) (k := 20) (by decide +kernel : decode cX11_letter 11 = .ok (.getfield 72, 3)) rfl (by decide) wd1353 inX11 rfl).to, ?_⟩
  refine List.forall_mem_cons.mpr ⟨(s_bipush (by decide +kernel : decode cX11_letter 14 = .ok (.bipush 8, 2)) (by decide)).to, ?_⟩
  refine List.forall_mem_cons.mpr ⟨(s_aloadn (by decide +kernel : decode cX11_letter 16 = .ok (.aload_n 0, 1)) rfl).to, ?_⟩
  refine List.forall_mem_cons.mpr ⟨(s_get (ci := 11) (k := 12) (by decide +kernel : decode cX11_letter 17 = .ok (.getfield 48, 3)) rfl (by decide) wd1345 inX11 rfl).to, ?_⟩
  refine List.forall_mem_cons.mpr ⟨(s_imul (by decide +kernel : decode cX11_letter 20 = .ok (.imul, 1))).to, ?_⟩
  refine List.forall_mem_cons.mpr ⟨(s_iloadn (by decide +kernel : decode cX11_letter 21 = .ok (.iload_n 1, 1)) rfl).to, ?_⟩
  refine List.forall_mem_cons.mpr ⟨(s_iadd (by decide +kernel : decode cX11_letter 22 = .ok (.iadd, 1))).to, ?_⟩
  refine List.forall_mem_cons.mpr ⟨(s_lald (by decide +kernel : decode cX11_letter 23 = .ok (.laload, 1))).to, ?_⟩
  refine List.forall_mem_cons.mpr ⟨(s_lstoren (by decide +kernel : decode cX11_letter 24 = .ok (.lstore_n 3, 1)) rfl (by decide)).to, ?_⟩
  refine List.forall_mem_cons.mpr ⟨(s_iconst (by decide +kernel : decode cX11_letter 25 = .ok (.iconst 0, 1)) (by decide)).to, ?_⟩
  refine List.forall_mem_cons.mpr ⟨(s_istore (by decide +kernel : decode cX11_letter 26 = .ok (.istore 5, 2)) (by decide)).to, ?_⟩
  refine List.forall_mem_cons.mpr ⟨(s_lloadn (by decide +kernel : decode cX11_letter 28 = .ok (.lload_n 3, 1)) rfl).to, ?_⟩
  refine List.forall_mem_cons.mpr ⟨(s_lstore (by decide +kernel : decode cX11_letter 29 = .ok (.lstore 6, 2)) (by decide)).to, ?_⟩
  refine List.forall_mem_cons.mpr ⟨(s_lload (by decide +kernel : decode cX11_letter 31 = .ok (.lload 6, 2))).to, ?_⟩
  refine List.forall_mem_cons.mpr ⟨(s_lconst (by decide +kernel : decode cX11_letter 33 = .ok (.lconst 0, 1)) (by decide)).to, ?_⟩
  refine List.forall_mem_cons.mpr ⟨(s_lcmp (by decide +kernel : decode cX11_letter 34 = .ok (.lcmp, 1))).to, ?_⟩
  refine List.forall_mem_cons.mpr ⟨(s_if_eq (by decide +kernel : decode cX11_letter 35 = .ok (.ifCond .eq 16, 3)) (by decide)).to, ?_⟩
  refine List.forall_mem_cons.mpr ⟨(s_iinc (by decide +kernel : decode cX11_letter 38 = .ok (.iinc 5 1, 3)) (by decide) (by decide)).to, ?_⟩
  refine List.forall_mem_cons.mpr ⟨(s_lload (by decide +kernel : decode cX11_letter 41 = .ok (.lload 6, 2))).to, ?_⟩
  refine List.forall_mem_cons.mpr ⟨(s_bipush (by decide +kernel : decode cX11_letter 43 = .ok (.bipush 8, 2)) (by decide)).to, ?_⟩
  refine List.forall_mem_cons.mpr ⟨(s_lushr (by decide +kernel : decode cX11_letter 45 = .ok (.lushr, 1))).to, ?_⟩
  refine List.forall_mem_cons.mpr ⟨(s_lstore (by decide +kernel : decode cX11_letter 46 = .ok (.lstore 6, 2)) (by decide)).to, ?_⟩
  refine List.forall_mem_cons.mpr ⟨(s_goto (by decide +kernel : decode cX11_letter 48 = .ok (.goto (-17), 3)) (by decide)).to, ?_⟩
  refine List.forall_mem_cons.mpr ⟨(s_iloadn (by decide +kernel : decode cX11_letter 51 = .ok (.iload_n 2, 1)) rfl).to, ?_⟩
  refine List.forall_mem_cons.mpr ⟨(s_if_lt (by decide +kernel : decode cX11_letter 52 = .ok (.ifCond .lt 9, 3)) (by decide)).to, ?_⟩
  refine List.forall_mem_cons.mpr ⟨(s_iloadn (by decide +kernel : decode cX11_letter 55 = .ok (.iload_n 2, 1)) rfl).to, ?_⟩
  refine List.forall_mem_cons.mpr ⟨(s_iload (by decide +kernel : decode cX11_letter 56 = .ok (.iload 5, 2))).to, ?_⟩
  refine List.forall_mem_cons.mpr ⟨(s_icmp_lt (by decide +kernel : decode cX11_letter 58 = .ok (.if_icmp .lt 7, 3)) (by decide)).to, ?_⟩
  refine List.forall_mem_cons.mpr ⟨(s_iconst (by decide +kernel : decode cX11_letter 61 = .ok (.iconst (-1), 1)) (by decide)).to, ?_⟩
  refine List.forall_mem_cons.mpr ⟨(s_goto (by decide +kernel : decode cX11_letter 62 = .ok (.goto 19, 3)) (by decide)).to, ?_⟩
  refine List.forall_mem_cons.mpr ⟨(s_lloadn (by decide +kernel : decode cX11_letter 65 = .ok (.lload_n 3, 1)) rfl).to, ?_⟩
  refine List.forall_mem_cons.mpr ⟨(s_bipush (by decide +kernel : decode cX11_letter 66 = .ok (.bipush 8, 2)) (by decide)).to, ?_⟩
  refine List.forall_mem_cons.mpr ⟨(s_iload (by decide +kernel : decode cX11_letter 68 = .ok (.iload 5, 2))).to, ?_⟩
  refine List.forall_mem_cons.mpr ⟨(s_iconst (by decide +kernel : decode cX11_letter 70 = .ok (.iconst 1, 1)) (by decide)).to, ?_⟩
  refine List.forall_mem_cons.mpr ⟨(s_isub (by decide +kernel : decode cX11_letter 71 = .ok (.isub, 1))).to, ?_⟩
  refine List.forall_mem_cons.mpr ⟨(s_iloadn (by decide +kernel : decode cX11_letter 72 = .ok (.iload_n 2, 1)) rfl).to, ?_⟩
  refine List.forall_mem_cons.mpr ⟨(s_isub (by decide +kernel : decode cX11_letter 73 = .ok (.isub, 1))).to, ?_⟩
  refine List.forall_mem_cons.mpr ⟨(s_imul (by decide +kernel : decode cX11_letter 74 = .ok (.imul, 1))).to, ?_⟩
  refine List.forall_mem_cons.mpr ⟨(s_lushr (by decide +kernel : decode cX11_letter 75 = .ok (.lushr, 1))).to, ?_⟩
  refine List.forall_mem_cons.mpr ⟨(s_ldc2 (by decide +kernel : decode cX11_letter 76 = .ok (.ldc2_w 508, 3)) wd1854).to, ?_⟩
  refine List.forall_mem_cons.mpr ⟨(s_land (by decide +kernel : decode cX11_letter 79 = .ok (.land, 1))).to, ?_⟩
  refine List.forall_mem_cons.mpr ⟨(s_l2i (by decide +kernel : decode cX11_letter 80 = .ok (.l2i, 1))).to, ?_⟩
  refine List.forall_mem_cons.mpr ⟨s_iret (by decide +kernel : decode cX11_letter 81 = .ok (.ireturn, 1)) rfl, ?_⟩
  exact fun _ h => absurd h List.not_mem_nil
theorem sn_tX11_isWater : ∀ q ∈ tX11_isWater, am_Snd am_P0 RX11 cX11_isWater 3 (Option.some FieldType.boolean) "isWater" q.1 q.2 := by
  unfold tX11_isWater
  refine List.forall_mem_cons.mpr ⟨(s_aloadn (by decide +kernel : decode cX11_isWater 0 = .ok (.aload_n 0, 1)) rfl).to, ?_⟩
  refine List.forall_mem_cons.mpr ⟨(s_get (ci := 11) (k := 55) (by decide +kernel : decode cX11_isWater 1 = .ok (.getfield 180, 3)) rfl (by decide) wd1388 inX11 rfl).to, ?_⟩
  refine List.forall_mem_cons.mpr ⟨(s_iloadn (by decide +kernel : decode cX11_isWater 4 = .ok (.iload_n 2, 1)) rfl).to, ?_⟩
  refine List.forall_mem_cons.mpr ⟨(s_iald (by decide +kernel : decode cX11_isWater 5 = .ok (.iaload, 1))).to, ?_⟩
  refine List.forall_mem_cons.mpr ⟨(s_aloadn (by decide +kernel : decode cX11_isWater 6 = .ok (.aload_n 0, 1)) rfl).to, ?_⟩
  refine List.forall_mem_cons.mpr ⟨(s_get (ci := 11) (k := 23) (by decide +kernel : decode cX11_isWater 7 = .ok (.getfield 82, 3)) rfl (by decide) wd1356 inX11 rfl).to, ?_⟩
  refine List.forall_mem_cons.mpr ⟨(s_bipush (by decide +kernel : decode cX11_isWater 10 = .ok (.bipush 8, 2)) (by decide)).to, ?_⟩
  refine List.forall_mem_cons.mpr ⟨(s_aloadn (by decide +kernel : decode cX11_isWater 12 = .ok (.aload_n 0, 1)) rfl).to, ?_⟩
  refine List.forall_mem_cons.mpr ⟨(s_get (ci := 11) (k := 12) (by decide +kernel : decode cX11_isWater 13 = .ok (.getfield 48, 3)) rfl (by decide) wd1345 inX11 rfl).to, ?_⟩
  refine List.forall_mem_cons.mpr ⟨(s_imul (by decide +kernel : decode cX11_isWater 16 = .ok (.imul, 1))).to, ?_⟩
  refine List.forall_mem_cons.mpr ⟨(s_iloadn (by decide +kernel : decode cX11_isWater 17 = .ok (.iload_n 1, 1)) rfl).to, ?_⟩
  refine List.forall_mem_cons.mpr ⟨(s_iadd (by decide +kernel : decode cX11_isWater 18 = .ok (.iadd, 1))).to, ?_⟩
  refine List.forall_mem_cons.mpr ⟨(s_iald (by decide +kernel : decode cX11_isWater 19 = .ok (.iaload, 1))).to, ?_⟩
  refine List.forall_mem_cons.mpr ⟨(s_icmp_lt (by decide +kernel : decode cX11_isWater 20 = .ok (.if_icmp .lt 7, 3)) (by decide)).to, ?_⟩
  refine List.forall_mem_cons.mpr ⟨(s_iconst (by decide +kernel : decode cX11_isWater 23 = .ok (.iconst 1, 1)) (by decide)).to, ?_⟩
  refine List.forall_mem_cons.mpr ⟨(s_goto (by decide +kernel : decode cX11_isWater 24 = .ok (.goto 4, 3)) (by decide)).to, ?_⟩
  refine List.forall_mem_cons.mpr ⟨(s_iconst (by decide +kernel : decode cX11_isWater 27 = .ok (.iconst 0, 1)) (by decide)).to, ?_⟩
  refine List.forall_mem_cons.mpr ⟨s_zret (by decide +kernel : decode cX11_isWater 28 = .ok (.ireturn, 1)) rfl, ?_⟩
  exact fun _ h => absurd h List.not_mem_nil
theorem sn_tX11_isSound : ∀ q ∈ tX11_isSound, am_Snd am_P0 RX11 cX11_isSound 4 (Option.some FieldType.boolean) "isSound" q.1 q.2 := by
  unfold tX11_isSound
  refine List.forall_mem_cons.mpr ⟨(s_aloadn (by decide +kernel : decode cX11_isSound 0 = .ok (.aload_n 0, 1)) rfl).to, ?_⟩
  refine List.forall_mem_cons.mpr ⟨(s_get (ci := 11) (k := 55) (by decide +kernel : decode cX11_isSound 1 = .ok (.getfield 180, 3)) rfl (by decide) wd1388 inX11 rfl).to, ?_⟩
  refine List.forall_mem_cons.mpr ⟨(s_iloadn (by decide +kernel : decode cX11_isSound 4 = .ok (.iload_n 2, 1)) rfl).to, ?_⟩
  refine List.forall_mem_cons.mpr ⟨(s_iald (by decide +kernel : decode cX11_isSound 5 = .ok (.iaload, 1))).to, ?_⟩
  refine List.forall_mem_cons.mpr ⟨(s_aloadn (by decide +kernel : decode cX11_isSound 6 = .ok (.aload_n 0, 1)) rfl).to, ?_⟩
  refine List.forall_mem_cons.mpr ⟨(s_get (ci := 11) (k := 23) (by decide +kernel : decode cX11_isSound 7 = .ok (.getfield 82, 3)) rfl (by decide) wd1356 inX11 rfl).to, ?_⟩
  refine List.forall_mem_cons.mpr ⟨(s_bipush (by decide +kernel : decode cX11_isSound 10 = .ok (.bipush 8, 2)) (by decide)).to, ?_⟩
  refine List.forall_mem_cons.mpr ⟨(s_aloadn (by decide +kernel : decode cX11_isSound 12 = .ok (.aload_n 0, 1)) rfl).to, ?_⟩
  refine List.forall_mem_cons.mpr ⟨(s_get (ci := 11) (k := 12) (by decide +kernel : decode cX11_isSound 13 = .ok (.getfield 48, 3)) rfl (by decide) wd1345 inX11 rfl).to, ?_⟩
  refine List.forall_mem_cons.mpr ⟨(s_imul (by decide +kernel : decode cX11_isSound 16 = .ok (.imul, 1))).to, ?_⟩
  refine List.forall_mem_cons.mpr ⟨(s_iloadn (by decide +kernel : decode cX11_isSound 17 = .ok (.iload_n 1, 1)) rfl).to, ?_⟩
  refine List.forall_mem_cons.mpr ⟨(s_iadd (by decide +kernel : decode cX11_isSound 18 = .ok (.iadd, 1))).to, ?_⟩
  refine List.forall_mem_cons.mpr ⟨(s_iald (by decide +kernel : decode cX11_isSound 19 = .ok (.iaload, 1))).to, ?_⟩
  refine List.forall_mem_cons.mpr ⟨(s_iloadn (by decide +kernel : decode cX11_isSound 20 = .ok (.iload_n 3, 1)) rfl).to, ?_⟩
  refine List.forall_mem_cons.mpr ⟨(s_if_eq (by decide +kernel : decode cX11_isSound 21 = .ok (.ifCond .eq 20, 3)) (by decide)).to, ?_⟩
  refine List.forall_mem_cons.mpr ⟨(s_aloadn (by decide +kernel : decode cX11_isSound 24 = .ok (.aload_n 0, 1)) rfl).to, ?_⟩
  refine List.forall_mem_cons.mpr ⟨(s_get (ci := 11) (k := 24) (by decide +kernel : decode cX11_isSound 25 = .ok (.getfield 85, 3)) rfl (by decide) wd1357 inX11 rfl).to, ?_⟩
  refine List.forall_mem_cons.mpr ⟨(s_bipush (by decide +kernel : decode cX11_isSound 28 = .ok (.bipush 8, 2)) (by decide)).to, ?_⟩
  refine List.forall_mem_cons.mpr ⟨(s_aloadn (by decide +kernel : decode cX11_isSound 30 = .ok (.aload_n 0, 1)) rfl).to, ?_⟩
  refine List.forall_mem_cons.mpr ⟨(s_get (ci := 11) (k := 12) (by decide +kernel : decode cX11_isSound 31 = .ok (.getfield 48, 3)) rfl (by decide) wd1345 inX11 rfl).to, ?_⟩
  refine List.forall_mem_cons.mpr ⟨(s_imul (by decide +kernel : decode cX11_isSound 34 = .ok (.imul, 1))).to, ?_⟩
  refine List.forall_mem_cons.mpr ⟨(s_iloadn (by decide +kernel : decode cX11_isSound 35 = .ok (.iload_n 1, 1)) rfl).to, ?_⟩
  refine List.forall_mem_cons.mpr ⟨(s_iadd (by decide +kernel : decode cX11_isSound 36 = .ok (.iadd, 1))).to, ?_⟩
  refine List.forall_mem_cons.mpr ⟨(s_iald (by decide +kernel : decode cX11_isSound 37 = .ok (.iaload, 1))).to, ?_⟩
  refine List.forall_mem_cons.mpr ⟨(s_goto (by decide +kernel : decode cX11_isSound 38 = .ok (.goto 4, 3)) (by decide)).to, ?_⟩
  refine List.forall_mem_cons.mpr ⟨(s_iconst (by decide +kernel : decode cX11_isSound 41 = .ok (.iconst 0, 1)) (by decide)).to, ?_⟩
  refine List.forall_mem_cons.mpr ⟨(s_iadd (by decide +kernel : decode cX11_isSound 42 = .ok (.iadd, 1))).to, ?_⟩
  refine List.forall_mem_cons.mpr ⟨(s_icmp_lt (by decide +kernel : decode cX11_isSound 43 = .ok (.if_icmp .lt 7, 3)) (by decide)).to, ?_⟩
  refine List.forall_mem_cons.mpr ⟨(s_iconst (by decide +kernel : decode cX11_isSound 46 = .ok (.iconst 1, 1)) (by decide)).to, ?_⟩
  refine List.forall_mem_cons.mpr ⟨(s_goto (by decide +kernel : decode cX11_isSound 47 = .ok (.goto 4, 3)) (by decide)).to, ?_⟩
  refine List.forall_mem_cons.mpr ⟨(s_iconst (by decide +kernel : decode cX11_isSound 50 = .ok (.iconst 0, 1)) (by decide)).to, ?_⟩
  refine List.forall_mem_cons.mpr ⟨s_zret (by decide +kernel : decode cX11_isSound 51 = .ok (.ireturn, 1)) rfl, ?_⟩
  exact fun _ h => absurd h List.not_mem_nil
theorem sn_tX11_reaches : ∀ q ∈ tX11_reaches, am_Snd am_P0 RX11 cX11_reaches 6 (Option.none : Option FieldType) "reaches" q.1 q.2 := by
  unfold tX11_reaches
  refine List.forall_mem_cons.mpr ⟨(s_aloadn (by decide +kernel : decode cX11_reaches 0 = .ok (.aload_n 0, 1)) rfl).to, ?_⟩
  refine List.forall_mem_cons.mpr ⟨(s_iloadn (by decide +kernel : decode cX11_reaches 1 = .ok (.iload_n 2, 1)) rfl).to, ?_⟩
  refine List.forall_mem_cons.mpr ⟨(s_iloadn (by decide +kernel : decode cX11_reaches 2 = .ok (.iload_n 3, 1)) rfl).to, ?_⟩
  refine List.forall_mem_cons.mpr ⟨z_cv (by decide +kernel : decode cX11_reaches 3 = .ok (.invokevirtual 486, 3)) mt217 wd1819 (ci := 11) rfl (by decide), ?_⟩
  refine List.forall_mem_cons.mpr ⟨(s_if_ne (by decide +kernel : decode cX11_reaches 6 = .ok (.ifCond .ne 4, 3)) (by decide)).to, ?_⟩
  refine List.forall_mem_cons.mpr ⟨s_vret (by decide +kernel : decode cX11_reaches 9 = .ok (.return_, 1)) rfl, ?_⟩
  refine List.forall_mem_cons.mpr ⟨(s_aloadn (by decide +kernel : decode cX11_reaches 10 = .ok (.aload_n 0, 1)) rfl).to, ?_⟩
  refine List.forall_mem_cons.mpr ⟨(s_iloadn (by decide +kernel : decode cX11_reaches 11 = .ok (.iload_n 2, 1)) rfl).to, ?_⟩
  refine List.forall_mem_cons.mpr ⟨(s_iloadn (by decide +kernel : decode cX11_reaches 12 = .ok (.iload_n 3, 1)) rfl).to, ?_⟩
  refine List.forall_mem_cons.mpr ⟨z_cv (by decide +kernel : decode cX11_reaches 13 = .ok (.invokevirtual 493, 3)) mt218 wd1826 (ci := 11) rfl (by decide), ?_⟩
  refine List.forall_mem_cons.mpr ⟨(s_istore (by decide +kernel : decode cX11_reaches 16 = .ok (.istore 5, 2)) (by decide)).to, ?_⟩
  refine List.forall_mem_cons.mpr ⟨(s_aloadn (by decide +kernel : decode cX11_reaches 18 = .ok (.aload_n 0, 1)) rfl).to, ?_⟩
  refine List.forall_mem_cons.mpr ⟨(s_get (ci := 11) (k := 57) (by decide +kernel : decode cX11_reaches 19 = .ok (.getfield 186, 3)) rfl (by decide) wd1390 inX11 rfl).to, ?_⟩
  refine List.forall_mem_cons.mpr ⟨(s_iload (by decide +kernel : decode cX11_reaches 22 = .ok (.iload 5, 2))).to, ?_⟩
  refine List.forall_mem_cons.mpr ⟨(s_iald (by decide +kernel : decode cX11_reaches 24 = .ok (.iaload, 1))).to, ?_⟩
  refine List.forall_mem_cons.mpr ⟨(s_iconst (by decide +kernel : decode cX11_reaches 25 = .ok (.iconst (-1), 1)) (by decide)).to, ?_⟩
  refine List.forall_mem_cons.mpr ⟨(s_icmp_ne (by decide +kernel : decode cX11_reaches 26 = .ok (.if_icmp .ne 13, 3)) (by decide)).to, ?_⟩
  refine List.forall_mem_cons.mpr ⟨(s_aloadn (by decide +kernel : decode cX11_reaches 29 = .ok (.aload_n 0, 1)) rfl).to, ?_⟩
  refine List.forall_mem_cons.mpr ⟨(s_iloadn (by decide +kernel : decode cX11_reaches 30 = .ok (.iload_n 1, 1)) rfl).to, ?_⟩
  refine List.forall_mem_cons.mpr ⟨(s_iload (by decide +kernel : decode cX11_reaches 31 = .ok (.iload 5, 2))).to, ?_⟩
  refine List.forall_mem_cons.mpr ⟨z_cv (by decide +kernel : decode cX11_reaches 33 = .ok (.invokevirtual 510, 3)) mt234 wd1867 (ci := 11) rfl (by decide), ?_⟩
  refine List.forall_mem_cons.mpr ⟨(s_if_ne (by decide +kernel : decode cX11_reaches 36 = .ok (.ifCond .ne 4, 3)) (by decide)).to, ?_⟩
  refine List.forall_mem_cons.mpr ⟨s_vret (by decide +kernel : decode cX11_reaches 39 = .ok (.return_, 1)) rfl, ?_⟩
  refine List.forall_mem_cons.mpr ⟨(s_aloadn (by decide +kernel : decode cX11_reaches 40 = .ok (.aload_n 0, 1)) rfl).to, ?_⟩
  refine List.forall_mem_cons.mpr ⟨(s_get (ci := 11) (k := 57) (by decide +kernel : decode cX11_reaches 41 = .ok (.getfield 186, 3)) rfl (by decide) wd1390 inX11 rfl).to, ?_⟩
  refine List.forall_mem_cons.mpr ⟨(s_iload (by decide +kernel : decode cX11_reaches 44 = .ok (.iload 5, 2))).to, ?_⟩
  refine List.forall_mem_cons.mpr ⟨(s_iload (by decide +kernel : decode cX11_reaches 46 = .ok (.iload 4, 2))).to, ?_⟩
  refine List.forall_mem_cons.mpr ⟨(s_iast (by decide +kernel : decode cX11_reaches 48 = .ok (.iastore, 1))).to, ?_⟩
  refine List.forall_mem_cons.mpr ⟨(s_aloadn (by decide +kernel : decode cX11_reaches 49 = .ok (.aload_n 0, 1)) rfl).to, ?_⟩
  refine List.forall_mem_cons.mpr ⟨(s_get (ci := 11) (k := 58) (by decide +kernel : decode cX11_reaches 50 = .ok (.getfield 189, 3)) rfl (by decide) wd1391 inX11 rfl).to, ?_⟩
  refine List.forall_mem_cons.mpr ⟨(s_aloadn (by decide +kernel : decode cX11_reaches 53 = .ok (.aload_n 0, 1)) rfl).to, ?_⟩
  refine List.forall_mem_cons.mpr ⟨(s_get (ci := 11) (k := 59) (by decide +kernel : decode cX11_reaches 54 = .ok (.getfield 192, 3)) rfl (by decide) wd1392 inX11 rfl).to, ?_⟩
  refine List.forall_mem_cons.mpr ⟨(s_iload (by decide +kernel : decode cX11_reaches 57 = .ok (.iload 5, 2))).to, ?_⟩
  refine List.forall_mem_cons.mpr ⟨(s_iast (by decide +kernel : decode cX11_reaches 59 = .ok (.iastore, 1))).to, ?_⟩
  refine List.forall_mem_cons.mpr ⟨(s_aloadn (by decide +kernel : decode cX11_reaches 60 = .ok (.aload_n 0, 1)) rfl).to, ?_⟩
  refine List.forall_mem_cons.mpr ⟨(s_dup (by decide +kernel : decode cX11_reaches 61 = .ok (.dup, 1))).to, ?_⟩
  refine List.forall_mem_cons.mpr ⟨(s_get (ci := 11) (k := 59) (by decide +kernel : decode cX11_reaches 62 = .ok (.getfield 192, 3)) rfl (by decide) wd1392 inX11 rfl).to, ?_⟩
  refine List.forall_mem_cons.mpr ⟨(s_iconst (by decide +kernel : decode cX11_reaches 65 = .ok (.iconst 1, 1)) (by decide)).to, ?_⟩
  refine List.forall_mem_cons.mpr ⟨(s_iadd (by decide +kernel : decode cX11_reaches 66 = .ok (.iadd, 1))).to, ?_⟩
  refine List.forall_mem_cons.mpr ⟨(s_put (ci := 11) (k := 59) (by decide +kernel : decode cX11_reaches 67 = .ok (.putfield 192, 3)) rfl (by decide) wd1392 inX11 tyX11_ok nmX11 rfl rfl).to, ?_⟩
  refine List.forall_mem_cons.mpr ⟨s_vret (by decide +kernel : decode cX11_reaches 70 = .ok (.return_, 1)) rfl, ?_⟩
  exact fun _ h => absurd h List.not_mem_nil
theorem sn_tX11_goes_0 : ∀ q ∈ tX11_goes_0, am_Snd am_P0 RX11 cX11_goes 7 (Option.none : Option FieldType) "goes" q.1 q.2 := by
  unfold tX11_goes_0
  refine List.forall_mem_cons.mpr ⟨(s_iconst (by decide +kernel : decode cX11_goes 0 = .ok (.iconst 0, 1)) (by decide)).to, ?_⟩
  refine List.forall_mem_cons.mpr ⟨(s_istoren (by decide +kernel : decode cX11_goes 1 = .ok (.istore_n 3, 1)) rfl (by decide)).to, ?_⟩
  refine List.forall_mem_cons.mpr ⟨(s_iloadn (by decide +kernel : decode cX11_goes 2 = .ok (.iload_n 3, 1)) rfl).to, ?_⟩
  refine List.forall_mem_cons.mpr ⟨(s_aloadn (by decide +kernel : decode cX11_goes 3 = .ok (.aload_n 0, 1)) rfl).to, ?_⟩
  refine List.forall_mem_cons.mpr ⟨z_cv (by decide +kernel : decode cX11_goes 4 = .ok (.invokevirtual 479, 3)) mt214 wd1771 (ci := 11) rfl (by decide), ?_⟩
  refine List.forall_mem_cons.mpr ⟨(s_icmp_ge (by decide +kernel : decode cX11_goes 7 = .ok (.if_icmp .ge 16, 3)) (by decide)).to, ?_⟩
  refine List.forall_mem_cons.mpr ⟨(s_aloadn (by decide +kernel : decode cX11_goes 10 = .ok (.aload_n 0, 1)) rfl).to, ?_⟩
  refine List.forall_mem_cons.mpr ⟨(s_get (ci := 11) (k := 57) (by decide +kernel : decode cX11_goes 11 = .ok (.getfield 186, 3)) rfl (by decide) wd1390 inX11 rfl).to, ?_⟩
  refine List.forall_mem_cons.mpr ⟨(s_iloadn (by decide +kernel : decode cX11_goes 14 = .ok (.iload_n 3, 1)) rfl).to, ?_⟩
  refine List.forall_mem_cons.mpr ⟨(s_iconst (by decide +kernel : decode cX11_goes 15 = .ok (.iconst (-1), 1)) (by decide)).to, ?_⟩
  refine List.forall_mem_cons.mpr ⟨(s_iast (by decide +kernel : decode cX11_goes 16 = .ok (.iastore, 1))).to, ?_⟩
  refine List.forall_mem_cons.mpr ⟨(s_iinc (by decide +kernel : decode cX11_goes 17 = .ok (.iinc 3 1, 3)) (by decide) (by decide)).to, ?_⟩
  refine List.forall_mem_cons.mpr ⟨(s_goto (by decide +kernel : decode cX11_goes 20 = .ok (.goto (-18), 3)) (by decide)).to, ?_⟩
  refine List.forall_mem_cons.mpr ⟨(s_aloadn (by decide +kernel : decode cX11_goes 23 = .ok (.aload_n 0, 1)) rfl).to, ?_⟩
  refine List.forall_mem_cons.mpr ⟨(s_iconst (by decide +kernel : decode cX11_goes 24 = .ok (.iconst 0, 1)) (by decide)).to, ?_⟩
  refine List.forall_mem_cons.mpr ⟨(s_put (ci := 11) (k := 59) (by decide +kernel : decode cX11_goes 25 = .ok (.putfield 192, 3)) rfl (by decide) wd1392 inX11 tyX11_ok nmX11 rfl rfl).to, ?_⟩
  refine List.forall_mem_cons.mpr ⟨(s_aloadn (by decide +kernel : decode cX11_goes 28 = .ok (.aload_n 0, 1)) rfl).to, ?_⟩
  refine List.forall_mem_cons.mpr ⟨(s_iloadn (by decide +kernel : decode cX11_goes 29 = .ok (.iload_n 1, 1)) rfl).to, ?_⟩
  refine List.forall_mem_cons.mpr ⟨(s_aloadn (by decide +kernel : decode cX11_goes 30 = .ok (.aload_n 0, 1)) rfl).to, ?_⟩
  refine List.forall_mem_cons.mpr ⟨(s_iloadn (by decide +kernel : decode cX11_goes 31 = .ok (.iload_n 2, 1)) rfl).to, ?_⟩
  refine List.forall_mem_cons.mpr ⟨z_cv (by decide +kernel : decode cX11_goes 32 = .ok (.invokevirtual 463, 3)) mt215 wd1783 (ci := 11) rfl (by decide), ?_⟩
  refine List.forall_mem_cons.mpr ⟨(s_aloadn (by decide +kernel : decode cX11_goes 35 = .ok (.aload_n 0, 1)) rfl).to, ?_⟩
  refine List.forall_mem_cons.mpr ⟨(s_iloadn (by decide +kernel : decode cX11_goes 36 = .ok (.iload_n 2, 1)) rfl).to, ?_⟩
  refine List.forall_mem_cons.mpr ⟨z_cv (by decide +kernel : decode cX11_goes 37 = .ok (.invokevirtual 466, 3)) mt216 wd1787 (ci := 11) rfl (by decide), ?_⟩
  refine List.forall_mem_cons.mpr ⟨(s_iconst (by decide +kernel : decode cX11_goes 40 = .ok (.iconst 0, 1)) (by decide)).to, ?_⟩
  refine List.forall_mem_cons.mpr ⟨z_cv (by decide +kernel : decode cX11_goes 41 = .ok (.invokevirtual 513, 3)) mt236 wd1863 (ci := 11) rfl (by decide), ?_⟩
  refine List.forall_mem_cons.mpr ⟨(s_iconst (by decide +kernel : decode cX11_goes 44 = .ok (.iconst 0, 1)) (by decide)).to, ?_⟩
  refine List.forall_mem_cons.mpr ⟨(s_istoren (by decide +kernel : decode cX11_goes 45 = .ok (.istore_n 3, 1)) rfl (by decide)).to, ?_⟩
  refine List.forall_mem_cons.mpr ⟨(s_iloadn (by decide +kernel : decode cX11_goes 46 = .ok (.iload_n 3, 1)) rfl).to, ?_⟩
  refine List.forall_mem_cons.mpr ⟨(s_aloadn (by decide +kernel : decode cX11_goes 47 = .ok (.aload_n 0, 1)) rfl).to, ?_⟩
  refine List.forall_mem_cons.mpr ⟨(s_get (ci := 11) (k := 59) (by decide +kernel : decode cX11_goes 48 = .ok (.getfield 192, 3)) rfl (by decide) wd1392 inX11 rfl).to, ?_⟩
  refine List.forall_mem_cons.mpr ⟨(s_icmp_ge (by decide +kernel : decode cX11_goes 51 = .ok (.if_icmp .ge 113, 3)) (by decide)).to, ?_⟩
  refine List.forall_mem_cons.mpr ⟨(s_aloadn (by decide +kernel : decode cX11_goes 54 = .ok (.aload_n 0, 1)) rfl).to, ?_⟩
  refine List.forall_mem_cons.mpr ⟨(s_get (ci := 11) (k := 58) (by decide +kernel : decode cX11_goes 55 = .ok (.getfield 189, 3)) rfl (by decide) wd1391 inX11 rfl).to, ?_⟩
  refine List.forall_mem_cons.mpr ⟨(s_iloadn (by decide +kernel : decode cX11_goes 58 = .ok (.iload_n 3, 1)) rfl).to, ?_⟩
  refine List.forall_mem_cons.mpr ⟨(s_iald (by decide +kernel : decode cX11_goes 59 = .ok (.iaload, 1))).to, ?_⟩
  refine List.forall_mem_cons.mpr ⟨(s_istore (by decide +kernel : decode cX11_goes 60 = .ok (.istore 4, 2)) (by decide)).to, ?_⟩
  refine List.forall_mem_cons.mpr ⟨(s_aloadn (by decide +kernel : decode cX11_goes 62 = .ok (.aload_n 0, 1)) rfl).to, ?_⟩
  refine List.forall_mem_cons.mpr ⟨(s_iload (by decide +kernel : decode cX11_goes 63 = .ok (.iload 4, 2))).to, ?_⟩
  refine List.forall_mem_cons.mpr ⟨z_cv (by decide +kernel : decode cX11_goes 65 = .ok (.invokevirtual 463, 3)) mt215 wd1783 (ci := 11) rfl (by decide), ?_⟩
  refine List.forall_mem_cons.mpr ⟨(s_istore (by decide +kernel : decode cX11_goes 68 = .ok (.istore 5, 2)) (by decide)).to, ?_⟩
  refine List.forall_mem_cons.mpr ⟨(s_aloadn (by decide +kernel : decode cX11_goes 70 = .ok (.aload_n 0, 1)) rfl).to, ?_⟩
  refine List.forall_mem_cons.mpr ⟨(s_iload (by decide +kernel : decode cX11_goes 71 = .ok (.iload 4, 2))).to, ?_⟩
  refine List.forall_mem_cons.mpr ⟨z_cv (by decide +kernel : decode cX11_goes 73 = .ok (.invokevirtual 466, 3)) mt216 wd1787 (ci := 11) rfl (by decide), ?_⟩
  refine List.forall_mem_cons.mpr ⟨(s_istore (by decide +kernel : decode cX11_goes 76 = .ok (.istore 6, 2)) (by decide)).to, ?_⟩
  refine List.forall_mem_cons.mpr ⟨(s_aloadn (by decide +kernel : decode cX11_goes 78 = .ok (.aload_n 0, 1)) rfl).to, ?_⟩
  refine List.forall_mem_cons.mpr ⟨(s_iloadn (by decide +kernel : decode cX11_goes 79 = .ok (.iload_n 1, 1)) rfl).to, ?_⟩
  refine List.forall_mem_cons.mpr ⟨(s_iload (by decide +kernel : decode cX11_goes 80 = .ok (.iload 5, 2))).to, ?_⟩
  refine List.forall_mem_cons.mpr ⟨(s_iconst (by decide +kernel : decode cX11_goes 82 = .ok (.iconst 1, 1)) (by decide)).to, ?_⟩
  refine List.forall_mem_cons.mpr ⟨(s_isub (by decide +kernel : decode cX11_goes 83 = .ok (.isub, 1))).to, ?_⟩
  refine List.forall_mem_cons.mpr ⟨(s_iload (by decide +kernel : decode cX11_goes 84 = .ok (.iload 6, 2))).to, ?_⟩
  refine List.forall_mem_cons.mpr ⟨(s_aloadn (by decide +kernel : decode cX11_goes 86 = .ok (.aload_n 0, 1)) rfl).to, ?_⟩
  refine List.forall_mem_cons.mpr ⟨(s_get (ci := 11) (k := 57) (by decide +kernel : decode cX11_goes 87 = .ok (.getfield 186, 3)) rfl (by decide) wd1390 inX11 rfl).to, ?_⟩
  refine List.forall_mem_cons.mpr ⟨(s_iload (by decide +kernel : decode cX11_goes 90 = .ok (.iload 4, 2))).to, ?_⟩
  refine List.forall_mem_cons.mpr ⟨(s_iald (by decide +kernel : decode cX11_goes 92 = .ok (.iaload, 1))).to, ?_⟩
  refine List.forall_mem_cons.mpr ⟨(s_iconst (by decide +kernel : decode cX11_goes 93 = .ok (.iconst 1, 1)) (by decide)).to, ?_⟩
  refine List.forall_mem_cons.mpr ⟨(s_iadd (by decide +kernel : decode cX11_goes 94 = .ok (.iadd, 1))).to, ?_⟩
  refine List.forall_mem_cons.mpr ⟨z_cv (by decide +kernel : decode cX11_goes 95 = .ok (.invokevirtual 513, 3)) mt236 wd1863 (ci := 11) rfl (by decide), ?_⟩
  refine List.forall_mem_cons.mpr ⟨(s_aloadn (by decide +kernel : decode cX11_goes 98 = .ok (.aload_n 0, 1)) rfl).to, ?_⟩
  refine List.forall_mem_cons.mpr ⟨(s_iloadn (by decide +kernel : decode cX11_goes 99 = .ok (.iload_n 1, 1)) rfl).to, ?_⟩
  exact fun _ h => absurd h List.not_mem_nil
theorem sn_tX11_goes_1 : ∀ q ∈ tX11_goes_1, am_Snd am_P0 RX11 cX11_goes 7 (Option.none : Option FieldType) "goes" q.1 q.2 := by
  unfold tX11_goes_1
  refine List.forall_mem_cons.mpr ⟨(s_iload (by decide +kernel : decode cX11_goes 100 = .ok (.iload 5, 2))).to, ?_⟩
  refine List.forall_mem_cons.mpr ⟨(s_iconst (by decide +kernel : decode cX11_goes 102 = .ok (.iconst 1, 1)) (by decide)).to, ?_⟩
  refine List.forall_mem_cons.mpr ⟨(s_iadd (by decide +kernel : decode cX11_goes 103 = .ok (.iadd, 1))).to, ?_⟩
  refine List.forall_mem_cons.mpr ⟨(s_iload (by decide +kernel : decode cX11_goes 104 = .ok (.iload 6, 2))).to, ?_⟩
  refine List.forall_mem_cons.mpr ⟨(s_aloadn (by decide +kernel : decode cX11_goes 106 = .ok (.aload_n 0, 1)) rfl).to, ?_⟩
  refine List.forall_mem_cons.mpr ⟨(s_get (ci := 11) (k := 57) (by decide +kernel : decode cX11_goes 107 = .ok (.getfield 186, 3)) rfl (by decide) wd1390 inX11 rfl).to, ?_⟩
  refine List.forall_mem_cons.mpr ⟨(s_iload (by decide +kernel : decode cX11_goes 110 = .ok (.iload 4, 2))).to, ?_⟩
  refine List.forall_mem_cons.mpr ⟨(s_iald (by decide +kernel : decode cX11_goes 112 = .ok (.iaload, 1))).to, ?_⟩
  refine List.forall_mem_cons.mpr ⟨(s_iconst (by decide +kernel : decode cX11_goes 113 = .ok (.iconst 1, 1)) (by decide)).to, ?_⟩
  refine List.forall_mem_cons.mpr ⟨(s_iadd (by decide +kernel : decode cX11_goes 114 = .ok (.iadd, 1))).to, ?_⟩
  refine List.forall_mem_cons.mpr ⟨z_cv (by decide +kernel : decode cX11_goes 115 = .ok (.invokevirtual 513, 3)) mt236 wd1863 (ci := 11) rfl (by decide), ?_⟩
  refine List.forall_mem_cons.mpr ⟨(s_aloadn (by decide +kernel : decode cX11_goes 118 = .ok (.aload_n 0, 1)) rfl).to, ?_⟩
  refine List.forall_mem_cons.mpr ⟨(s_iloadn (by decide +kernel : decode cX11_goes 119 = .ok (.iload_n 1, 1)) rfl).to, ?_⟩
  refine List.forall_mem_cons.mpr ⟨(s_iload (by decide +kernel : decode cX11_goes 120 = .ok (.iload 5, 2))).to, ?_⟩
  refine List.forall_mem_cons.mpr ⟨(s_iload (by decide +kernel : decode cX11_goes 122 = .ok (.iload 6, 2))).to, ?_⟩
  refine List.forall_mem_cons.mpr ⟨(s_iconst (by decide +kernel : decode cX11_goes 124 = .ok (.iconst 1, 1)) (by decide)).to, ?_⟩
  refine List.forall_mem_cons.mpr ⟨(s_isub (by decide +kernel : decode cX11_goes 125 = .ok (.isub, 1))).to, ?_⟩
  refine List.forall_mem_cons.mpr ⟨(s_aloadn (by decide +kernel : decode cX11_goes 126 = .ok (.aload_n 0, 1)) rfl).to, ?_⟩
  refine List.forall_mem_cons.mpr ⟨(s_get (ci := 11) (k := 57) (by decide +kernel : decode cX11_goes 127 = .ok (.getfield 186, 3)) rfl (by decide) wd1390 inX11 rfl).to, ?_⟩
  refine List.forall_mem_cons.mpr ⟨(s_iload (by decide +kernel : decode cX11_goes 130 = .ok (.iload 4, 2))).to, ?_⟩
  refine List.forall_mem_cons.mpr ⟨(s_iald (by decide +kernel : decode cX11_goes 132 = .ok (.iaload, 1))).to, ?_⟩
  refine List.forall_mem_cons.mpr ⟨(s_iconst (by decide +kernel : decode cX11_goes 133 = .ok (.iconst 1, 1)) (by decide)).to, ?_⟩
  refine List.forall_mem_cons.mpr ⟨(s_iadd (by decide +kernel : decode cX11_goes 134 = .ok (.iadd, 1))).to, ?_⟩
  refine List.forall_mem_cons.mpr ⟨z_cv (by decide +kernel : decode cX11_goes 135 = .ok (.invokevirtual 513, 3)) mt236 wd1863 (ci := 11) rfl (by decide), ?_⟩
  refine List.forall_mem_cons.mpr ⟨(s_aloadn (by decide +kernel : decode cX11_goes 138 = .ok (.aload_n 0, 1)) rfl).to, ?_⟩
  refine List.forall_mem_cons.mpr ⟨(s_iloadn (by decide +kernel : decode cX11_goes 139 = .ok (.iload_n 1, 1)) rfl).to, ?_⟩
  refine List.forall_mem_cons.mpr ⟨(s_iload (by decide +kernel : decode cX11_goes 140 = .ok (.iload 5, 2))).to, ?_⟩
  refine List.forall_mem_cons.mpr ⟨(s_iload (by decide +kernel : decode cX11_goes 142 = .ok (.iload 6, 2))).to, ?_⟩
  refine List.forall_mem_cons.mpr ⟨(s_iconst (by decide +kernel : decode cX11_goes 144 = .ok (.iconst 1, 1)) (by decide)).to, ?_⟩
  refine List.forall_mem_cons.mpr ⟨(s_iadd (by decide +kernel : decode cX11_goes 145 = .ok (.iadd, 1))).to, ?_⟩
  refine List.forall_mem_cons.mpr ⟨(s_aloadn (by decide +kernel : decode cX11_goes 146 = .ok (.aload_n 0, 1)) rfl).to, ?_⟩
  refine List.forall_mem_cons.mpr ⟨(s_get (ci := 11) (k := 57) (by decide +kernel : decode cX11_goes 147 = .ok (.getfield 186, 3)) rfl (by decide) wd1390 inX11 rfl).to, ?_⟩
  refine List.forall_mem_cons.mpr ⟨(s_iload (by decide +kernel : decode cX11_goes 150 = .ok (.iload 4, 2))).to, ?_⟩
  refine List.forall_mem_cons.mpr ⟨(s_iald (by decide +kernel : decode cX11_goes 152 = .ok (.iaload, 1))).to, ?_⟩
  refine List.forall_mem_cons.mpr ⟨(s_iconst (by decide +kernel : decode cX11_goes 153 = .ok (.iconst 1, 1)) (by decide)).to, ?_⟩
  refine List.forall_mem_cons.mpr ⟨(s_iadd (by decide +kernel : decode cX11_goes 154 = .ok (.iadd, 1))).to, ?_⟩
  refine List.forall_mem_cons.mpr ⟨z_cv (by decide +kernel : decode cX11_goes 155 = .ok (.invokevirtual 513, 3)) mt236 wd1863 (ci := 11) rfl (by decide), ?_⟩
  refine List.forall_mem_cons.mpr ⟨(s_iinc (by decide +kernel : decode cX11_goes 158 = .ok (.iinc 3 1, 3)) (by decide) (by decide)).to, ?_⟩
  refine List.forall_mem_cons.mpr ⟨(s_goto (by decide +kernel : decode cX11_goes 161 = .ok (.goto (-115), 3)) (by decide)).to, ?_⟩
  refine List.forall_mem_cons.mpr ⟨s_vret (by decide +kernel : decode cX11_goes 164 = .ok (.return_, 1)) rfl, ?_⟩
  exact fun _ h => absurd h List.not_mem_nil
theorem sn_tX11_goes : ∀ q ∈ tX11_goes, am_Snd am_P0 RX11 cX11_goes 7 (Option.none : Option FieldType) "goes" q.1 q.2 := by
  unfold tX11_goes
  exact List.forall_mem_append.mpr ⟨sn_tX11_goes_0, sn_tX11_goes_1⟩
theorem sn_tX11_hoursTo : ∀ q ∈ tX11_hoursTo, am_Snd am_P0 RX11 cX11_hoursTo 4 (Option.some FieldType.int) "hoursTo" q.1 q.2 := by
  unfold tX11_hoursTo
  refine List.forall_mem_cons.mpr ⟨(s_aloadn (by decide +kernel : decode cX11_hoursTo 0 = .ok (.aload_n 0, 1)) rfl).to, ?_⟩
  refine List.forall_mem_cons.mpr ⟨(s_get (ci := 11) (k := 22) (by decide +kernel : decode cX11_hoursTo 1 = .ok (.getfield 79, 3)) rfl (by decide) wd1355 inX11 rfl).to, ?_⟩
  refine List.forall_mem_cons.mpr ⟨(s_bipush (by decide +kernel : decode cX11_hoursTo 4 = .ok (.bipush 8, 2)) (by decide)).to, ?_⟩
  refine List.forall_mem_cons.mpr ⟨(s_aloadn (by decide +kernel : decode cX11_hoursTo 6 = .ok (.aload_n 0, 1)) rfl).to, ?_⟩
  refine List.forall_mem_cons.mpr ⟨(s_get (ci := 11) (k := 12) (by decide +kernel : decode cX11_hoursTo 7 = .ok (.getfield 48, 3)) rfl (by decide) wd1345 inX11 rfl).to, ?_⟩
  refine List.forall_mem_cons.mpr ⟨(s_imul (by decide +kernel : decode cX11_hoursTo 10 = .ok (.imul, 1))).to, ?_⟩
  refine List.forall_mem_cons.mpr ⟨(s_iloadn (by decide +kernel : decode cX11_hoursTo 11 = .ok (.iload_n 1, 1)) rfl).to, ?_⟩
  refine List.forall_mem_cons.mpr ⟨(s_iadd (by decide +kernel : decode cX11_hoursTo 12 = .ok (.iadd, 1))).to, ?_⟩
  refine List.forall_mem_cons.mpr ⟨(s_iald (by decide +kernel : decode cX11_hoursTo 13 = .ok (.iaload, 1))).to, ?_⟩
  refine List.forall_mem_cons.mpr ⟨(s_istoren (by decide +kernel : decode cX11_hoursTo 14 = .ok (.istore_n 3, 1)) rfl (by decide)).to, ?_⟩
  refine List.forall_mem_cons.mpr ⟨(s_aloadn (by decide +kernel : decode cX11_hoursTo 15 = .ok (.aload_n 0, 1)) rfl).to, ?_⟩
  refine List.forall_mem_cons.mpr ⟨(s_get (ci := 11) (k := 57) (by decide +kernel : decode cX11_hoursTo 16 = .ok (.getfield 186, 3)) rfl (by decide) wd1390 inX11 rfl).to, ?_⟩
  refine List.forall_mem_cons.mpr ⟨(s_iloadn (by decide +kernel : decode cX11_hoursTo 19 = .ok (.iload_n 2, 1)) rfl).to, ?_⟩
  refine List.forall_mem_cons.mpr ⟨(s_iald (by decide +kernel : decode cX11_hoursTo 20 = .ok (.iaload, 1))).to, ?_⟩
  refine List.forall_mem_cons.mpr ⟨(s_iconst (by decide +kernel : decode cX11_hoursTo 21 = .ok (.iconst (-1), 1)) (by decide)).to, ?_⟩
  refine List.forall_mem_cons.mpr ⟨(s_icmp_ne (by decide +kernel : decode cX11_hoursTo 22 = .ok (.if_icmp .ne 9, 3)) (by decide)).to, ?_⟩
  refine List.forall_mem_cons.mpr ⟨(s_sipush (by decide +kernel : decode cX11_hoursTo 25 = .ok (.sipush 1000, 3)) (by decide)).to, ?_⟩
  refine List.forall_mem_cons.mpr ⟨(s_goto (by decide +kernel : decode cX11_hoursTo 28 = .ok (.goto 15, 3)) (by decide)).to, ?_⟩
  refine List.forall_mem_cons.mpr ⟨(s_aloadn (by decide +kernel : decode cX11_hoursTo 31 = .ok (.aload_n 0, 1)) rfl).to, ?_⟩
  refine List.forall_mem_cons.mpr ⟨(s_get (ci := 11) (k := 57) (by decide +kernel : decode cX11_hoursTo 32 = .ok (.getfield 186, 3)) rfl (by decide) wd1390 inX11 rfl).to, ?_⟩
  refine List.forall_mem_cons.mpr ⟨(s_iloadn (by decide +kernel : decode cX11_hoursTo 35 = .ok (.iload_n 2, 1)) rfl).to, ?_⟩
  refine List.forall_mem_cons.mpr ⟨(s_iald (by decide +kernel : decode cX11_hoursTo 36 = .ok (.iaload, 1))).to, ?_⟩
  refine List.forall_mem_cons.mpr ⟨(s_iloadn (by decide +kernel : decode cX11_hoursTo 37 = .ok (.iload_n 3, 1)) rfl).to, ?_⟩
  refine List.forall_mem_cons.mpr ⟨(s_iadd (by decide +kernel : decode cX11_hoursTo 38 = .ok (.iadd, 1))).to, ?_⟩
  refine List.forall_mem_cons.mpr ⟨(s_iconst (by decide +kernel : decode cX11_hoursTo 39 = .ok (.iconst 1, 1)) (by decide)).to, ?_⟩
  refine List.forall_mem_cons.mpr ⟨(s_isub (by decide +kernel : decode cX11_hoursTo 40 = .ok (.isub, 1))).to, ?_⟩
  refine List.forall_mem_cons.mpr ⟨(s_iloadn (by decide +kernel : decode cX11_hoursTo 41 = .ok (.iload_n 3, 1)) rfl).to, ?_⟩
  refine List.forall_mem_cons.mpr ⟨(s_idiv (by decide +kernel : decode cX11_hoursTo 42 = .ok (.idiv, 1))).to, ?_⟩
  refine List.forall_mem_cons.mpr ⟨s_iret (by decide +kernel : decode cX11_hoursTo 43 = .ok (.ireturn, 1)) rfl, ?_⟩
  exact fun _ h => absurd h List.not_mem_nil
theorem sn_tX11_far : ∀ q ∈ tX11_far, am_Snd am_P0 RX11 cX11_far 7 (Option.some FieldType.int) "far" q.1 q.2 := by
  unfold tX11_far
  refine List.forall_mem_cons.mpr ⟨(s_aloadn (by decide +kernel : decode cX11_far 0 = .ok (.aload_n 0, 1)) rfl).to, ?_⟩
  refine List.forall_mem_cons.mpr ⟨(s_iloadn (by decide +kernel : decode cX11_far 1 = .ok (.iload_n 1, 1)) rfl).to, ?_⟩
  refine List.forall_mem_cons.mpr ⟨z_cv (by decide +kernel : decode cX11_far 2 = .ok (.invokevirtual 505, 3)) mt220 wd1850 (ci := 11) rfl (by decide), ?_⟩
  refine List.forall_mem_cons.mpr ⟨(s_if_eq (by decide +kernel : decode cX11_far 5 = .ok (.ifCond .eq 23, 3)) (by decide)).to, ?_⟩
  refine List.forall_mem_cons.mpr ⟨(s_aloadn (by decide +kernel : decode cX11_far 8 = .ok (.aload_n 0, 1)) rfl).to, ?_⟩
  refine List.forall_mem_cons.mpr ⟨(s_iloadn (by decide +kernel : decode cX11_far 9 = .ok (.iload_n 2, 1)) rfl).to, ?_⟩
  refine List.forall_mem_cons.mpr ⟨(s_iloadn (by decide +kernel : decode cX11_far 10 = .ok (.iload_n 3, 1)) rfl).to, ?_⟩
  refine List.forall_mem_cons.mpr ⟨z_cv (by decide +kernel : decode cX11_far 11 = .ok (.invokevirtual 486, 3)) mt217 wd1819 (ci := 11) rfl (by decide), ?_⟩
  refine List.forall_mem_cons.mpr ⟨(s_if_eq (by decide +kernel : decode cX11_far 14 = .ok (.ifCond .eq 14, 3)) (by decide)).to, ?_⟩
  refine List.forall_mem_cons.mpr ⟨(s_aloadn (by decide +kernel : decode cX11_far 17 = .ok (.aload_n 0, 1)) rfl).to, ?_⟩
  refine List.forall_mem_cons.mpr ⟨(s_iload (by decide +kernel : decode cX11_far 18 = .ok (.iload 4, 2))).to, ?_⟩
  refine List.forall_mem_cons.mpr ⟨(s_iload (by decide +kernel : decode cX11_far 20 = .ok (.iload 5, 2))).to, ?_⟩
  refine List.forall_mem_cons.mpr ⟨z_cv (by decide +kernel : decode cX11_far 22 = .ok (.invokevirtual 486, 3)) mt217 wd1819 (ci := 11) rfl (by decide), ?_⟩
  refine List.forall_mem_cons.mpr ⟨(s_if_ne (by decide +kernel : decode cX11_far 25 = .ok (.ifCond .ne 5, 3)) (by decide)).to, ?_⟩
  refine List.forall_mem_cons.mpr ⟨(s_iconst (by decide +kernel : decode cX11_far 28 = .ok (.iconst (-1), 1)) (by decide)).to, ?_⟩
  refine List.forall_mem_cons.mpr ⟨s_iret (by decide +kernel : decode cX11_far 29 = .ok (.ireturn, 1)) rfl, ?_⟩
  refine List.forall_mem_cons.mpr ⟨(s_aloadn (by decide +kernel : decode cX11_far 30 = .ok (.aload_n 0, 1)) rfl).to, ?_⟩
  refine List.forall_mem_cons.mpr ⟨(s_iloadn (by decide +kernel : decode cX11_far 31 = .ok (.iload_n 1, 1)) rfl).to, ?_⟩
  refine List.forall_mem_cons.mpr ⟨(s_aloadn (by decide +kernel : decode cX11_far 32 = .ok (.aload_n 0, 1)) rfl).to, ?_⟩
  refine List.forall_mem_cons.mpr ⟨(s_iloadn (by decide +kernel : decode cX11_far 33 = .ok (.iload_n 2, 1)) rfl).to, ?_⟩
  refine List.forall_mem_cons.mpr ⟨(s_iloadn (by decide +kernel : decode cX11_far 34 = .ok (.iload_n 3, 1)) rfl).to, ?_⟩
  refine List.forall_mem_cons.mpr ⟨z_cv (by decide +kernel : decode cX11_far 35 = .ok (.invokevirtual 493, 3)) mt218 wd1826 (ci := 11) rfl (by decide), ?_⟩
  refine List.forall_mem_cons.mpr ⟨z_cv (by decide +kernel : decode cX11_far 38 = .ok (.invokevirtual 517, 3)) mt237 wd1859 (ci := 11) rfl (by decide), ?_⟩
  refine List.forall_mem_cons.mpr ⟨(s_aloadn (by decide +kernel : decode cX11_far 41 = .ok (.aload_n 0, 1)) rfl).to, ?_⟩
  refine List.forall_mem_cons.mpr ⟨(s_iloadn (by decide +kernel : decode cX11_far 42 = .ok (.iload_n 1, 1)) rfl).to, ?_⟩
  refine List.forall_mem_cons.mpr ⟨(s_aloadn (by decide +kernel : decode cX11_far 43 = .ok (.aload_n 0, 1)) rfl).to, ?_⟩
  refine List.forall_mem_cons.mpr ⟨(s_iload (by decide +kernel : decode cX11_far 44 = .ok (.iload 4, 2))).to, ?_⟩
  refine List.forall_mem_cons.mpr ⟨(s_iload (by decide +kernel : decode cX11_far 46 = .ok (.iload 5, 2))).to, ?_⟩
  refine List.forall_mem_cons.mpr ⟨z_cv (by decide +kernel : decode cX11_far 48 = .ok (.invokevirtual 493, 3)) mt218 wd1826 (ci := 11) rfl (by decide), ?_⟩
  refine List.forall_mem_cons.mpr ⟨z_cv (by decide +kernel : decode cX11_far 51 = .ok (.invokevirtual 520, 3)) mt238 wd1871 (ci := 11) rfl (by decide), ?_⟩
  refine List.forall_mem_cons.mpr ⟨(s_istore (by decide +kernel : decode cX11_far 54 = .ok (.istore 6, 2)) (by decide)).to, ?_⟩
  refine List.forall_mem_cons.mpr ⟨(s_iload (by decide +kernel : decode cX11_far 56 = .ok (.iload 6, 2))).to, ?_⟩
  refine List.forall_mem_cons.mpr ⟨(s_sipush (by decide +kernel : decode cX11_far 58 = .ok (.sipush 1000, 3)) (by decide)).to, ?_⟩
  refine List.forall_mem_cons.mpr ⟨(s_icmp_ne (by decide +kernel : decode cX11_far 61 = .ok (.if_icmp .ne 7, 3)) (by decide)).to, ?_⟩
  refine List.forall_mem_cons.mpr ⟨(s_iconst (by decide +kernel : decode cX11_far 64 = .ok (.iconst (-1), 1)) (by decide)).to, ?_⟩
  refine List.forall_mem_cons.mpr ⟨(s_goto (by decide +kernel : decode cX11_far 65 = .ok (.goto 5, 3)) (by decide)).to, ?_⟩
  refine List.forall_mem_cons.mpr ⟨(s_iload (by decide +kernel : decode cX11_far 68 = .ok (.iload 6, 2))).to, ?_⟩
  refine List.forall_mem_cons.mpr ⟨s_iret (by decide +kernel : decode cX11_far 70 = .ok (.ireturn, 1)) rfl, ?_⟩
  exact fun _ h => absurd h List.not_mem_nil
theorem sn_tX11_fact : ∀ q ∈ tX11_fact, am_Snd am_P0 RX11 cX11_fact 4 (Option.none : Option FieldType) "fact" q.1 q.2 := by
  unfold tX11_fact
  refine List.forall_mem_cons.mpr ⟨(s_aloadn (by decide +kernel : decode cX11_fact 0 = .ok (.aload_n 0, 1)) rfl).to, ?_⟩
  refine List.forall_mem_cons.mpr ⟨(s_get (ci := 11) (k := 61) (by decide +kernel : decode cX11_fact 1 = .ok (.getfield 198, 3)) rfl (by decide) wd1394 inX11 rfl).to, ?_⟩
  refine List.forall_mem_cons.mpr ⟨(s_aloadn (by decide +kernel : decode cX11_fact 4 = .ok (.aload_n 0, 1)) rfl).to, ?_⟩
  refine List.forall_mem_cons.mpr ⟨(s_get (ci := 11) (k := 60) (by decide +kernel : decode cX11_fact 5 = .ok (.getfield 195, 3)) rfl (by decide) wd1393 inX11 rfl).to, ?_⟩
  refine List.forall_mem_cons.mpr ⟨(s_iloadn (by decide +kernel : decode cX11_fact 8 = .ok (.iload_n 1, 1)) rfl).to, ?_⟩
  refine List.forall_mem_cons.mpr ⟨(s_iast (by decide +kernel : decode cX11_fact 9 = .ok (.iastore, 1))).to, ?_⟩
  refine List.forall_mem_cons.mpr ⟨(s_aloadn (by decide +kernel : decode cX11_fact 10 = .ok (.aload_n 0, 1)) rfl).to, ?_⟩
  refine List.forall_mem_cons.mpr ⟨(s_get (ci := 11) (k := 62) (by decide +kernel : decode cX11_fact 11 = .ok (.getfield 201, 3)) rfl (by decide) wd1395 inX11 rfl).to, ?_⟩
  refine List.forall_mem_cons.mpr ⟨(s_aloadn (by decide +kernel : decode cX11_fact 14 = .ok (.aload_n 0, 1)) rfl).to, ?_⟩
  refine List.forall_mem_cons.mpr ⟨(s_get (ci := 11) (k := 60) (by decide +kernel : decode cX11_fact 15 = .ok (.getfield 195, 3)) rfl (by decide) wd1393 inX11 rfl).to, ?_⟩
  refine List.forall_mem_cons.mpr ⟨(s_iloadn (by decide +kernel : decode cX11_fact 18 = .ok (.iload_n 2, 1)) rfl).to, ?_⟩
  refine List.forall_mem_cons.mpr ⟨(s_iast (by decide +kernel : decode cX11_fact 19 = .ok (.iastore, 1))).to, ?_⟩
  refine List.forall_mem_cons.mpr ⟨(s_aloadn (by decide +kernel : decode cX11_fact 20 = .ok (.aload_n 0, 1)) rfl).to, ?_⟩
  refine List.forall_mem_cons.mpr ⟨(s_get (ci := 11) (k := 63) (by decide +kernel : decode cX11_fact 21 = .ok (.getfield 204, 3)) rfl (by decide) wd1396 inX11 rfl).to, ?_⟩
  refine List.forall_mem_cons.mpr ⟨(s_aloadn (by decide +kernel : decode cX11_fact 24 = .ok (.aload_n 0, 1)) rfl).to, ?_⟩
  refine List.forall_mem_cons.mpr ⟨(s_get (ci := 11) (k := 60) (by decide +kernel : decode cX11_fact 25 = .ok (.getfield 195, 3)) rfl (by decide) wd1393 inX11 rfl).to, ?_⟩
  refine List.forall_mem_cons.mpr ⟨(s_iloadn (by decide +kernel : decode cX11_fact 28 = .ok (.iload_n 3, 1)) rfl).to, ?_⟩
  refine List.forall_mem_cons.mpr ⟨(s_iast (by decide +kernel : decode cX11_fact 29 = .ok (.iastore, 1))).to, ?_⟩
  refine List.forall_mem_cons.mpr ⟨(s_aloadn (by decide +kernel : decode cX11_fact 30 = .ok (.aload_n 0, 1)) rfl).to, ?_⟩
  refine List.forall_mem_cons.mpr ⟨(s_dup (by decide +kernel : decode cX11_fact 31 = .ok (.dup, 1))).to, ?_⟩
  refine List.forall_mem_cons.mpr ⟨(s_get (ci := 11) (k := 60) (by decide +kernel : decode cX11_fact 32 = .ok (.getfield 195, 3)) rfl (by decide) wd1393 inX11 rfl).to, ?_⟩
  refine List.forall_mem_cons.mpr ⟨(s_iconst (by decide +kernel : decode cX11_fact 35 = .ok (.iconst 1, 1)) (by decide)).to, ?_⟩
  refine List.forall_mem_cons.mpr ⟨(s_iadd (by decide +kernel : decode cX11_fact 36 = .ok (.iadd, 1))).to, ?_⟩
  refine List.forall_mem_cons.mpr ⟨(s_put (ci := 11) (k := 60) (by decide +kernel : decode cX11_fact 37 = .ok (.putfield 195, 3)) rfl (by decide) wd1393 inX11 tyX11_ok nmX11 rfl rfl).to, ?_⟩
  refine List.forall_mem_cons.mpr ⟨s_vret (by decide +kernel : decode cX11_fact 40 = .ok (.return_, 1)) rfl, ?_⟩
  exact fun _ h => absurd h List.not_mem_nil
theorem sn_tX11_addBooks : ∀ q ∈ tX11_addBooks, am_Snd am_P0 RX11 cX11_addBooks 3 (Option.none : Option FieldType) "addBooks" q.1 q.2 := by
  unfold tX11_addBooks
  refine List.forall_mem_cons.mpr ⟨(s_bipush (by decide +kernel : decode cX11_addBooks 0 = .ok (.bipush 12, 2)) (by decide)).to, ?_⟩
  refine List.forall_mem_cons.mpr ⟨(s_aloadn (by decide +kernel : decode cX11_addBooks 2 = .ok (.aload_n 0, 1)) rfl).to, ?_⟩
  refine List.forall_mem_cons.mpr ⟨(s_get (ci := 11) (k := 12) (by decide +kernel : decode cX11_addBooks 3 = .ok (.getfield 48, 3)) rfl (by decide) wd1345 inX11 rfl).to, ?_⟩
  refine List.forall_mem_cons.mpr ⟨(s_imul (by decide +kernel : decode cX11_addBooks 6 = .ok (.imul, 1))).to, ?_⟩
  refine List.forall_mem_cons.mpr ⟨(s_istoren (by decide +kernel : decode cX11_addBooks 7 = .ok (.istore_n 2, 1)) rfl (by decide)).to, ?_⟩
  refine List.forall_mem_cons.mpr ⟨(s_iloadn (by decide +kernel : decode cX11_addBooks 8 = .ok (.iload_n 2, 1)) rfl).to, ?_⟩
  refine List.forall_mem_cons.mpr ⟨(s_bipush (by decide +kernel : decode cX11_addBooks 9 = .ok (.bipush 12, 2)) (by decide)).to, ?_⟩
  refine List.forall_mem_cons.mpr ⟨(s_aloadn (by decide +kernel : decode cX11_addBooks 11 = .ok (.aload_n 0, 1)) rfl).to, ?_⟩
  refine List.forall_mem_cons.mpr ⟨(s_get (ci := 11) (k := 12) (by decide +kernel : decode cX11_addBooks 12 = .ok (.getfield 48, 3)) rfl (by decide) wd1345 inX11 rfl).to, ?_⟩
  refine List.forall_mem_cons.mpr ⟨(s_imul (by decide +kernel : decode cX11_addBooks 15 = .ok (.imul, 1))).to, ?_⟩
  refine List.forall_mem_cons.mpr ⟨(s_aloadn (by decide +kernel : decode cX11_addBooks 16 = .ok (.aload_n 0, 1)) rfl).to, ?_⟩
  refine List.forall_mem_cons.mpr ⟨(s_get (ci := 11) (k := 28) (by decide +kernel : decode cX11_addBooks 17 = .ok (.getfield 98, 3)) rfl (by decide) wd1361 inX11 rfl).to, ?_⟩
  refine List.forall_mem_cons.mpr ⟨(s_aloadn (by decide +kernel : decode cX11_addBooks 20 = .ok (.aload_n 0, 1)) rfl).to, ?_⟩
  refine List.forall_mem_cons.mpr ⟨(s_get (ci := 11) (k := 12) (by decide +kernel : decode cX11_addBooks 21 = .ok (.getfield 48, 3)) rfl (by decide) wd1345 inX11 rfl).to, ?_⟩
  refine List.forall_mem_cons.mpr ⟨(s_iald (by decide +kernel : decode cX11_addBooks 24 = .ok (.iaload, 1))).to, ?_⟩
  refine List.forall_mem_cons.mpr ⟨(s_iadd (by decide +kernel : decode cX11_addBooks 25 = .ok (.iadd, 1))).to, ?_⟩
  refine List.forall_mem_cons.mpr ⟨(s_icmp_ge (by decide +kernel : decode cX11_addBooks 26 = .ok (.if_icmp .ge 41, 3)) (by decide)).to, ?_⟩
  refine List.forall_mem_cons.mpr ⟨(s_aloadn (by decide +kernel : decode cX11_addBooks 29 = .ok (.aload_n 0, 1)) rfl).to, ?_⟩
  refine List.forall_mem_cons.mpr ⟨(s_get (ci := 11) (k := 29) (by decide +kernel : decode cX11_addBooks 30 = .ok (.getfield 101, 3)) rfl (by decide) wd1362 inX11 rfl).to, ?_⟩
  refine List.forall_mem_cons.mpr ⟨(s_iloadn (by decide +kernel : decode cX11_addBooks 33 = .ok (.iload_n 2, 1)) rfl).to, ?_⟩
  refine List.forall_mem_cons.mpr ⟨(s_iald (by decide +kernel : decode cX11_addBooks 34 = .ok (.iaload, 1))).to, ?_⟩
  refine List.forall_mem_cons.mpr ⟨(s_iloadn (by decide +kernel : decode cX11_addBooks 35 = .ok (.iload_n 1, 1)) rfl).to, ?_⟩
  refine List.forall_mem_cons.mpr ⟨(s_icmp_ne (by decide +kernel : decode cX11_addBooks 36 = .ok (.if_icmp .ne 25, 3)) (by decide)).to, ?_⟩
  refine List.forall_mem_cons.mpr ⟨(s_aloadn (by decide +kernel : decode cX11_addBooks 39 = .ok (.aload_n 0, 1)) rfl).to, ?_⟩
  refine List.forall_mem_cons.mpr ⟨(s_aloadn (by decide +kernel : decode cX11_addBooks 40 = .ok (.aload_n 0, 1)) rfl).to, ?_⟩
  refine List.forall_mem_cons.mpr ⟨(s_get (ci := 11) (k := 30) (by decide +kernel : decode cX11_addBooks 41 = .ok (.getfield 104, 3)) rfl (by decide) wd1363 inX11 rfl).to, ?_⟩
  refine List.forall_mem_cons.mpr ⟨(s_iloadn (by decide +kernel : decode cX11_addBooks 44 = .ok (.iload_n 2, 1)) rfl).to, ?_⟩
  refine List.forall_mem_cons.mpr ⟨(s_iald (by decide +kernel : decode cX11_addBooks 45 = .ok (.iaload, 1))).to, ?_⟩
  refine List.forall_mem_cons.mpr ⟨(s_aloadn (by decide +kernel : decode cX11_addBooks 46 = .ok (.aload_n 0, 1)) rfl).to, ?_⟩
  refine List.forall_mem_cons.mpr ⟨(s_get (ci := 11) (k := 31) (by decide +kernel : decode cX11_addBooks 47 = .ok (.getfield 107, 3)) rfl (by decide) wd1364 inX11 rfl).to, ?_⟩
  refine List.forall_mem_cons.mpr ⟨(s_iloadn (by decide +kernel : decode cX11_addBooks 50 = .ok (.iload_n 2, 1)) rfl).to, ?_⟩
  refine List.forall_mem_cons.mpr ⟨(s_iald (by decide +kernel : decode cX11_addBooks 51 = .ok (.iaload, 1))).to, ?_⟩
  refine List.forall_mem_cons.mpr ⟨(s_aloadn (by decide +kernel : decode cX11_addBooks 52 = .ok (.aload_n 0, 1)) rfl).to, ?_⟩
  refine List.forall_mem_cons.mpr ⟨(s_get (ci := 11) (k := 32) (by decide +kernel : decode cX11_addBooks 53 = .ok (.getfield 110, 3)) rfl (by decide) wd1365 inX11 rfl).to, ?_⟩
  refine List.forall_mem_cons.mpr ⟨(s_iloadn (by decide +kernel : decode cX11_addBooks 56 = .ok (.iload_n 2, 1)) rfl).to, ?_⟩
  refine List.forall_mem_cons.mpr ⟨(s_iald (by decide +kernel : decode cX11_addBooks 57 = .ok (.iaload, 1))).to, ?_⟩
  refine List.forall_mem_cons.mpr ⟨z_cv (by decide +kernel : decode cX11_addBooks 58 = .ok (.invokevirtual 523, 3)) mt240 wd1891 (ci := 11) rfl (by decide), ?_⟩
  refine List.forall_mem_cons.mpr ⟨(s_iinc (by decide +kernel : decode cX11_addBooks 61 = .ok (.iinc 2 1, 3)) (by decide) (by decide)).to, ?_⟩
  refine List.forall_mem_cons.mpr ⟨(s_goto (by decide +kernel : decode cX11_addBooks 64 = .ok (.goto (-56), 3)) (by decide)).to, ?_⟩
  refine List.forall_mem_cons.mpr ⟨s_vret (by decide +kernel : decode cX11_addBooks 67 = .ok (.return_, 1)) rfl, ?_⟩
  exact fun _ h => absurd h List.not_mem_nil
theorem sn_tX11_addSayings : ∀ q ∈ tX11_addSayings, am_Snd am_P0 RX11 cX11_addSayings 6 (Option.some FieldType.boolean) "addSayings" q.1 q.2 := by
  unfold tX11_addSayings
  refine List.forall_mem_cons.mpr ⟨(s_iconst (by decide +kernel : decode cX11_addSayings 0 = .ok (.iconst 1, 1)) (by decide)).to, ?_⟩
  refine List.forall_mem_cons.mpr ⟨(s_istore (by decide +kernel : decode cX11_addSayings 1 = .ok (.istore 4, 2)) (by decide)).to, ?_⟩
  refine List.forall_mem_cons.mpr ⟨(s_iconst (by decide +kernel : decode cX11_addSayings 3 = .ok (.iconst 0, 1)) (by decide)).to, ?_⟩
  refine List.forall_mem_cons.mpr ⟨(s_istore (by decide +kernel : decode cX11_addSayings 4 = .ok (.istore 5, 2)) (by decide)).to, ?_⟩
  refine List.forall_mem_cons.mpr ⟨(s_iload (by decide +kernel : decode cX11_addSayings 6 = .ok (.iload 5, 2))).to, ?_⟩
  refine List.forall_mem_cons.mpr ⟨(s_bipush (by decide +kernel : decode cX11_addSayings 8 = .ok (.bipush 48, 2)) (by decide)).to, ?_⟩
  refine List.forall_mem_cons.mpr ⟨(s_icmp_ge (by decide +kernel : decode cX11_addSayings 10 = .ok (.if_icmp .ge 86, 3)) (by decide)).to, ?_⟩
  refine List.forall_mem_cons.mpr ⟨(s_aloadn (by decide +kernel : decode cX11_addSayings 13 = .ok (.aload_n 0, 1)) rfl).to, ?_⟩
  refine List.forall_mem_cons.mpr ⟨(s_iloadn (by decide +kernel : decode cX11_addSayings 14 = .ok (.iload_n 1, 1)) rfl).to, ?_⟩
  refine List.forall_mem_cons.mpr ⟨(s_iload (by decide +kernel : decode cX11_addSayings 15 = .ok (.iload 5, 2))).to, ?_⟩
  refine List.forall_mem_cons.mpr ⟨z_cv (by decide +kernel : decode cX11_addSayings 17 = .ok (.invokevirtual 499, 3)) mt226 wd1842 (ci := 11) rfl (by decide), ?_⟩
  refine List.forall_mem_cons.mpr ⟨(s_iconst (by decide +kernel : decode cX11_addSayings 20 = .ok (.iconst (-1), 1)) (by decide)).to, ?_⟩
  refine List.forall_mem_cons.mpr ⟨(s_icmp_eq (by decide +kernel : decode cX11_addSayings 21 = .ok (.if_icmp .eq 69, 3)) (by decide)).to, ?_⟩
  refine List.forall_mem_cons.mpr ⟨(s_iload (by decide +kernel : decode cX11_addSayings 24 = .ok (.iload 5, 2))).to, ?_⟩
  refine List.forall_mem_cons.mpr ⟨(s_iloadn (by decide +kernel : decode cX11_addSayings 26 = .ok (.iload_n 3, 1)) rfl).to, ?_⟩
  refine List.forall_mem_cons.mpr ⟨(s_iadd (by decide +kernel : decode cX11_addSayings 27 = .ok (.iadd, 1))).to, ?_⟩
  refine List.forall_mem_cons.mpr ⟨z_cs (by decide +kernel : decode cX11_addSayings 28 = .ok (.invokestatic 490, 3)) mt219 wd1823, ?_⟩
  refine List.forall_mem_cons.mpr ⟨(s_if_ne (by decide +kernel : decode cX11_addSayings 31 = .ok (.ifCond .ne 6, 3)) (by decide)).to, ?_⟩
  refine List.forall_mem_cons.mpr ⟨(s_goto (by decide +kernel : decode cX11_addSayings 34 = .ok (.goto 56, 3)) (by decide)).to, ?_⟩
  refine List.forall_mem_cons.mpr ⟨(s_aloadn (by decide +kernel : decode cX11_addSayings 37 = .ok (.aload_n 0, 1)) rfl).to, ?_⟩
  refine List.forall_mem_cons.mpr ⟨(s_aloadn (by decide +kernel : decode cX11_addSayings 38 = .ok (.aload_n 0, 1)) rfl).to, ?_⟩
  refine List.forall_mem_cons.mpr ⟨(s_iloadn (by decide +kernel : decode cX11_addSayings 39 = .ok (.iload_n 1, 1)) rfl).to, ?_⟩
  refine List.forall_mem_cons.mpr ⟨(s_iload (by decide +kernel : decode cX11_addSayings 40 = .ok (.iload 5, 2))).to, ?_⟩
  refine List.forall_mem_cons.mpr ⟨z_cv (by decide +kernel : decode cX11_addSayings 42 = .ok (.invokevirtual 499, 3)) mt226 wd1842 (ci := 11) rfl (by decide), ?_⟩
  refine List.forall_mem_cons.mpr ⟨(s_iload (by decide +kernel : decode cX11_addSayings 45 = .ok (.iload 5, 2))).to, ?_⟩
  refine List.forall_mem_cons.mpr ⟨(s_iloadn (by decide +kernel : decode cX11_addSayings 47 = .ok (.iload_n 3, 1)) rfl).to, ?_⟩
  refine List.forall_mem_cons.mpr ⟨(s_iadd (by decide +kernel : decode cX11_addSayings 48 = .ok (.iadd, 1))).to, ?_⟩
  refine List.forall_mem_cons.mpr ⟨(s_iload (by decide +kernel : decode cX11_addSayings 49 = .ok (.iload 5, 2))).to, ?_⟩
  refine List.forall_mem_cons.mpr ⟨(s_iloadn (by decide +kernel : decode cX11_addSayings 51 = .ok (.iload_n 3, 1)) rfl).to, ?_⟩
  refine List.forall_mem_cons.mpr ⟨(s_iadd (by decide +kernel : decode cX11_addSayings 52 = .ok (.iadd, 1))).to, ?_⟩
  refine List.forall_mem_cons.mpr ⟨z_cv (by decide +kernel : decode cX11_addSayings 53 = .ok (.invokevirtual 523, 3)) mt240 wd1891 (ci := 11) rfl (by decide), ?_⟩
  refine List.forall_mem_cons.mpr ⟨(s_iload (by decide +kernel : decode cX11_addSayings 56 = .ok (.iload 4, 2))).to, ?_⟩
  refine List.forall_mem_cons.mpr ⟨(s_if_eq (by decide +kernel : decode cX11_addSayings 58 = .ok (.ifCond .eq 29, 3)) (by decide)).to, ?_⟩
  refine List.forall_mem_cons.mpr ⟨(s_aloadn (by decide +kernel : decode cX11_addSayings 61 = .ok (.aload_n 0, 1)) rfl).to, ?_⟩
  refine List.forall_mem_cons.mpr ⟨(s_iloadn (by decide +kernel : decode cX11_addSayings 62 = .ok (.iload_n 2, 1)) rfl).to, ?_⟩
  refine List.forall_mem_cons.mpr ⟨(s_aloadn (by decide +kernel : decode cX11_addSayings 63 = .ok (.aload_n 0, 1)) rfl).to, ?_⟩
  refine List.forall_mem_cons.mpr ⟨(s_iloadn (by decide +kernel : decode cX11_addSayings 64 = .ok (.iload_n 1, 1)) rfl).to, ?_⟩
  refine List.forall_mem_cons.mpr ⟨(s_iload (by decide +kernel : decode cX11_addSayings 65 = .ok (.iload 5, 2))).to, ?_⟩
  refine List.forall_mem_cons.mpr ⟨z_cv (by decide +kernel : decode cX11_addSayings 67 = .ok (.invokevirtual 499, 3)) mt226 wd1842 (ci := 11) rfl (by decide), ?_⟩
  refine List.forall_mem_cons.mpr ⟨(s_aloadn (by decide +kernel : decode cX11_addSayings 70 = .ok (.aload_n 0, 1)) rfl).to, ?_⟩
  refine List.forall_mem_cons.mpr ⟨(s_iloadn (by decide +kernel : decode cX11_addSayings 71 = .ok (.iload_n 1, 1)) rfl).to, ?_⟩
  refine List.forall_mem_cons.mpr ⟨(s_iload (by decide +kernel : decode cX11_addSayings 72 = .ok (.iload 5, 2))).to, ?_⟩
  refine List.forall_mem_cons.mpr ⟨z_cv (by decide +kernel : decode cX11_addSayings 74 = .ok (.invokevirtual 527, 3)) mt227 wd1910 (ci := 11) rfl (by decide), ?_⟩
  refine List.forall_mem_cons.mpr ⟨z_cv (by decide +kernel : decode cX11_addSayings 77 = .ok (.invokevirtual 530, 3)) mt235 wd1914 (ci := 11) rfl (by decide), ?_⟩
  refine List.forall_mem_cons.mpr ⟨(s_if_eq (by decide +kernel : decode cX11_addSayings 80 = .ok (.ifCond .eq 7, 3)) (by decide)).to, ?_⟩
  refine List.forall_mem_cons.mpr ⟨(s_iconst (by decide +kernel : decode cX11_addSayings 83 = .ok (.iconst 1, 1)) (by decide)).to, ?_⟩
  refine List.forall_mem_cons.mpr ⟨(s_goto (by decide +kernel : decode cX11_addSayings 84 = .ok (.goto 4, 3)) (by decide)).to, ?_⟩
  refine List.forall_mem_cons.mpr ⟨(s_iconst (by decide +kernel : decode cX11_addSayings 87 = .ok (.iconst 0, 1)) (by decide)).to, ?_⟩
  refine List.forall_mem_cons.mpr ⟨(s_istore (by decide +kernel : decode cX11_addSayings 88 = .ok (.istore 4, 2)) (by decide)).to, ?_⟩
  refine List.forall_mem_cons.mpr ⟨(s_iinc (by decide +kernel : decode cX11_addSayings 90 = .ok (.iinc 5 1, 3)) (by decide) (by decide)).to, ?_⟩
  refine List.forall_mem_cons.mpr ⟨(s_goto (by decide +kernel : decode cX11_addSayings 93 = .ok (.goto (-87), 3)) (by decide)).to, ?_⟩
  refine List.forall_mem_cons.mpr ⟨(s_iload (by decide +kernel : decode cX11_addSayings 96 = .ok (.iload 4, 2))).to, ?_⟩
  refine List.forall_mem_cons.mpr ⟨s_zret (by decide +kernel : decode cX11_addSayings 98 = .ok (.ireturn, 1)) rfl, ?_⟩
  exact fun _ h => absurd h List.not_mem_nil
theorem sn_tX11_between : ∀ q ∈ tX11_between, am_Snd am_P0 RX11 cX11_between 4 (Option.some FieldType.int) "between" q.1 q.2 := by
  unfold tX11_between
  refine List.forall_mem_cons.mpr ⟨(s_iloadn (by decide +kernel : decode cX11_between 0 = .ok (.iload_n 2, 1)) rfl).to, ?_⟩
  refine List.forall_mem_cons.mpr ⟨(s_iloadn (by decide +kernel : decode cX11_between 1 = .ok (.iload_n 1, 1)) rfl).to, ?_⟩
  refine List.forall_mem_cons.mpr ⟨(s_icmp_le (by decide +kernel : decode cX11_between 2 = .ok (.if_icmp .le 9, 3)) (by decide)).to, ?_⟩
  refine List.forall_mem_cons.mpr ⟨(s_iloadn (by decide +kernel : decode cX11_between 5 = .ok (.iload_n 2, 1)) rfl).to, ?_⟩
  refine List.forall_mem_cons.mpr ⟨(s_iloadn (by decide +kernel : decode cX11_between 6 = .ok (.iload_n 1, 1)) rfl).to, ?_⟩
  refine List.forall_mem_cons.mpr ⟨(s_isub (by decide +kernel : decode cX11_between 7 = .ok (.isub, 1))).to, ?_⟩
  refine List.forall_mem_cons.mpr ⟨(s_goto (by decide +kernel : decode cX11_between 8 = .ok (.goto 15, 3)) (by decide)).to, ?_⟩
  refine List.forall_mem_cons.mpr ⟨(s_iloadn (by decide +kernel : decode cX11_between 11 = .ok (.iload_n 0, 1)) rfl).to, ?_⟩
  refine List.forall_mem_cons.mpr ⟨(s_iloadn (by decide +kernel : decode cX11_between 12 = .ok (.iload_n 3, 1)) rfl).to, ?_⟩
  refine List.forall_mem_cons.mpr ⟨(s_icmp_le (by decide +kernel : decode cX11_between 13 = .ok (.if_icmp .le 9, 3)) (by decide)).to, ?_⟩
  refine List.forall_mem_cons.mpr ⟨(s_iloadn (by decide +kernel : decode cX11_between 16 = .ok (.iload_n 0, 1)) rfl).to, ?_⟩
  refine List.forall_mem_cons.mpr ⟨(s_iloadn (by decide +kernel : decode cX11_between 17 = .ok (.iload_n 3, 1)) rfl).to, ?_⟩
  refine List.forall_mem_cons.mpr ⟨(s_isub (by decide +kernel : decode cX11_between 18 = .ok (.isub, 1))).to, ?_⟩
  refine List.forall_mem_cons.mpr ⟨(s_goto (by decide +kernel : decode cX11_between 19 = .ok (.goto 4, 3)) (by decide)).to, ?_⟩
  refine List.forall_mem_cons.mpr ⟨(s_iconst (by decide +kernel : decode cX11_between 22 = .ok (.iconst 0, 1)) (by decide)).to, ?_⟩
  refine List.forall_mem_cons.mpr ⟨s_iret (by decide +kernel : decode cX11_between 23 = .ok (.ireturn, 1)) rfl, ?_⟩
  exact fun _ h => absurd h List.not_mem_nil
theorem sn_tX11_fit : ∀ q ∈ tX11_fit, am_Snd am_P0 RX11 cX11_fit 4 (Option.some FieldType.boolean) "fit" q.1 q.2 := by
  unfold tX11_fit
  refine List.forall_mem_cons.mpr ⟨(s_iconst (by decide +kernel : decode cX11_fit 0 = .ok (.iconst 0, 1)) (by decide)).to, ?_⟩
  refine List.forall_mem_cons.mpr ⟨(s_istoren (by decide +kernel : decode cX11_fit 1 = .ok (.istore_n 2, 1)) rfl (by decide)).to, ?_⟩
  refine List.forall_mem_cons.mpr ⟨(s_iloadn (by decide +kernel : decode cX11_fit 2 = .ok (.iload_n 2, 1)) rfl).to, ?_⟩
  refine List.forall_mem_cons.mpr ⟨(s_aloadn (by decide +kernel : decode cX11_fit 3 = .ok (.aload_n 0, 1)) rfl).to, ?_⟩
  refine List.forall_mem_cons.mpr ⟨(s_get (ci := 11) (k := 60) (by decide +kernel : decode cX11_fit 4 = .ok (.getfield 195, 3)) rfl (by decide) wd1393 inX11 rfl).to, ?_⟩
  refine List.forall_mem_cons.mpr ⟨(s_icmp_ge (by decide +kernel : decode cX11_fit 7 = .ok (.if_icmp .ge 79, 3)) (by decide)).to, ?_⟩
  refine List.forall_mem_cons.mpr ⟨(s_aloadn (by decide +kernel : decode cX11_fit 10 = .ok (.aload_n 0, 1)) rfl).to, ?_⟩
  refine List.forall_mem_cons.mpr ⟨(s_iloadn (by decide +kernel : decode cX11_fit 11 = .ok (.iload_n 1, 1)) rfl).to, ?_⟩
  refine List.forall_mem_cons.mpr ⟨(s_aloadn (by decide +kernel : decode cX11_fit 12 = .ok (.aload_n 0, 1)) rfl).to, ?_⟩
  refine List.forall_mem_cons.mpr ⟨(s_get (ci := 11) (k := 61) (by decide +kernel : decode cX11_fit 13 = .ok (.getfield 198, 3)) rfl (by decide) wd1394 inX11 rfl).to, ?_⟩
  refine List.forall_mem_cons.mpr ⟨(s_iloadn (by decide +kernel : decode cX11_fit 16 = .ok (.iload_n 2, 1)) rfl).to, ?_⟩
  refine List.forall_mem_cons.mpr ⟨(s_iald (by decide +kernel : decode cX11_fit 17 = .ok (.iaload, 1))).to, ?_⟩
  refine List.forall_mem_cons.mpr ⟨z_cv (by decide +kernel : decode cX11_fit 18 = .ok (.invokevirtual 517, 3)) mt237 wd1859 (ci := 11) rfl (by decide), ?_⟩
  refine List.forall_mem_cons.mpr ⟨(s_iconst (by decide +kernel : decode cX11_fit 21 = .ok (.iconst 0, 1)) (by decide)).to, ?_⟩
  refine List.forall_mem_cons.mpr ⟨(s_istoren (by decide +kernel : decode cX11_fit 22 = .ok (.istore_n 3, 1)) rfl (by decide)).to, ?_⟩
  refine List.forall_mem_cons.mpr ⟨(s_iloadn (by decide +kernel : decode cX11_fit 23 = .ok (.iload_n 3, 1)) rfl).to, ?_⟩
  refine List.forall_mem_cons.mpr ⟨(s_aloadn (by decide +kernel : decode cX11_fit 24 = .ok (.aload_n 0, 1)) rfl).to, ?_⟩
  refine List.forall_mem_cons.mpr ⟨(s_get (ci := 11) (k := 60) (by decide +kernel : decode cX11_fit 25 = .ok (.getfield 195, 3)) rfl (by decide) wd1393 inX11 rfl).to, ?_⟩
  refine List.forall_mem_cons.mpr ⟨(s_icmp_ge (by decide +kernel : decode cX11_fit 28 = .ok (.if_icmp .ge 52, 3)) (by decide)).to, ?_⟩
  refine List.forall_mem_cons.mpr ⟨(s_aloadn (by decide +kernel : decode cX11_fit 31 = .ok (.aload_n 0, 1)) rfl).to, ?_⟩
  refine List.forall_mem_cons.mpr ⟨(s_iloadn (by decide +kernel : decode cX11_fit 32 = .ok (.iload_n 1, 1)) rfl).to, ?_⟩
  refine List.forall_mem_cons.mpr ⟨(s_aloadn (by decide +kernel : decode cX11_fit 33 = .ok (.aload_n 0, 1)) rfl).to, ?_⟩
  refine List.forall_mem_cons.mpr ⟨(s_get (ci := 11) (k := 61) (by decide +kernel : decode cX11_fit 34 = .ok (.getfield 198, 3)) rfl (by decide) wd1394 inX11 rfl).to, ?_⟩
  refine List.forall_mem_cons.mpr ⟨(s_iloadn (by decide +kernel : decode cX11_fit 37 = .ok (.iload_n 3, 1)) rfl).to, ?_⟩
  refine List.forall_mem_cons.mpr ⟨(s_iald (by decide +kernel : decode cX11_fit 38 = .ok (.iaload, 1))).to, ?_⟩
  refine List.forall_mem_cons.mpr ⟨z_cv (by decide +kernel : decode cX11_fit 39 = .ok (.invokevirtual 520, 3)) mt238 wd1871 (ci := 11) rfl (by decide), ?_⟩
  refine List.forall_mem_cons.mpr ⟨(s_aloadn (by decide +kernel : decode cX11_fit 42 = .ok (.aload_n 0, 1)) rfl).to, ?_⟩
  refine List.forall_mem_cons.mpr ⟨(s_get (ci := 11) (k := 62) (by decide +kernel : decode cX11_fit 43 = .ok (.getfield 201, 3)) rfl (by decide) wd1395 inX11 rfl).to, ?_⟩
  refine List.forall_mem_cons.mpr ⟨(s_iloadn (by decide +kernel : decode cX11_fit 46 = .ok (.iload_n 2, 1)) rfl).to, ?_⟩
  refine List.forall_mem_cons.mpr ⟨(s_iald (by decide +kernel : decode cX11_fit 47 = .ok (.iaload, 1))).to, ?_⟩
  refine List.forall_mem_cons.mpr ⟨(s_aloadn (by decide +kernel : decode cX11_fit 48 = .ok (.aload_n 0, 1)) rfl).to, ?_⟩
  refine List.forall_mem_cons.mpr ⟨(s_get (ci := 11) (k := 63) (by decide +kernel : decode cX11_fit 49 = .ok (.getfield 204, 3)) rfl (by decide) wd1396 inX11 rfl).to, ?_⟩
  refine List.forall_mem_cons.mpr ⟨(s_iloadn (by decide +kernel : decode cX11_fit 52 = .ok (.iload_n 2, 1)) rfl).to, ?_⟩
  refine List.forall_mem_cons.mpr ⟨(s_iald (by decide +kernel : decode cX11_fit 53 = .ok (.iaload, 1))).to, ?_⟩
  refine List.forall_mem_cons.mpr ⟨(s_aloadn (by decide +kernel : decode cX11_fit 54 = .ok (.aload_n 0, 1)) rfl).to, ?_⟩
  refine List.forall_mem_cons.mpr ⟨(s_get (ci := 11) (k := 62) (by decide +kernel : decode cX11_fit 55 = .ok (.getfield 201, 3)) rfl (by decide) wd1395 inX11 rfl).to, ?_⟩
  refine List.forall_mem_cons.mpr ⟨(s_iloadn (by decide +kernel : decode cX11_fit 58 = .ok (.iload_n 3, 1)) rfl).to, ?_⟩
  refine List.forall_mem_cons.mpr ⟨(s_iald (by decide +kernel : decode cX11_fit 59 = .ok (.iaload, 1))).to, ?_⟩
  refine List.forall_mem_cons.mpr ⟨(s_aloadn (by decide +kernel : decode cX11_fit 60 = .ok (.aload_n 0, 1)) rfl).to, ?_⟩
  refine List.forall_mem_cons.mpr ⟨(s_get (ci := 11) (k := 63) (by decide +kernel : decode cX11_fit 61 = .ok (.getfield 204, 3)) rfl (by decide) wd1396 inX11 rfl).to, ?_⟩
  refine List.forall_mem_cons.mpr ⟨(s_iloadn (by decide +kernel : decode cX11_fit 64 = .ok (.iload_n 3, 1)) rfl).to, ?_⟩
  refine List.forall_mem_cons.mpr ⟨(s_iald (by decide +kernel : decode cX11_fit 65 = .ok (.iaload, 1))).to, ?_⟩
  refine List.forall_mem_cons.mpr ⟨z_cs (by decide +kernel : decode cX11_fit 66 = .ok (.invokestatic 534, 3)) mt243 wd1899, ?_⟩
  refine List.forall_mem_cons.mpr ⟨(s_icmp_le (by decide +kernel : decode cX11_fit 69 = .ok (.if_icmp .le 5, 3)) (by decide)).to, ?_⟩
  refine List.forall_mem_cons.mpr ⟨(s_iconst (by decide +kernel : decode cX11_fit 72 = .ok (.iconst 0, 1)) (by decide)).to, ?_⟩
  refine List.forall_mem_cons.mpr ⟨s_zret (by decide +kernel : decode cX11_fit 73 = .ok (.ireturn, 1)) rfl, ?_⟩
  refine List.forall_mem_cons.mpr ⟨(s_iinc (by decide +kernel : decode cX11_fit 74 = .ok (.iinc 3 1, 3)) (by decide) (by decide)).to, ?_⟩
  refine List.forall_mem_cons.mpr ⟨(s_goto (by decide +kernel : decode cX11_fit 77 = .ok (.goto (-54), 3)) (by decide)).to, ?_⟩
  refine List.forall_mem_cons.mpr ⟨(s_iinc (by decide +kernel : decode cX11_fit 80 = .ok (.iinc 2 1, 3)) (by decide) (by decide)).to, ?_⟩
  refine List.forall_mem_cons.mpr ⟨(s_goto (by decide +kernel : decode cX11_fit 83 = .ok (.goto (-81), 3)) (by decide)).to, ?_⟩
  refine List.forall_mem_cons.mpr ⟨(s_iconst (by decide +kernel : decode cX11_fit 86 = .ok (.iconst 1, 1)) (by decide)).to, ?_⟩
  refine List.forall_mem_cons.mpr ⟨s_zret (by decide +kernel : decode cX11_fit 87 = .ok (.ireturn, 1)) rfl, ?_⟩
  exact fun _ h => absurd h List.not_mem_nil
theorem sn_tX11_booksFit : ∀ q ∈ tX11_booksFit, am_Snd am_P0 RX11 cX11_booksFit 2 (Option.some FieldType.boolean) "booksFit" q.1 q.2 := by
  unfold tX11_booksFit
  refine List.forall_mem_cons.mpr ⟨(s_aloadn (by decide +kernel : decode cX11_booksFit 0 = .ok (.aload_n 0, 1)) rfl).to, ?_⟩
  refine List.forall_mem_cons.mpr ⟨(s_iconst (by decide +kernel : decode cX11_booksFit 1 = .ok (.iconst 0, 1)) (by decide)).to, ?_⟩
  refine List.forall_mem_cons.mpr ⟨(s_put (ci := 11) (k := 60) (by decide +kernel : decode cX11_booksFit 2 = .ok (.putfield 195, 3)) rfl (by decide) wd1393 inX11 tyX11_ok nmX11 rfl rfl).to, ?_⟩
  refine List.forall_mem_cons.mpr ⟨(s_aloadn (by decide +kernel : decode cX11_booksFit 5 = .ok (.aload_n 0, 1)) rfl).to, ?_⟩
  refine List.forall_mem_cons.mpr ⟨(s_iloadn (by decide +kernel : decode cX11_booksFit 6 = .ok (.iload_n 1, 1)) rfl).to, ?_⟩
  refine List.forall_mem_cons.mpr ⟨z_cv (by decide +kernel : decode cX11_booksFit 7 = .ok (.invokevirtual 537, 3)) mt241 wd1887 (ci := 11) rfl (by decide), ?_⟩
  refine List.forall_mem_cons.mpr ⟨(s_aloadn (by decide +kernel : decode cX11_booksFit 10 = .ok (.aload_n 0, 1)) rfl).to, ?_⟩
  refine List.forall_mem_cons.mpr ⟨(s_iloadn (by decide +kernel : decode cX11_booksFit 11 = .ok (.iload_n 1, 1)) rfl).to, ?_⟩
  refine List.forall_mem_cons.mpr ⟨z_cv (by decide +kernel : decode cX11_booksFit 12 = .ok (.invokevirtual 540, 3)) mt244 wd1895 (ci := 11) rfl (by decide), ?_⟩
  refine List.forall_mem_cons.mpr ⟨s_zret (by decide +kernel : decode cX11_booksFit 15 = .ok (.ireturn, 1)) rfl, ?_⟩
  exact fun _ h => absurd h List.not_mem_nil
theorem sn_tX11_withBooks : ∀ q ∈ tX11_withBooks, am_Snd am_P0 RX11 cX11_withBooks 5 (Option.some FieldType.boolean) "withBooks" q.1 q.2 := by
  unfold tX11_withBooks
  refine List.forall_mem_cons.mpr ⟨(s_aloadn (by decide +kernel : decode cX11_withBooks 0 = .ok (.aload_n 0, 1)) rfl).to, ?_⟩
  refine List.forall_mem_cons.mpr ⟨(s_iloadn (by decide +kernel : decode cX11_withBooks 1 = .ok (.iload_n 1, 1)) rfl).to, ?_⟩
  refine List.forall_mem_cons.mpr ⟨(s_iloadn (by decide +kernel : decode cX11_withBooks 2 = .ok (.iload_n 2, 1)) rfl).to, ?_⟩
  refine List.forall_mem_cons.mpr ⟨z_cv (by decide +kernel : decode cX11_withBooks 3 = .ok (.invokevirtual 517, 3)) mt237 wd1859 (ci := 11) rfl (by decide), ?_⟩
  refine List.forall_mem_cons.mpr ⟨(s_bipush (by decide +kernel : decode cX11_withBooks 6 = .ok (.bipush 12, 2)) (by decide)).to, ?_⟩
  refine List.forall_mem_cons.mpr ⟨(s_aloadn (by decide +kernel : decode cX11_withBooks 8 = .ok (.aload_n 0, 1)) rfl).to, ?_⟩
  refine List.forall_mem_cons.mpr ⟨(s_get (ci := 11) (k := 12) (by decide +kernel : decode cX11_withBooks 9 = .ok (.getfield 48, 3)) rfl (by decide) wd1345 inX11 rfl).to, ?_⟩
  refine List.forall_mem_cons.mpr ⟨(s_imul (by decide +kernel : decode cX11_withBooks 12 = .ok (.imul, 1))).to, ?_⟩
  refine List.forall_mem_cons.mpr ⟨(s_istore (by decide +kernel : decode cX11_withBooks 13 = .ok (.istore 4, 2)) (by decide)).to, ?_⟩
  refine List.forall_mem_cons.mpr ⟨(s_iload (by decide +kernel : decode cX11_withBooks 15 = .ok (.iload 4, 2))).to, ?_⟩
  refine List.forall_mem_cons.mpr ⟨(s_bipush (by decide +kernel : decode cX11_withBooks 17 = .ok (.bipush 12, 2)) (by decide)).to, ?_⟩
  refine List.forall_mem_cons.mpr ⟨(s_aloadn (by decide +kernel : decode cX11_withBooks 19 = .ok (.aload_n 0, 1)) rfl).to, ?_⟩
  refine List.forall_mem_cons.mpr ⟨(s_get (ci := 11) (k := 12) (by decide +kernel : decode cX11_withBooks 20 = .ok (.getfield 48, 3)) rfl (by decide) wd1345 inX11 rfl).to, ?_⟩
  refine List.forall_mem_cons.mpr ⟨(s_imul (by decide +kernel : decode cX11_withBooks 23 = .ok (.imul, 1))).to, ?_⟩
  refine List.forall_mem_cons.mpr ⟨(s_aloadn (by decide +kernel : decode cX11_withBooks 24 = .ok (.aload_n 0, 1)) rfl).to, ?_⟩
  refine List.forall_mem_cons.mpr ⟨(s_get (ci := 11) (k := 28) (by decide +kernel : decode cX11_withBooks 25 = .ok (.getfield 98, 3)) rfl (by decide) wd1361 inX11 rfl).to, ?_⟩
  refine List.forall_mem_cons.mpr ⟨(s_aloadn (by decide +kernel : decode cX11_withBooks 28 = .ok (.aload_n 0, 1)) rfl).to, ?_⟩
  refine List.forall_mem_cons.mpr ⟨(s_get (ci := 11) (k := 12) (by decide +kernel : decode cX11_withBooks 29 = .ok (.getfield 48, 3)) rfl (by decide) wd1345 inX11 rfl).to, ?_⟩
  refine List.forall_mem_cons.mpr ⟨(s_iald (by decide +kernel : decode cX11_withBooks 32 = .ok (.iaload, 1))).to, ?_⟩
  refine List.forall_mem_cons.mpr ⟨(s_iadd (by decide +kernel : decode cX11_withBooks 33 = .ok (.iadd, 1))).to, ?_⟩
  refine List.forall_mem_cons.mpr ⟨(s_icmp_ge (by decide +kernel : decode cX11_withBooks 34 = .ok (.if_icmp .ge 56, 3)) (by decide)).to, ?_⟩
  refine List.forall_mem_cons.mpr ⟨(s_aloadn (by decide +kernel : decode cX11_withBooks 37 = .ok (.aload_n 0, 1)) rfl).to, ?_⟩
  refine List.forall_mem_cons.mpr ⟨(s_get (ci := 11) (k := 29) (by decide +kernel : decode cX11_withBooks 38 = .ok (.getfield 101, 3)) rfl (by decide) wd1362 inX11 rfl).to, ?_⟩
  refine List.forall_mem_cons.mpr ⟨(s_iload (by decide +kernel : decode cX11_withBooks 41 = .ok (.iload 4, 2))).to, ?_⟩
  refine List.forall_mem_cons.mpr ⟨(s_iald (by decide +kernel : decode cX11_withBooks 43 = .ok (.iaload, 1))).to, ?_⟩
  refine List.forall_mem_cons.mpr ⟨(s_iloadn (by decide +kernel : decode cX11_withBooks 44 = .ok (.iload_n 1, 1)) rfl).to, ?_⟩
  refine List.forall_mem_cons.mpr ⟨(s_icmp_ne (by decide +kernel : decode cX11_withBooks 45 = .ok (.if_icmp .ne 39, 3)) (by decide)).to, ?_⟩
  refine List.forall_mem_cons.mpr ⟨(s_aloadn (by decide +kernel : decode cX11_withBooks 48 = .ok (.aload_n 0, 1)) rfl).to, ?_⟩
  refine List.forall_mem_cons.mpr ⟨(s_iloadn (by decide +kernel : decode cX11_withBooks 49 = .ok (.iload_n 1, 1)) rfl).to, ?_⟩
  refine List.forall_mem_cons.mpr ⟨(s_aloadn (by decide +kernel : decode cX11_withBooks 50 = .ok (.aload_n 0, 1)) rfl).to, ?_⟩
  refine List.forall_mem_cons.mpr ⟨(s_get (ci := 11) (k := 30) (by decide +kernel : decode cX11_withBooks 51 = .ok (.getfield 104, 3)) rfl (by decide) wd1363 inX11 rfl).to, ?_⟩
  refine List.forall_mem_cons.mpr ⟨(s_iload (by decide +kernel : decode cX11_withBooks 54 = .ok (.iload 4, 2))).to, ?_⟩
  refine List.forall_mem_cons.mpr ⟨(s_iald (by decide +kernel : decode cX11_withBooks 56 = .ok (.iaload, 1))).to, ?_⟩
  refine List.forall_mem_cons.mpr ⟨z_cv (by decide +kernel : decode cX11_withBooks 57 = .ok (.invokevirtual 520, 3)) mt238 wd1871 (ci := 11) rfl (by decide), ?_⟩
  refine List.forall_mem_cons.mpr ⟨(s_iloadn (by decide +kernel : decode cX11_withBooks 60 = .ok (.iload_n 3, 1)) rfl).to, ?_⟩
  refine List.forall_mem_cons.mpr ⟨(s_iloadn (by decide +kernel : decode cX11_withBooks 61 = .ok (.iload_n 3, 1)) rfl).to, ?_⟩
  refine List.forall_mem_cons.mpr ⟨(s_aloadn (by decide +kernel : decode cX11_withBooks 62 = .ok (.aload_n 0, 1)) rfl).to, ?_⟩
  refine List.forall_mem_cons.mpr ⟨(s_get (ci := 11) (k := 31) (by decide +kernel : decode cX11_withBooks 63 = .ok (.getfield 107, 3)) rfl (by decide) wd1364 inX11 rfl).to, ?_⟩
  refine List.forall_mem_cons.mpr ⟨(s_iload (by decide +kernel : decode cX11_withBooks 66 = .ok (.iload 4, 2))).to, ?_⟩
  refine List.forall_mem_cons.mpr ⟨(s_iald (by decide +kernel : decode cX11_withBooks 68 = .ok (.iaload, 1))).to, ?_⟩
  refine List.forall_mem_cons.mpr ⟨(s_aloadn (by decide +kernel : decode cX11_withBooks 69 = .ok (.aload_n 0, 1)) rfl).to, ?_⟩
  refine List.forall_mem_cons.mpr ⟨(s_get (ci := 11) (k := 32) (by decide +kernel : decode cX11_withBooks 70 = .ok (.getfield 110, 3)) rfl (by decide) wd1365 inX11 rfl).to, ?_⟩
  refine List.forall_mem_cons.mpr ⟨(s_iload (by decide +kernel : decode cX11_withBooks 73 = .ok (.iload 4, 2))).to, ?_⟩
  refine List.forall_mem_cons.mpr ⟨(s_iald (by decide +kernel : decode cX11_withBooks 75 = .ok (.iaload, 1))).to, ?_⟩
  refine List.forall_mem_cons.mpr ⟨z_cs (by decide +kernel : decode cX11_withBooks 76 = .ok (.invokestatic 534, 3)) mt243 wd1899, ?_⟩
  refine List.forall_mem_cons.mpr ⟨(s_icmp_le (by decide +kernel : decode cX11_withBooks 79 = .ok (.if_icmp .le 5, 3)) (by decide)).to, ?_⟩
  refine List.forall_mem_cons.mpr ⟨(s_iconst (by decide +kernel : decode cX11_withBooks 82 = .ok (.iconst 0, 1)) (by decide)).to, ?_⟩
  refine List.forall_mem_cons.mpr ⟨s_zret (by decide +kernel : decode cX11_withBooks 83 = .ok (.ireturn, 1)) rfl, ?_⟩
  refine List.forall_mem_cons.mpr ⟨(s_iinc (by decide +kernel : decode cX11_withBooks 84 = .ok (.iinc 4 1, 3)) (by decide) (by decide)).to, ?_⟩
  refine List.forall_mem_cons.mpr ⟨(s_goto (by decide +kernel : decode cX11_withBooks 87 = .ok (.goto (-72), 3)) (by decide)).to, ?_⟩
  refine List.forall_mem_cons.mpr ⟨(s_iconst (by decide +kernel : decode cX11_withBooks 90 = .ok (.iconst 1, 1)) (by decide)).to, ?_⟩
  refine List.forall_mem_cons.mpr ⟨s_zret (by decide +kernel : decode cX11_withBooks 91 = .ok (.ireturn, 1)) rfl, ?_⟩
  exact fun _ h => absurd h List.not_mem_nil
theorem sn_tX11_pairs_0 : ∀ q ∈ tX11_pairs_0, am_Snd am_P0 RX11 cX11_pairs 5 (Option.none : Option FieldType) "pairs" q.1 q.2 := by
  unfold tX11_pairs_0
  refine List.forall_mem_cons.mpr ⟨(s_aloadn (by decide +kernel : decode cX11_pairs 0 = .ok (.aload_n 0, 1)) rfl).to, ?_⟩
  refine List.forall_mem_cons.mpr ⟨(s_iconst (by decide +kernel : decode cX11_pairs 1 = .ok (.iconst 0, 1)) (by decide)).to, ?_⟩
  refine List.forall_mem_cons.mpr ⟨(s_put (ci := 11) (k := 65) (by decide +kernel : decode cX11_pairs 2 = .ok (.putfield 210, 3)) rfl (by decide) wd1398 inX11 tyX11_ok nmX11 rfl rfl).to, ?_⟩
  refine List.forall_mem_cons.mpr ⟨(s_iconst (by decide +kernel : decode cX11_pairs 5 = .ok (.iconst 0, 1)) (by decide)).to, ?_⟩
  refine List.forall_mem_cons.mpr ⟨(s_istoren (by decide +kernel : decode cX11_pairs 6 = .ok (.istore_n 2, 1)) rfl (by decide)).to, ?_⟩
  refine List.forall_mem_cons.mpr ⟨(s_iloadn (by decide +kernel : decode cX11_pairs 7 = .ok (.iload_n 2, 1)) rfl).to, ?_⟩
  refine List.forall_mem_cons.mpr ⟨(s_bipush (by decide +kernel : decode cX11_pairs 8 = .ok (.bipush 48, 2)) (by decide)).to, ?_⟩
  refine List.forall_mem_cons.mpr ⟨(s_icmp_ge (by decide +kernel : decode cX11_pairs 10 = .ok (.if_icmp .ge 42, 3)) (by decide)).to, ?_⟩
  refine List.forall_mem_cons.mpr ⟨(s_aloadn (by decide +kernel : decode cX11_pairs 13 = .ok (.aload_n 0, 1)) rfl).to, ?_⟩
  refine List.forall_mem_cons.mpr ⟨(s_iloadn (by decide +kernel : decode cX11_pairs 14 = .ok (.iload_n 1, 1)) rfl).to, ?_⟩
  refine List.forall_mem_cons.mpr ⟨(s_iloadn (by decide +kernel : decode cX11_pairs 15 = .ok (.iload_n 2, 1)) rfl).to, ?_⟩
  refine List.forall_mem_cons.mpr ⟨z_cv (by decide +kernel : decode cX11_pairs 16 = .ok (.invokevirtual 499, 3)) mt226 wd1842 (ci := 11) rfl (by decide), ?_⟩
  refine List.forall_mem_cons.mpr ⟨(s_iconst (by decide +kernel : decode cX11_pairs 19 = .ok (.iconst (-1), 1)) (by decide)).to, ?_⟩
  refine List.forall_mem_cons.mpr ⟨(s_icmp_ne (by decide +kernel : decode cX11_pairs 20 = .ok (.if_icmp .ne 6, 3)) (by decide)).to, ?_⟩
  refine List.forall_mem_cons.mpr ⟨(s_goto (by decide +kernel : decode cX11_pairs 23 = .ok (.goto 23, 3)) (by decide)).to, ?_⟩
  refine List.forall_mem_cons.mpr ⟨(s_aloadn (by decide +kernel : decode cX11_pairs 26 = .ok (.aload_n 0, 1)) rfl).to, ?_⟩
  refine List.forall_mem_cons.mpr ⟨(s_get (ci := 11) (k := 67) (by decide +kernel : decode cX11_pairs 27 = .ok (.getfield 216, 3)) rfl (by decide) wd1400 inX11 rfl).to, ?_⟩
  refine List.forall_mem_cons.mpr ⟨(s_aloadn (by decide +kernel : decode cX11_pairs 30 = .ok (.aload_n 0, 1)) rfl).to, ?_⟩
  refine List.forall_mem_cons.mpr ⟨(s_get (ci := 11) (k := 65) (by decide +kernel : decode cX11_pairs 31 = .ok (.getfield 210, 3)) rfl (by decide) wd1398 inX11 rfl).to, ?_⟩
  refine List.forall_mem_cons.mpr ⟨(s_iloadn (by decide +kernel : decode cX11_pairs 34 = .ok (.iload_n 2, 1)) rfl).to, ?_⟩
  refine List.forall_mem_cons.mpr ⟨(s_iast (by decide +kernel : decode cX11_pairs 35 = .ok (.iastore, 1))).to, ?_⟩
  refine List.forall_mem_cons.mpr ⟨(s_aloadn (by decide +kernel : decode cX11_pairs 36 = .ok (.aload_n 0, 1)) rfl).to, ?_⟩
  refine List.forall_mem_cons.mpr ⟨(s_dup (by decide +kernel : decode cX11_pairs 37 = .ok (.dup, 1))).to, ?_⟩
  refine List.forall_mem_cons.mpr ⟨(s_get (ci := 11) (k := 65) (by decide +kernel : decode cX11_pairs 38 = .ok (.getfield 210, 3)) rfl (by decide) wd1398 inX11 rfl).to, ?_⟩
  refine List.forall_mem_cons.mpr ⟨(s_iconst (by decide +kernel : decode cX11_pairs 41 = .ok (.iconst 1, 1)) (by decide)).to, ?_⟩
  refine List.forall_mem_cons.mpr ⟨(s_iadd (by decide +kernel : decode cX11_pairs 42 = .ok (.iadd, 1))).to, ?_⟩
  refine List.forall_mem_cons.mpr ⟨(s_put (ci := 11) (k := 65) (by decide +kernel : decode cX11_pairs 43 = .ok (.putfield 210, 3)) rfl (by decide) wd1398 inX11 tyX11_ok nmX11 rfl rfl).to, ?_⟩
  refine List.forall_mem_cons.mpr ⟨(s_iinc (by decide +kernel : decode cX11_pairs 46 = .ok (.iinc 2 1, 3)) (by decide) (by decide)).to, ?_⟩
  refine List.forall_mem_cons.mpr ⟨(s_goto (by decide +kernel : decode cX11_pairs 49 = .ok (.goto (-42), 3)) (by decide)).to, ?_⟩
  refine List.forall_mem_cons.mpr ⟨(s_iconst (by decide +kernel : decode cX11_pairs 52 = .ok (.iconst 0, 1)) (by decide)).to, ?_⟩
  refine List.forall_mem_cons.mpr ⟨(s_istoren (by decide +kernel : decode cX11_pairs 53 = .ok (.istore_n 2, 1)) rfl (by decide)).to, ?_⟩
  refine List.forall_mem_cons.mpr ⟨(s_iloadn (by decide +kernel : decode cX11_pairs 54 = .ok (.iload_n 2, 1)) rfl).to, ?_⟩
  refine List.forall_mem_cons.mpr ⟨(s_aloadn (by decide +kernel : decode cX11_pairs 55 = .ok (.aload_n 0, 1)) rfl).to, ?_⟩
  refine List.forall_mem_cons.mpr ⟨(s_get (ci := 11) (k := 65) (by decide +kernel : decode cX11_pairs 56 = .ok (.getfield 210, 3)) rfl (by decide) wd1398 inX11 rfl).to, ?_⟩
  refine List.forall_mem_cons.mpr ⟨(s_icmp_ge (by decide +kernel : decode cX11_pairs 59 = .ok (.if_icmp .ge 175, 3)) (by decide)).to, ?_⟩
  refine List.forall_mem_cons.mpr ⟨(s_aloadn (by decide +kernel : decode cX11_pairs 62 = .ok (.aload_n 0, 1)) rfl).to, ?_⟩
  refine List.forall_mem_cons.mpr ⟨(s_iloadn (by decide +kernel : decode cX11_pairs 63 = .ok (.iload_n 1, 1)) rfl).to, ?_⟩
  refine List.forall_mem_cons.mpr ⟨(s_aloadn (by decide +kernel : decode cX11_pairs 64 = .ok (.aload_n 0, 1)) rfl).to, ?_⟩
  refine List.forall_mem_cons.mpr ⟨(s_get (ci := 11) (k := 67) (by decide +kernel : decode cX11_pairs 65 = .ok (.getfield 216, 3)) rfl (by decide) wd1400 inX11 rfl).to, ?_⟩
  refine List.forall_mem_cons.mpr ⟨(s_iloadn (by decide +kernel : decode cX11_pairs 68 = .ok (.iload_n 2, 1)) rfl).to, ?_⟩
  refine List.forall_mem_cons.mpr ⟨(s_iald (by decide +kernel : decode cX11_pairs 69 = .ok (.iaload, 1))).to, ?_⟩
  refine List.forall_mem_cons.mpr ⟨z_cv (by decide +kernel : decode cX11_pairs 70 = .ok (.invokevirtual 499, 3)) mt226 wd1842 (ci := 11) rfl (by decide), ?_⟩
  refine List.forall_mem_cons.mpr ⟨(s_istoren (by decide +kernel : decode cX11_pairs 73 = .ok (.istore_n 3, 1)) rfl (by decide)).to, ?_⟩
  refine List.forall_mem_cons.mpr ⟨(s_aloadn (by decide +kernel : decode cX11_pairs 74 = .ok (.aload_n 0, 1)) rfl).to, ?_⟩
  refine List.forall_mem_cons.mpr ⟨(s_get (ci := 11) (k := 68) (by decide +kernel : decode cX11_pairs 75 = .ok (.getfield 219, 3)) rfl (by decide) wd1401 inX11 rfl).to, ?_⟩
  refine List.forall_mem_cons.mpr ⟨(s_iloadn (by decide +kernel : decode cX11_pairs 78 = .ok (.iload_n 2, 1)) rfl).to, ?_⟩
  refine List.forall_mem_cons.mpr ⟨(s_aloadn (by decide +kernel : decode cX11_pairs 79 = .ok (.aload_n 0, 1)) rfl).to, ?_⟩
  refine List.forall_mem_cons.mpr ⟨(s_iloadn (by decide +kernel : decode cX11_pairs 80 = .ok (.iload_n 1, 1)) rfl).to, ?_⟩
  refine List.forall_mem_cons.mpr ⟨(s_iloadn (by decide +kernel : decode cX11_pairs 81 = .ok (.iload_n 3, 1)) rfl).to, ?_⟩
  refine List.forall_mem_cons.mpr ⟨(s_aloadn (by decide +kernel : decode cX11_pairs 82 = .ok (.aload_n 0, 1)) rfl).to, ?_⟩
  refine List.forall_mem_cons.mpr ⟨(s_iloadn (by decide +kernel : decode cX11_pairs 83 = .ok (.iload_n 1, 1)) rfl).to, ?_⟩
  refine List.forall_mem_cons.mpr ⟨(s_aloadn (by decide +kernel : decode cX11_pairs 84 = .ok (.aload_n 0, 1)) rfl).to, ?_⟩
  refine List.forall_mem_cons.mpr ⟨(s_get (ci := 11) (k := 67) (by decide +kernel : decode cX11_pairs 85 = .ok (.getfield 216, 3)) rfl (by decide) wd1400 inX11 rfl).to, ?_⟩
  refine List.forall_mem_cons.mpr ⟨(s_iloadn (by decide +kernel : decode cX11_pairs 88 = .ok (.iload_n 2, 1)) rfl).to, ?_⟩
  refine List.forall_mem_cons.mpr ⟨(s_iald (by decide +kernel : decode cX11_pairs 89 = .ok (.iaload, 1))).to, ?_⟩
  refine List.forall_mem_cons.mpr ⟨z_cv (by decide +kernel : decode cX11_pairs 90 = .ok (.invokevirtual 527, 3)) mt227 wd1910 (ci := 11) rfl (by decide), ?_⟩
  refine List.forall_mem_cons.mpr ⟨z_cv (by decide +kernel : decode cX11_pairs 93 = .ok (.invokevirtual 530, 3)) mt235 wd1914 (ci := 11) rfl (by decide), ?_⟩
  refine List.forall_mem_cons.mpr ⟨(s_if_eq (by decide +kernel : decode cX11_pairs 96 = .ok (.ifCond .eq 22, 3)) (by decide)).to, ?_⟩
  refine List.forall_mem_cons.mpr ⟨(s_aloadn (by decide +kernel : decode cX11_pairs 99 = .ok (.aload_n 0, 1)) rfl).to, ?_⟩
  refine List.forall_mem_cons.mpr ⟨(s_iloadn (by decide +kernel : decode cX11_pairs 100 = .ok (.iload_n 1, 1)) rfl).to, ?_⟩
  exact fun _ h => absurd h List.not_mem_nil
theorem sn_tX11_pairs_1 : ∀ q ∈ tX11_pairs_1, am_Snd am_P0 RX11 cX11_pairs 5 (Option.none : Option FieldType) "pairs" q.1 q.2 := by
  unfold tX11_pairs_1
  refine List.forall_mem_cons.mpr ⟨(s_iloadn (by decide +kernel : decode cX11_pairs 101 = .ok (.iload_n 3, 1)) rfl).to, ?_⟩
  refine List.forall_mem_cons.mpr ⟨(s_aloadn (by decide +kernel : decode cX11_pairs 102 = .ok (.aload_n 0, 1)) rfl).to, ?_⟩
  refine List.forall_mem_cons.mpr ⟨(s_get (ci := 11) (k := 67) (by decide +kernel : decode cX11_pairs 103 = .ok (.getfield 216, 3)) rfl (by decide) wd1400 inX11 rfl).to, ?_⟩
  refine List.forall_mem_cons.mpr ⟨(s_iloadn (by decide +kernel : decode cX11_pairs 106 = .ok (.iload_n 2, 1)) rfl).to, ?_⟩
  refine List.forall_mem_cons.mpr ⟨(s_iald (by decide +kernel : decode cX11_pairs 107 = .ok (.iaload, 1))).to, ?_⟩
  refine List.forall_mem_cons.mpr ⟨z_cv (by decide +kernel : decode cX11_pairs 108 = .ok (.invokevirtual 543, 3)) mt246 wd1918 (ci := 11) rfl (by decide), ?_⟩
  refine List.forall_mem_cons.mpr ⟨(s_if_eq (by decide +kernel : decode cX11_pairs 111 = .ok (.ifCond .eq 7, 3)) (by decide)).to, ?_⟩
  refine List.forall_mem_cons.mpr ⟨(s_iconst (by decide +kernel : decode cX11_pairs 114 = .ok (.iconst 1, 1)) (by decide)).to, ?_⟩
  refine List.forall_mem_cons.mpr ⟨(s_goto (by decide +kernel : decode cX11_pairs 115 = .ok (.goto 4, 3)) (by decide)).to, ?_⟩
  refine List.forall_mem_cons.mpr ⟨(s_iconst (by decide +kernel : decode cX11_pairs 118 = .ok (.iconst 0, 1)) (by decide)).to, ?_⟩
  refine List.forall_mem_cons.mpr ⟨(s_zast (by decide +kernel : decode cX11_pairs 119 = .ok (.bastore, 1))).to, ?_⟩
  refine List.forall_mem_cons.mpr ⟨(s_aloadn (by decide +kernel : decode cX11_pairs 120 = .ok (.aload_n 0, 1)) rfl).to, ?_⟩
  refine List.forall_mem_cons.mpr ⟨(s_iloadn (by decide +kernel : decode cX11_pairs 121 = .ok (.iload_n 1, 1)) rfl).to, ?_⟩
  refine List.forall_mem_cons.mpr ⟨(s_iloadn (by decide +kernel : decode cX11_pairs 122 = .ok (.iload_n 3, 1)) rfl).to, ?_⟩
  refine List.forall_mem_cons.mpr ⟨z_cv (by decide +kernel : decode cX11_pairs 123 = .ok (.invokevirtual 517, 3)) mt237 wd1859 (ci := 11) rfl (by decide), ?_⟩
  refine List.forall_mem_cons.mpr ⟨(s_iconst (by decide +kernel : decode cX11_pairs 126 = .ok (.iconst 0, 1)) (by decide)).to, ?_⟩
  refine List.forall_mem_cons.mpr ⟨(s_istore (by decide +kernel : decode cX11_pairs 127 = .ok (.istore 4, 2)) (by decide)).to, ?_⟩
  refine List.forall_mem_cons.mpr ⟨(s_iload (by decide +kernel : decode cX11_pairs 129 = .ok (.iload 4, 2))).to, ?_⟩
  refine List.forall_mem_cons.mpr ⟨(s_aloadn (by decide +kernel : decode cX11_pairs 131 = .ok (.aload_n 0, 1)) rfl).to, ?_⟩
  refine List.forall_mem_cons.mpr ⟨(s_get (ci := 11) (k := 65) (by decide +kernel : decode cX11_pairs 132 = .ok (.getfield 210, 3)) rfl (by decide) wd1398 inX11 rfl).to, ?_⟩
  refine List.forall_mem_cons.mpr ⟨(s_icmp_ge (by decide +kernel : decode cX11_pairs 135 = .ok (.if_icmp .ge 93, 3)) (by decide)).to, ?_⟩
  refine List.forall_mem_cons.mpr ⟨(s_aloadn (by decide +kernel : decode cX11_pairs 138 = .ok (.aload_n 0, 1)) rfl).to, ?_⟩
  refine List.forall_mem_cons.mpr ⟨(s_get (ci := 11) (k := 70) (by decide +kernel : decode cX11_pairs 139 = .ok (.getfield 225, 3)) rfl (by decide) wd1403 inX11 rfl).to, ?_⟩
  refine List.forall_mem_cons.mpr ⟨(s_bipush (by decide +kernel : decode cX11_pairs 142 = .ok (.bipush 48, 2)) (by decide)).to, ?_⟩
  refine List.forall_mem_cons.mpr ⟨(s_iloadn (by decide +kernel : decode cX11_pairs 144 = .ok (.iload_n 2, 1)) rfl).to, ?_⟩
  refine List.forall_mem_cons.mpr ⟨(s_imul (by decide +kernel : decode cX11_pairs 145 = .ok (.imul, 1))).to, ?_⟩
  refine List.forall_mem_cons.mpr ⟨(s_iload (by decide +kernel : decode cX11_pairs 146 = .ok (.iload 4, 2))).to, ?_⟩
  refine List.forall_mem_cons.mpr ⟨(s_iadd (by decide +kernel : decode cX11_pairs 148 = .ok (.iadd, 1))).to, ?_⟩
  refine List.forall_mem_cons.mpr ⟨(s_aloadn (by decide +kernel : decode cX11_pairs 149 = .ok (.aload_n 0, 1)) rfl).to, ?_⟩
  refine List.forall_mem_cons.mpr ⟨(s_iloadn (by decide +kernel : decode cX11_pairs 150 = .ok (.iload_n 1, 1)) rfl).to, ?_⟩
  refine List.forall_mem_cons.mpr ⟨(s_aloadn (by decide +kernel : decode cX11_pairs 151 = .ok (.aload_n 0, 1)) rfl).to, ?_⟩
  refine List.forall_mem_cons.mpr ⟨(s_iloadn (by decide +kernel : decode cX11_pairs 152 = .ok (.iload_n 1, 1)) rfl).to, ?_⟩
  refine List.forall_mem_cons.mpr ⟨(s_aloadn (by decide +kernel : decode cX11_pairs 153 = .ok (.aload_n 0, 1)) rfl).to, ?_⟩
  refine List.forall_mem_cons.mpr ⟨(s_get (ci := 11) (k := 67) (by decide +kernel : decode cX11_pairs 154 = .ok (.getfield 216, 3)) rfl (by decide) wd1400 inX11 rfl).to, ?_⟩
  refine List.forall_mem_cons.mpr ⟨(s_iload (by decide +kernel : decode cX11_pairs 157 = .ok (.iload 4, 2))).to, ?_⟩
  refine List.forall_mem_cons.mpr ⟨(s_iald (by decide +kernel : decode cX11_pairs 159 = .ok (.iaload, 1))).to, ?_⟩
  refine List.forall_mem_cons.mpr ⟨z_cv (by decide +kernel : decode cX11_pairs 160 = .ok (.invokevirtual 499, 3)) mt226 wd1842 (ci := 11) rfl (by decide), ?_⟩
  refine List.forall_mem_cons.mpr ⟨z_cv (by decide +kernel : decode cX11_pairs 163 = .ok (.invokevirtual 520, 3)) mt238 wd1871 (ci := 11) rfl (by decide), ?_⟩
  refine List.forall_mem_cons.mpr ⟨(s_aloadn (by decide +kernel : decode cX11_pairs 166 = .ok (.aload_n 0, 1)) rfl).to, ?_⟩
  refine List.forall_mem_cons.mpr ⟨(s_get (ci := 11) (k := 67) (by decide +kernel : decode cX11_pairs 167 = .ok (.getfield 216, 3)) rfl (by decide) wd1400 inX11 rfl).to, ?_⟩
  refine List.forall_mem_cons.mpr ⟨(s_iloadn (by decide +kernel : decode cX11_pairs 170 = .ok (.iload_n 2, 1)) rfl).to, ?_⟩
  refine List.forall_mem_cons.mpr ⟨(s_iald (by decide +kernel : decode cX11_pairs 171 = .ok (.iaload, 1))).to, ?_⟩
  refine List.forall_mem_cons.mpr ⟨(s_aloadn (by decide +kernel : decode cX11_pairs 172 = .ok (.aload_n 0, 1)) rfl).to, ?_⟩
  refine List.forall_mem_cons.mpr ⟨(s_get (ci := 11) (k := 67) (by decide +kernel : decode cX11_pairs 173 = .ok (.getfield 216, 3)) rfl (by decide) wd1400 inX11 rfl).to, ?_⟩
  refine List.forall_mem_cons.mpr ⟨(s_iload (by decide +kernel : decode cX11_pairs 176 = .ok (.iload 4, 2))).to, ?_⟩
  refine List.forall_mem_cons.mpr ⟨(s_iald (by decide +kernel : decode cX11_pairs 178 = .ok (.iaload, 1))).to, ?_⟩
  refine List.forall_mem_cons.mpr ⟨(s_icmp_ge (by decide +kernel : decode cX11_pairs 179 = .ok (.if_icmp .ge 20, 3)) (by decide)).to, ?_⟩
  refine List.forall_mem_cons.mpr ⟨(s_aloadn (by decide +kernel : decode cX11_pairs 182 = .ok (.aload_n 0, 1)) rfl).to, ?_⟩
  refine List.forall_mem_cons.mpr ⟨(s_get (ci := 11) (k := 67) (by decide +kernel : decode cX11_pairs 183 = .ok (.getfield 216, 3)) rfl (by decide) wd1400 inX11 rfl).to, ?_⟩
  refine List.forall_mem_cons.mpr ⟨(s_iload (by decide +kernel : decode cX11_pairs 186 = .ok (.iload 4, 2))).to, ?_⟩
  refine List.forall_mem_cons.mpr ⟨(s_iald (by decide +kernel : decode cX11_pairs 188 = .ok (.iaload, 1))).to, ?_⟩
  refine List.forall_mem_cons.mpr ⟨(s_aloadn (by decide +kernel : decode cX11_pairs 189 = .ok (.aload_n 0, 1)) rfl).to, ?_⟩
  refine List.forall_mem_cons.mpr ⟨(s_get (ci := 11) (k := 67) (by decide +kernel : decode cX11_pairs 190 = .ok (.getfield 216, 3)) rfl (by decide) wd1400 inX11 rfl).to, ?_⟩
  refine List.forall_mem_cons.mpr ⟨(s_iloadn (by decide +kernel : decode cX11_pairs 193 = .ok (.iload_n 2, 1)) rfl).to, ?_⟩
  refine List.forall_mem_cons.mpr ⟨(s_iald (by decide +kernel : decode cX11_pairs 194 = .ok (.iaload, 1))).to, ?_⟩
  refine List.forall_mem_cons.mpr ⟨(s_isub (by decide +kernel : decode cX11_pairs 195 = .ok (.isub, 1))).to, ?_⟩
  refine List.forall_mem_cons.mpr ⟨(s_goto (by decide +kernel : decode cX11_pairs 196 = .ok (.goto 17, 3)) (by decide)).to, ?_⟩
  refine List.forall_mem_cons.mpr ⟨(s_aloadn (by decide +kernel : decode cX11_pairs 199 = .ok (.aload_n 0, 1)) rfl).to, ?_⟩
  refine List.forall_mem_cons.mpr ⟨(s_get (ci := 11) (k := 67) (by decide +kernel : decode cX11_pairs 200 = .ok (.getfield 216, 3)) rfl (by decide) wd1400 inX11 rfl).to, ?_⟩
  refine List.forall_mem_cons.mpr ⟨(s_iloadn (by decide +kernel : decode cX11_pairs 203 = .ok (.iload_n 2, 1)) rfl).to, ?_⟩
  exact fun _ h => absurd h List.not_mem_nil
theorem sn_tX11_pairs_2 : ∀ q ∈ tX11_pairs_2, am_Snd am_P0 RX11 cX11_pairs 5 (Option.none : Option FieldType) "pairs" q.1 q.2 := by
  unfold tX11_pairs_2
  refine List.forall_mem_cons.mpr ⟨(s_iald (by decide +kernel : decode cX11_pairs 204 = .ok (.iaload, 1))).to, ?_⟩
  refine List.forall_mem_cons.mpr ⟨(s_aloadn (by decide +kernel : decode cX11_pairs 205 = .ok (.aload_n 0, 1)) rfl).to, ?_⟩
  refine List.forall_mem_cons.mpr ⟨(s_get (ci := 11) (k := 67) (by decide +kernel : decode cX11_pairs 206 = .ok (.getfield 216, 3)) rfl (by decide) wd1400 inX11 rfl).to, ?_⟩
  refine List.forall_mem_cons.mpr ⟨(s_iload (by decide +kernel : decode cX11_pairs 209 = .ok (.iload 4, 2))).to, ?_⟩
  refine List.forall_mem_cons.mpr ⟨(s_iald (by decide +kernel : decode cX11_pairs 211 = .ok (.iaload, 1))).to, ?_⟩
  refine List.forall_mem_cons.mpr ⟨(s_isub (by decide +kernel : decode cX11_pairs 212 = .ok (.isub, 1))).to, ?_⟩
  refine List.forall_mem_cons.mpr ⟨(s_icmp_gt (by decide +kernel : decode cX11_pairs 213 = .ok (.if_icmp .gt 7, 3)) (by decide)).to, ?_⟩
  refine List.forall_mem_cons.mpr ⟨(s_iconst (by decide +kernel : decode cX11_pairs 216 = .ok (.iconst 1, 1)) (by decide)).to, ?_⟩
  refine List.forall_mem_cons.mpr ⟨(s_goto (by decide +kernel : decode cX11_pairs 217 = .ok (.goto 4, 3)) (by decide)).to, ?_⟩
  refine List.forall_mem_cons.mpr ⟨(s_iconst (by decide +kernel : decode cX11_pairs 220 = .ok (.iconst 0, 1)) (by decide)).to, ?_⟩
  refine List.forall_mem_cons.mpr ⟨(s_zast (by decide +kernel : decode cX11_pairs 221 = .ok (.bastore, 1))).to, ?_⟩
  refine List.forall_mem_cons.mpr ⟨(s_iinc (by decide +kernel : decode cX11_pairs 222 = .ok (.iinc 4 1, 3)) (by decide) (by decide)).to, ?_⟩
  refine List.forall_mem_cons.mpr ⟨(s_goto (by decide +kernel : decode cX11_pairs 225 = .ok (.goto (-96), 3)) (by decide)).to, ?_⟩
  refine List.forall_mem_cons.mpr ⟨(s_iinc (by decide +kernel : decode cX11_pairs 228 = .ok (.iinc 2 1, 3)) (by decide) (by decide)).to, ?_⟩
  refine List.forall_mem_cons.mpr ⟨(s_goto (by decide +kernel : decode cX11_pairs 231 = .ok (.goto (-177), 3)) (by decide)).to, ?_⟩
  refine List.forall_mem_cons.mpr ⟨s_vret (by decide +kernel : decode cX11_pairs 234 = .ok (.return_, 1)) rfl, ?_⟩
  exact fun _ h => absurd h List.not_mem_nil
theorem sn_tX11_pairs : ∀ q ∈ tX11_pairs, am_Snd am_P0 RX11 cX11_pairs 5 (Option.none : Option FieldType) "pairs" q.1 q.2 := by
  unfold tX11_pairs
  exact List.forall_mem_append.mpr ⟨List.forall_mem_append.mpr ⟨sn_tX11_pairs_0, sn_tX11_pairs_1⟩, sn_tX11_pairs_2⟩
theorem sn_tX11_keeps_0 : ∀ q ∈ tX11_keeps_0, am_Snd am_P0 RX11 cX11_keeps 5 (Option.none : Option FieldType) "keeps" q.1 q.2 := by
  unfold tX11_keeps_0
  refine List.forall_mem_cons.mpr ⟨(s_aloadn (by decide +kernel : decode cX11_keeps 0 = .ok (.aload_n 0, 1)) rfl).to, ?_⟩
  refine List.forall_mem_cons.mpr ⟨(s_aloadn (by decide +kernel : decode cX11_keeps 1 = .ok (.aload_n 0, 1)) rfl).to, ?_⟩
  refine List.forall_mem_cons.mpr ⟨(s_iloadn (by decide +kernel : decode cX11_keeps 2 = .ok (.iload_n 1, 1)) rfl).to, ?_⟩
  refine List.forall_mem_cons.mpr ⟨z_cv (by decide +kernel : decode cX11_keeps 3 = .ok (.invokevirtual 546, 3)) mt245 wd1883 (ci := 11) rfl (by decide), ?_⟩
  refine List.forall_mem_cons.mpr ⟨(s_put (ci := 11) (k := 64) (by decide +kernel : decode cX11_keeps 6 = .ok (.putfield 207, 3)) rfl (by decide) wd1397 inX11 tyX11_ok nmX11 rfl rfl).to, ?_⟩
  refine List.forall_mem_cons.mpr ⟨(s_aloadn (by decide +kernel : decode cX11_keeps 9 = .ok (.aload_n 0, 1)) rfl).to, ?_⟩
  refine List.forall_mem_cons.mpr ⟨(s_iloadn (by decide +kernel : decode cX11_keeps 10 = .ok (.iload_n 1, 1)) rfl).to, ?_⟩
  refine List.forall_mem_cons.mpr ⟨z_cv (by decide +kernel : decode cX11_keeps 11 = .ok (.invokevirtual 549, 3)) mt247 wd1906 (ci := 11) rfl (by decide), ?_⟩
  refine List.forall_mem_cons.mpr ⟨(s_aloadn (by decide +kernel : decode cX11_keeps 14 = .ok (.aload_n 0, 1)) rfl).to, ?_⟩
  refine List.forall_mem_cons.mpr ⟨(s_iconst (by decide +kernel : decode cX11_keeps 15 = .ok (.iconst 0, 1)) (by decide)).to, ?_⟩
  refine List.forall_mem_cons.mpr ⟨(s_put (ci := 11) (k := 66) (by decide +kernel : decode cX11_keeps 16 = .ok (.putfield 213, 3)) rfl (by decide) wd1399 inX11 tyX11_ok nmX11 rfl rfl).to, ?_⟩
  refine List.forall_mem_cons.mpr ⟨(s_iconst (by decide +kernel : decode cX11_keeps 19 = .ok (.iconst 0, 1)) (by decide)).to, ?_⟩
  refine List.forall_mem_cons.mpr ⟨(s_istoren (by decide +kernel : decode cX11_keeps 20 = .ok (.istore_n 2, 1)) rfl (by decide)).to, ?_⟩
  refine List.forall_mem_cons.mpr ⟨(s_iloadn (by decide +kernel : decode cX11_keeps 21 = .ok (.iload_n 2, 1)) rfl).to, ?_⟩
  refine List.forall_mem_cons.mpr ⟨(s_aloadn (by decide +kernel : decode cX11_keeps 22 = .ok (.aload_n 0, 1)) rfl).to, ?_⟩
  refine List.forall_mem_cons.mpr ⟨(s_get (ci := 11) (k := 65) (by decide +kernel : decode cX11_keeps 23 = .ok (.getfield 210, 3)) rfl (by decide) wd1398 inX11 rfl).to, ?_⟩
  refine List.forall_mem_cons.mpr ⟨(s_icmp_ge (by decide +kernel : decode cX11_keeps 26 = .ok (.if_icmp .ge 16, 3)) (by decide)).to, ?_⟩
  refine List.forall_mem_cons.mpr ⟨(s_aloadn (by decide +kernel : decode cX11_keeps 29 = .ok (.aload_n 0, 1)) rfl).to, ?_⟩
  refine List.forall_mem_cons.mpr ⟨(s_get (ci := 11) (k := 69) (by decide +kernel : decode cX11_keeps 30 = .ok (.getfield 222, 3)) rfl (by decide) wd1402 inX11 rfl).to, ?_⟩
  refine List.forall_mem_cons.mpr ⟨(s_iloadn (by decide +kernel : decode cX11_keeps 33 = .ok (.iload_n 2, 1)) rfl).to, ?_⟩
  refine List.forall_mem_cons.mpr ⟨(s_iconst (by decide +kernel : decode cX11_keeps 34 = .ok (.iconst 0, 1)) (by decide)).to, ?_⟩
  refine List.forall_mem_cons.mpr ⟨(s_zast (by decide +kernel : decode cX11_keeps 35 = .ok (.bastore, 1))).to, ?_⟩
  refine List.forall_mem_cons.mpr ⟨(s_iinc (by decide +kernel : decode cX11_keeps 36 = .ok (.iinc 2 1, 3)) (by decide) (by decide)).to, ?_⟩
  refine List.forall_mem_cons.mpr ⟨(s_goto (by decide +kernel : decode cX11_keeps 39 = .ok (.goto (-18), 3)) (by decide)).to, ?_⟩
  refine List.forall_mem_cons.mpr ⟨(s_aloadn (by decide +kernel : decode cX11_keeps 42 = .ok (.aload_n 0, 1)) rfl).to, ?_⟩
  refine List.forall_mem_cons.mpr ⟨(s_get (ci := 11) (k := 64) (by decide +kernel : decode cX11_keeps 43 = .ok (.getfield 207, 3)) rfl (by decide) wd1397 inX11 rfl).to, ?_⟩
  refine List.forall_mem_cons.mpr ⟨(s_if_ne (by decide +kernel : decode cX11_keeps 46 = .ok (.ifCond .ne 4, 3)) (by decide)).to, ?_⟩
  refine List.forall_mem_cons.mpr ⟨s_vret (by decide +kernel : decode cX11_keeps 49 = .ok (.return_, 1)) rfl, ?_⟩
  refine List.forall_mem_cons.mpr ⟨(s_iconst (by decide +kernel : decode cX11_keeps 50 = .ok (.iconst 0, 1)) (by decide)).to, ?_⟩
  refine List.forall_mem_cons.mpr ⟨(s_istoren (by decide +kernel : decode cX11_keeps 51 = .ok (.istore_n 2, 1)) rfl (by decide)).to, ?_⟩
  refine List.forall_mem_cons.mpr ⟨(s_aloadn (by decide +kernel : decode cX11_keeps 52 = .ok (.aload_n 0, 1)) rfl).to, ?_⟩
  refine List.forall_mem_cons.mpr ⟨(s_get (ci := 11) (k := 65) (by decide +kernel : decode cX11_keeps 53 = .ok (.getfield 210, 3)) rfl (by decide) wd1398 inX11 rfl).to, ?_⟩
  refine List.forall_mem_cons.mpr ⟨(s_iconst (by decide +kernel : decode cX11_keeps 56 = .ok (.iconst 1, 1)) (by decide)).to, ?_⟩
  refine List.forall_mem_cons.mpr ⟨(s_isub (by decide +kernel : decode cX11_keeps 57 = .ok (.isub, 1))).to, ?_⟩
  refine List.forall_mem_cons.mpr ⟨(s_istoren (by decide +kernel : decode cX11_keeps 58 = .ok (.istore_n 3, 1)) rfl (by decide)).to, ?_⟩
  refine List.forall_mem_cons.mpr ⟨(s_iloadn (by decide +kernel : decode cX11_keeps 59 = .ok (.iload_n 3, 1)) rfl).to, ?_⟩
  refine List.forall_mem_cons.mpr ⟨(s_if_lt (by decide +kernel : decode cX11_keeps 60 = .ok (.ifCond .lt 137, 3)) (by decide)).to, ?_⟩
  refine List.forall_mem_cons.mpr ⟨(s_aloadn (by decide +kernel : decode cX11_keeps 63 = .ok (.aload_n 0, 1)) rfl).to, ?_⟩
  refine List.forall_mem_cons.mpr ⟨(s_get (ci := 11) (k := 71) (by decide +kernel : decode cX11_keeps 64 = .ok (.getfield 228, 3)) rfl (by decide) wd1404 inX11 rfl).to, ?_⟩
  refine List.forall_mem_cons.mpr ⟨(s_iloadn (by decide +kernel : decode cX11_keeps 67 = .ok (.iload_n 3, 1)) rfl).to, ?_⟩
  refine List.forall_mem_cons.mpr ⟨(s_aloadn (by decide +kernel : decode cX11_keeps 68 = .ok (.aload_n 0, 1)) rfl).to, ?_⟩
  refine List.forall_mem_cons.mpr ⟨(s_get (ci := 11) (k := 68) (by decide +kernel : decode cX11_keeps 69 = .ok (.getfield 219, 3)) rfl (by decide) wd1401 inX11 rfl).to, ?_⟩
  refine List.forall_mem_cons.mpr ⟨(s_iloadn (by decide +kernel : decode cX11_keeps 72 = .ok (.iload_n 3, 1)) rfl).to, ?_⟩
  refine List.forall_mem_cons.mpr ⟨(s_zald (by decide +kernel : decode cX11_keeps 73 = .ok (.baload, 1))).to, ?_⟩
  refine List.forall_mem_cons.mpr ⟨(s_if_eq (by decide +kernel : decode cX11_keeps 74 = .ok (.ifCond .eq 7, 3)) (by decide)).to, ?_⟩
  refine List.forall_mem_cons.mpr ⟨(s_iconst (by decide +kernel : decode cX11_keeps 77 = .ok (.iconst 1, 1)) (by decide)).to, ?_⟩
  refine List.forall_mem_cons.mpr ⟨(s_goto (by decide +kernel : decode cX11_keeps 78 = .ok (.goto 4, 3)) (by decide)).to, ?_⟩
  refine List.forall_mem_cons.mpr ⟨(s_iconst (by decide +kernel : decode cX11_keeps 81 = .ok (.iconst 0, 1)) (by decide)).to, ?_⟩
  refine List.forall_mem_cons.mpr ⟨(s_iast (by decide +kernel : decode cX11_keeps 82 = .ok (.iastore, 1))).to, ?_⟩
  refine List.forall_mem_cons.mpr ⟨(s_iloadn (by decide +kernel : decode cX11_keeps 83 = .ok (.iload_n 3, 1)) rfl).to, ?_⟩
  refine List.forall_mem_cons.mpr ⟨(s_iconst (by decide +kernel : decode cX11_keeps 84 = .ok (.iconst 1, 1)) (by decide)).to, ?_⟩
  refine List.forall_mem_cons.mpr ⟨(s_iadd (by decide +kernel : decode cX11_keeps 85 = .ok (.iadd, 1))).to, ?_⟩
  refine List.forall_mem_cons.mpr ⟨(s_istore (by decide +kernel : decode cX11_keeps 86 = .ok (.istore 4, 2)) (by decide)).to, ?_⟩
  refine List.forall_mem_cons.mpr ⟨(s_iload (by decide +kernel : decode cX11_keeps 88 = .ok (.iload 4, 2))).to, ?_⟩
  refine List.forall_mem_cons.mpr ⟨(s_aloadn (by decide +kernel : decode cX11_keeps 90 = .ok (.aload_n 0, 1)) rfl).to, ?_⟩
  refine List.forall_mem_cons.mpr ⟨(s_get (ci := 11) (k := 65) (by decide +kernel : decode cX11_keeps 91 = .ok (.getfield 210, 3)) rfl (by decide) wd1398 inX11 rfl).to, ?_⟩
  refine List.forall_mem_cons.mpr ⟨(s_icmp_ge (by decide +kernel : decode cX11_keeps 94 = .ok (.if_icmp .ge 76, 3)) (by decide)).to, ?_⟩
  refine List.forall_mem_cons.mpr ⟨(s_aloadn (by decide +kernel : decode cX11_keeps 97 = .ok (.aload_n 0, 1)) rfl).to, ?_⟩
  refine List.forall_mem_cons.mpr ⟨(s_get (ci := 11) (k := 68) (by decide +kernel : decode cX11_keeps 98 = .ok (.getfield 219, 3)) rfl (by decide) wd1401 inX11 rfl).to, ?_⟩
  refine List.forall_mem_cons.mpr ⟨(s_iloadn (by decide +kernel : decode cX11_keeps 101 = .ok (.iload_n 3, 1)) rfl).to, ?_⟩
  exact fun _ h => absurd h List.not_mem_nil
theorem sn_tX11_keeps_1 : ∀ q ∈ tX11_keeps_1, am_Snd am_P0 RX11 cX11_keeps 5 (Option.none : Option FieldType) "keeps" q.1 q.2 := by
  unfold tX11_keeps_1
  refine List.forall_mem_cons.mpr ⟨(s_zald (by decide +kernel : decode cX11_keeps 102 = .ok (.baload, 1))).to, ?_⟩
  refine List.forall_mem_cons.mpr ⟨(s_if_eq (by decide +kernel : decode cX11_keeps 103 = .ok (.ifCond .eq 67, 3)) (by decide)).to, ?_⟩
  refine List.forall_mem_cons.mpr ⟨(s_aloadn (by decide +kernel : decode cX11_keeps 106 = .ok (.aload_n 0, 1)) rfl).to, ?_⟩
  refine List.forall_mem_cons.mpr ⟨(s_get (ci := 11) (k := 70) (by decide +kernel : decode cX11_keeps 107 = .ok (.getfield 225, 3)) rfl (by decide) wd1403 inX11 rfl).to, ?_⟩
  refine List.forall_mem_cons.mpr ⟨(s_bipush (by decide +kernel : decode cX11_keeps 110 = .ok (.bipush 48, 2)) (by decide)).to, ?_⟩
  refine List.forall_mem_cons.mpr ⟨(s_iloadn (by decide +kernel : decode cX11_keeps 112 = .ok (.iload_n 3, 1)) rfl).to, ?_⟩
  refine List.forall_mem_cons.mpr ⟨(s_imul (by decide +kernel : decode cX11_keeps 113 = .ok (.imul, 1))).to, ?_⟩
  refine List.forall_mem_cons.mpr ⟨(s_iload (by decide +kernel : decode cX11_keeps 114 = .ok (.iload 4, 2))).to, ?_⟩
  refine List.forall_mem_cons.mpr ⟨(s_iadd (by decide +kernel : decode cX11_keeps 116 = .ok (.iadd, 1))).to, ?_⟩
  refine List.forall_mem_cons.mpr ⟨(s_zald (by decide +kernel : decode cX11_keeps 117 = .ok (.baload, 1))).to, ?_⟩
  refine List.forall_mem_cons.mpr ⟨(s_if_eq (by decide +kernel : decode cX11_keeps 118 = .ok (.ifCond .eq 46, 3)) (by decide)).to, ?_⟩
  refine List.forall_mem_cons.mpr ⟨(s_aloadn (by decide +kernel : decode cX11_keeps 121 = .ok (.aload_n 0, 1)) rfl).to, ?_⟩
  refine List.forall_mem_cons.mpr ⟨(s_get (ci := 11) (k := 68) (by decide +kernel : decode cX11_keeps 122 = .ok (.getfield 219, 3)) rfl (by decide) wd1401 inX11 rfl).to, ?_⟩
  refine List.forall_mem_cons.mpr ⟨(s_iload (by decide +kernel : decode cX11_keeps 125 = .ok (.iload 4, 2))).to, ?_⟩
  refine List.forall_mem_cons.mpr ⟨(s_zald (by decide +kernel : decode cX11_keeps 127 = .ok (.baload, 1))).to, ?_⟩
  refine List.forall_mem_cons.mpr ⟨(s_if_eq (by decide +kernel : decode cX11_keeps 128 = .ok (.ifCond .eq 36, 3)) (by decide)).to, ?_⟩
  refine List.forall_mem_cons.mpr ⟨(s_aloadn (by decide +kernel : decode cX11_keeps 131 = .ok (.aload_n 0, 1)) rfl).to, ?_⟩
  refine List.forall_mem_cons.mpr ⟨(s_get (ci := 11) (k := 71) (by decide +kernel : decode cX11_keeps 132 = .ok (.getfield 228, 3)) rfl (by decide) wd1404 inX11 rfl).to, ?_⟩
  refine List.forall_mem_cons.mpr ⟨(s_iload (by decide +kernel : decode cX11_keeps 135 = .ok (.iload 4, 2))).to, ?_⟩
  refine List.forall_mem_cons.mpr ⟨(s_iald (by decide +kernel : decode cX11_keeps 137 = .ok (.iaload, 1))).to, ?_⟩
  refine List.forall_mem_cons.mpr ⟨(s_iconst (by decide +kernel : decode cX11_keeps 138 = .ok (.iconst 1, 1)) (by decide)).to, ?_⟩
  refine List.forall_mem_cons.mpr ⟨(s_iadd (by decide +kernel : decode cX11_keeps 139 = .ok (.iadd, 1))).to, ?_⟩
  refine List.forall_mem_cons.mpr ⟨(s_aloadn (by decide +kernel : decode cX11_keeps 140 = .ok (.aload_n 0, 1)) rfl).to, ?_⟩
  refine List.forall_mem_cons.mpr ⟨(s_get (ci := 11) (k := 71) (by decide +kernel : decode cX11_keeps 141 = .ok (.getfield 228, 3)) rfl (by decide) wd1404 inX11 rfl).to, ?_⟩
  refine List.forall_mem_cons.mpr ⟨(s_iloadn (by decide +kernel : decode cX11_keeps 144 = .ok (.iload_n 3, 1)) rfl).to, ?_⟩
  refine List.forall_mem_cons.mpr ⟨(s_iald (by decide +kernel : decode cX11_keeps 145 = .ok (.iaload, 1))).to, ?_⟩
  refine List.forall_mem_cons.mpr ⟨(s_icmp_le (by decide +kernel : decode cX11_keeps 146 = .ok (.if_icmp .le 18, 3)) (by decide)).to, ?_⟩
  refine List.forall_mem_cons.mpr ⟨(s_aloadn (by decide +kernel : decode cX11_keeps 149 = .ok (.aload_n 0, 1)) rfl).to, ?_⟩
  refine List.forall_mem_cons.mpr ⟨(s_get (ci := 11) (k := 71) (by decide +kernel : decode cX11_keeps 150 = .ok (.getfield 228, 3)) rfl (by decide) wd1404 inX11 rfl).to, ?_⟩
  refine List.forall_mem_cons.mpr ⟨(s_iloadn (by decide +kernel : decode cX11_keeps 153 = .ok (.iload_n 3, 1)) rfl).to, ?_⟩
  refine List.forall_mem_cons.mpr ⟨(s_aloadn (by decide +kernel : decode cX11_keeps 154 = .ok (.aload_n 0, 1)) rfl).to, ?_⟩
  refine List.forall_mem_cons.mpr ⟨(s_get (ci := 11) (k := 71) (by decide +kernel : decode cX11_keeps 155 = .ok (.getfield 228, 3)) rfl (by decide) wd1404 inX11 rfl).to, ?_⟩
  refine List.forall_mem_cons.mpr ⟨(s_iload (by decide +kernel : decode cX11_keeps 158 = .ok (.iload 4, 2))).to, ?_⟩
  refine List.forall_mem_cons.mpr ⟨(s_iald (by decide +kernel : decode cX11_keeps 160 = .ok (.iaload, 1))).to, ?_⟩
  refine List.forall_mem_cons.mpr ⟨(s_iconst (by decide +kernel : decode cX11_keeps 161 = .ok (.iconst 1, 1)) (by decide)).to, ?_⟩
  refine List.forall_mem_cons.mpr ⟨(s_iadd (by decide +kernel : decode cX11_keeps 162 = .ok (.iadd, 1))).to, ?_⟩
  refine List.forall_mem_cons.mpr ⟨(s_iast (by decide +kernel : decode cX11_keeps 163 = .ok (.iastore, 1))).to, ?_⟩
  refine List.forall_mem_cons.mpr ⟨(s_iinc (by decide +kernel : decode cX11_keeps 164 = .ok (.iinc 4 1, 3)) (by decide) (by decide)).to, ?_⟩
  refine List.forall_mem_cons.mpr ⟨(s_goto (by decide +kernel : decode cX11_keeps 167 = .ok (.goto (-79), 3)) (by decide)).to, ?_⟩
  refine List.forall_mem_cons.mpr ⟨(s_aloadn (by decide +kernel : decode cX11_keeps 170 = .ok (.aload_n 0, 1)) rfl).to, ?_⟩
  refine List.forall_mem_cons.mpr ⟨(s_get (ci := 11) (k := 71) (by decide +kernel : decode cX11_keeps 171 = .ok (.getfield 228, 3)) rfl (by decide) wd1404 inX11 rfl).to, ?_⟩
  refine List.forall_mem_cons.mpr ⟨(s_iloadn (by decide +kernel : decode cX11_keeps 174 = .ok (.iload_n 3, 1)) rfl).to, ?_⟩
  refine List.forall_mem_cons.mpr ⟨(s_iald (by decide +kernel : decode cX11_keeps 175 = .ok (.iaload, 1))).to, ?_⟩
  refine List.forall_mem_cons.mpr ⟨(s_iloadn (by decide +kernel : decode cX11_keeps 176 = .ok (.iload_n 2, 1)) rfl).to, ?_⟩
  refine List.forall_mem_cons.mpr ⟨(s_icmp_le (by decide +kernel : decode cX11_keeps 177 = .ok (.if_icmp .le 12, 3)) (by decide)).to, ?_⟩
  refine List.forall_mem_cons.mpr ⟨(s_aloadn (by decide +kernel : decode cX11_keeps 180 = .ok (.aload_n 0, 1)) rfl).to, ?_⟩
  refine List.forall_mem_cons.mpr ⟨(s_get (ci := 11) (k := 71) (by decide +kernel : decode cX11_keeps 181 = .ok (.getfield 228, 3)) rfl (by decide) wd1404 inX11 rfl).to, ?_⟩
  refine List.forall_mem_cons.mpr ⟨(s_iloadn (by decide +kernel : decode cX11_keeps 184 = .ok (.iload_n 3, 1)) rfl).to, ?_⟩
  refine List.forall_mem_cons.mpr ⟨(s_iald (by decide +kernel : decode cX11_keeps 185 = .ok (.iaload, 1))).to, ?_⟩
  refine List.forall_mem_cons.mpr ⟨(s_goto (by decide +kernel : decode cX11_keeps 186 = .ok (.goto 4, 3)) (by decide)).to, ?_⟩
  refine List.forall_mem_cons.mpr ⟨(s_iloadn (by decide +kernel : decode cX11_keeps 189 = .ok (.iload_n 2, 1)) rfl).to, ?_⟩
  refine List.forall_mem_cons.mpr ⟨(s_istoren (by decide +kernel : decode cX11_keeps 190 = .ok (.istore_n 2, 1)) rfl (by decide)).to, ?_⟩
  refine List.forall_mem_cons.mpr ⟨(s_iinc (by decide +kernel : decode cX11_keeps 191 = .ok (.iinc 3 (-1), 3)) (by decide) (by decide)).to, ?_⟩
  refine List.forall_mem_cons.mpr ⟨(s_goto (by decide +kernel : decode cX11_keeps 194 = .ok (.goto (-135), 3)) (by decide)).to, ?_⟩
  refine List.forall_mem_cons.mpr ⟨(s_aloadn (by decide +kernel : decode cX11_keeps 197 = .ok (.aload_n 0, 1)) rfl).to, ?_⟩
  refine List.forall_mem_cons.mpr ⟨(s_iloadn (by decide +kernel : decode cX11_keeps 198 = .ok (.iload_n 2, 1)) rfl).to, ?_⟩
  refine List.forall_mem_cons.mpr ⟨(s_put (ci := 11) (k := 66) (by decide +kernel : decode cX11_keeps 199 = .ok (.putfield 213, 3)) rfl (by decide) wd1399 inX11 tyX11_ok nmX11 rfl rfl).to, ?_⟩
  refine List.forall_mem_cons.mpr ⟨(s_iconst (by decide +kernel : decode cX11_keeps 202 = .ok (.iconst (-1), 1)) (by decide)).to, ?_⟩
  refine List.forall_mem_cons.mpr ⟨(s_istoren (by decide +kernel : decode cX11_keeps 203 = .ok (.istore_n 3, 1)) rfl (by decide)).to, ?_⟩
  refine List.forall_mem_cons.mpr ⟨(s_iconst (by decide +kernel : decode cX11_keeps 204 = .ok (.iconst 0, 1)) (by decide)).to, ?_⟩
  exact fun _ h => absurd h List.not_mem_nil
theorem sn_tX11_keeps_2 : ∀ q ∈ tX11_keeps_2, am_Snd am_P0 RX11 cX11_keeps 5 (Option.none : Option FieldType) "keeps" q.1 q.2 := by
  unfold tX11_keeps_2
  refine List.forall_mem_cons.mpr ⟨(s_istore (by decide +kernel : decode cX11_keeps 205 = .ok (.istore 4, 2)) (by decide)).to, ?_⟩
  refine List.forall_mem_cons.mpr ⟨(s_iload (by decide +kernel : decode cX11_keeps 207 = .ok (.iload 4, 2))).to, ?_⟩
  refine List.forall_mem_cons.mpr ⟨(s_aloadn (by decide +kernel : decode cX11_keeps 209 = .ok (.aload_n 0, 1)) rfl).to, ?_⟩
  refine List.forall_mem_cons.mpr ⟨(s_get (ci := 11) (k := 65) (by decide +kernel : decode cX11_keeps 210 = .ok (.getfield 210, 3)) rfl (by decide) wd1398 inX11 rfl).to, ?_⟩
  refine List.forall_mem_cons.mpr ⟨(s_icmp_ge (by decide +kernel : decode cX11_keeps 213 = .ok (.if_icmp .ge 61, 3)) (by decide)).to, ?_⟩
  refine List.forall_mem_cons.mpr ⟨(s_iloadn (by decide +kernel : decode cX11_keeps 216 = .ok (.iload_n 2, 1)) rfl).to, ?_⟩
  refine List.forall_mem_cons.mpr ⟨(s_if_le (by decide +kernel : decode cX11_keeps 217 = .ok (.ifCond .le 57, 3)) (by decide)).to, ?_⟩
  refine List.forall_mem_cons.mpr ⟨(s_aloadn (by decide +kernel : decode cX11_keeps 220 = .ok (.aload_n 0, 1)) rfl).to, ?_⟩
  refine List.forall_mem_cons.mpr ⟨(s_get (ci := 11) (k := 71) (by decide +kernel : decode cX11_keeps 221 = .ok (.getfield 228, 3)) rfl (by decide) wd1404 inX11 rfl).to, ?_⟩
  refine List.forall_mem_cons.mpr ⟨(s_iload (by decide +kernel : decode cX11_keeps 224 = .ok (.iload 4, 2))).to, ?_⟩
  refine List.forall_mem_cons.mpr ⟨(s_iald (by decide +kernel : decode cX11_keeps 226 = .ok (.iaload, 1))).to, ?_⟩
  refine List.forall_mem_cons.mpr ⟨(s_iloadn (by decide +kernel : decode cX11_keeps 227 = .ok (.iload_n 2, 1)) rfl).to, ?_⟩
  refine List.forall_mem_cons.mpr ⟨(s_icmp_ne (by decide +kernel : decode cX11_keeps 228 = .ok (.if_icmp .ne 40, 3)) (by decide)).to, ?_⟩
  refine List.forall_mem_cons.mpr ⟨(s_iloadn (by decide +kernel : decode cX11_keeps 231 = .ok (.iload_n 3, 1)) rfl).to, ?_⟩
  refine List.forall_mem_cons.mpr ⟨(s_iconst (by decide +kernel : decode cX11_keeps 232 = .ok (.iconst (-1), 1)) (by decide)).to, ?_⟩
  refine List.forall_mem_cons.mpr ⟨(s_icmp_eq (by decide +kernel : decode cX11_keeps 233 = .ok (.if_icmp .eq 21, 3)) (by decide)).to, ?_⟩
  refine List.forall_mem_cons.mpr ⟨(s_aloadn (by decide +kernel : decode cX11_keeps 236 = .ok (.aload_n 0, 1)) rfl).to, ?_⟩
  refine List.forall_mem_cons.mpr ⟨(s_get (ci := 11) (k := 70) (by decide +kernel : decode cX11_keeps 237 = .ok (.getfield 225, 3)) rfl (by decide) wd1403 inX11 rfl).to, ?_⟩
  refine List.forall_mem_cons.mpr ⟨(s_bipush (by decide +kernel : decode cX11_keeps 240 = .ok (.bipush 48, 2)) (by decide)).to, ?_⟩
  refine List.forall_mem_cons.mpr ⟨(s_iloadn (by decide +kernel : decode cX11_keeps 242 = .ok (.iload_n 3, 1)) rfl).to, ?_⟩
  refine List.forall_mem_cons.mpr ⟨(s_imul (by decide +kernel : decode cX11_keeps 243 = .ok (.imul, 1))).to, ?_⟩
  refine List.forall_mem_cons.mpr ⟨(s_iload (by decide +kernel : decode cX11_keeps 244 = .ok (.iload 4, 2))).to, ?_⟩
  refine List.forall_mem_cons.mpr ⟨(s_iadd (by decide +kernel : decode cX11_keeps 246 = .ok (.iadd, 1))).to, ?_⟩
  refine List.forall_mem_cons.mpr ⟨(s_zald (by decide +kernel : decode cX11_keeps 247 = .ok (.baload, 1))).to, ?_⟩
  refine List.forall_mem_cons.mpr ⟨(s_if_ne (by decide +kernel : decode cX11_keeps 248 = .ok (.ifCond .ne 6, 3)) (by decide)).to, ?_⟩
  refine List.forall_mem_cons.mpr ⟨(s_goto (by decide +kernel : decode cX11_keeps 251 = .ok (.goto 17, 3)) (by decide)).to, ?_⟩
  refine List.forall_mem_cons.mpr ⟨(s_aloadn (by decide +kernel : decode cX11_keeps 254 = .ok (.aload_n 0, 1)) rfl).to, ?_⟩
  refine List.forall_mem_cons.mpr ⟨(s_get (ci := 11) (k := 69) (by decide +kernel : decode cX11_keeps 255 = .ok (.getfield 222, 3)) rfl (by decide) wd1402 inX11 rfl).to, ?_⟩
  refine List.forall_mem_cons.mpr ⟨(s_iload (by decide +kernel : decode cX11_keeps 258 = .ok (.iload 4, 2))).to, ?_⟩
  refine List.forall_mem_cons.mpr ⟨(s_iconst (by decide +kernel : decode cX11_keeps 260 = .ok (.iconst 1, 1)) (by decide)).to, ?_⟩
  refine List.forall_mem_cons.mpr ⟨(s_zast (by decide +kernel : decode cX11_keeps 261 = .ok (.bastore, 1))).to, ?_⟩
  refine List.forall_mem_cons.mpr ⟨(s_iload (by decide +kernel : decode cX11_keeps 262 = .ok (.iload 4, 2))).to, ?_⟩
  refine List.forall_mem_cons.mpr ⟨(s_istoren (by decide +kernel : decode cX11_keeps 264 = .ok (.istore_n 3, 1)) rfl (by decide)).to, ?_⟩
  refine List.forall_mem_cons.mpr ⟨(s_iinc (by decide +kernel : decode cX11_keeps 265 = .ok (.iinc 2 (-1), 3)) (by decide) (by decide)).to, ?_⟩
  refine List.forall_mem_cons.mpr ⟨(s_iinc (by decide +kernel : decode cX11_keeps 268 = .ok (.iinc 4 1, 3)) (by decide) (by decide)).to, ?_⟩
  refine List.forall_mem_cons.mpr ⟨(s_goto (by decide +kernel : decode cX11_keeps 271 = .ok (.goto (-64), 3)) (by decide)).to, ?_⟩
  refine List.forall_mem_cons.mpr ⟨s_vret (by decide +kernel : decode cX11_keeps 274 = .ok (.return_, 1)) rfl, ?_⟩
  exact fun _ h => absurd h List.not_mem_nil
theorem sn_tX11_keeps : ∀ q ∈ tX11_keeps, am_Snd am_P0 RX11 cX11_keeps 5 (Option.none : Option FieldType) "keeps" q.1 q.2 := by
  unfold tX11_keeps
  exact List.forall_mem_append.mpr ⟨List.forall_mem_append.mpr ⟨sn_tX11_keeps_0, sn_tX11_keeps_1⟩, sn_tX11_keeps_2⟩
theorem sn_tX11_lays__0 : ∀ q ∈ tX11_lays__0, am_Snd am_P0 RX11 cX11_lays_ 4 (Option.none : Option FieldType) "lays" q.1 q.2 := by
  unfold tX11_lays__0
  refine List.forall_mem_cons.mpr ⟨(s_aloadn (by decide +kernel : decode cX11_lays_ 0 = .ok (.aload_n 0, 1)) rfl).to, ?_⟩
  refine List.forall_mem_cons.mpr ⟨(s_iloadn (by decide +kernel : decode cX11_lays_ 1 = .ok (.iload_n 1, 1)) rfl).to, ?_⟩
  refine List.forall_mem_cons.mpr ⟨z_cv (by decide +kernel : decode cX11_lays_ 2 = .ok (.invokevirtual 552, 3)) mt248 wd1902 (ci := 11) rfl (by decide), ?_⟩
  refine List.forall_mem_cons.mpr ⟨(s_aloadn (by decide +kernel : decode cX11_lays_ 5 = .ok (.aload_n 0, 1)) rfl).to, ?_⟩
  refine List.forall_mem_cons.mpr ⟨(s_iconst (by decide +kernel : decode cX11_lays_ 6 = .ok (.iconst 0, 1)) (by decide)).to, ?_⟩
  refine List.forall_mem_cons.mpr ⟨(s_put (ci := 11) (k := 60) (by decide +kernel : decode cX11_lays_ 7 = .ok (.putfield 195, 3)) rfl (by decide) wd1393 inX11 tyX11_ok nmX11 rfl rfl).to, ?_⟩
  refine List.forall_mem_cons.mpr ⟨(s_aloadn (by decide +kernel : decode cX11_lays_ 10 = .ok (.aload_n 0, 1)) rfl).to, ?_⟩
  refine List.forall_mem_cons.mpr ⟨(s_iloadn (by decide +kernel : decode cX11_lays_ 11 = .ok (.iload_n 1, 1)) rfl).to, ?_⟩
  refine List.forall_mem_cons.mpr ⟨z_cv (by decide +kernel : decode cX11_lays_ 12 = .ok (.invokevirtual 537, 3)) mt241 wd1887 (ci := 11) rfl (by decide), ?_⟩
  refine List.forall_mem_cons.mpr ⟨(s_iconst (by decide +kernel : decode cX11_lays_ 15 = .ok (.iconst 0, 1)) (by decide)).to, ?_⟩
  refine List.forall_mem_cons.mpr ⟨(s_istoren (by decide +kernel : decode cX11_lays_ 16 = .ok (.istore_n 2, 1)) rfl (by decide)).to, ?_⟩
  refine List.forall_mem_cons.mpr ⟨(s_iloadn (by decide +kernel : decode cX11_lays_ 17 = .ok (.iload_n 2, 1)) rfl).to, ?_⟩
  refine List.forall_mem_cons.mpr ⟨(s_aloadn (by decide +kernel : decode cX11_lays_ 18 = .ok (.aload_n 0, 1)) rfl).to, ?_⟩
  refine List.forall_mem_cons.mpr ⟨(s_get (ci := 11) (k := 65) (by decide +kernel : decode cX11_lays_ 19 = .ok (.getfield 210, 3)) rfl (by decide) wd1398 inX11 rfl).to, ?_⟩
  refine List.forall_mem_cons.mpr ⟨(s_icmp_ge (by decide +kernel : decode cX11_lays_ 22 = .ok (.if_icmp .ge 45, 3)) (by decide)).to, ?_⟩
  refine List.forall_mem_cons.mpr ⟨(s_aloadn (by decide +kernel : decode cX11_lays_ 25 = .ok (.aload_n 0, 1)) rfl).to, ?_⟩
  refine List.forall_mem_cons.mpr ⟨(s_get (ci := 11) (k := 69) (by decide +kernel : decode cX11_lays_ 26 = .ok (.getfield 222, 3)) rfl (by decide) wd1402 inX11 rfl).to, ?_⟩
  refine List.forall_mem_cons.mpr ⟨(s_iloadn (by decide +kernel : decode cX11_lays_ 29 = .ok (.iload_n 2, 1)) rfl).to, ?_⟩
  refine List.forall_mem_cons.mpr ⟨(s_zald (by decide +kernel : decode cX11_lays_ 30 = .ok (.baload, 1))).to, ?_⟩
  refine List.forall_mem_cons.mpr ⟨(s_if_eq (by decide +kernel : decode cX11_lays_ 31 = .ok (.ifCond .eq 30, 3)) (by decide)).to, ?_⟩
  refine List.forall_mem_cons.mpr ⟨(s_aloadn (by decide +kernel : decode cX11_lays_ 34 = .ok (.aload_n 0, 1)) rfl).to, ?_⟩
  refine List.forall_mem_cons.mpr ⟨(s_aloadn (by decide +kernel : decode cX11_lays_ 35 = .ok (.aload_n 0, 1)) rfl).to, ?_⟩
  refine List.forall_mem_cons.mpr ⟨(s_iloadn (by decide +kernel : decode cX11_lays_ 36 = .ok (.iload_n 1, 1)) rfl).to, ?_⟩
  refine List.forall_mem_cons.mpr ⟨(s_aloadn (by decide +kernel : decode cX11_lays_ 37 = .ok (.aload_n 0, 1)) rfl).to, ?_⟩
  refine List.forall_mem_cons.mpr ⟨(s_get (ci := 11) (k := 67) (by decide +kernel : decode cX11_lays_ 38 = .ok (.getfield 216, 3)) rfl (by decide) wd1400 inX11 rfl).to, ?_⟩
  refine List.forall_mem_cons.mpr ⟨(s_iloadn (by decide +kernel : decode cX11_lays_ 41 = .ok (.iload_n 2, 1)) rfl).to, ?_⟩
  refine List.forall_mem_cons.mpr ⟨(s_iald (by decide +kernel : decode cX11_lays_ 42 = .ok (.iaload, 1))).to, ?_⟩
  refine List.forall_mem_cons.mpr ⟨z_cv (by decide +kernel : decode cX11_lays_ 43 = .ok (.invokevirtual 499, 3)) mt226 wd1842 (ci := 11) rfl (by decide), ?_⟩
  refine List.forall_mem_cons.mpr ⟨(s_aloadn (by decide +kernel : decode cX11_lays_ 46 = .ok (.aload_n 0, 1)) rfl).to, ?_⟩
  refine List.forall_mem_cons.mpr ⟨(s_get (ci := 11) (k := 67) (by decide +kernel : decode cX11_lays_ 47 = .ok (.getfield 216, 3)) rfl (by decide) wd1400 inX11 rfl).to, ?_⟩
  refine List.forall_mem_cons.mpr ⟨(s_iloadn (by decide +kernel : decode cX11_lays_ 50 = .ok (.iload_n 2, 1)) rfl).to, ?_⟩
  refine List.forall_mem_cons.mpr ⟨(s_iald (by decide +kernel : decode cX11_lays_ 51 = .ok (.iaload, 1))).to, ?_⟩
  refine List.forall_mem_cons.mpr ⟨(s_aloadn (by decide +kernel : decode cX11_lays_ 52 = .ok (.aload_n 0, 1)) rfl).to, ?_⟩
  refine List.forall_mem_cons.mpr ⟨(s_get (ci := 11) (k := 67) (by decide +kernel : decode cX11_lays_ 53 = .ok (.getfield 216, 3)) rfl (by decide) wd1400 inX11 rfl).to, ?_⟩
  refine List.forall_mem_cons.mpr ⟨(s_iloadn (by decide +kernel : decode cX11_lays_ 56 = .ok (.iload_n 2, 1)) rfl).to, ?_⟩
  refine List.forall_mem_cons.mpr ⟨(s_iald (by decide +kernel : decode cX11_lays_ 57 = .ok (.iaload, 1))).to, ?_⟩
  refine List.forall_mem_cons.mpr ⟨z_cv (by decide +kernel : decode cX11_lays_ 58 = .ok (.invokevirtual 523, 3)) mt240 wd1891 (ci := 11) rfl (by decide), ?_⟩
  refine List.forall_mem_cons.mpr ⟨(s_iinc (by decide +kernel : decode cX11_lays_ 61 = .ok (.iinc 2 1, 3)) (by decide) (by decide)).to, ?_⟩
  refine List.forall_mem_cons.mpr ⟨(s_goto (by decide +kernel : decode cX11_lays_ 64 = .ok (.goto (-47), 3)) (by decide)).to, ?_⟩
  refine List.forall_mem_cons.mpr ⟨(s_iconst (by decide +kernel : decode cX11_lays_ 67 = .ok (.iconst 0, 1)) (by decide)).to, ?_⟩
  refine List.forall_mem_cons.mpr ⟨(s_istoren (by decide +kernel : decode cX11_lays_ 68 = .ok (.istore_n 2, 1)) rfl (by decide)).to, ?_⟩
  refine List.forall_mem_cons.mpr ⟨(s_iloadn (by decide +kernel : decode cX11_lays_ 69 = .ok (.iload_n 2, 1)) rfl).to, ?_⟩
  refine List.forall_mem_cons.mpr ⟨(s_aloadn (by decide +kernel : decode cX11_lays_ 70 = .ok (.aload_n 0, 1)) rfl).to, ?_⟩
  refine List.forall_mem_cons.mpr ⟨(s_get (ci := 11) (k := 60) (by decide +kernel : decode cX11_lays_ 71 = .ok (.getfield 195, 3)) rfl (by decide) wd1393 inX11 rfl).to, ?_⟩
  refine List.forall_mem_cons.mpr ⟨(s_icmp_ge (by decide +kernel : decode cX11_lays_ 74 = .ok (.if_icmp .ge 54, 3)) (by decide)).to, ?_⟩
  refine List.forall_mem_cons.mpr ⟨(s_aloadn (by decide +kernel : decode cX11_lays_ 77 = .ok (.aload_n 0, 1)) rfl).to, ?_⟩
  refine List.forall_mem_cons.mpr ⟨(s_iloadn (by decide +kernel : decode cX11_lays_ 78 = .ok (.iload_n 1, 1)) rfl).to, ?_⟩
  refine List.forall_mem_cons.mpr ⟨(s_aloadn (by decide +kernel : decode cX11_lays_ 79 = .ok (.aload_n 0, 1)) rfl).to, ?_⟩
  refine List.forall_mem_cons.mpr ⟨(s_get (ci := 11) (k := 61) (by decide +kernel : decode cX11_lays_ 80 = .ok (.getfield 198, 3)) rfl (by decide) wd1394 inX11 rfl).to, ?_⟩
  refine List.forall_mem_cons.mpr ⟨(s_iloadn (by decide +kernel : decode cX11_lays_ 83 = .ok (.iload_n 2, 1)) rfl).to, ?_⟩
  refine List.forall_mem_cons.mpr ⟨(s_iald (by decide +kernel : decode cX11_lays_ 84 = .ok (.iaload, 1))).to, ?_⟩
  refine List.forall_mem_cons.mpr ⟨z_cv (by decide +kernel : decode cX11_lays_ 85 = .ok (.invokevirtual 517, 3)) mt237 wd1859 (ci := 11) rfl (by decide), ?_⟩
  refine List.forall_mem_cons.mpr ⟨(s_iconst (by decide +kernel : decode cX11_lays_ 88 = .ok (.iconst 0, 1)) (by decide)).to, ?_⟩
  refine List.forall_mem_cons.mpr ⟨(s_istoren (by decide +kernel : decode cX11_lays_ 89 = .ok (.istore_n 3, 1)) rfl (by decide)).to, ?_⟩
  refine List.forall_mem_cons.mpr ⟨(s_iloadn (by decide +kernel : decode cX11_lays_ 90 = .ok (.iload_n 3, 1)) rfl).to, ?_⟩
  refine List.forall_mem_cons.mpr ⟨(s_aloadn (by decide +kernel : decode cX11_lays_ 91 = .ok (.aload_n 0, 1)) rfl).to, ?_⟩
  refine List.forall_mem_cons.mpr ⟨z_cv (by decide +kernel : decode cX11_lays_ 92 = .ok (.invokevirtual 479, 3)) mt214 wd1771 (ci := 11) rfl (by decide), ?_⟩
  refine List.forall_mem_cons.mpr ⟨(s_icmp_ge (by decide +kernel : decode cX11_lays_ 95 = .ok (.if_icmp .ge 27, 3)) (by decide)).to, ?_⟩
  refine List.forall_mem_cons.mpr ⟨(s_aloadn (by decide +kernel : decode cX11_lays_ 98 = .ok (.aload_n 0, 1)) rfl).to, ?_⟩
  refine List.forall_mem_cons.mpr ⟨(s_get (ci := 11) (k := 72) (by decide +kernel : decode cX11_lays_ 99 = .ok (.getfield 231, 3)) rfl (by decide) wd1405 inX11 rfl).to, ?_⟩
  exact fun _ h => absurd h List.not_mem_nil
theorem sn_tX11_lays__1 : ∀ q ∈ tX11_lays__1, am_Snd am_P0 RX11 cX11_lays_ 4 (Option.none : Option FieldType) "lays" q.1 q.2 := by
  unfold tX11_lays__1
  refine List.forall_mem_cons.mpr ⟨(s_sipush (by decide +kernel : decode cX11_lays_ 102 = .ok (.sipush 256, 3)) (by decide)).to, ?_⟩
  refine List.forall_mem_cons.mpr ⟨(s_iloadn (by decide +kernel : decode cX11_lays_ 105 = .ok (.iload_n 2, 1)) rfl).to, ?_⟩
  refine List.forall_mem_cons.mpr ⟨(s_imul (by decide +kernel : decode cX11_lays_ 106 = .ok (.imul, 1))).to, ?_⟩
  refine List.forall_mem_cons.mpr ⟨(s_iloadn (by decide +kernel : decode cX11_lays_ 107 = .ok (.iload_n 3, 1)) rfl).to, ?_⟩
  refine List.forall_mem_cons.mpr ⟨(s_iadd (by decide +kernel : decode cX11_lays_ 108 = .ok (.iadd, 1))).to, ?_⟩
  refine List.forall_mem_cons.mpr ⟨(s_aloadn (by decide +kernel : decode cX11_lays_ 109 = .ok (.aload_n 0, 1)) rfl).to, ?_⟩
  refine List.forall_mem_cons.mpr ⟨(s_iloadn (by decide +kernel : decode cX11_lays_ 110 = .ok (.iload_n 1, 1)) rfl).to, ?_⟩
  refine List.forall_mem_cons.mpr ⟨(s_iloadn (by decide +kernel : decode cX11_lays_ 111 = .ok (.iload_n 3, 1)) rfl).to, ?_⟩
  refine List.forall_mem_cons.mpr ⟨z_cv (by decide +kernel : decode cX11_lays_ 112 = .ok (.invokevirtual 520, 3)) mt238 wd1871 (ci := 11) rfl (by decide), ?_⟩
  refine List.forall_mem_cons.mpr ⟨(s_iast (by decide +kernel : decode cX11_lays_ 115 = .ok (.iastore, 1))).to, ?_⟩
  refine List.forall_mem_cons.mpr ⟨(s_iinc (by decide +kernel : decode cX11_lays_ 116 = .ok (.iinc 3 1, 3)) (by decide) (by decide)).to, ?_⟩
  refine List.forall_mem_cons.mpr ⟨(s_goto (by decide +kernel : decode cX11_lays_ 119 = .ok (.goto (-29), 3)) (by decide)).to, ?_⟩
  refine List.forall_mem_cons.mpr ⟨(s_iinc (by decide +kernel : decode cX11_lays_ 122 = .ok (.iinc 2 1, 3)) (by decide) (by decide)).to, ?_⟩
  refine List.forall_mem_cons.mpr ⟨(s_goto (by decide +kernel : decode cX11_lays_ 125 = .ok (.goto (-56), 3)) (by decide)).to, ?_⟩
  refine List.forall_mem_cons.mpr ⟨s_vret (by decide +kernel : decode cX11_lays_ 128 = .ok (.return_, 1)) rfl, ?_⟩
  exact fun _ h => absurd h List.not_mem_nil
theorem sn_tX11_lays_ : ∀ q ∈ tX11_lays_, am_Snd am_P0 RX11 cX11_lays_ 4 (Option.none : Option FieldType) "lays" q.1 q.2 := by
  unfold tX11_lays_
  exact List.forall_mem_append.mpr ⟨sn_tX11_lays__0, sn_tX11_lays__1⟩
theorem sn_tX11_mayBe : ∀ q ∈ tX11_mayBe, am_Snd am_P0 RX11 cX11_mayBe 5 (Option.some FieldType.boolean) "mayBe" q.1 q.2 := by
  unfold tX11_mayBe
  refine List.forall_mem_cons.mpr ⟨(s_aloadn (by decide +kernel : decode cX11_mayBe 0 = .ok (.aload_n 0, 1)) rfl).to, ?_⟩
  refine List.forall_mem_cons.mpr ⟨(s_get (ci := 11) (k := 64) (by decide +kernel : decode cX11_mayBe 1 = .ok (.getfield 207, 3)) rfl (by decide) wd1397 inX11 rfl).to, ?_⟩
  refine List.forall_mem_cons.mpr ⟨(s_if_eq (by decide +kernel : decode cX11_mayBe 4 = .ok (.ifCond .eq 12, 3)) (by decide)).to, ?_⟩
  refine List.forall_mem_cons.mpr ⟨(s_aloadn (by decide +kernel : decode cX11_mayBe 7 = .ok (.aload_n 0, 1)) rfl).to, ?_⟩
  refine List.forall_mem_cons.mpr ⟨(s_iloadn (by decide +kernel : decode cX11_mayBe 8 = .ok (.iload_n 1, 1)) rfl).to, ?_⟩
  refine List.forall_mem_cons.mpr ⟨(s_iloadn (by decide +kernel : decode cX11_mayBe 9 = .ok (.iload_n 2, 1)) rfl).to, ?_⟩
  refine List.forall_mem_cons.mpr ⟨z_cv (by decide +kernel : decode cX11_mayBe 10 = .ok (.invokevirtual 510, 3)) mt234 wd1867 (ci := 11) rfl (by decide), ?_⟩
  refine List.forall_mem_cons.mpr ⟨(s_if_ne (by decide +kernel : decode cX11_mayBe 13 = .ok (.ifCond .ne 5, 3)) (by decide)).to, ?_⟩
  refine List.forall_mem_cons.mpr ⟨(s_iconst (by decide +kernel : decode cX11_mayBe 16 = .ok (.iconst 0, 1)) (by decide)).to, ?_⟩
  refine List.forall_mem_cons.mpr ⟨s_zret (by decide +kernel : decode cX11_mayBe 17 = .ok (.ireturn, 1)) rfl, ?_⟩
  refine List.forall_mem_cons.mpr ⟨(s_iconst (by decide +kernel : decode cX11_mayBe 18 = .ok (.iconst 0, 1)) (by decide)).to, ?_⟩
  refine List.forall_mem_cons.mpr ⟨(s_istore (by decide +kernel : decode cX11_mayBe 19 = .ok (.istore 4, 2)) (by decide)).to, ?_⟩
  refine List.forall_mem_cons.mpr ⟨(s_iload (by decide +kernel : decode cX11_mayBe 21 = .ok (.iload 4, 2))).to, ?_⟩
  refine List.forall_mem_cons.mpr ⟨(s_aloadn (by decide +kernel : decode cX11_mayBe 23 = .ok (.aload_n 0, 1)) rfl).to, ?_⟩
  refine List.forall_mem_cons.mpr ⟨(s_get (ci := 11) (k := 60) (by decide +kernel : decode cX11_mayBe 24 = .ok (.getfield 195, 3)) rfl (by decide) wd1393 inX11 rfl).to, ?_⟩
  refine List.forall_mem_cons.mpr ⟨(s_icmp_ge (by decide +kernel : decode cX11_mayBe 27 = .ok (.if_icmp .ge 46, 3)) (by decide)).to, ?_⟩
  refine List.forall_mem_cons.mpr ⟨(s_aloadn (by decide +kernel : decode cX11_mayBe 30 = .ok (.aload_n 0, 1)) rfl).to, ?_⟩
  refine List.forall_mem_cons.mpr ⟨(s_get (ci := 11) (k := 72) (by decide +kernel : decode cX11_mayBe 31 = .ok (.getfield 231, 3)) rfl (by decide) wd1405 inX11 rfl).to, ?_⟩
  refine List.forall_mem_cons.mpr ⟨(s_sipush (by decide +kernel : decode cX11_mayBe 34 = .ok (.sipush 256, 3)) (by decide)).to, ?_⟩
  refine List.forall_mem_cons.mpr ⟨(s_iload (by decide +kernel : decode cX11_mayBe 37 = .ok (.iload 4, 2))).to, ?_⟩
  refine List.forall_mem_cons.mpr ⟨(s_imul (by decide +kernel : decode cX11_mayBe 39 = .ok (.imul, 1))).to, ?_⟩
  refine List.forall_mem_cons.mpr ⟨(s_iloadn (by decide +kernel : decode cX11_mayBe 40 = .ok (.iload_n 2, 1)) rfl).to, ?_⟩
  refine List.forall_mem_cons.mpr ⟨(s_iadd (by decide +kernel : decode cX11_mayBe 41 = .ok (.iadd, 1))).to, ?_⟩
  refine List.forall_mem_cons.mpr ⟨(s_iald (by decide +kernel : decode cX11_mayBe 42 = .ok (.iaload, 1))).to, ?_⟩
  refine List.forall_mem_cons.mpr ⟨(s_iloadn (by decide +kernel : decode cX11_mayBe 43 = .ok (.iload_n 3, 1)) rfl).to, ?_⟩
  refine List.forall_mem_cons.mpr ⟨(s_iloadn (by decide +kernel : decode cX11_mayBe 44 = .ok (.iload_n 3, 1)) rfl).to, ?_⟩
  refine List.forall_mem_cons.mpr ⟨(s_aloadn (by decide +kernel : decode cX11_mayBe 45 = .ok (.aload_n 0, 1)) rfl).to, ?_⟩
  refine List.forall_mem_cons.mpr ⟨(s_get (ci := 11) (k := 62) (by decide +kernel : decode cX11_mayBe 46 = .ok (.getfield 201, 3)) rfl (by decide) wd1395 inX11 rfl).to, ?_⟩
  refine List.forall_mem_cons.mpr ⟨(s_iload (by decide +kernel : decode cX11_mayBe 49 = .ok (.iload 4, 2))).to, ?_⟩
  refine List.forall_mem_cons.mpr ⟨(s_iald (by decide +kernel : decode cX11_mayBe 51 = .ok (.iaload, 1))).to, ?_⟩
  refine List.forall_mem_cons.mpr ⟨(s_aloadn (by decide +kernel : decode cX11_mayBe 52 = .ok (.aload_n 0, 1)) rfl).to, ?_⟩
  refine List.forall_mem_cons.mpr ⟨(s_get (ci := 11) (k := 63) (by decide +kernel : decode cX11_mayBe 53 = .ok (.getfield 204, 3)) rfl (by decide) wd1396 inX11 rfl).to, ?_⟩
  refine List.forall_mem_cons.mpr ⟨(s_iload (by decide +kernel : decode cX11_mayBe 56 = .ok (.iload 4, 2))).to, ?_⟩
  refine List.forall_mem_cons.mpr ⟨(s_iald (by decide +kernel : decode cX11_mayBe 58 = .ok (.iaload, 1))).to, ?_⟩
  refine List.forall_mem_cons.mpr ⟨z_cs (by decide +kernel : decode cX11_mayBe 59 = .ok (.invokestatic 534, 3)) mt243 wd1899, ?_⟩
  refine List.forall_mem_cons.mpr ⟨(s_icmp_le (by decide +kernel : decode cX11_mayBe 62 = .ok (.if_icmp .le 5, 3)) (by decide)).to, ?_⟩
  refine List.forall_mem_cons.mpr ⟨(s_iconst (by decide +kernel : decode cX11_mayBe 65 = .ok (.iconst 0, 1)) (by decide)).to, ?_⟩
  refine List.forall_mem_cons.mpr ⟨s_zret (by decide +kernel : decode cX11_mayBe 66 = .ok (.ireturn, 1)) rfl, ?_⟩
  refine List.forall_mem_cons.mpr ⟨(s_iinc (by decide +kernel : decode cX11_mayBe 67 = .ok (.iinc 4 1, 3)) (by decide) (by decide)).to, ?_⟩
  refine List.forall_mem_cons.mpr ⟨(s_goto (by decide +kernel : decode cX11_mayBe 70 = .ok (.goto (-49), 3)) (by decide)).to, ?_⟩
  refine List.forall_mem_cons.mpr ⟨(s_iconst (by decide +kernel : decode cX11_mayBe 73 = .ok (.iconst 1, 1)) (by decide)).to, ?_⟩
  refine List.forall_mem_cons.mpr ⟨s_zret (by decide +kernel : decode cX11_mayBe 74 = .ok (.ireturn, 1)) rfl, ?_⟩
  exact fun _ h => absurd h List.not_mem_nil
theorem sn_tX11_cellsOf : ∀ q ∈ tX11_cellsOf, am_Snd am_P0 RX11 cX11_cellsOf 5 (Option.some FieldType.int) "cellsOf" q.1 q.2 := by
  unfold tX11_cellsOf
  refine List.forall_mem_cons.mpr ⟨(s_iconst (by decide +kernel : decode cX11_cellsOf 0 = .ok (.iconst 0, 1)) (by decide)).to, ?_⟩
  refine List.forall_mem_cons.mpr ⟨(s_istoren (by decide +kernel : decode cX11_cellsOf 1 = .ok (.istore_n 3, 1)) rfl (by decide)).to, ?_⟩
  refine List.forall_mem_cons.mpr ⟨(s_iconst (by decide +kernel : decode cX11_cellsOf 2 = .ok (.iconst 0, 1)) (by decide)).to, ?_⟩
  refine List.forall_mem_cons.mpr ⟨(s_istore (by decide +kernel : decode cX11_cellsOf 3 = .ok (.istore 4, 2)) (by decide)).to, ?_⟩
  refine List.forall_mem_cons.mpr ⟨(s_iload (by decide +kernel : decode cX11_cellsOf 5 = .ok (.iload 4, 2))).to, ?_⟩
  refine List.forall_mem_cons.mpr ⟨(s_aloadn (by decide +kernel : decode cX11_cellsOf 7 = .ok (.aload_n 0, 1)) rfl).to, ?_⟩
  refine List.forall_mem_cons.mpr ⟨z_cv (by decide +kernel : decode cX11_cellsOf 8 = .ok (.invokevirtual 479, 3)) mt214 wd1771 (ci := 11) rfl (by decide), ?_⟩
  refine List.forall_mem_cons.mpr ⟨(s_icmp_ge (by decide +kernel : decode cX11_cellsOf 11 = .ok (.if_icmp .ge 28, 3)) (by decide)).to, ?_⟩
  refine List.forall_mem_cons.mpr ⟨(s_iloadn (by decide +kernel : decode cX11_cellsOf 14 = .ok (.iload_n 3, 1)) rfl).to, ?_⟩
  refine List.forall_mem_cons.mpr ⟨(s_aloadn (by decide +kernel : decode cX11_cellsOf 15 = .ok (.aload_n 0, 1)) rfl).to, ?_⟩
  refine List.forall_mem_cons.mpr ⟨(s_iloadn (by decide +kernel : decode cX11_cellsOf 16 = .ok (.iload_n 1, 1)) rfl).to, ?_⟩
  refine List.forall_mem_cons.mpr ⟨(s_iload (by decide +kernel : decode cX11_cellsOf 17 = .ok (.iload 4, 2))).to, ?_⟩
  refine List.forall_mem_cons.mpr ⟨(s_iloadn (by decide +kernel : decode cX11_cellsOf 19 = .ok (.iload_n 2, 1)) rfl).to, ?_⟩
  refine List.forall_mem_cons.mpr ⟨z_cv (by decide +kernel : decode cX11_cellsOf 20 = .ok (.invokevirtual 555, 3)) mt250 wd1946 (ci := 11) rfl (by decide), ?_⟩
  refine List.forall_mem_cons.mpr ⟨(s_if_eq (by decide +kernel : decode cX11_cellsOf 23 = .ok (.ifCond .eq 7, 3)) (by decide)).to, ?_⟩
  refine List.forall_mem_cons.mpr ⟨(s_iconst (by decide +kernel : decode cX11_cellsOf 26 = .ok (.iconst 1, 1)) (by decide)).to, ?_⟩
  refine List.forall_mem_cons.mpr ⟨(s_goto (by decide +kernel : decode cX11_cellsOf 27 = .ok (.goto 4, 3)) (by decide)).to, ?_⟩
  refine List.forall_mem_cons.mpr ⟨(s_iconst (by decide +kernel : decode cX11_cellsOf 30 = .ok (.iconst 0, 1)) (by decide)).to, ?_⟩
  refine List.forall_mem_cons.mpr ⟨(s_iadd (by decide +kernel : decode cX11_cellsOf 31 = .ok (.iadd, 1))).to, ?_⟩
  refine List.forall_mem_cons.mpr ⟨(s_istoren (by decide +kernel : decode cX11_cellsOf 32 = .ok (.istore_n 3, 1)) rfl (by decide)).to, ?_⟩
  refine List.forall_mem_cons.mpr ⟨(s_iinc (by decide +kernel : decode cX11_cellsOf 33 = .ok (.iinc 4 1, 3)) (by decide) (by decide)).to, ?_⟩
  refine List.forall_mem_cons.mpr ⟨(s_goto (by decide +kernel : decode cX11_cellsOf 36 = .ok (.goto (-31), 3)) (by decide)).to, ?_⟩
  refine List.forall_mem_cons.mpr ⟨(s_iloadn (by decide +kernel : decode cX11_cellsOf 39 = .ok (.iload_n 3, 1)) rfl).to, ?_⟩
  refine List.forall_mem_cons.mpr ⟨s_iret (by decide +kernel : decode cX11_cellsOf 40 = .ok (.ireturn, 1)) rfl, ?_⟩
  exact fun _ h => absurd h List.not_mem_nil
theorem sn_tX11_isHonest : ∀ q ∈ tX11_isHonest, am_Snd am_P0 RX11 cX11_isHonest 4 (Option.some FieldType.boolean) "isHonest" q.1 q.2 := by
  unfold tX11_isHonest
  refine List.forall_mem_cons.mpr ⟨(s_iconst (by decide +kernel : decode cX11_isHonest 0 = .ok (.iconst 0, 1)) (by decide)).to, ?_⟩
  refine List.forall_mem_cons.mpr ⟨(s_istoren (by decide +kernel : decode cX11_isHonest 1 = .ok (.istore_n 3, 1)) rfl (by decide)).to, ?_⟩
  refine List.forall_mem_cons.mpr ⟨(s_iloadn (by decide +kernel : decode cX11_isHonest 2 = .ok (.iload_n 3, 1)) rfl).to, ?_⟩
  refine List.forall_mem_cons.mpr ⟨(s_aloadn (by decide +kernel : decode cX11_isHonest 3 = .ok (.aload_n 0, 1)) rfl).to, ?_⟩
  refine List.forall_mem_cons.mpr ⟨z_cv (by decide +kernel : decode cX11_isHonest 4 = .ok (.invokevirtual 479, 3)) mt214 wd1771 (ci := 11) rfl (by decide), ?_⟩
  refine List.forall_mem_cons.mpr ⟨(s_icmp_ge (by decide +kernel : decode cX11_isHonest 7 = .ok (.if_icmp .ge 30, 3)) (by decide)).to, ?_⟩
  refine List.forall_mem_cons.mpr ⟨(s_aloadn (by decide +kernel : decode cX11_isHonest 10 = .ok (.aload_n 0, 1)) rfl).to, ?_⟩
  refine List.forall_mem_cons.mpr ⟨(s_iloadn (by decide +kernel : decode cX11_isHonest 11 = .ok (.iload_n 1, 1)) rfl).to, ?_⟩
  refine List.forall_mem_cons.mpr ⟨(s_iloadn (by decide +kernel : decode cX11_isHonest 12 = .ok (.iload_n 3, 1)) rfl).to, ?_⟩
  refine List.forall_mem_cons.mpr ⟨(s_iloadn (by decide +kernel : decode cX11_isHonest 13 = .ok (.iload_n 2, 1)) rfl).to, ?_⟩
  refine List.forall_mem_cons.mpr ⟨z_cv (by decide +kernel : decode cX11_isHonest 14 = .ok (.invokevirtual 555, 3)) mt250 wd1946 (ci := 11) rfl (by decide), ?_⟩
  refine List.forall_mem_cons.mpr ⟨(s_if_eq (by decide +kernel : decode cX11_isHonest 17 = .ok (.ifCond .eq 14, 3)) (by decide)).to, ?_⟩
  refine List.forall_mem_cons.mpr ⟨(s_aloadn (by decide +kernel : decode cX11_isHonest 20 = .ok (.aload_n 0, 1)) rfl).to, ?_⟩
  refine List.forall_mem_cons.mpr ⟨(s_iloadn (by decide +kernel : decode cX11_isHonest 21 = .ok (.iload_n 3, 1)) rfl).to, ?_⟩
  refine List.forall_mem_cons.mpr ⟨(s_iloadn (by decide +kernel : decode cX11_isHonest 22 = .ok (.iload_n 2, 1)) rfl).to, ?_⟩
  refine List.forall_mem_cons.mpr ⟨z_cv (by decide +kernel : decode cX11_isHonest 23 = .ok (.invokevirtual 496, 3)) mt224 wd1830 (ci := 11) rfl (by decide), ?_⟩
  refine List.forall_mem_cons.mpr ⟨(s_if_eq (by decide +kernel : decode cX11_isHonest 26 = .ok (.ifCond .eq 5, 3)) (by decide)).to, ?_⟩
  refine List.forall_mem_cons.mpr ⟨(s_iconst (by decide +kernel : decode cX11_isHonest 29 = .ok (.iconst 1, 1)) (by decide)).to, ?_⟩
  refine List.forall_mem_cons.mpr ⟨s_zret (by decide +kernel : decode cX11_isHonest 30 = .ok (.ireturn, 1)) rfl, ?_⟩
  refine List.forall_mem_cons.mpr ⟨(s_iinc (by decide +kernel : decode cX11_isHonest 31 = .ok (.iinc 3 1, 3)) (by decide) (by decide)).to, ?_⟩
  refine List.forall_mem_cons.mpr ⟨(s_goto (by decide +kernel : decode cX11_isHonest 34 = .ok (.goto (-32), 3)) (by decide)).to, ?_⟩
  refine List.forall_mem_cons.mpr ⟨(s_iconst (by decide +kernel : decode cX11_isHonest 37 = .ok (.iconst 0, 1)) (by decide)).to, ?_⟩
  refine List.forall_mem_cons.mpr ⟨s_zret (by decide +kernel : decode cX11_isHonest 38 = .ok (.ireturn, 1)) rfl, ?_⟩
  exact fun _ h => absurd h List.not_mem_nil
theorem sn_tX11_ship__0 : ∀ q ∈ tX11_ship__0, am_Snd am_P0 RX11 cX11_ship_ 4 (Option.some FieldType.int) "ship" q.1 q.2 := by
  unfold tX11_ship__0
  refine List.forall_mem_cons.mpr ⟨(s_aloadn (by decide +kernel : decode cX11_ship_ 0 = .ok (.aload_n 0, 1)) rfl).to, ?_⟩
  refine List.forall_mem_cons.mpr ⟨(s_iloadn (by decide +kernel : decode cX11_ship_ 1 = .ok (.iload_n 1, 1)) rfl).to, ?_⟩
  refine List.forall_mem_cons.mpr ⟨z_cv (by decide +kernel : decode cX11_ship_ 2 = .ok (.invokevirtual 505, 3)) mt220 wd1850 (ci := 11) rfl (by decide), ?_⟩
  refine List.forall_mem_cons.mpr ⟨(s_if_eq (by decide +kernel : decode cX11_ship_ 5 = .ok (.ifCond .eq 13, 3)) (by decide)).to, ?_⟩
  refine List.forall_mem_cons.mpr ⟨(s_iloadn (by decide +kernel : decode cX11_ship_ 8 = .ok (.iload_n 2, 1)) rfl).to, ?_⟩
  refine List.forall_mem_cons.mpr ⟨(s_iconst (by decide +kernel : decode cX11_ship_ 9 = .ok (.iconst 0, 1)) (by decide)).to, ?_⟩
  refine List.forall_mem_cons.mpr ⟨(s_bipush (by decide +kernel : decode cX11_ship_ 10 = .ok (.bipush 8, 2)) (by decide)).to, ?_⟩
  refine List.forall_mem_cons.mpr ⟨z_cs (by decide +kernel : decode cX11_ship_ 12 = .ok (.invokestatic 343, 3)) mt167 wd1630, ?_⟩
  refine List.forall_mem_cons.mpr ⟨(s_if_ne (by decide +kernel : decode cX11_ship_ 15 = .ok (.ifCond .ne 5, 3)) (by decide)).to, ?_⟩
  refine List.forall_mem_cons.mpr ⟨(s_iconst (by decide +kernel : decode cX11_ship_ 18 = .ok (.iconst (-1), 1)) (by decide)).to, ?_⟩
  refine List.forall_mem_cons.mpr ⟨s_iret (by decide +kernel : decode cX11_ship_ 19 = .ok (.ireturn, 1)) rfl, ?_⟩
  refine List.forall_mem_cons.mpr ⟨(s_bipush (by decide +kernel : decode cX11_ship_ 20 = .ok (.bipush 8, 2)) (by decide)).to, ?_⟩
  refine List.forall_mem_cons.mpr ⟨(s_aloadn (by decide +kernel : decode cX11_ship_ 22 = .ok (.aload_n 0, 1)) rfl).to, ?_⟩
  refine List.forall_mem_cons.mpr ⟨(s_get (ci := 11) (k := 12) (by decide +kernel : decode cX11_ship_ 23 = .ok (.getfield 48, 3)) rfl (by decide) wd1345 inX11 rfl).to, ?_⟩
  refine List.forall_mem_cons.mpr ⟨(s_imul (by decide +kernel : decode cX11_ship_ 26 = .ok (.imul, 1))).to, ?_⟩
  refine List.forall_mem_cons.mpr ⟨(s_iloadn (by decide +kernel : decode cX11_ship_ 27 = .ok (.iload_n 1, 1)) rfl).to, ?_⟩
  refine List.forall_mem_cons.mpr ⟨(s_iadd (by decide +kernel : decode cX11_ship_ 28 = .ok (.iadd, 1))).to, ?_⟩
  refine List.forall_mem_cons.mpr ⟨(s_istoren (by decide +kernel : decode cX11_ship_ 29 = .ok (.istore_n 3, 1)) rfl (by decide)).to, ?_⟩
  refine List.forall_mem_cons.mpr ⟨(s_iloadn (by decide +kernel : decode cX11_ship_ 30 = .ok (.iload_n 2, 1)) rfl).to, ?_⟩
  refine List.forall_mem_cons.mpr ⟨(s_table (by decide +kernel : decode cX11_ship_ 31 = .ok (.tableswitch 103 0 8 #[49, 56, 63, 70, 77, 103, 103, 83, 89], 49)) (by decide) (by decide) (by decide) (by decide)).to, ?_⟩
  refine List.forall_mem_cons.mpr ⟨(s_aloadn (by decide +kernel : decode cX11_ship_ 80 = .ok (.aload_n 0, 1)) rfl).to, ?_⟩
  refine List.forall_mem_cons.mpr ⟨(s_get (ci := 11) (k := 21) (by decide +kernel : decode cX11_ship_ 81 = .ok (.getfield 76, 3)) rfl (by decide) wd1354 inX11 rfl).to, ?_⟩
  refine List.forall_mem_cons.mpr ⟨(s_iloadn (by decide +kernel : decode cX11_ship_ 84 = .ok (.iload_n 3, 1)) rfl).to, ?_⟩
  refine List.forall_mem_cons.mpr ⟨(s_iald (by decide +kernel : decode cX11_ship_ 85 = .ok (.iaload, 1))).to, ?_⟩
  refine List.forall_mem_cons.mpr ⟨s_iret (by decide +kernel : decode cX11_ship_ 86 = .ok (.ireturn, 1)) rfl, ?_⟩
  refine List.forall_mem_cons.mpr ⟨(s_aloadn (by decide +kernel : decode cX11_ship_ 87 = .ok (.aload_n 0, 1)) rfl).to, ?_⟩
  refine List.forall_mem_cons.mpr ⟨(s_get (ci := 11) (k := 22) (by decide +kernel : decode cX11_ship_ 88 = .ok (.getfield 79, 3)) rfl (by decide) wd1355 inX11 rfl).to, ?_⟩
  refine List.forall_mem_cons.mpr ⟨(s_iloadn (by decide +kernel : decode cX11_ship_ 91 = .ok (.iload_n 3, 1)) rfl).to, ?_⟩
  refine List.forall_mem_cons.mpr ⟨(s_iald (by decide +kernel : decode cX11_ship_ 92 = .ok (.iaload, 1))).to, ?_⟩
  refine List.forall_mem_cons.mpr ⟨s_iret (by decide +kernel : decode cX11_ship_ 93 = .ok (.ireturn, 1)) rfl, ?_⟩
  refine List.forall_mem_cons.mpr ⟨(s_aloadn (by decide +kernel : decode cX11_ship_ 94 = .ok (.aload_n 0, 1)) rfl).to, ?_⟩
  refine List.forall_mem_cons.mpr ⟨(s_get (ci := 11) (k := 23) (by decide +kernel : decode cX11_ship_ 95 = .ok (.getfield 82, 3)) rfl (by decide) wd1356 inX11 rfl).to, ?_⟩
  refine List.forall_mem_cons.mpr ⟨(s_iloadn (by decide +kernel : decode cX11_ship_ 98 = .ok (.iload_n 3, 1)) rfl).to, ?_⟩
  refine List.forall_mem_cons.mpr ⟨(s_iald (by decide +kernel : decode cX11_ship_ 99 = .ok (.iaload, 1))).to, ?_⟩
  refine List.forall_mem_cons.mpr ⟨s_iret (by decide +kernel : decode cX11_ship_ 100 = .ok (.ireturn, 1)) rfl, ?_⟩
  refine List.forall_mem_cons.mpr ⟨(s_aloadn (by decide +kernel : decode cX11_ship_ 101 = .ok (.aload_n 0, 1)) rfl).to, ?_⟩
  refine List.forall_mem_cons.mpr ⟨(s_get (ci := 11) (k := 24) (by decide +kernel : decode cX11_ship_ 102 = .ok (.getfield 85, 3)) rfl (by decide) wd1357 inX11 rfl).to, ?_⟩
  refine List.forall_mem_cons.mpr ⟨(s_iloadn (by decide +kernel : decode cX11_ship_ 105 = .ok (.iload_n 3, 1)) rfl).to, ?_⟩
  refine List.forall_mem_cons.mpr ⟨(s_iald (by decide +kernel : decode cX11_ship_ 106 = .ok (.iaload, 1))).to, ?_⟩
  refine List.forall_mem_cons.mpr ⟨s_iret (by decide +kernel : decode cX11_ship_ 107 = .ok (.ireturn, 1)) rfl, ?_⟩
  refine List.forall_mem_cons.mpr ⟨(s_aloadn (by decide +kernel : decode cX11_ship_ 108 = .ok (.aload_n 0, 1)) rfl).to, ?_⟩
  refine List.forall_mem_cons.mpr ⟨(s_iloadn (by decide +kernel : decode cX11_ship_ 109 = .ok (.iload_n 1, 1)) rfl).to, ?_⟩
  refine List.forall_mem_cons.mpr ⟨z_cv (by decide +kernel : decode cX11_ship_ 110 = .ok (.invokevirtual 502, 3)) mt228 wd1838 (ci := 11) rfl (by decide), ?_⟩
  refine List.forall_mem_cons.mpr ⟨s_iret (by decide +kernel : decode cX11_ship_ 113 = .ok (.ireturn, 1)) rfl, ?_⟩
  refine List.forall_mem_cons.mpr ⟨(s_aloadn (by decide +kernel : decode cX11_ship_ 114 = .ok (.aload_n 0, 1)) rfl).to, ?_⟩
  refine List.forall_mem_cons.mpr ⟨(s_iloadn (by decide +kernel : decode cX11_ship_ 115 = .ok (.iload_n 1, 1)) rfl).to, ?_⟩
  refine List.forall_mem_cons.mpr ⟨z_cv (by decide +kernel : decode cX11_ship_ 116 = .ok (.invokevirtual 558, 3)) mt231 wd1879 (ci := 11) rfl (by decide), ?_⟩
  refine List.forall_mem_cons.mpr ⟨s_iret (by decide +kernel : decode cX11_ship_ 119 = .ok (.ireturn, 1)) rfl, ?_⟩
  refine List.forall_mem_cons.mpr ⟨(s_aloadn (by decide +kernel : decode cX11_ship_ 120 = .ok (.aload_n 0, 1)) rfl).to, ?_⟩
  refine List.forall_mem_cons.mpr ⟨(s_iloadn (by decide +kernel : decode cX11_ship_ 121 = .ok (.iload_n 1, 1)) rfl).to, ?_⟩
  refine List.forall_mem_cons.mpr ⟨z_cv (by decide +kernel : decode cX11_ship_ 122 = .ok (.invokevirtual 546, 3)) mt245 wd1883 (ci := 11) rfl (by decide), ?_⟩
  refine List.forall_mem_cons.mpr ⟨(s_if_eq (by decide +kernel : decode cX11_ship_ 125 = .ok (.ifCond .eq 7, 3)) (by decide)).to, ?_⟩
  refine List.forall_mem_cons.mpr ⟨(s_iconst (by decide +kernel : decode cX11_ship_ 128 = .ok (.iconst 1, 1)) (by decide)).to, ?_⟩
  refine List.forall_mem_cons.mpr ⟨(s_goto (by decide +kernel : decode cX11_ship_ 129 = .ok (.goto 4, 3)) (by decide)).to, ?_⟩
  refine List.forall_mem_cons.mpr ⟨(s_iconst (by decide +kernel : decode cX11_ship_ 132 = .ok (.iconst 0, 1)) (by decide)).to, ?_⟩
  refine List.forall_mem_cons.mpr ⟨s_iret (by decide +kernel : decode cX11_ship_ 133 = .ok (.ireturn, 1)) rfl, ?_⟩
  refine List.forall_mem_cons.mpr ⟨(s_aloadn (by decide +kernel : decode cX11_ship_ 134 = .ok (.aload_n 0, 1)) rfl).to, ?_⟩
  refine List.forall_mem_cons.mpr ⟨(s_iloadn (by decide +kernel : decode cX11_ship_ 135 = .ok (.iload_n 1, 1)) rfl).to, ?_⟩
  refine List.forall_mem_cons.mpr ⟨z_cv (by decide +kernel : decode cX11_ship_ 136 = .ok (.invokevirtual 552, 3)) mt248 wd1902 (ci := 11) rfl (by decide), ?_⟩
  refine List.forall_mem_cons.mpr ⟨(s_iloadn (by decide +kernel : decode cX11_ship_ 139 = .ok (.iload_n 2, 1)) rfl).to, ?_⟩
  exact fun _ h => absurd h List.not_mem_nil
theorem sn_tX11_ship__1 : ∀ q ∈ tX11_ship__1, am_Snd am_P0 RX11 cX11_ship_ 4 (Option.some FieldType.int) "ship" q.1 q.2 := by
  unfold tX11_ship__1
  refine List.forall_mem_cons.mpr ⟨(s_iconst (by decide +kernel : decode cX11_ship_ 140 = .ok (.iconst 5, 1)) (by decide)).to, ?_⟩
  refine List.forall_mem_cons.mpr ⟨(s_icmp_ne (by decide +kernel : decode cX11_ship_ 141 = .ok (.if_icmp .ne 10, 3)) (by decide)).to, ?_⟩
  refine List.forall_mem_cons.mpr ⟨(s_aloadn (by decide +kernel : decode cX11_ship_ 144 = .ok (.aload_n 0, 1)) rfl).to, ?_⟩
  refine List.forall_mem_cons.mpr ⟨(s_get (ci := 11) (k := 66) (by decide +kernel : decode cX11_ship_ 145 = .ok (.getfield 213, 3)) rfl (by decide) wd1399 inX11 rfl).to, ?_⟩
  refine List.forall_mem_cons.mpr ⟨(s_goto (by decide +kernel : decode cX11_ship_ 148 = .ok (.goto 12, 3)) (by decide)).to, ?_⟩
  refine List.forall_mem_cons.mpr ⟨(s_aloadn (by decide +kernel : decode cX11_ship_ 151 = .ok (.aload_n 0, 1)) rfl).to, ?_⟩
  refine List.forall_mem_cons.mpr ⟨(s_get (ci := 11) (k := 65) (by decide +kernel : decode cX11_ship_ 152 = .ok (.getfield 210, 3)) rfl (by decide) wd1398 inX11 rfl).to, ?_⟩
  refine List.forall_mem_cons.mpr ⟨(s_aloadn (by decide +kernel : decode cX11_ship_ 155 = .ok (.aload_n 0, 1)) rfl).to, ?_⟩
  refine List.forall_mem_cons.mpr ⟨(s_get (ci := 11) (k := 66) (by decide +kernel : decode cX11_ship_ 156 = .ok (.getfield 213, 3)) rfl (by decide) wd1399 inX11 rfl).to, ?_⟩
  refine List.forall_mem_cons.mpr ⟨(s_isub (by decide +kernel : decode cX11_ship_ 159 = .ok (.isub, 1))).to, ?_⟩
  refine List.forall_mem_cons.mpr ⟨s_iret (by decide +kernel : decode cX11_ship_ 160 = .ok (.ireturn, 1)) rfl, ?_⟩
  exact fun _ h => absurd h List.not_mem_nil
theorem sn_tX11_ship_ : ∀ q ∈ tX11_ship_, am_Snd am_P0 RX11 cX11_ship_ 4 (Option.some FieldType.int) "ship" q.1 q.2 := by
  unfold tX11_ship_
  exact List.forall_mem_append.mpr ⟨sn_tX11_ship__0, sn_tX11_ship__1⟩
theorem sn_tX11_saying_0 : ∀ q ∈ tX11_saying_0, am_Snd am_P0 RX11 cX11_saying 5 (Option.some FieldType.int) "saying" q.1 q.2 := by
  unfold tX11_saying_0
  refine List.forall_mem_cons.mpr ⟨(s_aloadn (by decide +kernel : decode cX11_saying 0 = .ok (.aload_n 0, 1)) rfl).to, ?_⟩
  refine List.forall_mem_cons.mpr ⟨(s_iloadn (by decide +kernel : decode cX11_saying 1 = .ok (.iload_n 1, 1)) rfl).to, ?_⟩
  refine List.forall_mem_cons.mpr ⟨z_cv (by decide +kernel : decode cX11_saying 2 = .ok (.invokevirtual 505, 3)) mt220 wd1850 (ci := 11) rfl (by decide), ?_⟩
  refine List.forall_mem_cons.mpr ⟨(s_if_eq (by decide +kernel : decode cX11_saying 5 = .ok (.ifCond .eq 12, 3)) (by decide)).to, ?_⟩
  refine List.forall_mem_cons.mpr ⟨(s_aloadn (by decide +kernel : decode cX11_saying 8 = .ok (.aload_n 0, 1)) rfl).to, ?_⟩
  refine List.forall_mem_cons.mpr ⟨(s_iloadn (by decide +kernel : decode cX11_saying 9 = .ok (.iload_n 1, 1)) rfl).to, ?_⟩
  refine List.forall_mem_cons.mpr ⟨(s_iloadn (by decide +kernel : decode cX11_saying 10 = .ok (.iload_n 2, 1)) rfl).to, ?_⟩
  refine List.forall_mem_cons.mpr ⟨z_cv (by decide +kernel : decode cX11_saying 11 = .ok (.invokevirtual 561, 3)) mt229 wd1926 (ci := 11) rfl (by decide), ?_⟩
  refine List.forall_mem_cons.mpr ⟨(s_goto (by decide +kernel : decode cX11_saying 14 = .ok (.goto 4, 3)) (by decide)).to, ?_⟩
  refine List.forall_mem_cons.mpr ⟨(s_iconst (by decide +kernel : decode cX11_saying 17 = .ok (.iconst (-1), 1)) (by decide)).to, ?_⟩
  refine List.forall_mem_cons.mpr ⟨(s_istore (by decide +kernel : decode cX11_saying 18 = .ok (.istore 4, 2)) (by decide)).to, ?_⟩
  refine List.forall_mem_cons.mpr ⟨(s_iload (by decide +kernel : decode cX11_saying 20 = .ok (.iload 4, 2))).to, ?_⟩
  refine List.forall_mem_cons.mpr ⟨(s_iconst (by decide +kernel : decode cX11_saying 22 = .ok (.iconst (-1), 1)) (by decide)).to, ?_⟩
  refine List.forall_mem_cons.mpr ⟨(s_icmp_ne (by decide +kernel : decode cX11_saying 23 = .ok (.if_icmp .ne 5, 3)) (by decide)).to, ?_⟩
  refine List.forall_mem_cons.mpr ⟨(s_iconst (by decide +kernel : decode cX11_saying 26 = .ok (.iconst (-1), 1)) (by decide)).to, ?_⟩
  refine List.forall_mem_cons.mpr ⟨s_iret (by decide +kernel : decode cX11_saying 27 = .ok (.ireturn, 1)) rfl, ?_⟩
  refine List.forall_mem_cons.mpr ⟨(s_iloadn (by decide +kernel : decode cX11_saying 28 = .ok (.iload_n 3, 1)) rfl).to, ?_⟩
  refine List.forall_mem_cons.mpr ⟨(s_table (by decide +kernel : decode cX11_saying 29 = .ok (.tableswitch 110 0 4 #[35, 38, 46, 62, 90], 35)) (by decide) (by decide) (by decide) (by decide)).to, ?_⟩
  refine List.forall_mem_cons.mpr ⟨(s_iload (by decide +kernel : decode cX11_saying 64 = .ok (.iload 4, 2))).to, ?_⟩
  refine List.forall_mem_cons.mpr ⟨s_iret (by decide +kernel : decode cX11_saying 66 = .ok (.ireturn, 1)) rfl, ?_⟩
  refine List.forall_mem_cons.mpr ⟨(s_aloadn (by decide +kernel : decode cX11_saying 67 = .ok (.aload_n 0, 1)) rfl).to, ?_⟩
  refine List.forall_mem_cons.mpr ⟨(s_iloadn (by decide +kernel : decode cX11_saying 68 = .ok (.iload_n 1, 1)) rfl).to, ?_⟩
  refine List.forall_mem_cons.mpr ⟨(s_iload (by decide +kernel : decode cX11_saying 69 = .ok (.iload 4, 2))).to, ?_⟩
  refine List.forall_mem_cons.mpr ⟨z_cv (by decide +kernel : decode cX11_saying 71 = .ok (.invokevirtual 499, 3)) mt226 wd1842 (ci := 11) rfl (by decide), ?_⟩
  refine List.forall_mem_cons.mpr ⟨s_iret (by decide +kernel : decode cX11_saying 74 = .ok (.ireturn, 1)) rfl, ?_⟩
  refine List.forall_mem_cons.mpr ⟨(s_aloadn (by decide +kernel : decode cX11_saying 75 = .ok (.aload_n 0, 1)) rfl).to, ?_⟩
  refine List.forall_mem_cons.mpr ⟨(s_iloadn (by decide +kernel : decode cX11_saying 76 = .ok (.iload_n 1, 1)) rfl).to, ?_⟩
  refine List.forall_mem_cons.mpr ⟨(s_iload (by decide +kernel : decode cX11_saying 77 = .ok (.iload 4, 2))).to, ?_⟩
  refine List.forall_mem_cons.mpr ⟨z_cv (by decide +kernel : decode cX11_saying 79 = .ok (.invokevirtual 527, 3)) mt227 wd1910 (ci := 11) rfl (by decide), ?_⟩
  refine List.forall_mem_cons.mpr ⟨(s_if_eq (by decide +kernel : decode cX11_saying 82 = .ok (.ifCond .eq 7, 3)) (by decide)).to, ?_⟩
  refine List.forall_mem_cons.mpr ⟨(s_iconst (by decide +kernel : decode cX11_saying 85 = .ok (.iconst 1, 1)) (by decide)).to, ?_⟩
  refine List.forall_mem_cons.mpr ⟨(s_goto (by decide +kernel : decode cX11_saying 86 = .ok (.goto 4, 3)) (by decide)).to, ?_⟩
  refine List.forall_mem_cons.mpr ⟨(s_iconst (by decide +kernel : decode cX11_saying 89 = .ok (.iconst 0, 1)) (by decide)).to, ?_⟩
  refine List.forall_mem_cons.mpr ⟨s_iret (by decide +kernel : decode cX11_saying 90 = .ok (.ireturn, 1)) rfl, ?_⟩
  refine List.forall_mem_cons.mpr ⟨(s_aloadn (by decide +kernel : decode cX11_saying 91 = .ok (.aload_n 0, 1)) rfl).to, ?_⟩
  refine List.forall_mem_cons.mpr ⟨(s_iloadn (by decide +kernel : decode cX11_saying 92 = .ok (.iload_n 1, 1)) rfl).to, ?_⟩
  refine List.forall_mem_cons.mpr ⟨(s_aloadn (by decide +kernel : decode cX11_saying 93 = .ok (.aload_n 0, 1)) rfl).to, ?_⟩
  refine List.forall_mem_cons.mpr ⟨(s_iloadn (by decide +kernel : decode cX11_saying 94 = .ok (.iload_n 1, 1)) rfl).to, ?_⟩
  refine List.forall_mem_cons.mpr ⟨(s_iload (by decide +kernel : decode cX11_saying 95 = .ok (.iload 4, 2))).to, ?_⟩
  refine List.forall_mem_cons.mpr ⟨z_cv (by decide +kernel : decode cX11_saying 97 = .ok (.invokevirtual 499, 3)) mt226 wd1842 (ci := 11) rfl (by decide), ?_⟩
  refine List.forall_mem_cons.mpr ⟨(s_aloadn (by decide +kernel : decode cX11_saying 100 = .ok (.aload_n 0, 1)) rfl).to, ?_⟩
  refine List.forall_mem_cons.mpr ⟨(s_iloadn (by decide +kernel : decode cX11_saying 101 = .ok (.iload_n 1, 1)) rfl).to, ?_⟩
  refine List.forall_mem_cons.mpr ⟨(s_iload (by decide +kernel : decode cX11_saying 102 = .ok (.iload 4, 2))).to, ?_⟩
  refine List.forall_mem_cons.mpr ⟨z_cv (by decide +kernel : decode cX11_saying 104 = .ok (.invokevirtual 527, 3)) mt227 wd1910 (ci := 11) rfl (by decide), ?_⟩
  refine List.forall_mem_cons.mpr ⟨z_cv (by decide +kernel : decode cX11_saying 107 = .ok (.invokevirtual 530, 3)) mt235 wd1914 (ci := 11) rfl (by decide), ?_⟩
  refine List.forall_mem_cons.mpr ⟨(s_if_eq (by decide +kernel : decode cX11_saying 110 = .ok (.ifCond .eq 7, 3)) (by decide)).to, ?_⟩
  refine List.forall_mem_cons.mpr ⟨(s_iconst (by decide +kernel : decode cX11_saying 113 = .ok (.iconst 1, 1)) (by decide)).to, ?_⟩
  refine List.forall_mem_cons.mpr ⟨(s_goto (by decide +kernel : decode cX11_saying 114 = .ok (.goto 4, 3)) (by decide)).to, ?_⟩
  refine List.forall_mem_cons.mpr ⟨(s_iconst (by decide +kernel : decode cX11_saying 117 = .ok (.iconst 0, 1)) (by decide)).to, ?_⟩
  refine List.forall_mem_cons.mpr ⟨s_iret (by decide +kernel : decode cX11_saying 118 = .ok (.ireturn, 1)) rfl, ?_⟩
  refine List.forall_mem_cons.mpr ⟨(s_aloadn (by decide +kernel : decode cX11_saying 119 = .ok (.aload_n 0, 1)) rfl).to, ?_⟩
  refine List.forall_mem_cons.mpr ⟨(s_iloadn (by decide +kernel : decode cX11_saying 120 = .ok (.iload_n 1, 1)) rfl).to, ?_⟩
  refine List.forall_mem_cons.mpr ⟨z_cv (by decide +kernel : decode cX11_saying 121 = .ok (.invokevirtual 552, 3)) mt248 wd1902 (ci := 11) rfl (by decide), ?_⟩
  refine List.forall_mem_cons.mpr ⟨(s_aloadn (by decide +kernel : decode cX11_saying 124 = .ok (.aload_n 0, 1)) rfl).to, ?_⟩
  refine List.forall_mem_cons.mpr ⟨(s_get (ci := 11) (k := 69) (by decide +kernel : decode cX11_saying 125 = .ok (.getfield 222, 3)) rfl (by decide) wd1402 inX11 rfl).to, ?_⟩
  refine List.forall_mem_cons.mpr ⟨(s_iloadn (by decide +kernel : decode cX11_saying 128 = .ok (.iload_n 2, 1)) rfl).to, ?_⟩
  refine List.forall_mem_cons.mpr ⟨(s_zald (by decide +kernel : decode cX11_saying 129 = .ok (.baload, 1))).to, ?_⟩
  refine List.forall_mem_cons.mpr ⟨(s_if_eq (by decide +kernel : decode cX11_saying 130 = .ok (.ifCond .eq 7, 3)) (by decide)).to, ?_⟩
  refine List.forall_mem_cons.mpr ⟨(s_iconst (by decide +kernel : decode cX11_saying 133 = .ok (.iconst 1, 1)) (by decide)).to, ?_⟩
  refine List.forall_mem_cons.mpr ⟨(s_goto (by decide +kernel : decode cX11_saying 134 = .ok (.goto 4, 3)) (by decide)).to, ?_⟩
  exact fun _ h => absurd h List.not_mem_nil
theorem sn_tX11_saying_1 : ∀ q ∈ tX11_saying_1, am_Snd am_P0 RX11 cX11_saying 5 (Option.some FieldType.int) "saying" q.1 q.2 := by
  unfold tX11_saying_1
  refine List.forall_mem_cons.mpr ⟨(s_iconst (by decide +kernel : decode cX11_saying 137 = .ok (.iconst 0, 1)) (by decide)).to, ?_⟩
  refine List.forall_mem_cons.mpr ⟨s_iret (by decide +kernel : decode cX11_saying 138 = .ok (.ireturn, 1)) rfl, ?_⟩
  refine List.forall_mem_cons.mpr ⟨(s_iconst (by decide +kernel : decode cX11_saying 139 = .ok (.iconst (-1), 1)) (by decide)).to, ?_⟩
  refine List.forall_mem_cons.mpr ⟨s_iret (by decide +kernel : decode cX11_saying 140 = .ok (.ireturn, 1)) rfl, ?_⟩
  exact fun _ h => absurd h List.not_mem_nil
theorem sn_tX11_saying : ∀ q ∈ tX11_saying, am_Snd am_P0 RX11 cX11_saying 5 (Option.some FieldType.int) "saying" q.1 q.2 := by
  unfold tX11_saying
  exact List.forall_mem_append.mpr ⟨sn_tX11_saying_0, sn_tX11_saying_1⟩
