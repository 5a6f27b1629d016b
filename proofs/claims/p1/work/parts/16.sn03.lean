/-! the machine follows each instruction (by program: gen_prog.py) -/
theorem sn_tX8_pushApart_0 : ∀ q ∈ tX8_pushApart_0, am_Snd am_P0 RX8 cX8_pushApart 8 (Option.some FieldType.int) "pushApart" q.1 q.2 := by
  unfold tX8_pushApart_0
  refine List.forall_mem_cons.mpr ⟨(s_iloadn (by decide +kernel : decode cX8_pushApart 0 = .ok (.iload_n 2, 1)) rfl).to, ?_⟩
  refine List.forall_mem_cons.mpr ⟨(s_istoren (by decide +kernel : decode cX8_pushApart 1 = .ok (.istore_n 3, 1)) rfl (by decide)).to, ?_⟩
  refine List.forall_mem_cons.mpr ⟨(s_iloadn (by decide +kernel : decode cX8_pushApart 2 = .ok (.iload_n 1, 1)) rfl).to, ?_⟩
  refine List.forall_mem_cons.mpr ⟨(s_istore (by decide +kernel : decode cX8_pushApart 3 = .ok (.istore 4, 2)) (by decide)).to, ?_⟩
  refine List.forall_mem_cons.mpr ⟨(s_iload (by decide +kernel : decode cX8_pushApart 5 = .ok (.iload 4, 2))).to, ?_⟩
  refine List.forall_mem_cons.mpr ⟨(s_iloadn (by decide +kernel : decode cX8_pushApart 7 = .ok (.iload_n 3, 1)) rfl).to, ?_⟩
  refine List.forall_mem_cons.mpr ⟨(s_icmp_ge (by decide +kernel : decode cX8_pushApart 8 = .ok (.if_icmp .ge 176, 3)) (by decide)).to, ?_⟩
  refine List.forall_mem_cons.mpr ⟨(s_iload (by decide +kernel : decode cX8_pushApart 11 = .ok (.iload 4, 2))).to, ?_⟩
  refine List.forall_mem_cons.mpr ⟨(s_bipush (by decide +kernel : decode cX8_pushApart 13 = .ok (.bipush 48, 2)) (by decide)).to, ?_⟩
  refine List.forall_mem_cons.mpr ⟨(s_icmp_ge (by decide +kernel : decode cX8_pushApart 15 = .ok (.if_icmp .ge 169, 3)) (by decide)).to, ?_⟩
  refine List.forall_mem_cons.mpr ⟨(s_aloadn (by decide +kernel : decode cX8_pushApart 18 = .ok (.aload_n 0, 1)) rfl).to, ?_⟩
  refine List.forall_mem_cons.mpr ⟨(s_get (ci := 8) (k := 16) (by decide +kernel : decode cX8_pushApart 19 = .ok (.getfield 40, 3)) rfl (by decide) wd543 inX8 rfl).to, ?_⟩
  refine List.forall_mem_cons.mpr ⟨(s_iload (by decide +kernel : decode cX8_pushApart 22 = .ok (.iload 4, 2))).to, ?_⟩
  refine List.forall_mem_cons.mpr ⟨(s_iald (by decide +kernel : decode cX8_pushApart 24 = .ok (.iaload, 1))).to, ?_⟩
  refine List.forall_mem_cons.mpr ⟨(s_istore (by decide +kernel : decode cX8_pushApart 25 = .ok (.istore 5, 2)) (by decide)).to, ?_⟩
  refine List.forall_mem_cons.mpr ⟨(s_iconst (by decide +kernel : decode cX8_pushApart 27 = .ok (.iconst 0, 1)) (by decide)).to, ?_⟩
  refine List.forall_mem_cons.mpr ⟨(s_istore (by decide +kernel : decode cX8_pushApart 28 = .ok (.istore 6, 2)) (by decide)).to, ?_⟩
  refine List.forall_mem_cons.mpr ⟨(s_iload (by decide +kernel : decode cX8_pushApart 30 = .ok (.iload 6, 2))).to, ?_⟩
  refine List.forall_mem_cons.mpr ⟨(s_aloadn (by decide +kernel : decode cX8_pushApart 32 = .ok (.aload_n 0, 1)) rfl).to, ?_⟩
  refine List.forall_mem_cons.mpr ⟨(s_get (ci := 8) (k := 0) (by decide +kernel : decode cX8_pushApart 33 = .ok (.getfield 47, 3)) rfl (by decide) wd518 inX8 rfl).to, ?_⟩
  refine List.forall_mem_cons.mpr ⟨(s_get (ci := 6) (k := 5) (by decide +kernel : decode cX8_pushApart 36 = .ok (.getfield 117, 3)) rfl (by decide) wd254 inX6 rfl).to, ?_⟩
  refine List.forall_mem_cons.mpr ⟨(s_icmp_ge (by decide +kernel : decode cX8_pushApart 39 = .ok (.if_icmp .ge 139, 3)) (by decide)).to, ?_⟩
  refine List.forall_mem_cons.mpr ⟨(s_aloadn (by decide +kernel : decode cX8_pushApart 42 = .ok (.aload_n 0, 1)) rfl).to, ?_⟩
  refine List.forall_mem_cons.mpr ⟨(s_get (ci := 8) (k := 0) (by decide +kernel : decode cX8_pushApart 43 = .ok (.getfield 47, 3)) rfl (by decide) wd518 inX8 rfl).to, ?_⟩
  refine List.forall_mem_cons.mpr ⟨(s_get (ci := 6) (k := 6) (by decide +kernel : decode cX8_pushApart 46 = .ok (.getfield 82, 3)) rfl (by decide) wd258 inX6 rfl).to, ?_⟩
  refine List.forall_mem_cons.mpr ⟨(s_iload (by decide +kernel : decode cX8_pushApart 49 = .ok (.iload 5, 2))).to, ?_⟩
  refine List.forall_mem_cons.mpr ⟨(s_iald (by decide +kernel : decode cX8_pushApart 51 = .ok (.iaload, 1))).to, ?_⟩
  refine List.forall_mem_cons.mpr ⟨(s_aloadn (by decide +kernel : decode cX8_pushApart 52 = .ok (.aload_n 0, 1)) rfl).to, ?_⟩
  refine List.forall_mem_cons.mpr ⟨(s_get (ci := 8) (k := 0) (by decide +kernel : decode cX8_pushApart 53 = .ok (.getfield 47, 3)) rfl (by decide) wd518 inX8 rfl).to, ?_⟩
  refine List.forall_mem_cons.mpr ⟨(s_get (ci := 6) (k := 6) (by decide +kernel : decode cX8_pushApart 56 = .ok (.getfield 82, 3)) rfl (by decide) wd258 inX6 rfl).to, ?_⟩
  refine List.forall_mem_cons.mpr ⟨(s_iload (by decide +kernel : decode cX8_pushApart 59 = .ok (.iload 6, 2))).to, ?_⟩
  refine List.forall_mem_cons.mpr ⟨(s_iald (by decide +kernel : decode cX8_pushApart 61 = .ok (.iaload, 1))).to, ?_⟩
  refine List.forall_mem_cons.mpr ⟨(s_isub (by decide +kernel : decode cX8_pushApart 62 = .ok (.isub, 1))).to, ?_⟩
  refine List.forall_mem_cons.mpr ⟨z_cs (by decide +kernel : decode cX8_pushApart 63 = .ok (.invokestatic 85, 3)) mt306 wd1057, ?_⟩
  refine List.forall_mem_cons.mpr ⟨(s_istore (by decide +kernel : decode cX8_pushApart 66 = .ok (.istore 7, 2)) (by decide)).to, ?_⟩
  refine List.forall_mem_cons.mpr ⟨(s_iload (by decide +kernel : decode cX8_pushApart 68 = .ok (.iload 6, 2))).to, ?_⟩
  refine List.forall_mem_cons.mpr ⟨(s_iload (by decide +kernel : decode cX8_pushApart 70 = .ok (.iload 5, 2))).to, ?_⟩
  refine List.forall_mem_cons.mpr ⟨(s_icmp_eq (by decide +kernel : decode cX8_pushApart 72 = .ok (.if_icmp .eq 100, 3)) (by decide)).to, ?_⟩
  refine List.forall_mem_cons.mpr ⟨(s_aloadn (by decide +kernel : decode cX8_pushApart 75 = .ok (.aload_n 0, 1)) rfl).to, ?_⟩
  refine List.forall_mem_cons.mpr ⟨(s_get (ci := 8) (k := 2) (by decide +kernel : decode cX8_pushApart 76 = .ok (.getfield 12, 3)) rfl (by decide) wd521 inX8 rfl).to, ?_⟩
  refine List.forall_mem_cons.mpr ⟨(s_aloadn (by decide +kernel : decode cX8_pushApart 79 = .ok (.aload_n 0, 1)) rfl).to, ?_⟩
  refine List.forall_mem_cons.mpr ⟨(s_get (ci := 8) (k := 0) (by decide +kernel : decode cX8_pushApart 80 = .ok (.getfield 47, 3)) rfl (by decide) wd518 inX8 rfl).to, ?_⟩
  refine List.forall_mem_cons.mpr ⟨(s_get (ci := 6) (k := 7) (by decide +kernel : decode cX8_pushApart 83 = .ok (.getfield 91, 3)) rfl (by decide) wd261 inX6 rfl).to, ?_⟩
  refine List.forall_mem_cons.mpr ⟨(s_iload (by decide +kernel : decode cX8_pushApart 86 = .ok (.iload 5, 2))).to, ?_⟩
  refine List.forall_mem_cons.mpr ⟨(s_iald (by decide +kernel : decode cX8_pushApart 88 = .ok (.iaload, 1))).to, ?_⟩
  refine List.forall_mem_cons.mpr ⟨(s_aloadn (by decide +kernel : decode cX8_pushApart 89 = .ok (.aload_n 0, 1)) rfl).to, ?_⟩
  refine List.forall_mem_cons.mpr ⟨(s_get (ci := 8) (k := 0) (by decide +kernel : decode cX8_pushApart 90 = .ok (.getfield 47, 3)) rfl (by decide) wd518 inX8 rfl).to, ?_⟩
  refine List.forall_mem_cons.mpr ⟨(s_get (ci := 6) (k := 7) (by decide +kernel : decode cX8_pushApart 93 = .ok (.getfield 91, 3)) rfl (by decide) wd261 inX6 rfl).to, ?_⟩
  refine List.forall_mem_cons.mpr ⟨(s_iload (by decide +kernel : decode cX8_pushApart 96 = .ok (.iload 6, 2))).to, ?_⟩
  refine List.forall_mem_cons.mpr ⟨(s_iald (by decide +kernel : decode cX8_pushApart 98 = .ok (.iaload, 1))).to, ?_⟩
  refine List.forall_mem_cons.mpr ⟨(s_iload (by decide +kernel : decode cX8_pushApart 99 = .ok (.iload 7, 2))).to, ?_⟩
  refine List.forall_mem_cons.mpr ⟨z_cv (by decide +kernel : decode cX8_pushApart 101 = .ok (.invokevirtual 94, 3)) mt104 wd987 (ci := 9) rfl (by decide), ?_⟩
  refine List.forall_mem_cons.mpr ⟨(s_if_eq (by decide +kernel : decode cX8_pushApart 104 = .ok (.ifCond .eq 6, 3)) (by decide)).to, ?_⟩
  refine List.forall_mem_cons.mpr ⟨(s_goto (by decide +kernel : decode cX8_pushApart 107 = .ok (.goto 65, 3)) (by decide)).to, ?_⟩
  refine List.forall_mem_cons.mpr ⟨(s_aloadn (by decide +kernel : decode cX8_pushApart 110 = .ok (.aload_n 0, 1)) rfl).to, ?_⟩
  refine List.forall_mem_cons.mpr ⟨(s_get (ci := 8) (k := 15) (by decide +kernel : decode cX8_pushApart 111 = .ok (.getfield 36, 3)) rfl (by decide) wd542 inX8 rfl).to, ?_⟩
  refine List.forall_mem_cons.mpr ⟨(s_iload (by decide +kernel : decode cX8_pushApart 114 = .ok (.iload 6, 2))).to, ?_⟩
  refine List.forall_mem_cons.mpr ⟨(s_iald (by decide +kernel : decode cX8_pushApart 116 = .ok (.iaload, 1))).to, ?_⟩
  refine List.forall_mem_cons.mpr ⟨(s_aloadn (by decide +kernel : decode cX8_pushApart 117 = .ok (.aload_n 0, 1)) rfl).to, ?_⟩
  refine List.forall_mem_cons.mpr ⟨(s_get (ci := 8) (k := 15) (by decide +kernel : decode cX8_pushApart 118 = .ok (.getfield 36, 3)) rfl (by decide) wd542 inX8 rfl).to, ?_⟩
  exact fun _ h => absurd h List.not_mem_nil
theorem sn_tX8_pushApart_1 : ∀ q ∈ tX8_pushApart_1, am_Snd am_P0 RX8 cX8_pushApart 8 (Option.some FieldType.int) "pushApart" q.1 q.2 := by
  unfold tX8_pushApart_1
  refine List.forall_mem_cons.mpr ⟨(s_iload (by decide +kernel : decode cX8_pushApart 121 = .ok (.iload 5, 2))).to, ?_⟩
  refine List.forall_mem_cons.mpr ⟨(s_iald (by decide +kernel : decode cX8_pushApart 123 = .ok (.iaload, 1))).to, ?_⟩
  refine List.forall_mem_cons.mpr ⟨(s_icmp_ne (by decide +kernel : decode cX8_pushApart 124 = .ok (.if_icmp .ne 5, 3)) (by decide)).to, ?_⟩
  refine List.forall_mem_cons.mpr ⟨(s_iconst (by decide +kernel : decode cX8_pushApart 127 = .ok (.iconst (-1), 1)) (by decide)).to, ?_⟩
  refine List.forall_mem_cons.mpr ⟨s_iret (by decide +kernel : decode cX8_pushApart 128 = .ok (.ireturn, 1)) rfl, ?_⟩
  refine List.forall_mem_cons.mpr ⟨(s_aloadn (by decide +kernel : decode cX8_pushApart 129 = .ok (.aload_n 0, 1)) rfl).to, ?_⟩
  refine List.forall_mem_cons.mpr ⟨(s_get (ci := 8) (k := 15) (by decide +kernel : decode cX8_pushApart 130 = .ok (.getfield 36, 3)) rfl (by decide) wd542 inX8 rfl).to, ?_⟩
  refine List.forall_mem_cons.mpr ⟨(s_iload (by decide +kernel : decode cX8_pushApart 133 = .ok (.iload 6, 2))).to, ?_⟩
  refine List.forall_mem_cons.mpr ⟨(s_iald (by decide +kernel : decode cX8_pushApart 135 = .ok (.iaload, 1))).to, ?_⟩
  refine List.forall_mem_cons.mpr ⟨(s_if_ne (by decide +kernel : decode cX8_pushApart 136 = .ok (.ifCond .ne 36, 3)) (by decide)).to, ?_⟩
  refine List.forall_mem_cons.mpr ⟨(s_iloadn (by decide +kernel : decode cX8_pushApart 139 = .ok (.iload_n 3, 1)) rfl).to, ?_⟩
  refine List.forall_mem_cons.mpr ⟨(s_bipush (by decide +kernel : decode cX8_pushApart 140 = .ok (.bipush 48, 2)) (by decide)).to, ?_⟩
  refine List.forall_mem_cons.mpr ⟨(s_icmp_ge (by decide +kernel : decode cX8_pushApart 142 = .ok (.if_icmp .ge 30, 3)) (by decide)).to, ?_⟩
  refine List.forall_mem_cons.mpr ⟨(s_aloadn (by decide +kernel : decode cX8_pushApart 145 = .ok (.aload_n 0, 1)) rfl).to, ?_⟩
  refine List.forall_mem_cons.mpr ⟨(s_get (ci := 8) (k := 15) (by decide +kernel : decode cX8_pushApart 146 = .ok (.getfield 36, 3)) rfl (by decide) wd542 inX8 rfl).to, ?_⟩
  refine List.forall_mem_cons.mpr ⟨(s_iload (by decide +kernel : decode cX8_pushApart 149 = .ok (.iload 6, 2))).to, ?_⟩
  refine List.forall_mem_cons.mpr ⟨(s_iconst (by decide +kernel : decode cX8_pushApart 151 = .ok (.iconst 3, 1)) (by decide)).to, ?_⟩
  refine List.forall_mem_cons.mpr ⟨(s_aloadn (by decide +kernel : decode cX8_pushApart 152 = .ok (.aload_n 0, 1)) rfl).to, ?_⟩
  refine List.forall_mem_cons.mpr ⟨(s_get (ci := 8) (k := 15) (by decide +kernel : decode cX8_pushApart 153 = .ok (.getfield 36, 3)) rfl (by decide) wd542 inX8 rfl).to, ?_⟩
  refine List.forall_mem_cons.mpr ⟨(s_iload (by decide +kernel : decode cX8_pushApart 156 = .ok (.iload 5, 2))).to, ?_⟩
  refine List.forall_mem_cons.mpr ⟨(s_iald (by decide +kernel : decode cX8_pushApart 158 = .ok (.iaload, 1))).to, ?_⟩
  refine List.forall_mem_cons.mpr ⟨(s_isub (by decide +kernel : decode cX8_pushApart 159 = .ok (.isub, 1))).to, ?_⟩
  refine List.forall_mem_cons.mpr ⟨(s_iast (by decide +kernel : decode cX8_pushApart 160 = .ok (.iastore, 1))).to, ?_⟩
  refine List.forall_mem_cons.mpr ⟨(s_aloadn (by decide +kernel : decode cX8_pushApart 161 = .ok (.aload_n 0, 1)) rfl).to, ?_⟩
  refine List.forall_mem_cons.mpr ⟨(s_get (ci := 8) (k := 16) (by decide +kernel : decode cX8_pushApart 162 = .ok (.getfield 40, 3)) rfl (by decide) wd543 inX8 rfl).to, ?_⟩
  refine List.forall_mem_cons.mpr ⟨(s_iloadn (by decide +kernel : decode cX8_pushApart 165 = .ok (.iload_n 3, 1)) rfl).to, ?_⟩
  refine List.forall_mem_cons.mpr ⟨(s_iload (by decide +kernel : decode cX8_pushApart 166 = .ok (.iload 6, 2))).to, ?_⟩
  refine List.forall_mem_cons.mpr ⟨(s_iast (by decide +kernel : decode cX8_pushApart 168 = .ok (.iastore, 1))).to, ?_⟩
  refine List.forall_mem_cons.mpr ⟨(s_iinc (by decide +kernel : decode cX8_pushApart 169 = .ok (.iinc 3 1, 3)) (by decide) (by decide)).to, ?_⟩
  refine List.forall_mem_cons.mpr ⟨(s_iinc (by decide +kernel : decode cX8_pushApart 172 = .ok (.iinc 6 1, 3)) (by decide) (by decide)).to, ?_⟩
  refine List.forall_mem_cons.mpr ⟨(s_goto (by decide +kernel : decode cX8_pushApart 175 = .ok (.goto (-145), 3)) (by decide)).to, ?_⟩
  refine List.forall_mem_cons.mpr ⟨(s_iinc (by decide +kernel : decode cX8_pushApart 178 = .ok (.iinc 4 1, 3)) (by decide) (by decide)).to, ?_⟩
  refine List.forall_mem_cons.mpr ⟨(s_goto (by decide +kernel : decode cX8_pushApart 181 = .ok (.goto (-176), 3)) (by decide)).to, ?_⟩
  refine List.forall_mem_cons.mpr ⟨(s_iloadn (by decide +kernel : decode cX8_pushApart 184 = .ok (.iload_n 3, 1)) rfl).to, ?_⟩
  refine List.forall_mem_cons.mpr ⟨s_iret (by decide +kernel : decode cX8_pushApart 185 = .ok (.ireturn, 1)) rfl, ?_⟩
  exact fun _ h => absurd h List.not_mem_nil
theorem sn_tX8_pushApart : ∀ q ∈ tX8_pushApart, am_Snd am_P0 RX8 cX8_pushApart 8 (Option.some FieldType.int) "pushApart" q.1 q.2 := by
  unfold tX8_pushApart
  exact List.forall_mem_append.mpr ⟨sn_tX8_pushApart_0, sn_tX8_pushApart_1⟩
theorem sn_tX8_isMarked : ∀ q ∈ tX8_isMarked, am_Snd am_P0 RX8 cX8_isMarked 3 (Option.some FieldType.boolean) "isMarked" q.1 q.2 := by
  unfold tX8_isMarked
  refine List.forall_mem_cons.mpr ⟨(s_iconst (by decide +kernel : decode cX8_isMarked 0 = .ok (.iconst 0, 1)) (by decide)).to, ?_⟩
  refine List.forall_mem_cons.mpr ⟨(s_istoren (by decide +kernel : decode cX8_isMarked 1 = .ok (.istore_n 2, 1)) rfl (by decide)).to, ?_⟩
  refine List.forall_mem_cons.mpr ⟨(s_iloadn (by decide +kernel : decode cX8_isMarked 2 = .ok (.iload_n 2, 1)) rfl).to, ?_⟩
  refine List.forall_mem_cons.mpr ⟨(s_aloadn (by decide +kernel : decode cX8_isMarked 3 = .ok (.aload_n 0, 1)) rfl).to, ?_⟩
  refine List.forall_mem_cons.mpr ⟨(s_get (ci := 8) (k := 0) (by decide +kernel : decode cX8_isMarked 4 = .ok (.getfield 47, 3)) rfl (by decide) wd518 inX8 rfl).to, ?_⟩
  refine List.forall_mem_cons.mpr ⟨(s_get (ci := 6) (k := 5) (by decide +kernel : decode cX8_isMarked 7 = .ok (.getfield 117, 3)) rfl (by decide) wd254 inX6 rfl).to, ?_⟩
  refine List.forall_mem_cons.mpr ⟨(s_icmp_ge (by decide +kernel : decode cX8_isMarked 10 = .ok (.if_icmp .ge 21, 3)) (by decide)).to, ?_⟩
  refine List.forall_mem_cons.mpr ⟨(s_aloadn (by decide +kernel : decode cX8_isMarked 13 = .ok (.aload_n 0, 1)) rfl).to, ?_⟩
  refine List.forall_mem_cons.mpr ⟨(s_get (ci := 8) (k := 15) (by decide +kernel : decode cX8_isMarked 14 = .ok (.getfield 36, 3)) rfl (by decide) wd542 inX8 rfl).to, ?_⟩
  refine List.forall_mem_cons.mpr ⟨(s_iloadn (by decide +kernel : decode cX8_isMarked 17 = .ok (.iload_n 2, 1)) rfl).to, ?_⟩
  refine List.forall_mem_cons.mpr ⟨(s_iald (by decide +kernel : decode cX8_isMarked 18 = .ok (.iaload, 1))).to, ?_⟩
  refine List.forall_mem_cons.mpr ⟨(s_iloadn (by decide +kernel : decode cX8_isMarked 19 = .ok (.iload_n 1, 1)) rfl).to, ?_⟩
  refine List.forall_mem_cons.mpr ⟨(s_icmp_ne (by decide +kernel : decode cX8_isMarked 20 = .ok (.if_icmp .ne 5, 3)) (by decide)).to, ?_⟩
  refine List.forall_mem_cons.mpr ⟨(s_iconst (by decide +kernel : decode cX8_isMarked 23 = .ok (.iconst 1, 1)) (by decide)).to, ?_⟩
  refine List.forall_mem_cons.mpr ⟨s_zret (by decide +kernel : decode cX8_isMarked 24 = .ok (.ireturn, 1)) rfl, ?_⟩
  refine List.forall_mem_cons.mpr ⟨(s_iinc (by decide +kernel : decode cX8_isMarked 25 = .ok (.iinc 2 1, 3)) (by decide) (by decide)).to, ?_⟩
  refine List.forall_mem_cons.mpr ⟨(s_goto (by decide +kernel : decode cX8_isMarked 28 = .ok (.goto (-26), 3)) (by decide)).to, ?_⟩
  refine List.forall_mem_cons.mpr ⟨(s_iconst (by decide +kernel : decode cX8_isMarked 31 = .ok (.iconst 0, 1)) (by decide)).to, ?_⟩
  refine List.forall_mem_cons.mpr ⟨s_zret (by decide +kernel : decode cX8_isMarked 32 = .ok (.ireturn, 1)) rfl, ?_⟩
  exact fun _ h => absurd h List.not_mem_nil
theorem sn_tX8_hoursBetweenEnds : ∀ q ∈ tX8_hoursBetweenEnds, am_Snd am_P0 RX8 cX8_hoursBetweenEnds 1 (Option.some FieldType.int) "hoursBetweenEnds" q.1 q.2 := by
  unfold tX8_hoursBetweenEnds
  refine List.forall_mem_cons.mpr ⟨(s_aloadn (by decide +kernel : decode cX8_hoursBetweenEnds 0 = .ok (.aload_n 0, 1)) rfl).to, ?_⟩
  refine List.forall_mem_cons.mpr ⟨(s_get (ci := 8) (k := 0) (by decide +kernel : decode cX8_hoursBetweenEnds 1 = .ok (.getfield 47, 3)) rfl (by decide) wd518 inX8 rfl).to, ?_⟩
  refine List.forall_mem_cons.mpr ⟨(s_get (ci := 6) (k := 5) (by decide +kernel : decode cX8_hoursBetweenEnds 4 = .ok (.getfield 117, 3)) rfl (by decide) wd254 inX6 rfl).to, ?_⟩
  refine List.forall_mem_cons.mpr ⟨(s_iconst (by decide +kernel : decode cX8_hoursBetweenEnds 7 = .ok (.iconst 2, 1)) (by decide)).to, ?_⟩
  refine List.forall_mem_cons.mpr ⟨(s_icmp_ge (by decide +kernel : decode cX8_hoursBetweenEnds 8 = .ok (.if_icmp .ge 7, 3)) (by decide)).to, ?_⟩
  refine List.forall_mem_cons.mpr ⟨(s_iconst (by decide +kernel : decode cX8_hoursBetweenEnds 11 = .ok (.iconst 0, 1)) (by decide)).to, ?_⟩
  refine List.forall_mem_cons.mpr ⟨(s_goto (by decide +kernel : decode cX8_hoursBetweenEnds 12 = .ok (.goto 32, 3)) (by decide)).to, ?_⟩
  refine List.forall_mem_cons.mpr ⟨(s_aloadn (by decide +kernel : decode cX8_hoursBetweenEnds 15 = .ok (.aload_n 0, 1)) rfl).to, ?_⟩
  refine List.forall_mem_cons.mpr ⟨(s_get (ci := 8) (k := 0) (by decide +kernel : decode cX8_hoursBetweenEnds 16 = .ok (.getfield 47, 3)) rfl (by decide) wd518 inX8 rfl).to, ?_⟩
  refine List.forall_mem_cons.mpr ⟨(s_get (ci := 6) (k := 6) (by decide +kernel : decode cX8_hoursBetweenEnds 19 = .ok (.getfield 82, 3)) rfl (by decide) wd258 inX6 rfl).to, ?_⟩
  refine List.forall_mem_cons.mpr ⟨(s_aloadn (by decide +kernel : decode cX8_hoursBetweenEnds 22 = .ok (.aload_n 0, 1)) rfl).to, ?_⟩
  refine List.forall_mem_cons.mpr ⟨(s_get (ci := 8) (k := 0) (by decide +kernel : decode cX8_hoursBetweenEnds 23 = .ok (.getfield 47, 3)) rfl (by decide) wd518 inX8 rfl).to, ?_⟩
  refine List.forall_mem_cons.mpr ⟨(s_get (ci := 6) (k := 5) (by decide +kernel : decode cX8_hoursBetweenEnds 26 = .ok (.getfield 117, 3)) rfl (by decide) wd254 inX6 rfl).to, ?_⟩
  refine List.forall_mem_cons.mpr ⟨(s_iconst (by decide +kernel : decode cX8_hoursBetweenEnds 29 = .ok (.iconst 1, 1)) (by decide)).to, ?_⟩
  refine List.forall_mem_cons.mpr ⟨(s_isub (by decide +kernel : decode cX8_hoursBetweenEnds 30 = .ok (.isub, 1))).to, ?_⟩
  refine List.forall_mem_cons.mpr ⟨(s_iald (by decide +kernel : decode cX8_hoursBetweenEnds 31 = .ok (.iaload, 1))).to, ?_⟩
  refine List.forall_mem_cons.mpr ⟨(s_aloadn (by decide +kernel : decode cX8_hoursBetweenEnds 32 = .ok (.aload_n 0, 1)) rfl).to, ?_⟩
  refine List.forall_mem_cons.mpr ⟨(s_get (ci := 8) (k := 0) (by decide +kernel : decode cX8_hoursBetweenEnds 33 = .ok (.getfield 47, 3)) rfl (by decide) wd518 inX8 rfl).to, ?_⟩
  refine List.forall_mem_cons.mpr ⟨(s_get (ci := 6) (k := 6) (by decide +kernel : decode cX8_hoursBetweenEnds 36 = .ok (.getfield 82, 3)) rfl (by decide) wd258 inX6 rfl).to, ?_⟩
  refine List.forall_mem_cons.mpr ⟨(s_iconst (by decide +kernel : decode cX8_hoursBetweenEnds 39 = .ok (.iconst 0, 1)) (by decide)).to, ?_⟩
  refine List.forall_mem_cons.mpr ⟨(s_iald (by decide +kernel : decode cX8_hoursBetweenEnds 40 = .ok (.iaload, 1))).to, ?_⟩
  refine List.forall_mem_cons.mpr ⟨(s_isub (by decide +kernel : decode cX8_hoursBetweenEnds 41 = .ok (.isub, 1))).to, ?_⟩
  refine List.forall_mem_cons.mpr ⟨(s_iconst (by decide +kernel : decode cX8_hoursBetweenEnds 42 = .ok (.iconst 1, 1)) (by decide)).to, ?_⟩
  refine List.forall_mem_cons.mpr ⟨(s_isub (by decide +kernel : decode cX8_hoursBetweenEnds 43 = .ok (.isub, 1))).to, ?_⟩
  refine List.forall_mem_cons.mpr ⟨s_iret (by decide +kernel : decode cX8_hoursBetweenEnds 44 = .ok (.ireturn, 1)) rfl, ?_⟩
  exact fun _ h => absurd h List.not_mem_nil
theorem sn_tX8_countGaps_0 : ∀ q ∈ tX8_countGaps_0, am_Snd am_P0 RX8 cX8_countGaps 3 (Option.none : Option FieldType) "countGaps" q.1 q.2 := by
  unfold tX8_countGaps_0
  refine List.forall_mem_cons.mpr ⟨(s_aloadn (by decide +kernel : decode cX8_countGaps 0 = .ok (.aload_n 0, 1)) rfl).to, ?_⟩
  refine List.forall_mem_cons.mpr ⟨(s_get (ci := 8) (k := 5) (by decide +kernel : decode cX8_countGaps 1 = .ok (.getfield 65, 3)) rfl (by decide) wd525 inX8 rfl).to, ?_⟩
  refine List.forall_mem_cons.mpr ⟨(s_if_eq (by decide +kernel : decode cX8_countGaps 4 = .ok (.ifCond .eq 4, 3)) (by decide)).to, ?_⟩
  refine List.forall_mem_cons.mpr ⟨s_vret (by decide +kernel : decode cX8_countGaps 7 = .ok (.return_, 1)) rfl, ?_⟩
  refine List.forall_mem_cons.mpr ⟨(s_aloadn (by decide +kernel : decode cX8_countGaps 8 = .ok (.aload_n 0, 1)) rfl).to, ?_⟩
  refine List.forall_mem_cons.mpr ⟨(s_iconst (by decide +kernel : decode cX8_countGaps 9 = .ok (.iconst 1, 1)) (by decide)).to, ?_⟩
  refine List.forall_mem_cons.mpr ⟨(s_put (ci := 8) (k := 5) (by decide +kernel : decode cX8_countGaps 10 = .ok (.putfield 65, 3)) rfl (by decide) wd525 inX8 tyX8_ok nmX8 rfl rfl).to, ?_⟩
  refine List.forall_mem_cons.mpr ⟨(s_aloadn (by decide +kernel : decode cX8_countGaps 13 = .ok (.aload_n 0, 1)) rfl).to, ?_⟩
  refine List.forall_mem_cons.mpr ⟨z_cv (by decide +kernel : decode cX8_countGaps 14 = .ok (.invokevirtual 222, 3)) mt83 wd1098 (ci := 8) rfl (by decide), ?_⟩
  refine List.forall_mem_cons.mpr ⟨(s_aloadn (by decide +kernel : decode cX8_countGaps 17 = .ok (.aload_n 0, 1)) rfl).to, ?_⟩
  refine List.forall_mem_cons.mpr ⟨(s_iconst (by decide +kernel : decode cX8_countGaps 18 = .ok (.iconst 0, 1)) (by decide)).to, ?_⟩
  refine List.forall_mem_cons.mpr ⟨(s_put (ci := 8) (k := 13) (by decide +kernel : decode cX8_countGaps 19 = .ok (.putfield 225, 3)) rfl (by decide) wd538 inX8 tyX8_ok nmX8 rfl rfl).to, ?_⟩
  refine List.forall_mem_cons.mpr ⟨(s_aloadn (by decide +kernel : decode cX8_countGaps 22 = .ok (.aload_n 0, 1)) rfl).to, ?_⟩
  refine List.forall_mem_cons.mpr ⟨(s_iconst (by decide +kernel : decode cX8_countGaps 23 = .ok (.iconst 0, 1)) (by decide)).to, ?_⟩
  refine List.forall_mem_cons.mpr ⟨(s_put (ci := 8) (k := 14) (by decide +kernel : decode cX8_countGaps 24 = .ok (.putfield 210, 3)) rfl (by decide) wd540 inX8 tyX8_ok nmX8 rfl rfl).to, ?_⟩
  refine List.forall_mem_cons.mpr ⟨(s_iconst (by decide +kernel : decode cX8_countGaps 27 = .ok (.iconst 0, 1)) (by decide)).to, ?_⟩
  refine List.forall_mem_cons.mpr ⟨(s_istoren (by decide +kernel : decode cX8_countGaps 28 = .ok (.istore_n 1, 1)) rfl (by decide)).to, ?_⟩
  refine List.forall_mem_cons.mpr ⟨(s_iloadn (by decide +kernel : decode cX8_countGaps 29 = .ok (.iload_n 1, 1)) rfl).to, ?_⟩
  refine List.forall_mem_cons.mpr ⟨(s_iconst (by decide +kernel : decode cX8_countGaps 30 = .ok (.iconst 1, 1)) (by decide)).to, ?_⟩
  refine List.forall_mem_cons.mpr ⟨(s_iadd (by decide +kernel : decode cX8_countGaps 31 = .ok (.iadd, 1))).to, ?_⟩
  refine List.forall_mem_cons.mpr ⟨(s_aloadn (by decide +kernel : decode cX8_countGaps 32 = .ok (.aload_n 0, 1)) rfl).to, ?_⟩
  refine List.forall_mem_cons.mpr ⟨(s_get (ci := 8) (k := 0) (by decide +kernel : decode cX8_countGaps 33 = .ok (.getfield 47, 3)) rfl (by decide) wd518 inX8 rfl).to, ?_⟩
  refine List.forall_mem_cons.mpr ⟨(s_get (ci := 6) (k := 5) (by decide +kernel : decode cX8_countGaps 36 = .ok (.getfield 117, 3)) rfl (by decide) wd254 inX6 rfl).to, ?_⟩
  refine List.forall_mem_cons.mpr ⟨(s_icmp_ge (by decide +kernel : decode cX8_countGaps 39 = .ok (.if_icmp .ge 74, 3)) (by decide)).to, ?_⟩
  refine List.forall_mem_cons.mpr ⟨(s_aloadn (by decide +kernel : decode cX8_countGaps 42 = .ok (.aload_n 0, 1)) rfl).to, ?_⟩
  refine List.forall_mem_cons.mpr ⟨(s_get (ci := 8) (k := 0) (by decide +kernel : decode cX8_countGaps 43 = .ok (.getfield 47, 3)) rfl (by decide) wd518 inX8 rfl).to, ?_⟩
  refine List.forall_mem_cons.mpr ⟨(s_get (ci := 6) (k := 6) (by decide +kernel : decode cX8_countGaps 46 = .ok (.getfield 82, 3)) rfl (by decide) wd258 inX6 rfl).to, ?_⟩
  refine List.forall_mem_cons.mpr ⟨(s_iloadn (by decide +kernel : decode cX8_countGaps 49 = .ok (.iload_n 1, 1)) rfl).to, ?_⟩
  refine List.forall_mem_cons.mpr ⟨(s_iald (by decide +kernel : decode cX8_countGaps 50 = .ok (.iaload, 1))).to, ?_⟩
  refine List.forall_mem_cons.mpr ⟨(s_iconst (by decide +kernel : decode cX8_countGaps 51 = .ok (.iconst 1, 1)) (by decide)).to, ?_⟩
  refine List.forall_mem_cons.mpr ⟨(s_iadd (by decide +kernel : decode cX8_countGaps 52 = .ok (.iadd, 1))).to, ?_⟩
  refine List.forall_mem_cons.mpr ⟨(s_istoren (by decide +kernel : decode cX8_countGaps 53 = .ok (.istore_n 2, 1)) rfl (by decide)).to, ?_⟩
  refine List.forall_mem_cons.mpr ⟨(s_iloadn (by decide +kernel : decode cX8_countGaps 54 = .ok (.iload_n 2, 1)) rfl).to, ?_⟩
  refine List.forall_mem_cons.mpr ⟨(s_aloadn (by decide +kernel : decode cX8_countGaps 55 = .ok (.aload_n 0, 1)) rfl).to, ?_⟩
  refine List.forall_mem_cons.mpr ⟨(s_get (ci := 8) (k := 0) (by decide +kernel : decode cX8_countGaps 56 = .ok (.getfield 47, 3)) rfl (by decide) wd518 inX8 rfl).to, ?_⟩
  refine List.forall_mem_cons.mpr ⟨(s_get (ci := 6) (k := 6) (by decide +kernel : decode cX8_countGaps 59 = .ok (.getfield 82, 3)) rfl (by decide) wd258 inX6 rfl).to, ?_⟩
  refine List.forall_mem_cons.mpr ⟨(s_iloadn (by decide +kernel : decode cX8_countGaps 62 = .ok (.iload_n 1, 1)) rfl).to, ?_⟩
  refine List.forall_mem_cons.mpr ⟨(s_iconst (by decide +kernel : decode cX8_countGaps 63 = .ok (.iconst 1, 1)) (by decide)).to, ?_⟩
  refine List.forall_mem_cons.mpr ⟨(s_iadd (by decide +kernel : decode cX8_countGaps 64 = .ok (.iadd, 1))).to, ?_⟩
  refine List.forall_mem_cons.mpr ⟨(s_iald (by decide +kernel : decode cX8_countGaps 65 = .ok (.iaload, 1))).to, ?_⟩
  refine List.forall_mem_cons.mpr ⟨(s_icmp_ge (by decide +kernel : decode cX8_countGaps 66 = .ok (.if_icmp .ge 41, 3)) (by decide)).to, ?_⟩
  refine List.forall_mem_cons.mpr ⟨(s_aloadn (by decide +kernel : decode cX8_countGaps 69 = .ok (.aload_n 0, 1)) rfl).to, ?_⟩
  refine List.forall_mem_cons.mpr ⟨(s_dup (by decide +kernel : decode cX8_countGaps 70 = .ok (.dup, 1))).to, ?_⟩
  refine List.forall_mem_cons.mpr ⟨(s_get (ci := 8) (k := 13) (by decide +kernel : decode cX8_countGaps 71 = .ok (.getfield 225, 3)) rfl (by decide) wd538 inX8 rfl).to, ?_⟩
  refine List.forall_mem_cons.mpr ⟨(s_iconst (by decide +kernel : decode cX8_countGaps 74 = .ok (.iconst 1, 1)) (by decide)).to, ?_⟩
  refine List.forall_mem_cons.mpr ⟨(s_iadd (by decide +kernel : decode cX8_countGaps 75 = .ok (.iadd, 1))).to, ?_⟩
  refine List.forall_mem_cons.mpr ⟨(s_put (ci := 8) (k := 13) (by decide +kernel : decode cX8_countGaps 76 = .ok (.putfield 225, 3)) rfl (by decide) wd538 inX8 tyX8_ok nmX8 rfl rfl).to, ?_⟩
  refine List.forall_mem_cons.mpr ⟨(s_aloadn (by decide +kernel : decode cX8_countGaps 79 = .ok (.aload_n 0, 1)) rfl).to, ?_⟩
  refine List.forall_mem_cons.mpr ⟨(s_dup (by decide +kernel : decode cX8_countGaps 80 = .ok (.dup, 1))).to, ?_⟩
  refine List.forall_mem_cons.mpr ⟨(s_get (ci := 8) (k := 14) (by decide +kernel : decode cX8_countGaps 81 = .ok (.getfield 210, 3)) rfl (by decide) wd540 inX8 rfl).to, ?_⟩
  refine List.forall_mem_cons.mpr ⟨(s_aloadn (by decide +kernel : decode cX8_countGaps 84 = .ok (.aload_n 0, 1)) rfl).to, ?_⟩
  refine List.forall_mem_cons.mpr ⟨(s_iloadn (by decide +kernel : decode cX8_countGaps 85 = .ok (.iload_n 2, 1)) rfl).to, ?_⟩
  refine List.forall_mem_cons.mpr ⟨z_cv (by decide +kernel : decode cX8_countGaps 86 = .ok (.invokevirtual 228, 3)) mt99 wd1099 (ci := 8) rfl (by decide), ?_⟩
  refine List.forall_mem_cons.mpr ⟨(s_if_eq (by decide +kernel : decode cX8_countGaps 89 = .ok (.ifCond .eq 7, 3)) (by decide)).to, ?_⟩
  refine List.forall_mem_cons.mpr ⟨(s_iconst (by decide +kernel : decode cX8_countGaps 92 = .ok (.iconst 0, 1)) (by decide)).to, ?_⟩
  refine List.forall_mem_cons.mpr ⟨(s_goto (by decide +kernel : decode cX8_countGaps 93 = .ok (.goto 4, 3)) (by decide)).to, ?_⟩
  refine List.forall_mem_cons.mpr ⟨(s_iconst (by decide +kernel : decode cX8_countGaps 96 = .ok (.iconst 1, 1)) (by decide)).to, ?_⟩
  refine List.forall_mem_cons.mpr ⟨(s_iadd (by decide +kernel : decode cX8_countGaps 97 = .ok (.iadd, 1))).to, ?_⟩
  refine List.forall_mem_cons.mpr ⟨(s_put (ci := 8) (k := 14) (by decide +kernel : decode cX8_countGaps 98 = .ok (.putfield 210, 3)) rfl (by decide) wd540 inX8 tyX8_ok nmX8 rfl rfl).to, ?_⟩
  refine List.forall_mem_cons.mpr ⟨(s_iinc (by decide +kernel : decode cX8_countGaps 101 = .ok (.iinc 2 1, 3)) (by decide) (by decide)).to, ?_⟩
  exact fun _ h => absurd h List.not_mem_nil
theorem sn_tX8_countGaps_1 : ∀ q ∈ tX8_countGaps_1, am_Snd am_P0 RX8 cX8_countGaps 3 (Option.none : Option FieldType) "countGaps" q.1 q.2 := by
  unfold tX8_countGaps_1
  refine List.forall_mem_cons.mpr ⟨(s_goto (by decide +kernel : decode cX8_countGaps 104 = .ok (.goto (-50), 3)) (by decide)).to, ?_⟩
  refine List.forall_mem_cons.mpr ⟨(s_iinc (by decide +kernel : decode cX8_countGaps 107 = .ok (.iinc 1 1, 3)) (by decide) (by decide)).to, ?_⟩
  refine List.forall_mem_cons.mpr ⟨(s_goto (by decide +kernel : decode cX8_countGaps 110 = .ok (.goto (-81), 3)) (by decide)).to, ?_⟩
  refine List.forall_mem_cons.mpr ⟨s_vret (by decide +kernel : decode cX8_countGaps 113 = .ok (.return_, 1)) rfl, ?_⟩
  exact fun _ h => absurd h List.not_mem_nil
theorem sn_tX8_countGaps : ∀ q ∈ tX8_countGaps, am_Snd am_P0 RX8 cX8_countGaps 3 (Option.none : Option FieldType) "countGaps" q.1 q.2 := by
  unfold tX8_countGaps
  exact List.forall_mem_append.mpr ⟨sn_tX8_countGaps_0, sn_tX8_countGaps_1⟩
theorem sn_tX8_isHonest : ∀ q ∈ tX8_isHonest, am_Snd am_P0 RX8 cX8_isHonest 6 (Option.some FieldType.boolean) "isHonest" q.1 q.2 := by
  unfold tX8_isHonest
  refine List.forall_mem_cons.mpr ⟨(s_iconst (by decide +kernel : decode cX8_isHonest 0 = .ok (.iconst 0, 1)) (by decide)).to, ?_⟩
  refine List.forall_mem_cons.mpr ⟨(s_istoren (by decide +kernel : decode cX8_isHonest 1 = .ok (.istore_n 2, 1)) rfl (by decide)).to, ?_⟩
  refine List.forall_mem_cons.mpr ⟨(s_iloadn (by decide +kernel : decode cX8_isHonest 2 = .ok (.iload_n 2, 1)) rfl).to, ?_⟩
  refine List.forall_mem_cons.mpr ⟨(s_iconst (by decide +kernel : decode cX8_isHonest 3 = .ok (.iconst 4, 1)) (by decide)).to, ?_⟩
  refine List.forall_mem_cons.mpr ⟨(s_icmp_ge (by decide +kernel : decode cX8_isHonest 4 = .ok (.if_icmp .ge 77, 3)) (by decide)).to, ?_⟩
  refine List.forall_mem_cons.mpr ⟨(s_aloadn (by decide +kernel : decode cX8_isHonest 7 = .ok (.aload_n 0, 1)) rfl).to, ?_⟩
  refine List.forall_mem_cons.mpr ⟨(s_get (ci := 8) (k := 12) (by decide +kernel : decode cX8_isHonest 8 = .ok (.getfield 32, 3)) rfl (by decide) wd536 inX8 rfl).to, ?_⟩
  refine List.forall_mem_cons.mpr ⟨(s_iloadn (by decide +kernel : decode cX8_isHonest 11 = .ok (.iload_n 1, 1)) rfl).to, ?_⟩
  refine List.forall_mem_cons.mpr ⟨(s_iconst (by decide +kernel : decode cX8_isHonest 12 = .ok (.iconst 4, 1)) (by decide)).to, ?_⟩
  refine List.forall_mem_cons.mpr ⟨(s_imul (by decide +kernel : decode cX8_isHonest 13 = .ok (.imul, 1))).to, ?_⟩
  refine List.forall_mem_cons.mpr ⟨(s_iloadn (by decide +kernel : decode cX8_isHonest 14 = .ok (.iload_n 2, 1)) rfl).to, ?_⟩
  refine List.forall_mem_cons.mpr ⟨(s_iadd (by decide +kernel : decode cX8_isHonest 15 = .ok (.iadd, 1))).to, ?_⟩
  refine List.forall_mem_cons.mpr ⟨(s_lald (by decide +kernel : decode cX8_isHonest 16 = .ok (.laload, 1))).to, ?_⟩
  refine List.forall_mem_cons.mpr ⟨(s_lstoren (by decide +kernel : decode cX8_isHonest 17 = .ok (.lstore_n 3, 1)) rfl (by decide)).to, ?_⟩
  refine List.forall_mem_cons.mpr ⟨(s_iloadn (by decide +kernel : decode cX8_isHonest 18 = .ok (.iload_n 2, 1)) rfl).to, ?_⟩
  refine List.forall_mem_cons.mpr ⟨(s_bipush (by decide +kernel : decode cX8_isHonest 19 = .ok (.bipush 64, 2)) (by decide)).to, ?_⟩
  refine List.forall_mem_cons.mpr ⟨(s_imul (by decide +kernel : decode cX8_isHonest 21 = .ok (.imul, 1))).to, ?_⟩
  refine List.forall_mem_cons.mpr ⟨(s_istore (by decide +kernel : decode cX8_isHonest 22 = .ok (.istore 5, 2)) (by decide)).to, ?_⟩
  refine List.forall_mem_cons.mpr ⟨(s_lloadn (by decide +kernel : decode cX8_isHonest 24 = .ok (.lload_n 3, 1)) rfl).to, ?_⟩
  refine List.forall_mem_cons.mpr ⟨(s_lconst (by decide +kernel : decode cX8_isHonest 25 = .ok (.lconst 0, 1)) (by decide)).to, ?_⟩
  refine List.forall_mem_cons.mpr ⟨(s_lcmp (by decide +kernel : decode cX8_isHonest 26 = .ok (.lcmp, 1))).to, ?_⟩
  refine List.forall_mem_cons.mpr ⟨(s_if_eq (by decide +kernel : decode cX8_isHonest 27 = .ok (.ifCond .eq 48, 3)) (by decide)).to, ?_⟩
  refine List.forall_mem_cons.mpr ⟨(s_iload (by decide +kernel : decode cX8_isHonest 30 = .ok (.iload 5, 2))).to, ?_⟩
  refine List.forall_mem_cons.mpr ⟨(s_iloadn (by decide +kernel : decode cX8_isHonest 32 = .ok (.iload_n 2, 1)) rfl).to, ?_⟩
  refine List.forall_mem_cons.mpr ⟨(s_bipush (by decide +kernel : decode cX8_isHonest 33 = .ok (.bipush 64, 2)) (by decide)).to, ?_⟩
  refine List.forall_mem_cons.mpr ⟨(s_imul (by decide +kernel : decode cX8_isHonest 35 = .ok (.imul, 1))).to, ?_⟩
  refine List.forall_mem_cons.mpr ⟨(s_bipush (by decide +kernel : decode cX8_isHonest 36 = .ok (.bipush 64, 2)) (by decide)).to, ?_⟩
  refine List.forall_mem_cons.mpr ⟨(s_iadd (by decide +kernel : decode cX8_isHonest 38 = .ok (.iadd, 1))).to, ?_⟩
  refine List.forall_mem_cons.mpr ⟨(s_icmp_ge (by decide +kernel : decode cX8_isHonest 39 = .ok (.if_icmp .ge 36, 3)) (by decide)).to, ?_⟩
  refine List.forall_mem_cons.mpr ⟨(s_lloadn (by decide +kernel : decode cX8_isHonest 42 = .ok (.lload_n 3, 1)) rfl).to, ?_⟩
  refine List.forall_mem_cons.mpr ⟨(s_lconst (by decide +kernel : decode cX8_isHonest 43 = .ok (.lconst 1, 1)) (by decide)).to, ?_⟩
  refine List.forall_mem_cons.mpr ⟨(s_land (by decide +kernel : decode cX8_isHonest 44 = .ok (.land, 1))).to, ?_⟩
  refine List.forall_mem_cons.mpr ⟨(s_lconst (by decide +kernel : decode cX8_isHonest 45 = .ok (.lconst 0, 1)) (by decide)).to, ?_⟩
  refine List.forall_mem_cons.mpr ⟨(s_lcmp (by decide +kernel : decode cX8_isHonest 46 = .ok (.lcmp, 1))).to, ?_⟩
  refine List.forall_mem_cons.mpr ⟨(s_if_eq (by decide +kernel : decode cX8_isHonest 47 = .ok (.ifCond .eq 18, 3)) (by decide)).to, ?_⟩
  refine List.forall_mem_cons.mpr ⟨(s_aloadn (by decide +kernel : decode cX8_isHonest 50 = .ok (.aload_n 0, 1)) rfl).to, ?_⟩
  refine List.forall_mem_cons.mpr ⟨(s_get (ci := 8) (k := 1) (by decide +kernel : decode cX8_isHonest 51 = .ok (.getfield 43, 3)) rfl (by decide) wd520 inX8 rfl).to, ?_⟩
  refine List.forall_mem_cons.mpr ⟨(s_iload (by decide +kernel : decode cX8_isHonest 54 = .ok (.iload 5, 2))).to, ?_⟩
  refine List.forall_mem_cons.mpr ⟨(s_iloadn (by decide +kernel : decode cX8_isHonest 56 = .ok (.iload_n 1, 1)) rfl).to, ?_⟩
  refine List.forall_mem_cons.mpr ⟨z_cv (by decide +kernel : decode cX8_isHonest 57 = .ok (.invokevirtual 231, 3)) mt55 wd1103 (ci := 5) rfl (by decide), ?_⟩
  refine List.forall_mem_cons.mpr ⟨(s_if_eq (by decide +kernel : decode cX8_isHonest 60 = .ok (.ifCond .eq 5, 3)) (by decide)).to, ?_⟩
  refine List.forall_mem_cons.mpr ⟨(s_iconst (by decide +kernel : decode cX8_isHonest 63 = .ok (.iconst 1, 1)) (by decide)).to, ?_⟩
  refine List.forall_mem_cons.mpr ⟨s_zret (by decide +kernel : decode cX8_isHonest 64 = .ok (.ireturn, 1)) rfl, ?_⟩
  refine List.forall_mem_cons.mpr ⟨(s_lloadn (by decide +kernel : decode cX8_isHonest 65 = .ok (.lload_n 3, 1)) rfl).to, ?_⟩
  refine List.forall_mem_cons.mpr ⟨(s_iconst (by decide +kernel : decode cX8_isHonest 66 = .ok (.iconst 1, 1)) (by decide)).to, ?_⟩
  refine List.forall_mem_cons.mpr ⟨(s_lushr (by decide +kernel : decode cX8_isHonest 67 = .ok (.lushr, 1))).to, ?_⟩
  refine List.forall_mem_cons.mpr ⟨(s_lstoren (by decide +kernel : decode cX8_isHonest 68 = .ok (.lstore_n 3, 1)) rfl (by decide)).to, ?_⟩
  refine List.forall_mem_cons.mpr ⟨(s_iinc (by decide +kernel : decode cX8_isHonest 69 = .ok (.iinc 5 1, 3)) (by decide) (by decide)).to, ?_⟩
  refine List.forall_mem_cons.mpr ⟨(s_goto (by decide +kernel : decode cX8_isHonest 72 = .ok (.goto (-48), 3)) (by decide)).to, ?_⟩
  refine List.forall_mem_cons.mpr ⟨(s_iinc (by decide +kernel : decode cX8_isHonest 75 = .ok (.iinc 2 1, 3)) (by decide) (by decide)).to, ?_⟩
  refine List.forall_mem_cons.mpr ⟨(s_goto (by decide +kernel : decode cX8_isHonest 78 = .ok (.goto (-76), 3)) (by decide)).to, ?_⟩
  refine List.forall_mem_cons.mpr ⟨(s_iconst (by decide +kernel : decode cX8_isHonest 81 = .ok (.iconst 0, 1)) (by decide)).to, ?_⟩
  refine List.forall_mem_cons.mpr ⟨s_zret (by decide +kernel : decode cX8_isHonest 82 = .ok (.ireturn, 1)) rfl, ?_⟩
  exact fun _ h => absurd h List.not_mem_nil
theorem sn_tX8_hoursOfChange_0 : ∀ q ∈ tX8_hoursOfChange_0, am_Snd am_P0 RX8 cX8_hoursOfChange 7 (Option.some FieldType.long) "hoursOfChange" q.1 q.2 := by
  unfold tX8_hoursOfChange_0
  refine List.forall_mem_cons.mpr ⟨(s_lconst (by decide +kernel : decode cX8_hoursOfChange 0 = .ok (.lconst 0, 1)) (by decide)).to, ?_⟩
  refine List.forall_mem_cons.mpr ⟨(s_lstoren (by decide +kernel : decode cX8_hoursOfChange 1 = .ok (.lstore_n 2, 1)) rfl (by decide)).to, ?_⟩
  refine List.forall_mem_cons.mpr ⟨(s_iconst (by decide +kernel : decode cX8_hoursOfChange 2 = .ok (.iconst (-1), 1)) (by decide)).to, ?_⟩
  refine List.forall_mem_cons.mpr ⟨(s_istore (by decide +kernel : decode cX8_hoursOfChange 3 = .ok (.istore 4, 2)) (by decide)).to, ?_⟩
  refine List.forall_mem_cons.mpr ⟨(s_iconst (by decide +kernel : decode cX8_hoursOfChange 5 = .ok (.iconst 0, 1)) (by decide)).to, ?_⟩
  refine List.forall_mem_cons.mpr ⟨(s_istore (by decide +kernel : decode cX8_hoursOfChange 6 = .ok (.istore 5, 2)) (by decide)).to, ?_⟩
  refine List.forall_mem_cons.mpr ⟨(s_iload (by decide +kernel : decode cX8_hoursOfChange 8 = .ok (.iload 5, 2))).to, ?_⟩
  refine List.forall_mem_cons.mpr ⟨(s_aloadn (by decide +kernel : decode cX8_hoursOfChange 10 = .ok (.aload_n 0, 1)) rfl).to, ?_⟩
  refine List.forall_mem_cons.mpr ⟨(s_get (ci := 8) (k := 0) (by decide +kernel : decode cX8_hoursOfChange 11 = .ok (.getfield 47, 3)) rfl (by decide) wd518 inX8 rfl).to, ?_⟩
  refine List.forall_mem_cons.mpr ⟨(s_get (ci := 6) (k := 5) (by decide +kernel : decode cX8_hoursOfChange 14 = .ok (.getfield 117, 3)) rfl (by decide) wd254 inX6 rfl).to, ?_⟩
  refine List.forall_mem_cons.mpr ⟨(s_icmp_ge (by decide +kernel : decode cX8_hoursOfChange 17 = .ok (.if_icmp .ge 102, 3)) (by decide)).to, ?_⟩
  refine List.forall_mem_cons.mpr ⟨(s_aloadn (by decide +kernel : decode cX8_hoursOfChange 20 = .ok (.aload_n 0, 1)) rfl).to, ?_⟩
  refine List.forall_mem_cons.mpr ⟨(s_get (ci := 8) (k := 10) (by decide +kernel : decode cX8_hoursOfChange 21 = .ok (.getfield 29, 3)) rfl (by decide) wd532 inX8 rfl).to, ?_⟩
  refine List.forall_mem_cons.mpr ⟨(s_iload (by decide +kernel : decode cX8_hoursOfChange 24 = .ok (.iload 5, 2))).to, ?_⟩
  refine List.forall_mem_cons.mpr ⟨(s_zald (by decide +kernel : decode cX8_hoursOfChange 26 = .ok (.baload, 1))).to, ?_⟩
  refine List.forall_mem_cons.mpr ⟨(s_if_ne (by decide +kernel : decode cX8_hoursOfChange 27 = .ok (.ifCond .ne 6, 3)) (by decide)).to, ?_⟩
  refine List.forall_mem_cons.mpr ⟨(s_goto (by decide +kernel : decode cX8_hoursOfChange 30 = .ok (.goto 83, 3)) (by decide)).to, ?_⟩
  refine List.forall_mem_cons.mpr ⟨(s_iload (by decide +kernel : decode cX8_hoursOfChange 33 = .ok (.iload 4, 2))).to, ?_⟩
  refine List.forall_mem_cons.mpr ⟨(s_iconst (by decide +kernel : decode cX8_hoursOfChange 35 = .ok (.iconst (-1), 1)) (by decide)).to, ?_⟩
  refine List.forall_mem_cons.mpr ⟨(s_icmp_eq (by decide +kernel : decode cX8_hoursOfChange 36 = .ok (.if_icmp .eq 73, 3)) (by decide)).to, ?_⟩
  refine List.forall_mem_cons.mpr ⟨(s_aloadn (by decide +kernel : decode cX8_hoursOfChange 39 = .ok (.aload_n 0, 1)) rfl).to, ?_⟩
  refine List.forall_mem_cons.mpr ⟨(s_get (ci := 8) (k := 0) (by decide +kernel : decode cX8_hoursOfChange 40 = .ok (.getfield 47, 3)) rfl (by decide) wd518 inX8 rfl).to, ?_⟩
  refine List.forall_mem_cons.mpr ⟨(s_get (ci := 6) (k := 8) (by decide +kernel : decode cX8_hoursOfChange 43 = .ok (.getfield 124, 3)) rfl (by decide) wd264 inX6 rfl).to, ?_⟩
  refine List.forall_mem_cons.mpr ⟨(s_iload (by decide +kernel : decode cX8_hoursOfChange 46 = .ok (.iload 4, 2))).to, ?_⟩
  refine List.forall_mem_cons.mpr ⟨(s_zald (by decide +kernel : decode cX8_hoursOfChange 48 = .ok (.baload, 1))).to, ?_⟩
  refine List.forall_mem_cons.mpr ⟨(s_iloadn (by decide +kernel : decode cX8_hoursOfChange 49 = .ok (.iload_n 1, 1)) rfl).to, ?_⟩
  refine List.forall_mem_cons.mpr ⟨(s_icmp_ne (by decide +kernel : decode cX8_hoursOfChange 50 = .ok (.if_icmp .ne 59, 3)) (by decide)).to, ?_⟩
  refine List.forall_mem_cons.mpr ⟨(s_aloadn (by decide +kernel : decode cX8_hoursOfChange 53 = .ok (.aload_n 0, 1)) rfl).to, ?_⟩
  refine List.forall_mem_cons.mpr ⟨(s_get (ci := 8) (k := 0) (by decide +kernel : decode cX8_hoursOfChange 54 = .ok (.getfield 47, 3)) rfl (by decide) wd518 inX8 rfl).to, ?_⟩
  refine List.forall_mem_cons.mpr ⟨(s_get (ci := 6) (k := 8) (by decide +kernel : decode cX8_hoursOfChange 57 = .ok (.getfield 124, 3)) rfl (by decide) wd264 inX6 rfl).to, ?_⟩
  refine List.forall_mem_cons.mpr ⟨(s_iload (by decide +kernel : decode cX8_hoursOfChange 60 = .ok (.iload 5, 2))).to, ?_⟩
  refine List.forall_mem_cons.mpr ⟨(s_zald (by decide +kernel : decode cX8_hoursOfChange 62 = .ok (.baload, 1))).to, ?_⟩
  refine List.forall_mem_cons.mpr ⟨(s_iloadn (by decide +kernel : decode cX8_hoursOfChange 63 = .ok (.iload_n 1, 1)) rfl).to, ?_⟩
  refine List.forall_mem_cons.mpr ⟨(s_icmp_eq (by decide +kernel : decode cX8_hoursOfChange 64 = .ok (.if_icmp .eq 45, 3)) (by decide)).to, ?_⟩
  refine List.forall_mem_cons.mpr ⟨(s_aloadn (by decide +kernel : decode cX8_hoursOfChange 67 = .ok (.aload_n 0, 1)) rfl).to, ?_⟩
  refine List.forall_mem_cons.mpr ⟨(s_get (ci := 8) (k := 0) (by decide +kernel : decode cX8_hoursOfChange 68 = .ok (.getfield 47, 3)) rfl (by decide) wd518 inX8 rfl).to, ?_⟩
  refine List.forall_mem_cons.mpr ⟨(s_get (ci := 6) (k := 6) (by decide +kernel : decode cX8_hoursOfChange 71 = .ok (.getfield 82, 3)) rfl (by decide) wd258 inX6 rfl).to, ?_⟩
  refine List.forall_mem_cons.mpr ⟨(s_iload (by decide +kernel : decode cX8_hoursOfChange 74 = .ok (.iload 4, 2))).to, ?_⟩
  refine List.forall_mem_cons.mpr ⟨(s_iald (by decide +kernel : decode cX8_hoursOfChange 76 = .ok (.iaload, 1))).to, ?_⟩
  refine List.forall_mem_cons.mpr ⟨(s_iconst (by decide +kernel : decode cX8_hoursOfChange 77 = .ok (.iconst 1, 1)) (by decide)).to, ?_⟩
  refine List.forall_mem_cons.mpr ⟨(s_iadd (by decide +kernel : decode cX8_hoursOfChange 78 = .ok (.iadd, 1))).to, ?_⟩
  refine List.forall_mem_cons.mpr ⟨(s_istore (by decide +kernel : decode cX8_hoursOfChange 79 = .ok (.istore 6, 2)) (by decide)).to, ?_⟩
  refine List.forall_mem_cons.mpr ⟨(s_iload (by decide +kernel : decode cX8_hoursOfChange 81 = .ok (.iload 6, 2))).to, ?_⟩
  refine List.forall_mem_cons.mpr ⟨(s_aloadn (by decide +kernel : decode cX8_hoursOfChange 83 = .ok (.aload_n 0, 1)) rfl).to, ?_⟩
  refine List.forall_mem_cons.mpr ⟨(s_get (ci := 8) (k := 0) (by decide +kernel : decode cX8_hoursOfChange 84 = .ok (.getfield 47, 3)) rfl (by decide) wd518 inX8 rfl).to, ?_⟩
  refine List.forall_mem_cons.mpr ⟨(s_get (ci := 6) (k := 6) (by decide +kernel : decode cX8_hoursOfChange 87 = .ok (.getfield 82, 3)) rfl (by decide) wd258 inX6 rfl).to, ?_⟩
  refine List.forall_mem_cons.mpr ⟨(s_iload (by decide +kernel : decode cX8_hoursOfChange 90 = .ok (.iload 5, 2))).to, ?_⟩
  refine List.forall_mem_cons.mpr ⟨(s_iald (by decide +kernel : decode cX8_hoursOfChange 92 = .ok (.iaload, 1))).to, ?_⟩
  refine List.forall_mem_cons.mpr ⟨(s_icmp_ge (by decide +kernel : decode cX8_hoursOfChange 93 = .ok (.if_icmp .ge 16, 3)) (by decide)).to, ?_⟩
  refine List.forall_mem_cons.mpr ⟨(s_lloadn (by decide +kernel : decode cX8_hoursOfChange 96 = .ok (.lload_n 2, 1)) rfl).to, ?_⟩
  refine List.forall_mem_cons.mpr ⟨(s_lconst (by decide +kernel : decode cX8_hoursOfChange 97 = .ok (.lconst 1, 1)) (by decide)).to, ?_⟩
  refine List.forall_mem_cons.mpr ⟨(s_iload (by decide +kernel : decode cX8_hoursOfChange 98 = .ok (.iload 6, 2))).to, ?_⟩
  refine List.forall_mem_cons.mpr ⟨(s_lshl (by decide +kernel : decode cX8_hoursOfChange 100 = .ok (.lshl, 1))).to, ?_⟩
  refine List.forall_mem_cons.mpr ⟨(s_lor (by decide +kernel : decode cX8_hoursOfChange 101 = .ok (.lor, 1))).to, ?_⟩
  refine List.forall_mem_cons.mpr ⟨(s_lstoren (by decide +kernel : decode cX8_hoursOfChange 102 = .ok (.lstore_n 2, 1)) rfl (by decide)).to, ?_⟩
  refine List.forall_mem_cons.mpr ⟨(s_iinc (by decide +kernel : decode cX8_hoursOfChange 103 = .ok (.iinc 6 1, 3)) (by decide) (by decide)).to, ?_⟩
  refine List.forall_mem_cons.mpr ⟨(s_goto (by decide +kernel : decode cX8_hoursOfChange 106 = .ok (.goto (-25), 3)) (by decide)).to, ?_⟩
  refine List.forall_mem_cons.mpr ⟨(s_iload (by decide +kernel : decode cX8_hoursOfChange 109 = .ok (.iload 5, 2))).to, ?_⟩
  refine List.forall_mem_cons.mpr ⟨(s_istore (by decide +kernel : decode cX8_hoursOfChange 111 = .ok (.istore 4, 2)) (by decide)).to, ?_⟩
  refine List.forall_mem_cons.mpr ⟨(s_iinc (by decide +kernel : decode cX8_hoursOfChange 113 = .ok (.iinc 5 1, 3)) (by decide) (by decide)).to, ?_⟩
  exact fun _ h => absurd h List.not_mem_nil
theorem sn_tX8_hoursOfChange_1 : ∀ q ∈ tX8_hoursOfChange_1, am_Snd am_P0 RX8 cX8_hoursOfChange 7 (Option.some FieldType.long) "hoursOfChange" q.1 q.2 := by
  unfold tX8_hoursOfChange_1
  refine List.forall_mem_cons.mpr ⟨(s_goto (by decide +kernel : decode cX8_hoursOfChange 116 = .ok (.goto (-108), 3)) (by decide)).to, ?_⟩
  refine List.forall_mem_cons.mpr ⟨(s_lloadn (by decide +kernel : decode cX8_hoursOfChange 119 = .ok (.lload_n 2, 1)) rfl).to, ?_⟩
  refine List.forall_mem_cons.mpr ⟨s_lret (by decide +kernel : decode cX8_hoursOfChange 120 = .ok (.lreturn, 1)) rfl, ?_⟩
  exact fun _ h => absurd h List.not_mem_nil
theorem sn_tX8_hoursOfChange : ∀ q ∈ tX8_hoursOfChange, am_Snd am_P0 RX8 cX8_hoursOfChange 7 (Option.some FieldType.long) "hoursOfChange" q.1 q.2 := by
  unfold tX8_hoursOfChange
  exact List.forall_mem_append.mpr ⟨sn_tX8_hoursOfChange_0, sn_tX8_hoursOfChange_1⟩
theorem sn_tX9_init : ∀ q ∈ tX9_init, am_Snd am_P0 RX9 cX9_init 1 (Option.none : Option FieldType) "<init>" q.1 q.2 := by
  unfold tX9_init
  refine List.forall_mem_cons.mpr ⟨(s_aloadn (by decide +kernel : decode cX9_init 0 = .ok (.aload_n 0, 1)) rfl).to, ?_⟩
  refine List.forall_mem_cons.mpr ⟨(s_obj (by decide +kernel : decode cX9_init 1 = .ok (.invokespecial 3, 3)) wd487 wd160 wd161).to, ?_⟩
  refine List.forall_mem_cons.mpr ⟨(s_aloadn (by decide +kernel : decode cX9_init 4 = .ok (.aload_n 0, 1)) rfl).to, ?_⟩
  refine List.forall_mem_cons.mpr ⟨(s_iconst (by decide +kernel : decode cX9_init 5 = .ok (.iconst 4, 1)) (by decide)).to, ?_⟩
  refine List.forall_mem_cons.mpr ⟨(s_newa (kd := 1) (ty := .long) (by decide +kernel : decode cX9_init 6 = .ok (.newarray .long, 2)) rfl rfl wd303 (by decide) (by decide) (fun _ _ h => h)).to, ?_⟩
  refine List.forall_mem_cons.mpr ⟨(s_putF (ci := 9) (k := 0) (by decide +kernel : decode cX9_init 8 = .ok (.putfield 9, 3)) rfl (by decide) wd490 inX9 tyX9_ok nmX9 rfl rfl rfl rfl).to, ?_⟩
  refine List.forall_mem_cons.mpr ⟨(s_aloadn (by decide +kernel : decode cX9_init 11 = .ok (.aload_n 0, 1)) rfl).to, ?_⟩
  refine List.forall_mem_cons.mpr ⟨(s_iconst (by decide +kernel : decode cX9_init 12 = .ok (.iconst 1, 1)) (by decide)).to, ?_⟩
  refine List.forall_mem_cons.mpr ⟨(s_put (ci := 9) (k := 1) (by decide +kernel : decode cX9_init 13 = .ok (.putfield 15, 3)) rfl (by decide) wd492 inX9 tyX9_ok nmX9 rfl rfl).to, ?_⟩
  refine List.forall_mem_cons.mpr ⟨(s_aloadn (by decide +kernel : decode cX9_init 16 = .ok (.aload_n 0, 1)) rfl).to, ?_⟩
  refine List.forall_mem_cons.mpr ⟨(s_sipush (by decide +kernel : decode cX9_init 17 = .ok (.sipush 256, 3)) (by decide)).to, ?_⟩
  refine List.forall_mem_cons.mpr ⟨(s_newl (by decide +kernel : decode cX9_init 20 = .ok (.anewarray 19, 3)) wd488).to, ?_⟩
  refine List.forall_mem_cons.mpr ⟨(s_putF (ci := 9) (k := 2) (by decide +kernel : decode cX9_init 23 = .ok (.putfield 20, 3)) rfl (by decide) wd493 inX9 tyX9_ok nmX9 rfl rfl rfl rfl).to, ?_⟩
  refine List.forall_mem_cons.mpr ⟨(s_aloadn (by decide +kernel : decode cX9_init 26 = .ok (.aload_n 0, 1)) rfl).to, ?_⟩
  refine List.forall_mem_cons.mpr ⟨(s_sipush (by decide +kernel : decode cX9_init 27 = .ok (.sipush 256, 3)) (by decide)).to, ?_⟩
  refine List.forall_mem_cons.mpr ⟨(s_newa (kd := 2) (ty := .boolean) (by decide +kernel : decode cX9_init 30 = .ok (.newarray .boolean, 2)) rfl rfl wd304 (by decide) (by decide) (fun _ _ h => h)).to, ?_⟩
  refine List.forall_mem_cons.mpr ⟨(s_putF (ci := 9) (k := 3) (by decide +kernel : decode cX9_init 32 = .ok (.putfield 24, 3)) rfl (by decide) wd494 inX9 tyX9_ok nmX9 rfl rfl rfl rfl).to, ?_⟩
  refine List.forall_mem_cons.mpr ⟨(s_aloadn (by decide +kernel : decode cX9_init 35 = .ok (.aload_n 0, 1)) rfl).to, ?_⟩
  refine List.forall_mem_cons.mpr ⟨(s_iconst (by decide +kernel : decode cX9_init 36 = .ok (.iconst 4, 1)) (by decide)).to, ?_⟩
  refine List.forall_mem_cons.mpr ⟨(s_newa (kd := 1) (ty := .long) (by decide +kernel : decode cX9_init 37 = .ok (.newarray .long, 2)) rfl rfl wd303 (by decide) (by decide) (fun _ _ h => h)).to, ?_⟩
  refine List.forall_mem_cons.mpr ⟨(s_putF (ci := 9) (k := 4) (by decide +kernel : decode cX9_init 39 = .ok (.putfield 28, 3)) rfl (by decide) wd495 inX9 tyX9_ok nmX9 rfl rfl rfl rfl).to, ?_⟩
  refine List.forall_mem_cons.mpr ⟨s_vret (by decide +kernel : decode cX9_init 42 = .ok (.return_, 1)) rfl, ?_⟩
  exact fun _ h => absurd h List.not_mem_nil
theorem sn_tX9_begin : ∀ q ∈ tX9_begin, am_Snd am_P0 RX9 cX9_begin 4 (Option.none : Option FieldType) "begin" q.1 q.2 := by
  unfold tX9_begin
  refine List.forall_mem_cons.mpr ⟨(s_aloadn (by decide +kernel : decode cX9_begin 0 = .ok (.aload_n 0, 1)) rfl).to, ?_⟩
  refine List.forall_mem_cons.mpr ⟨(s_iconst (by decide +kernel : decode cX9_begin 1 = .ok (.iconst 1, 1)) (by decide)).to, ?_⟩
  refine List.forall_mem_cons.mpr ⟨(s_aloadn (by decide +kernel : decode cX9_begin 2 = .ok (.aload_n 2, 1)) rfl).to, ?_⟩
  refine List.forall_mem_cons.mpr ⟨(s_get (ci := 6) (k := 2) (by decide +kernel : decode cX9_begin 3 = .ok (.getfield 31, 3)) rfl (by decide) wd243 inX6 rfl).to, ?_⟩
  refine List.forall_mem_cons.mpr ⟨z_cs (by decide +kernel : decode cX9_begin 6 = .ok (.invokestatic 34, 3)) mt307 wd897, ?_⟩
  refine List.forall_mem_cons.mpr ⟨(s_put (ci := 9) (k := 1) (by decide +kernel : decode cX9_begin 9 = .ok (.putfield 15, 3)) rfl (by decide) wd492 inX9 tyX9_ok nmX9 rfl rfl).to, ?_⟩
  refine List.forall_mem_cons.mpr ⟨(s_aloadn (by decide +kernel : decode cX9_begin 12 = .ok (.aload_n 0, 1)) rfl).to, ?_⟩
  refine List.forall_mem_cons.mpr ⟨(s_get (ci := 9) (k := 0) (by decide +kernel : decode cX9_begin 13 = .ok (.getfield 9, 3)) rfl (by decide) wd490 inX9 rfl).to, ?_⟩
  refine List.forall_mem_cons.mpr ⟨(s_lconst (by decide +kernel : decode cX9_begin 16 = .ok (.lconst 0, 1)) (by decide)).to, ?_⟩
  refine List.forall_mem_cons.mpr ⟨z_cs (by decide +kernel : decode cX9_begin 17 = .ok (.invokestatic 40, 3)) mt322 wd898, ?_⟩
  refine List.forall_mem_cons.mpr ⟨(s_iconst (by decide +kernel : decode cX9_begin 20 = .ok (.iconst 0, 1)) (by decide)).to, ?_⟩
  refine List.forall_mem_cons.mpr ⟨(s_istoren (by decide +kernel : decode cX9_begin 21 = .ok (.istore_n 3, 1)) rfl (by decide)).to, ?_⟩
  refine List.forall_mem_cons.mpr ⟨(s_iloadn (by decide +kernel : decode cX9_begin 22 = .ok (.iload_n 3, 1)) rfl).to, ?_⟩
  refine List.forall_mem_cons.mpr ⟨(s_sipush (by decide +kernel : decode cX9_begin 23 = .ok (.sipush 256, 3)) (by decide)).to, ?_⟩
  refine List.forall_mem_cons.mpr ⟨(s_icmp_ge (by decide +kernel : decode cX9_begin 26 = .ok (.if_icmp .ge 47, 3)) (by decide)).to, ?_⟩
  refine List.forall_mem_cons.mpr ⟨(s_aloadn (by decide +kernel : decode cX9_begin 29 = .ok (.aload_n 0, 1)) rfl).to, ?_⟩
  refine List.forall_mem_cons.mpr ⟨(s_get (ci := 9) (k := 3) (by decide +kernel : decode cX9_begin 30 = .ok (.getfield 24, 3)) rfl (by decide) wd494 inX9 rfl).to, ?_⟩
  refine List.forall_mem_cons.mpr ⟨(s_iloadn (by decide +kernel : decode cX9_begin 33 = .ok (.iload_n 3, 1)) rfl).to, ?_⟩
  refine List.forall_mem_cons.mpr ⟨(s_iconst (by decide +kernel : decode cX9_begin 34 = .ok (.iconst 0, 1)) (by decide)).to, ?_⟩
  refine List.forall_mem_cons.mpr ⟨(s_zast (by decide +kernel : decode cX9_begin 35 = .ok (.bastore, 1))).to, ?_⟩
  refine List.forall_mem_cons.mpr ⟨(s_aloadn (by decide +kernel : decode cX9_begin 36 = .ok (.aload_n 1, 1)) rfl).to, ?_⟩
  refine List.forall_mem_cons.mpr ⟨(s_get (ci := 5) (k := 10) (by decide +kernel : decode cX9_begin 37 = .ok (.getfield 46, 3)) rfl (by decide) wd332 inX5 rfl).to, ?_⟩
  refine List.forall_mem_cons.mpr ⟨(s_iloadn (by decide +kernel : decode cX9_begin 40 = .ok (.iload_n 3, 1)) rfl).to, ?_⟩
  refine List.forall_mem_cons.mpr ⟨(s_iald (by decide +kernel : decode cX9_begin 41 = .ok (.iaload, 1))).to, ?_⟩
  refine List.forall_mem_cons.mpr ⟨(s_aloadn (by decide +kernel : decode cX9_begin 42 = .ok (.aload_n 2, 1)) rfl).to, ?_⟩
  refine List.forall_mem_cons.mpr ⟨(s_get (ci := 6) (k := 3) (by decide +kernel : decode cX9_begin 43 = .ok (.getfield 52, 3)) rfl (by decide) wd246 inX6 rfl).to, ?_⟩
  refine List.forall_mem_cons.mpr ⟨(s_icmp_lt (by decide +kernel : decode cX9_begin 46 = .ok (.if_icmp .lt 21, 3)) (by decide)).to, ?_⟩
  refine List.forall_mem_cons.mpr ⟨(s_aloadn (by decide +kernel : decode cX9_begin 49 = .ok (.aload_n 0, 1)) rfl).to, ?_⟩
  refine List.forall_mem_cons.mpr ⟨(s_get (ci := 9) (k := 0) (by decide +kernel : decode cX9_begin 50 = .ok (.getfield 9, 3)) rfl (by decide) wd490 inX9 rfl).to, ?_⟩
  refine List.forall_mem_cons.mpr ⟨(s_iloadn (by decide +kernel : decode cX9_begin 53 = .ok (.iload_n 3, 1)) rfl).to, ?_⟩
  refine List.forall_mem_cons.mpr ⟨(s_bipush (by decide +kernel : decode cX9_begin 54 = .ok (.bipush 6, 2)) (by decide)).to, ?_⟩
  refine List.forall_mem_cons.mpr ⟨(s_ishr (by decide +kernel : decode cX9_begin 56 = .ok (.ishr, 1))).to, ?_⟩
  refine List.forall_mem_cons.mpr ⟨(s_dup2 (by decide +kernel : decode cX9_begin 57 = .ok (.dup2, 1))).to, ?_⟩
  refine List.forall_mem_cons.mpr ⟨(s_lald (by decide +kernel : decode cX9_begin 58 = .ok (.laload, 1))).to, ?_⟩
  refine List.forall_mem_cons.mpr ⟨(s_lconst (by decide +kernel : decode cX9_begin 59 = .ok (.lconst 1, 1)) (by decide)).to, ?_⟩
  refine List.forall_mem_cons.mpr ⟨(s_iloadn (by decide +kernel : decode cX9_begin 60 = .ok (.iload_n 3, 1)) rfl).to, ?_⟩
  refine List.forall_mem_cons.mpr ⟨(s_bipush (by decide +kernel : decode cX9_begin 61 = .ok (.bipush 63, 2)) (by decide)).to, ?_⟩
  refine List.forall_mem_cons.mpr ⟨(s_iand (by decide +kernel : decode cX9_begin 63 = .ok (.iand, 1))).to, ?_⟩
  refine List.forall_mem_cons.mpr ⟨(s_lshl (by decide +kernel : decode cX9_begin 64 = .ok (.lshl, 1))).to, ?_⟩
  refine List.forall_mem_cons.mpr ⟨(s_lor (by decide +kernel : decode cX9_begin 65 = .ok (.lor, 1))).to, ?_⟩
  refine List.forall_mem_cons.mpr ⟨(s_last (by decide +kernel : decode cX9_begin 66 = .ok (.lastore, 1))).to, ?_⟩
  refine List.forall_mem_cons.mpr ⟨(s_iinc (by decide +kernel : decode cX9_begin 67 = .ok (.iinc 3 1, 3)) (by decide) (by decide)).to, ?_⟩
  refine List.forall_mem_cons.mpr ⟨(s_goto (by decide +kernel : decode cX9_begin 70 = .ok (.goto (-48), 3)) (by decide)).to, ?_⟩
  refine List.forall_mem_cons.mpr ⟨s_vret (by decide +kernel : decode cX9_begin 73 = .ok (.return_, 1)) rfl, ?_⟩
  exact fun _ h => absurd h List.not_mem_nil
theorem sn_tX9_isWater : ∀ q ∈ tX9_isWater, am_Snd am_P0 RX9 cX9_isWater 2 (Option.some FieldType.boolean) "isWater" q.1 q.2 := by
  unfold tX9_isWater
  refine List.forall_mem_cons.mpr ⟨(s_aloadn (by decide +kernel : decode cX9_isWater 0 = .ok (.aload_n 0, 1)) rfl).to, ?_⟩
  refine List.forall_mem_cons.mpr ⟨(s_get (ci := 9) (k := 0) (by decide +kernel : decode cX9_isWater 1 = .ok (.getfield 9, 3)) rfl (by decide) wd490 inX9 rfl).to, ?_⟩
  refine List.forall_mem_cons.mpr ⟨(s_iloadn (by decide +kernel : decode cX9_isWater 4 = .ok (.iload_n 1, 1)) rfl).to, ?_⟩
  refine List.forall_mem_cons.mpr ⟨(s_bipush (by decide +kernel : decode cX9_isWater 5 = .ok (.bipush 6, 2)) (by decide)).to, ?_⟩
  refine List.forall_mem_cons.mpr ⟨(s_ishr (by decide +kernel : decode cX9_isWater 7 = .ok (.ishr, 1))).to, ?_⟩
  refine List.forall_mem_cons.mpr ⟨(s_lald (by decide +kernel : decode cX9_isWater 8 = .ok (.laload, 1))).to, ?_⟩
  refine List.forall_mem_cons.mpr ⟨(s_iloadn (by decide +kernel : decode cX9_isWater 9 = .ok (.iload_n 1, 1)) rfl).to, ?_⟩
  refine List.forall_mem_cons.mpr ⟨(s_bipush (by decide +kernel : decode cX9_isWater 10 = .ok (.bipush 63, 2)) (by decide)).to, ?_⟩
  refine List.forall_mem_cons.mpr ⟨(s_iand (by decide +kernel : decode cX9_isWater 12 = .ok (.iand, 1))).to, ?_⟩
  refine List.forall_mem_cons.mpr ⟨(s_lushr (by decide +kernel : decode cX9_isWater 13 = .ok (.lushr, 1))).to, ?_⟩
  refine List.forall_mem_cons.mpr ⟨(s_lconst (by decide +kernel : decode cX9_isWater 14 = .ok (.lconst 1, 1)) (by decide)).to, ?_⟩
  refine List.forall_mem_cons.mpr ⟨(s_land (by decide +kernel : decode cX9_isWater 15 = .ok (.land, 1))).to, ?_⟩
  refine List.forall_mem_cons.mpr ⟨(s_lconst (by decide +kernel : decode cX9_isWater 16 = .ok (.lconst 0, 1)) (by decide)).to, ?_⟩
  refine List.forall_mem_cons.mpr ⟨(s_lcmp (by decide +kernel : decode cX9_isWater 17 = .ok (.lcmp, 1))).to, ?_⟩
  refine List.forall_mem_cons.mpr ⟨(s_if_eq (by decide +kernel : decode cX9_isWater 18 = .ok (.ifCond .eq 7, 3)) (by decide)).to, ?_⟩
  refine List.forall_mem_cons.mpr ⟨(s_iconst (by decide +kernel : decode cX9_isWater 21 = .ok (.iconst 1, 1)) (by decide)).to, ?_⟩
  refine List.forall_mem_cons.mpr ⟨(s_goto (by decide +kernel : decode cX9_isWater 22 = .ok (.goto 4, 3)) (by decide)).to, ?_⟩
  refine List.forall_mem_cons.mpr ⟨(s_iconst (by decide +kernel : decode cX9_isWater 25 = .ok (.iconst 0, 1)) (by decide)).to, ?_⟩
  refine List.forall_mem_cons.mpr ⟨s_zret (by decide +kernel : decode cX9_isWater 26 = .ok (.ireturn, 1)) rfl, ?_⟩
  exact fun _ h => absurd h List.not_mem_nil
theorem sn_tX9_isWithin : ∀ q ∈ tX9_isWithin, am_Snd am_P0 RX9 cX9_isWithin 4 (Option.some FieldType.boolean) "isWithin" q.1 q.2 := by
  unfold tX9_isWithin
  refine List.forall_mem_cons.mpr ⟨(s_aloadn (by decide +kernel : decode cX9_isWithin 0 = .ok (.aload_n 0, 1)) rfl).to, ?_⟩
  refine List.forall_mem_cons.mpr ⟨(s_iloadn (by decide +kernel : decode cX9_isWithin 1 = .ok (.iload_n 1, 1)) rfl).to, ?_⟩
  refine List.forall_mem_cons.mpr ⟨z_cv (by decide +kernel : decode cX9_isWithin 2 = .ok (.invokevirtual 55, 3)) mt105 wd962 (ci := 9) rfl (by decide), ?_⟩
  refine List.forall_mem_cons.mpr ⟨(s_iloadn (by decide +kernel : decode cX9_isWithin 5 = .ok (.iload_n 3, 1)) rfl).to, ?_⟩
  refine List.forall_mem_cons.mpr ⟨(s_iconst (by decide +kernel : decode cX9_isWithin 6 = .ok (.iconst 4, 1)) (by decide)).to, ?_⟩
  refine List.forall_mem_cons.mpr ⟨(s_imul (by decide +kernel : decode cX9_isWithin 7 = .ok (.imul, 1))).to, ?_⟩
  refine List.forall_mem_cons.mpr ⟨(s_iloadn (by decide +kernel : decode cX9_isWithin 8 = .ok (.iload_n 2, 1)) rfl).to, ?_⟩
  refine List.forall_mem_cons.mpr ⟨(s_bipush (by decide +kernel : decode cX9_isWithin 9 = .ok (.bipush 6, 2)) (by decide)).to, ?_⟩
  refine List.forall_mem_cons.mpr ⟨(s_ishr (by decide +kernel : decode cX9_isWithin 11 = .ok (.ishr, 1))).to, ?_⟩
  refine List.forall_mem_cons.mpr ⟨(s_iadd (by decide +kernel : decode cX9_isWithin 12 = .ok (.iadd, 1))).to, ?_⟩
  refine List.forall_mem_cons.mpr ⟨(s_lald (by decide +kernel : decode cX9_isWithin 13 = .ok (.laload, 1))).to, ?_⟩
  refine List.forall_mem_cons.mpr ⟨(s_iloadn (by decide +kernel : decode cX9_isWithin 14 = .ok (.iload_n 2, 1)) rfl).to, ?_⟩
  refine List.forall_mem_cons.mpr ⟨(s_bipush (by decide +kernel : decode cX9_isWithin 15 = .ok (.bipush 63, 2)) (by decide)).to, ?_⟩
  refine List.forall_mem_cons.mpr ⟨(s_iand (by decide +kernel : decode cX9_isWithin 17 = .ok (.iand, 1))).to, ?_⟩
  refine List.forall_mem_cons.mpr ⟨(s_lushr (by decide +kernel : decode cX9_isWithin 18 = .ok (.lushr, 1))).to, ?_⟩
  refine List.forall_mem_cons.mpr ⟨(s_lconst (by decide +kernel : decode cX9_isWithin 19 = .ok (.lconst 1, 1)) (by decide)).to, ?_⟩
  refine List.forall_mem_cons.mpr ⟨(s_land (by decide +kernel : decode cX9_isWithin 20 = .ok (.land, 1))).to, ?_⟩
  refine List.forall_mem_cons.mpr ⟨(s_lconst (by decide +kernel : decode cX9_isWithin 21 = .ok (.lconst 0, 1)) (by decide)).to, ?_⟩
  refine List.forall_mem_cons.mpr ⟨(s_lcmp (by decide +kernel : decode cX9_isWithin 22 = .ok (.lcmp, 1))).to, ?_⟩
  refine List.forall_mem_cons.mpr ⟨(s_if_eq (by decide +kernel : decode cX9_isWithin 23 = .ok (.ifCond .eq 7, 3)) (by decide)).to, ?_⟩
  refine List.forall_mem_cons.mpr ⟨(s_iconst (by decide +kernel : decode cX9_isWithin 26 = .ok (.iconst 1, 1)) (by decide)).to, ?_⟩
  refine List.forall_mem_cons.mpr ⟨(s_goto (by decide +kernel : decode cX9_isWithin 27 = .ok (.goto 4, 3)) (by decide)).to, ?_⟩
  refine List.forall_mem_cons.mpr ⟨(s_iconst (by decide +kernel : decode cX9_isWithin 30 = .ok (.iconst 0, 1)) (by decide)).to, ?_⟩
  refine List.forall_mem_cons.mpr ⟨s_zret (by decide +kernel : decode cX9_isWithin 31 = .ok (.ireturn, 1)) rfl, ?_⟩
  exact fun _ h => absurd h List.not_mem_nil
theorem sn_tX9_ringsOf_0 : ∀ q ∈ tX9_ringsOf_0, am_Snd am_P0 RX9 cX9_ringsOf 6 (Option.some (FieldType.array FieldType.long)) "ringsOf" q.1 q.2 := by
  unfold tX9_ringsOf_0
  refine List.forall_mem_cons.mpr ⟨(s_aloadn (by decide +kernel : decode cX9_ringsOf 0 = .ok (.aload_n 0, 1)) rfl).to, ?_⟩
  refine List.forall_mem_cons.mpr ⟨(s_get (ci := 9) (k := 2) (by decide +kernel : decode cX9_ringsOf 1 = .ok (.getfield 20, 3)) rfl (by decide) wd493 inX9 rfl).to, ?_⟩
  refine List.forall_mem_cons.mpr ⟨(s_iloadn (by decide +kernel : decode cX9_ringsOf 4 = .ok (.iload_n 1, 1)) rfl).to, ?_⟩
  refine List.forall_mem_cons.mpr ⟨(s_aald (by decide +kernel : decode cX9_ringsOf 5 = .ok (.aaload, 1))).to, ?_⟩
  refine List.forall_mem_cons.mpr ⟨(s_astoren (by decide +kernel : decode cX9_ringsOf 6 = .ok (.astore_n 2, 1)) rfl (by decide)).to, ?_⟩
  refine List.forall_mem_cons.mpr ⟨(s_aloadn (by decide +kernel : decode cX9_ringsOf 7 = .ok (.aload_n 2, 1)) rfl).to, ?_⟩
  refine List.forall_mem_cons.mpr ⟨(s_ifnn (by decide +kernel : decode cX9_ringsOf 8 = .ok (.ifnonnull 16, 3)) (by decide)).to, ?_⟩
  refine List.forall_mem_cons.mpr ⟨(s_sipush (by decide +kernel : decode cX9_ringsOf 11 = .ok (.sipush 192, 3)) (by decide)).to, ?_⟩
  refine List.forall_mem_cons.mpr ⟨(s_newa (kd := 1) (ty := .long) (by decide +kernel : decode cX9_ringsOf 14 = .ok (.newarray .long, 2)) rfl rfl wd303 (by decide) (by decide) (fun _ _ h => h)).to, ?_⟩
  refine List.forall_mem_cons.mpr ⟨(s_astoren (by decide +kernel : decode cX9_ringsOf 16 = .ok (.astore_n 2, 1)) rfl (by decide)).to, ?_⟩
  refine List.forall_mem_cons.mpr ⟨(s_aloadn (by decide +kernel : decode cX9_ringsOf 17 = .ok (.aload_n 0, 1)) rfl).to, ?_⟩
  refine List.forall_mem_cons.mpr ⟨(s_get (ci := 9) (k := 2) (by decide +kernel : decode cX9_ringsOf 18 = .ok (.getfield 20, 3)) rfl (by decide) wd493 inX9 rfl).to, ?_⟩
  refine List.forall_mem_cons.mpr ⟨(s_iloadn (by decide +kernel : decode cX9_ringsOf 21 = .ok (.iload_n 1, 1)) rfl).to, ?_⟩
  refine List.forall_mem_cons.mpr ⟨(s_aloadn (by decide +kernel : decode cX9_ringsOf 22 = .ok (.aload_n 2, 1)) rfl).to, ?_⟩
  refine List.forall_mem_cons.mpr ⟨(s_aas (by decide +kernel : decode cX9_ringsOf 23 = .ok (.aastore, 1))).to, ?_⟩
  refine List.forall_mem_cons.mpr ⟨(s_aloadn (by decide +kernel : decode cX9_ringsOf 24 = .ok (.aload_n 0, 1)) rfl).to, ?_⟩
  refine List.forall_mem_cons.mpr ⟨(s_get (ci := 9) (k := 3) (by decide +kernel : decode cX9_ringsOf 25 = .ok (.getfield 24, 3)) rfl (by decide) wd494 inX9 rfl).to, ?_⟩
  refine List.forall_mem_cons.mpr ⟨(s_iloadn (by decide +kernel : decode cX9_ringsOf 28 = .ok (.iload_n 1, 1)) rfl).to, ?_⟩
  refine List.forall_mem_cons.mpr ⟨(s_zald (by decide +kernel : decode cX9_ringsOf 29 = .ok (.baload, 1))).to, ?_⟩
  refine List.forall_mem_cons.mpr ⟨(s_if_eq (by decide +kernel : decode cX9_ringsOf 30 = .ok (.ifCond .eq 5, 3)) (by decide)).to, ?_⟩
  refine List.forall_mem_cons.mpr ⟨(s_aloadn (by decide +kernel : decode cX9_ringsOf 33 = .ok (.aload_n 2, 1)) rfl).to, ?_⟩
  refine List.forall_mem_cons.mpr ⟨s_aret (by decide +kernel : decode cX9_ringsOf 34 = .ok (.areturn, 1)) rfl (Or.inr ⟨_, rfl⟩), ?_⟩
  refine List.forall_mem_cons.mpr ⟨(s_aloadn (by decide +kernel : decode cX9_ringsOf 35 = .ok (.aload_n 0, 1)) rfl).to, ?_⟩
  refine List.forall_mem_cons.mpr ⟨(s_get (ci := 9) (k := 3) (by decide +kernel : decode cX9_ringsOf 36 = .ok (.getfield 24, 3)) rfl (by decide) wd494 inX9 rfl).to, ?_⟩
  refine List.forall_mem_cons.mpr ⟨(s_iloadn (by decide +kernel : decode cX9_ringsOf 39 = .ok (.iload_n 1, 1)) rfl).to, ?_⟩
  refine List.forall_mem_cons.mpr ⟨(s_iconst (by decide +kernel : decode cX9_ringsOf 40 = .ok (.iconst 1, 1)) (by decide)).to, ?_⟩
  refine List.forall_mem_cons.mpr ⟨(s_zast (by decide +kernel : decode cX9_ringsOf 41 = .ok (.bastore, 1))).to, ?_⟩
  refine List.forall_mem_cons.mpr ⟨(s_aloadn (by decide +kernel : decode cX9_ringsOf 42 = .ok (.aload_n 2, 1)) rfl).to, ?_⟩
  refine List.forall_mem_cons.mpr ⟨(s_lconst (by decide +kernel : decode cX9_ringsOf 43 = .ok (.lconst 0, 1)) (by decide)).to, ?_⟩
  refine List.forall_mem_cons.mpr ⟨z_cs (by decide +kernel : decode cX9_ringsOf 44 = .ok (.invokestatic 40, 3)) mt322 wd898, ?_⟩
  refine List.forall_mem_cons.mpr ⟨(s_aloadn (by decide +kernel : decode cX9_ringsOf 47 = .ok (.aload_n 2, 1)) rfl).to, ?_⟩
  refine List.forall_mem_cons.mpr ⟨(s_iloadn (by decide +kernel : decode cX9_ringsOf 48 = .ok (.iload_n 1, 1)) rfl).to, ?_⟩
  refine List.forall_mem_cons.mpr ⟨(s_bipush (by decide +kernel : decode cX9_ringsOf 49 = .ok (.bipush 6, 2)) (by decide)).to, ?_⟩
  refine List.forall_mem_cons.mpr ⟨(s_ishr (by decide +kernel : decode cX9_ringsOf 51 = .ok (.ishr, 1))).to, ?_⟩
  refine List.forall_mem_cons.mpr ⟨(s_lconst (by decide +kernel : decode cX9_ringsOf 52 = .ok (.lconst 1, 1)) (by decide)).to, ?_⟩
  refine List.forall_mem_cons.mpr ⟨(s_iloadn (by decide +kernel : decode cX9_ringsOf 53 = .ok (.iload_n 1, 1)) rfl).to, ?_⟩
  refine List.forall_mem_cons.mpr ⟨(s_bipush (by decide +kernel : decode cX9_ringsOf 54 = .ok (.bipush 63, 2)) (by decide)).to, ?_⟩
  refine List.forall_mem_cons.mpr ⟨(s_iand (by decide +kernel : decode cX9_ringsOf 56 = .ok (.iand, 1))).to, ?_⟩
  refine List.forall_mem_cons.mpr ⟨(s_lshl (by decide +kernel : decode cX9_ringsOf 57 = .ok (.lshl, 1))).to, ?_⟩
  refine List.forall_mem_cons.mpr ⟨(s_aloadn (by decide +kernel : decode cX9_ringsOf 58 = .ok (.aload_n 0, 1)) rfl).to, ?_⟩
  refine List.forall_mem_cons.mpr ⟨(s_get (ci := 9) (k := 0) (by decide +kernel : decode cX9_ringsOf 59 = .ok (.getfield 9, 3)) rfl (by decide) wd490 inX9 rfl).to, ?_⟩
  refine List.forall_mem_cons.mpr ⟨(s_iloadn (by decide +kernel : decode cX9_ringsOf 62 = .ok (.iload_n 1, 1)) rfl).to, ?_⟩
  refine List.forall_mem_cons.mpr ⟨(s_bipush (by decide +kernel : decode cX9_ringsOf 63 = .ok (.bipush 6, 2)) (by decide)).to, ?_⟩
  refine List.forall_mem_cons.mpr ⟨(s_ishr (by decide +kernel : decode cX9_ringsOf 65 = .ok (.ishr, 1))).to, ?_⟩
  refine List.forall_mem_cons.mpr ⟨(s_lald (by decide +kernel : decode cX9_ringsOf 66 = .ok (.laload, 1))).to, ?_⟩
  refine List.forall_mem_cons.mpr ⟨(s_land (by decide +kernel : decode cX9_ringsOf 67 = .ok (.land, 1))).to, ?_⟩
  refine List.forall_mem_cons.mpr ⟨(s_last (by decide +kernel : decode cX9_ringsOf 68 = .ok (.lastore, 1))).to, ?_⟩
  refine List.forall_mem_cons.mpr ⟨(s_iconst (by decide +kernel : decode cX9_ringsOf 69 = .ok (.iconst 1, 1)) (by decide)).to, ?_⟩
  refine List.forall_mem_cons.mpr ⟨(s_istoren (by decide +kernel : decode cX9_ringsOf 70 = .ok (.istore_n 3, 1)) rfl (by decide)).to, ?_⟩
  refine List.forall_mem_cons.mpr ⟨(s_iconst (by decide +kernel : decode cX9_ringsOf 71 = .ok (.iconst 4, 1)) (by decide)).to, ?_⟩
  refine List.forall_mem_cons.mpr ⟨(s_istore (by decide +kernel : decode cX9_ringsOf 72 = .ok (.istore 4, 2)) (by decide)).to, ?_⟩
  refine List.forall_mem_cons.mpr ⟨(s_iload (by decide +kernel : decode cX9_ringsOf 74 = .ok (.iload 4, 2))).to, ?_⟩
  refine List.forall_mem_cons.mpr ⟨(s_sipush (by decide +kernel : decode cX9_ringsOf 76 = .ok (.sipush 192, 3)) (by decide)).to, ?_⟩
  refine List.forall_mem_cons.mpr ⟨(s_icmp_ge (by decide +kernel : decode cX9_ringsOf 79 = .ok (.if_icmp .ge 51, 3)) (by decide)).to, ?_⟩
  refine List.forall_mem_cons.mpr ⟨(s_aloadn (by decide +kernel : decode cX9_ringsOf 82 = .ok (.aload_n 2, 1)) rfl).to, ?_⟩
  refine List.forall_mem_cons.mpr ⟨(s_iload (by decide +kernel : decode cX9_ringsOf 83 = .ok (.iload 4, 2))).to, ?_⟩
  refine List.forall_mem_cons.mpr ⟨(s_iconst (by decide +kernel : decode cX9_ringsOf 85 = .ok (.iconst 4, 1)) (by decide)).to, ?_⟩
  refine List.forall_mem_cons.mpr ⟨(s_isub (by decide +kernel : decode cX9_ringsOf 86 = .ok (.isub, 1))).to, ?_⟩
  refine List.forall_mem_cons.mpr ⟨(s_aloadn (by decide +kernel : decode cX9_ringsOf 87 = .ok (.aload_n 2, 1)) rfl).to, ?_⟩
  refine List.forall_mem_cons.mpr ⟨(s_iload (by decide +kernel : decode cX9_ringsOf 88 = .ok (.iload 4, 2))).to, ?_⟩
  exact fun _ h => absurd h List.not_mem_nil
theorem sn_tX9_ringsOf_1 : ∀ q ∈ tX9_ringsOf_1, am_Snd am_P0 RX9 cX9_ringsOf 6 (Option.some (FieldType.array FieldType.long)) "ringsOf" q.1 q.2 := by
  unfold tX9_ringsOf_1
  refine List.forall_mem_cons.mpr ⟨(s_iconst (by decide +kernel : decode cX9_ringsOf 90 = .ok (.iconst 4, 1)) (by decide)).to, ?_⟩
  refine List.forall_mem_cons.mpr ⟨(s_cpl (by decide +kernel : decode cX9_ringsOf 91 = .ok (.invokestatic 59, 3)) wd966 wd968 wd967 wd152).to, ?_⟩
  refine List.forall_mem_cons.mpr ⟨(s_iconst (by decide +kernel : decode cX9_ringsOf 94 = .ok (.iconst 0, 1)) (by decide)).to, ?_⟩
  refine List.forall_mem_cons.mpr ⟨(s_istore (by decide +kernel : decode cX9_ringsOf 95 = .ok (.istore 5, 2)) (by decide)).to, ?_⟩
  refine List.forall_mem_cons.mpr ⟨(s_iloadn (by decide +kernel : decode cX9_ringsOf 97 = .ok (.iload_n 3, 1)) rfl).to, ?_⟩
  refine List.forall_mem_cons.mpr ⟨(s_if_eq (by decide +kernel : decode cX9_ringsOf 98 = .ok (.ifCond .eq 26, 3)) (by decide)).to, ?_⟩
  refine List.forall_mem_cons.mpr ⟨(s_iload (by decide +kernel : decode cX9_ringsOf 101 = .ok (.iload 5, 2))).to, ?_⟩
  refine List.forall_mem_cons.mpr ⟨(s_aloadn (by decide +kernel : decode cX9_ringsOf 103 = .ok (.aload_n 0, 1)) rfl).to, ?_⟩
  refine List.forall_mem_cons.mpr ⟨(s_get (ci := 9) (k := 1) (by decide +kernel : decode cX9_ringsOf 104 = .ok (.getfield 15, 3)) rfl (by decide) wd492 inX9 rfl).to, ?_⟩
  refine List.forall_mem_cons.mpr ⟨(s_icmp_ge (by decide +kernel : decode cX9_ringsOf 107 = .ok (.if_icmp .ge 17, 3)) (by decide)).to, ?_⟩
  refine List.forall_mem_cons.mpr ⟨(s_aloadn (by decide +kernel : decode cX9_ringsOf 110 = .ok (.aload_n 0, 1)) rfl).to, ?_⟩
  refine List.forall_mem_cons.mpr ⟨(s_aloadn (by decide +kernel : decode cX9_ringsOf 111 = .ok (.aload_n 2, 1)) rfl).to, ?_⟩
  refine List.forall_mem_cons.mpr ⟨(s_iload (by decide +kernel : decode cX9_ringsOf 112 = .ok (.iload 4, 2))).to, ?_⟩
  refine List.forall_mem_cons.mpr ⟨z_cv (by decide +kernel : decode cX9_ringsOf 114 = .ok (.invokevirtual 65, 3)) mt106 wd969 (ci := 9) rfl (by decide), ?_⟩
  refine List.forall_mem_cons.mpr ⟨(s_istoren (by decide +kernel : decode cX9_ringsOf 117 = .ok (.istore_n 3, 1)) rfl (by decide)).to, ?_⟩
  refine List.forall_mem_cons.mpr ⟨(s_iinc (by decide +kernel : decode cX9_ringsOf 118 = .ok (.iinc 5 1, 3)) (by decide) (by decide)).to, ?_⟩
  refine List.forall_mem_cons.mpr ⟨(s_goto (by decide +kernel : decode cX9_ringsOf 121 = .ok (.goto (-24), 3)) (by decide)).to, ?_⟩
  refine List.forall_mem_cons.mpr ⟨(s_iinc (by decide +kernel : decode cX9_ringsOf 124 = .ok (.iinc 4 4, 3)) (by decide) (by decide)).to, ?_⟩
  refine List.forall_mem_cons.mpr ⟨(s_goto (by decide +kernel : decode cX9_ringsOf 127 = .ok (.goto (-53), 3)) (by decide)).to, ?_⟩
  refine List.forall_mem_cons.mpr ⟨(s_aloadn (by decide +kernel : decode cX9_ringsOf 130 = .ok (.aload_n 2, 1)) rfl).to, ?_⟩
  refine List.forall_mem_cons.mpr ⟨s_aret (by decide +kernel : decode cX9_ringsOf 131 = .ok (.areturn, 1)) rfl (Or.inr ⟨_, rfl⟩), ?_⟩
  exact fun _ h => absurd h List.not_mem_nil
theorem sn_tX9_ringsOf : ∀ q ∈ tX9_ringsOf, am_Snd am_P0 RX9 cX9_ringsOf 6 (Option.some (FieldType.array FieldType.long)) "ringsOf" q.1 q.2 := by
  unfold tX9_ringsOf
  exact List.forall_mem_append.mpr ⟨sn_tX9_ringsOf_0, sn_tX9_ringsOf_1⟩
theorem sn_tX9_widen_0 : ∀ q ∈ tX9_widen_0, am_Snd am_P0 RX9 cX9_widen 17 (Option.some FieldType.boolean) "widen" q.1 q.2 := by
  unfold tX9_widen_0
  refine List.forall_mem_cons.mpr ⟨(s_iconst (by decide +kernel : decode cX9_widen 0 = .ok (.iconst 0, 1)) (by decide)).to, ?_⟩
  refine List.forall_mem_cons.mpr ⟨(s_istoren (by decide +kernel : decode cX9_widen 1 = .ok (.istore_n 3, 1)) rfl (by decide)).to, ?_⟩
  refine List.forall_mem_cons.mpr ⟨(s_lconst (by decide +kernel : decode cX9_widen 2 = .ok (.lconst 0, 1)) (by decide)).to, ?_⟩
  refine List.forall_mem_cons.mpr ⟨(s_lstore (by decide +kernel : decode cX9_widen 3 = .ok (.lstore 4, 2)) (by decide)).to, ?_⟩
  refine List.forall_mem_cons.mpr ⟨(s_iconst (by decide +kernel : decode cX9_widen 5 = .ok (.iconst 0, 1)) (by decide)).to, ?_⟩
  refine List.forall_mem_cons.mpr ⟨(s_istore (by decide +kernel : decode cX9_widen 6 = .ok (.istore 6, 2)) (by decide)).to, ?_⟩
  refine List.forall_mem_cons.mpr ⟨(s_iload (by decide +kernel : decode cX9_widen 8 = .ok (.iload 6, 2))).to, ?_⟩
  refine List.forall_mem_cons.mpr ⟨(s_iconst (by decide +kernel : decode cX9_widen 10 = .ok (.iconst 4, 1)) (by decide)).to, ?_⟩
  refine List.forall_mem_cons.mpr ⟨(s_icmp_ge (by decide +kernel : decode cX9_widen 11 = .ok (.if_icmp .ge 133, 3)) (by decide)).to, ?_⟩
  refine List.forall_mem_cons.mpr ⟨(s_aloadn (by decide +kernel : decode cX9_widen 14 = .ok (.aload_n 1, 1)) rfl).to, ?_⟩
  refine List.forall_mem_cons.mpr ⟨(s_iloadn (by decide +kernel : decode cX9_widen 15 = .ok (.iload_n 2, 1)) rfl).to, ?_⟩
  refine List.forall_mem_cons.mpr ⟨(s_iload (by decide +kernel : decode cX9_widen 16 = .ok (.iload 6, 2))).to, ?_⟩
  refine List.forall_mem_cons.mpr ⟨(s_iadd (by decide +kernel : decode cX9_widen 18 = .ok (.iadd, 1))).to, ?_⟩
  refine List.forall_mem_cons.mpr ⟨(s_lald (by decide +kernel : decode cX9_widen 19 = .ok (.laload, 1))).to, ?_⟩
  refine List.forall_mem_cons.mpr ⟨(s_lstore (by decide +kernel : decode cX9_widen 20 = .ok (.lstore 7, 2)) (by decide)).to, ?_⟩
  refine List.forall_mem_cons.mpr ⟨(s_iload (by decide +kernel : decode cX9_widen 22 = .ok (.iload 6, 2))).to, ?_⟩
  refine List.forall_mem_cons.mpr ⟨(s_iconst (by decide +kernel : decode cX9_widen 24 = .ok (.iconst 1, 1)) (by decide)).to, ?_⟩
  refine List.forall_mem_cons.mpr ⟨(s_iadd (by decide +kernel : decode cX9_widen 25 = .ok (.iadd, 1))).to, ?_⟩
  refine List.forall_mem_cons.mpr ⟨(s_iconst (by decide +kernel : decode cX9_widen 26 = .ok (.iconst 4, 1)) (by decide)).to, ?_⟩
  refine List.forall_mem_cons.mpr ⟨(s_icmp_ge (by decide +kernel : decode cX9_widen 27 = .ok (.if_icmp .ge 14, 3)) (by decide)).to, ?_⟩
  refine List.forall_mem_cons.mpr ⟨(s_aloadn (by decide +kernel : decode cX9_widen 30 = .ok (.aload_n 1, 1)) rfl).to, ?_⟩
  refine List.forall_mem_cons.mpr ⟨(s_iloadn (by decide +kernel : decode cX9_widen 31 = .ok (.iload_n 2, 1)) rfl).to, ?_⟩
  refine List.forall_mem_cons.mpr ⟨(s_iload (by decide +kernel : decode cX9_widen 32 = .ok (.iload 6, 2))).to, ?_⟩
  refine List.forall_mem_cons.mpr ⟨(s_iadd (by decide +kernel : decode cX9_widen 34 = .ok (.iadd, 1))).to, ?_⟩
  refine List.forall_mem_cons.mpr ⟨(s_iconst (by decide +kernel : decode cX9_widen 35 = .ok (.iconst 1, 1)) (by decide)).to, ?_⟩
  refine List.forall_mem_cons.mpr ⟨(s_iadd (by decide +kernel : decode cX9_widen 36 = .ok (.iadd, 1))).to, ?_⟩
  refine List.forall_mem_cons.mpr ⟨(s_lald (by decide +kernel : decode cX9_widen 37 = .ok (.laload, 1))).to, ?_⟩
  refine List.forall_mem_cons.mpr ⟨(s_goto (by decide +kernel : decode cX9_widen 38 = .ok (.goto 4, 3)) (by decide)).to, ?_⟩
  refine List.forall_mem_cons.mpr ⟨(s_lconst (by decide +kernel : decode cX9_widen 41 = .ok (.lconst 0, 1)) (by decide)).to, ?_⟩
  refine List.forall_mem_cons.mpr ⟨(s_lstore (by decide +kernel : decode cX9_widen 42 = .ok (.lstore 9, 2)) (by decide)).to, ?_⟩
  refine List.forall_mem_cons.mpr ⟨(s_lload (by decide +kernel : decode cX9_widen 44 = .ok (.lload 7, 2))).to, ?_⟩
  refine List.forall_mem_cons.mpr ⟨(s_iconst (by decide +kernel : decode cX9_widen 46 = .ok (.iconst 1, 1)) (by decide)).to, ?_⟩
  refine List.forall_mem_cons.mpr ⟨(s_lshl (by decide +kernel : decode cX9_widen 47 = .ok (.lshl, 1))).to, ?_⟩
  refine List.forall_mem_cons.mpr ⟨(s_ldc2 (by decide +kernel : decode cX9_widen 48 = .ok (.ldc2_w 69, 3)) wd973).to, ?_⟩
  refine List.forall_mem_cons.mpr ⟨(s_land (by decide +kernel : decode cX9_widen 51 = .ok (.land, 1))).to, ?_⟩
  refine List.forall_mem_cons.mpr ⟨(s_lload (by decide +kernel : decode cX9_widen 52 = .ok (.lload 7, 2))).to, ?_⟩
  refine List.forall_mem_cons.mpr ⟨(s_iconst (by decide +kernel : decode cX9_widen 54 = .ok (.iconst 1, 1)) (by decide)).to, ?_⟩
  refine List.forall_mem_cons.mpr ⟨(s_lushr (by decide +kernel : decode cX9_widen 55 = .ok (.lushr, 1))).to, ?_⟩
  refine List.forall_mem_cons.mpr ⟨(s_ldc2 (by decide +kernel : decode cX9_widen 56 = .ok (.ldc2_w 71, 3)) wd974).to, ?_⟩
  refine List.forall_mem_cons.mpr ⟨(s_land (by decide +kernel : decode cX9_widen 59 = .ok (.land, 1))).to, ?_⟩
  refine List.forall_mem_cons.mpr ⟨(s_lor (by decide +kernel : decode cX9_widen 60 = .ok (.lor, 1))).to, ?_⟩
  refine List.forall_mem_cons.mpr ⟨(s_lstore (by decide +kernel : decode cX9_widen 61 = .ok (.lstore 11, 2)) (by decide)).to, ?_⟩
  refine List.forall_mem_cons.mpr ⟨(s_lload (by decide +kernel : decode cX9_widen 63 = .ok (.lload 7, 2))).to, ?_⟩
  refine List.forall_mem_cons.mpr ⟨(s_bipush (by decide +kernel : decode cX9_widen 65 = .ok (.bipush 16, 2)) (by decide)).to, ?_⟩
  refine List.forall_mem_cons.mpr ⟨(s_lshl (by decide +kernel : decode cX9_widen 67 = .ok (.lshl, 1))).to, ?_⟩
  refine List.forall_mem_cons.mpr ⟨(s_lload (by decide +kernel : decode cX9_widen 68 = .ok (.lload 4, 2))).to, ?_⟩
  refine List.forall_mem_cons.mpr ⟨(s_bipush (by decide +kernel : decode cX9_widen 70 = .ok (.bipush 48, 2)) (by decide)).to, ?_⟩
  refine List.forall_mem_cons.mpr ⟨(s_lushr (by decide +kernel : decode cX9_widen 72 = .ok (.lushr, 1))).to, ?_⟩
  refine List.forall_mem_cons.mpr ⟨(s_lor (by decide +kernel : decode cX9_widen 73 = .ok (.lor, 1))).to, ?_⟩
  refine List.forall_mem_cons.mpr ⟨(s_lstore (by decide +kernel : decode cX9_widen 74 = .ok (.lstore 13, 2)) (by decide)).to, ?_⟩
  refine List.forall_mem_cons.mpr ⟨(s_lload (by decide +kernel : decode cX9_widen 76 = .ok (.lload 7, 2))).to, ?_⟩
  refine List.forall_mem_cons.mpr ⟨(s_bipush (by decide +kernel : decode cX9_widen 78 = .ok (.bipush 16, 2)) (by decide)).to, ?_⟩
  refine List.forall_mem_cons.mpr ⟨(s_lushr (by decide +kernel : decode cX9_widen 80 = .ok (.lushr, 1))).to, ?_⟩
  refine List.forall_mem_cons.mpr ⟨(s_lload (by decide +kernel : decode cX9_widen 81 = .ok (.lload 9, 2))).to, ?_⟩
  refine List.forall_mem_cons.mpr ⟨(s_bipush (by decide +kernel : decode cX9_widen 83 = .ok (.bipush 48, 2)) (by decide)).to, ?_⟩
  refine List.forall_mem_cons.mpr ⟨(s_lshl (by decide +kernel : decode cX9_widen 85 = .ok (.lshl, 1))).to, ?_⟩
  refine List.forall_mem_cons.mpr ⟨(s_lor (by decide +kernel : decode cX9_widen 86 = .ok (.lor, 1))).to, ?_⟩
  refine List.forall_mem_cons.mpr ⟨(s_lstore (by decide +kernel : decode cX9_widen 87 = .ok (.lstore 15, 2)) (by decide)).to, ?_⟩
  refine List.forall_mem_cons.mpr ⟨(s_aloadn (by decide +kernel : decode cX9_widen 89 = .ok (.aload_n 1, 1)) rfl).to, ?_⟩
  refine List.forall_mem_cons.mpr ⟨(s_iloadn (by decide +kernel : decode cX9_widen 90 = .ok (.iload_n 2, 1)) rfl).to, ?_⟩
  exact fun _ h => absurd h List.not_mem_nil
theorem sn_tX9_widen_1 : ∀ q ∈ tX9_widen_1, am_Snd am_P0 RX9 cX9_widen 17 (Option.some FieldType.boolean) "widen" q.1 q.2 := by
  unfold tX9_widen_1
  refine List.forall_mem_cons.mpr ⟨(s_iload (by decide +kernel : decode cX9_widen 91 = .ok (.iload 6, 2))).to, ?_⟩
  refine List.forall_mem_cons.mpr ⟨(s_iadd (by decide +kernel : decode cX9_widen 93 = .ok (.iadd, 1))).to, ?_⟩
  refine List.forall_mem_cons.mpr ⟨(s_lload (by decide +kernel : decode cX9_widen 94 = .ok (.lload 7, 2))).to, ?_⟩
  refine List.forall_mem_cons.mpr ⟨(s_lload (by decide +kernel : decode cX9_widen 96 = .ok (.lload 11, 2))).to, ?_⟩
  refine List.forall_mem_cons.mpr ⟨(s_lor (by decide +kernel : decode cX9_widen 98 = .ok (.lor, 1))).to, ?_⟩
  refine List.forall_mem_cons.mpr ⟨(s_lload (by decide +kernel : decode cX9_widen 99 = .ok (.lload 13, 2))).to, ?_⟩
  refine List.forall_mem_cons.mpr ⟨(s_lor (by decide +kernel : decode cX9_widen 101 = .ok (.lor, 1))).to, ?_⟩
  refine List.forall_mem_cons.mpr ⟨(s_lload (by decide +kernel : decode cX9_widen 102 = .ok (.lload 15, 2))).to, ?_⟩
  refine List.forall_mem_cons.mpr ⟨(s_lor (by decide +kernel : decode cX9_widen 104 = .ok (.lor, 1))).to, ?_⟩
  refine List.forall_mem_cons.mpr ⟨(s_aloadn (by decide +kernel : decode cX9_widen 105 = .ok (.aload_n 0, 1)) rfl).to, ?_⟩
  refine List.forall_mem_cons.mpr ⟨(s_get (ci := 9) (k := 0) (by decide +kernel : decode cX9_widen 106 = .ok (.getfield 9, 3)) rfl (by decide) wd490 inX9 rfl).to, ?_⟩
  refine List.forall_mem_cons.mpr ⟨(s_iload (by decide +kernel : decode cX9_widen 109 = .ok (.iload 6, 2))).to, ?_⟩
  refine List.forall_mem_cons.mpr ⟨(s_lald (by decide +kernel : decode cX9_widen 111 = .ok (.laload, 1))).to, ?_⟩
  refine List.forall_mem_cons.mpr ⟨(s_land (by decide +kernel : decode cX9_widen 112 = .ok (.land, 1))).to, ?_⟩
  refine List.forall_mem_cons.mpr ⟨(s_last (by decide +kernel : decode cX9_widen 113 = .ok (.lastore, 1))).to, ?_⟩
  refine List.forall_mem_cons.mpr ⟨(s_iloadn (by decide +kernel : decode cX9_widen 114 = .ok (.iload_n 3, 1)) rfl).to, ?_⟩
  refine List.forall_mem_cons.mpr ⟨(s_aloadn (by decide +kernel : decode cX9_widen 115 = .ok (.aload_n 1, 1)) rfl).to, ?_⟩
  refine List.forall_mem_cons.mpr ⟨(s_iloadn (by decide +kernel : decode cX9_widen 116 = .ok (.iload_n 2, 1)) rfl).to, ?_⟩
  refine List.forall_mem_cons.mpr ⟨(s_iload (by decide +kernel : decode cX9_widen 117 = .ok (.iload 6, 2))).to, ?_⟩
  refine List.forall_mem_cons.mpr ⟨(s_iadd (by decide +kernel : decode cX9_widen 119 = .ok (.iadd, 1))).to, ?_⟩
  refine List.forall_mem_cons.mpr ⟨(s_lald (by decide +kernel : decode cX9_widen 120 = .ok (.laload, 1))).to, ?_⟩
  refine List.forall_mem_cons.mpr ⟨(s_lload (by decide +kernel : decode cX9_widen 121 = .ok (.lload 7, 2))).to, ?_⟩
  refine List.forall_mem_cons.mpr ⟨(s_lcmp (by decide +kernel : decode cX9_widen 123 = .ok (.lcmp, 1))).to, ?_⟩
  refine List.forall_mem_cons.mpr ⟨(s_if_eq (by decide +kernel : decode cX9_widen 124 = .ok (.ifCond .eq 7, 3)) (by decide)).to, ?_⟩
  refine List.forall_mem_cons.mpr ⟨(s_iconst (by decide +kernel : decode cX9_widen 127 = .ok (.iconst 1, 1)) (by decide)).to, ?_⟩
  refine List.forall_mem_cons.mpr ⟨(s_goto (by decide +kernel : decode cX9_widen 128 = .ok (.goto 4, 3)) (by decide)).to, ?_⟩
  refine List.forall_mem_cons.mpr ⟨(s_iconst (by decide +kernel : decode cX9_widen 131 = .ok (.iconst 0, 1)) (by decide)).to, ?_⟩
  refine List.forall_mem_cons.mpr ⟨(s_ior (by decide +kernel : decode cX9_widen 132 = .ok (.ior, 1))).to, ?_⟩
  refine List.forall_mem_cons.mpr ⟨(s_istoren (by decide +kernel : decode cX9_widen 133 = .ok (.istore_n 3, 1)) rfl (by decide)).to, ?_⟩
  refine List.forall_mem_cons.mpr ⟨(s_lload (by decide +kernel : decode cX9_widen 134 = .ok (.lload 7, 2))).to, ?_⟩
  refine List.forall_mem_cons.mpr ⟨(s_lstore (by decide +kernel : decode cX9_widen 136 = .ok (.lstore 4, 2)) (by decide)).to, ?_⟩
  refine List.forall_mem_cons.mpr ⟨(s_iinc (by decide +kernel : decode cX9_widen 138 = .ok (.iinc 6 1, 3)) (by decide) (by decide)).to, ?_⟩
  refine List.forall_mem_cons.mpr ⟨(s_goto (by decide +kernel : decode cX9_widen 141 = .ok (.goto (-133), 3)) (by decide)).to, ?_⟩
  refine List.forall_mem_cons.mpr ⟨(s_iloadn (by decide +kernel : decode cX9_widen 144 = .ok (.iload_n 3, 1)) rfl).to, ?_⟩
  refine List.forall_mem_cons.mpr ⟨s_zret (by decide +kernel : decode cX9_widen 145 = .ok (.ireturn, 1)) rfl, ?_⟩
  exact fun _ h => absurd h List.not_mem_nil
theorem sn_tX9_widen : ∀ q ∈ tX9_widen, am_Snd am_P0 RX9 cX9_widen 17 (Option.some FieldType.boolean) "widen" q.1 q.2 := by
  unfold tX9_widen
  exact List.forall_mem_append.mpr ⟨sn_tX9_widen_0, sn_tX9_widen_1⟩
theorem sn_tX9_hoursBetween_0 : ∀ q ∈ tX9_hoursBetween_0, am_Snd am_P0 RX9 cX9_hoursBetween 4 (Option.some FieldType.int) "hoursBetween" q.1 q.2 := by
  unfold tX9_hoursBetween_0
  refine List.forall_mem_cons.mpr ⟨(s_aloadn (by decide +kernel : decode cX9_hoursBetween 0 = .ok (.aload_n 0, 1)) rfl).to, ?_⟩
  refine List.forall_mem_cons.mpr ⟨(s_iloadn (by decide +kernel : decode cX9_hoursBetween 1 = .ok (.iload_n 1, 1)) rfl).to, ?_⟩
  refine List.forall_mem_cons.mpr ⟨z_cv (by decide +kernel : decode cX9_hoursBetween 2 = .ok (.invokevirtual 73, 3)) mt103 wd1048 (ci := 9) rfl (by decide), ?_⟩
  refine List.forall_mem_cons.mpr ⟨(s_if_eq (by decide +kernel : decode cX9_hoursBetween 5 = .ok (.ifCond .eq 11, 3)) (by decide)).to, ?_⟩
  refine List.forall_mem_cons.mpr ⟨(s_aloadn (by decide +kernel : decode cX9_hoursBetween 8 = .ok (.aload_n 0, 1)) rfl).to, ?_⟩
  refine List.forall_mem_cons.mpr ⟨(s_iloadn (by decide +kernel : decode cX9_hoursBetween 9 = .ok (.iload_n 2, 1)) rfl).to, ?_⟩
  refine List.forall_mem_cons.mpr ⟨z_cv (by decide +kernel : decode cX9_hoursBetween 10 = .ok (.invokevirtual 73, 3)) mt103 wd1048 (ci := 9) rfl (by decide), ?_⟩
  refine List.forall_mem_cons.mpr ⟨(s_if_ne (by decide +kernel : decode cX9_hoursBetween 13 = .ok (.ifCond .ne 5, 3)) (by decide)).to, ?_⟩
  refine List.forall_mem_cons.mpr ⟨(s_iconst (by decide +kernel : decode cX9_hoursBetween 16 = .ok (.iconst (-1), 1)) (by decide)).to, ?_⟩
  refine List.forall_mem_cons.mpr ⟨s_iret (by decide +kernel : decode cX9_hoursBetween 17 = .ok (.ireturn, 1)) rfl, ?_⟩
  refine List.forall_mem_cons.mpr ⟨(s_aloadn (by decide +kernel : decode cX9_hoursBetween 18 = .ok (.aload_n 0, 1)) rfl).to, ?_⟩
  refine List.forall_mem_cons.mpr ⟨(s_get (ci := 9) (k := 4) (by decide +kernel : decode cX9_hoursBetween 19 = .ok (.getfield 28, 3)) rfl (by decide) wd495 inX9 rfl).to, ?_⟩
  refine List.forall_mem_cons.mpr ⟨(s_lconst (by decide +kernel : decode cX9_hoursBetween 22 = .ok (.lconst 0, 1)) (by decide)).to, ?_⟩
  refine List.forall_mem_cons.mpr ⟨z_cs (by decide +kernel : decode cX9_hoursBetween 23 = .ok (.invokestatic 40, 3)) mt322 wd898, ?_⟩
  refine List.forall_mem_cons.mpr ⟨(s_aloadn (by decide +kernel : decode cX9_hoursBetween 26 = .ok (.aload_n 0, 1)) rfl).to, ?_⟩
  refine List.forall_mem_cons.mpr ⟨(s_get (ci := 9) (k := 4) (by decide +kernel : decode cX9_hoursBetween 27 = .ok (.getfield 28, 3)) rfl (by decide) wd495 inX9 rfl).to, ?_⟩
  refine List.forall_mem_cons.mpr ⟨(s_iloadn (by decide +kernel : decode cX9_hoursBetween 30 = .ok (.iload_n 1, 1)) rfl).to, ?_⟩
  refine List.forall_mem_cons.mpr ⟨(s_bipush (by decide +kernel : decode cX9_hoursBetween 31 = .ok (.bipush 6, 2)) (by decide)).to, ?_⟩
  refine List.forall_mem_cons.mpr ⟨(s_ishr (by decide +kernel : decode cX9_hoursBetween 33 = .ok (.ishr, 1))).to, ?_⟩
  refine List.forall_mem_cons.mpr ⟨(s_lconst (by decide +kernel : decode cX9_hoursBetween 34 = .ok (.lconst 1, 1)) (by decide)).to, ?_⟩
  refine List.forall_mem_cons.mpr ⟨(s_iloadn (by decide +kernel : decode cX9_hoursBetween 35 = .ok (.iload_n 1, 1)) rfl).to, ?_⟩
  refine List.forall_mem_cons.mpr ⟨(s_bipush (by decide +kernel : decode cX9_hoursBetween 36 = .ok (.bipush 63, 2)) (by decide)).to, ?_⟩
  refine List.forall_mem_cons.mpr ⟨(s_iand (by decide +kernel : decode cX9_hoursBetween 38 = .ok (.iand, 1))).to, ?_⟩
  refine List.forall_mem_cons.mpr ⟨(s_lshl (by decide +kernel : decode cX9_hoursBetween 39 = .ok (.lshl, 1))).to, ?_⟩
  refine List.forall_mem_cons.mpr ⟨(s_last (by decide +kernel : decode cX9_hoursBetween 40 = .ok (.lastore, 1))).to, ?_⟩
  refine List.forall_mem_cons.mpr ⟨(s_iconst (by decide +kernel : decode cX9_hoursBetween 41 = .ok (.iconst 0, 1)) (by decide)).to, ?_⟩
  refine List.forall_mem_cons.mpr ⟨(s_istoren (by decide +kernel : decode cX9_hoursBetween 42 = .ok (.istore_n 3, 1)) rfl (by decide)).to, ?_⟩
  refine List.forall_mem_cons.mpr ⟨(s_iloadn (by decide +kernel : decode cX9_hoursBetween 43 = .ok (.iload_n 3, 1)) rfl).to, ?_⟩
  refine List.forall_mem_cons.mpr ⟨(s_sipush (by decide +kernel : decode cX9_hoursBetween 44 = .ok (.sipush 256, 3)) (by decide)).to, ?_⟩
  refine List.forall_mem_cons.mpr ⟨(s_icmp_ge (by decide +kernel : decode cX9_hoursBetween 47 = .ok (.if_icmp .ge 58, 3)) (by decide)).to, ?_⟩
  refine List.forall_mem_cons.mpr ⟨(s_aloadn (by decide +kernel : decode cX9_hoursBetween 50 = .ok (.aload_n 0, 1)) rfl).to, ?_⟩
  refine List.forall_mem_cons.mpr ⟨(s_get (ci := 9) (k := 4) (by decide +kernel : decode cX9_hoursBetween 51 = .ok (.getfield 28, 3)) rfl (by decide) wd495 inX9 rfl).to, ?_⟩
  refine List.forall_mem_cons.mpr ⟨(s_iloadn (by decide +kernel : decode cX9_hoursBetween 54 = .ok (.iload_n 2, 1)) rfl).to, ?_⟩
  refine List.forall_mem_cons.mpr ⟨(s_bipush (by decide +kernel : decode cX9_hoursBetween 55 = .ok (.bipush 6, 2)) (by decide)).to, ?_⟩
  refine List.forall_mem_cons.mpr ⟨(s_ishr (by decide +kernel : decode cX9_hoursBetween 57 = .ok (.ishr, 1))).to, ?_⟩
  refine List.forall_mem_cons.mpr ⟨(s_lald (by decide +kernel : decode cX9_hoursBetween 58 = .ok (.laload, 1))).to, ?_⟩
  refine List.forall_mem_cons.mpr ⟨(s_iloadn (by decide +kernel : decode cX9_hoursBetween 59 = .ok (.iload_n 2, 1)) rfl).to, ?_⟩
  refine List.forall_mem_cons.mpr ⟨(s_bipush (by decide +kernel : decode cX9_hoursBetween 60 = .ok (.bipush 63, 2)) (by decide)).to, ?_⟩
  refine List.forall_mem_cons.mpr ⟨(s_iand (by decide +kernel : decode cX9_hoursBetween 62 = .ok (.iand, 1))).to, ?_⟩
  refine List.forall_mem_cons.mpr ⟨(s_lushr (by decide +kernel : decode cX9_hoursBetween 63 = .ok (.lushr, 1))).to, ?_⟩
  refine List.forall_mem_cons.mpr ⟨(s_lconst (by decide +kernel : decode cX9_hoursBetween 64 = .ok (.lconst 1, 1)) (by decide)).to, ?_⟩
  refine List.forall_mem_cons.mpr ⟨(s_land (by decide +kernel : decode cX9_hoursBetween 65 = .ok (.land, 1))).to, ?_⟩
  refine List.forall_mem_cons.mpr ⟨(s_lconst (by decide +kernel : decode cX9_hoursBetween 66 = .ok (.lconst 0, 1)) (by decide)).to, ?_⟩
  refine List.forall_mem_cons.mpr ⟨(s_lcmp (by decide +kernel : decode cX9_hoursBetween 67 = .ok (.lcmp, 1))).to, ?_⟩
  refine List.forall_mem_cons.mpr ⟨(s_if_eq (by decide +kernel : decode cX9_hoursBetween 68 = .ok (.ifCond .eq 17, 3)) (by decide)).to, ?_⟩
  refine List.forall_mem_cons.mpr ⟨(s_iloadn (by decide +kernel : decode cX9_hoursBetween 71 = .ok (.iload_n 3, 1)) rfl).to, ?_⟩
  refine List.forall_mem_cons.mpr ⟨(s_aloadn (by decide +kernel : decode cX9_hoursBetween 72 = .ok (.aload_n 0, 1)) rfl).to, ?_⟩
  refine List.forall_mem_cons.mpr ⟨(s_get (ci := 9) (k := 1) (by decide +kernel : decode cX9_hoursBetween 73 = .ok (.getfield 15, 3)) rfl (by decide) wd492 inX9 rfl).to, ?_⟩
  refine List.forall_mem_cons.mpr ⟨(s_iadd (by decide +kernel : decode cX9_hoursBetween 76 = .ok (.iadd, 1))).to, ?_⟩
  refine List.forall_mem_cons.mpr ⟨(s_iconst (by decide +kernel : decode cX9_hoursBetween 77 = .ok (.iconst 1, 1)) (by decide)).to, ?_⟩
  refine List.forall_mem_cons.mpr ⟨(s_isub (by decide +kernel : decode cX9_hoursBetween 78 = .ok (.isub, 1))).to, ?_⟩
  refine List.forall_mem_cons.mpr ⟨(s_aloadn (by decide +kernel : decode cX9_hoursBetween 79 = .ok (.aload_n 0, 1)) rfl).to, ?_⟩
  refine List.forall_mem_cons.mpr ⟨(s_get (ci := 9) (k := 1) (by decide +kernel : decode cX9_hoursBetween 80 = .ok (.getfield 15, 3)) rfl (by decide) wd492 inX9 rfl).to, ?_⟩
  refine List.forall_mem_cons.mpr ⟨(s_idiv (by decide +kernel : decode cX9_hoursBetween 83 = .ok (.idiv, 1))).to, ?_⟩
  refine List.forall_mem_cons.mpr ⟨s_iret (by decide +kernel : decode cX9_hoursBetween 84 = .ok (.ireturn, 1)) rfl, ?_⟩
  refine List.forall_mem_cons.mpr ⟨(s_aloadn (by decide +kernel : decode cX9_hoursBetween 85 = .ok (.aload_n 0, 1)) rfl).to, ?_⟩
  refine List.forall_mem_cons.mpr ⟨(s_aloadn (by decide +kernel : decode cX9_hoursBetween 86 = .ok (.aload_n 0, 1)) rfl).to, ?_⟩
  refine List.forall_mem_cons.mpr ⟨(s_get (ci := 9) (k := 4) (by decide +kernel : decode cX9_hoursBetween 87 = .ok (.getfield 28, 3)) rfl (by decide) wd495 inX9 rfl).to, ?_⟩
  refine List.forall_mem_cons.mpr ⟨(s_iconst (by decide +kernel : decode cX9_hoursBetween 90 = .ok (.iconst 0, 1)) (by decide)).to, ?_⟩
  refine List.forall_mem_cons.mpr ⟨z_cv (by decide +kernel : decode cX9_hoursBetween 91 = .ok (.invokevirtual 65, 3)) mt106 wd969 (ci := 9) rfl (by decide), ?_⟩
  exact fun _ h => absurd h List.not_mem_nil
theorem sn_tX9_hoursBetween_1 : ∀ q ∈ tX9_hoursBetween_1, am_Snd am_P0 RX9 cX9_hoursBetween 4 (Option.some FieldType.int) "hoursBetween" q.1 q.2 := by
  unfold tX9_hoursBetween_1
  refine List.forall_mem_cons.mpr ⟨(s_if_ne (by decide +kernel : decode cX9_hoursBetween 94 = .ok (.ifCond .ne 5, 3)) (by decide)).to, ?_⟩
  refine List.forall_mem_cons.mpr ⟨(s_iconst (by decide +kernel : decode cX9_hoursBetween 97 = .ok (.iconst (-1), 1)) (by decide)).to, ?_⟩
  refine List.forall_mem_cons.mpr ⟨s_iret (by decide +kernel : decode cX9_hoursBetween 98 = .ok (.ireturn, 1)) rfl, ?_⟩
  refine List.forall_mem_cons.mpr ⟨(s_iinc (by decide +kernel : decode cX9_hoursBetween 99 = .ok (.iinc 3 1, 3)) (by decide) (by decide)).to, ?_⟩
  refine List.forall_mem_cons.mpr ⟨(s_goto (by decide +kernel : decode cX9_hoursBetween 102 = .ok (.goto (-59), 3)) (by decide)).to, ?_⟩
  refine List.forall_mem_cons.mpr ⟨(s_iconst (by decide +kernel : decode cX9_hoursBetween 105 = .ok (.iconst (-1), 1)) (by decide)).to, ?_⟩
  refine List.forall_mem_cons.mpr ⟨s_iret (by decide +kernel : decode cX9_hoursBetween 106 = .ok (.ireturn, 1)) rfl, ?_⟩
  exact fun _ h => absurd h List.not_mem_nil
theorem sn_tX9_hoursBetween : ∀ q ∈ tX9_hoursBetween, am_Snd am_P0 RX9 cX9_hoursBetween 4 (Option.some FieldType.int) "hoursBetween" q.1 q.2 := by
  unfold tX9_hoursBetween
  exact List.forall_mem_append.mpr ⟨sn_tX9_hoursBetween_0, sn_tX9_hoursBetween_1⟩
theorem sn_tX10_init_0 : ∀ q ∈ tX10_init_0, am_Snd am_P0 RX10 cX10_init 2 (Option.none : Option FieldType) "<init>" q.1 q.2 := by
  unfold tX10_init_0
  refine List.forall_mem_cons.mpr ⟨(s_aloadn (by decide +kernel : decode cX10_init 0 = .ok (.aload_n 0, 1)) rfl).to, ?_⟩
  refine List.forall_mem_cons.mpr ⟨(s_obj (by decide +kernel : decode cX10_init 1 = .ok (.invokespecial 3, 3)) wd159 wd160 wd161).to, ?_⟩
  refine List.forall_mem_cons.mpr ⟨(s_aloadn (by decide +kernel : decode cX10_init 4 = .ok (.aload_n 0, 1)) rfl).to, ?_⟩
  refine List.forall_mem_cons.mpr ⟨(s_sipush (by decide +kernel : decode cX10_init 5 = .ok (.sipush 1800, 3)) (by decide)).to, ?_⟩
  refine List.forall_mem_cons.mpr ⟨(s_newa (kd := 0) (ty := .int) (by decide +kernel : decode cX10_init 8 = .ok (.newarray .int, 2)) rfl rfl wd195 (by decide) (by decide) (fun _ _ h => h)).to, ?_⟩
  refine List.forall_mem_cons.mpr ⟨(s_putF (ci := 10) (k := 0) (by decide +kernel : decode cX10_init 10 = .ok (.putfield 9, 3)) rfl (by decide) wd579 inX10 tyX10_ok nmX10 rfl rfl rfl rfl).to, ?_⟩
  refine List.forall_mem_cons.mpr ⟨(s_aloadn (by decide +kernel : decode cX10_init 13 = .ok (.aload_n 0, 1)) rfl).to, ?_⟩
  refine List.forall_mem_cons.mpr ⟨(s_new (ci := 5) (by decide +kernel : decode cX10_init 14 = .ok (.new 13, 3)) rfl wd162 wd163 wd135 inX5 tyX5_ok (by decide)).to, ?_⟩
  refine List.forall_mem_cons.mpr ⟨(s_dup (by decide +kernel : decode cX10_init 17 = .ok (.dup, 1))).to, ?_⟩
  refine List.forall_mem_cons.mpr ⟨z_ci (ci := 5) (by decide +kernel : decode cX10_init 18 = .ok (.invokespecial 15, 3)) mt51 wd164 rfl rfl, ?_⟩
  refine List.forall_mem_cons.mpr ⟨(s_put (ci := 10) (k := 2) (by decide +kernel : decode cX10_init 21 = .ok (.putfield 16, 3)) rfl (by decide) wd581 inX10 tyX10_ok nmX10 rfl rfl).to, ?_⟩
  refine List.forall_mem_cons.mpr ⟨(s_aloadn (by decide +kernel : decode cX10_init 24 = .ok (.aload_n 0, 1)) rfl).to, ?_⟩
  refine List.forall_mem_cons.mpr ⟨(s_new (ci := 5) (by decide +kernel : decode cX10_init 25 = .ok (.new 13, 3)) rfl wd162 wd163 wd135 inX5 tyX5_ok (by decide)).to, ?_⟩
  refine List.forall_mem_cons.mpr ⟨(s_dup (by decide +kernel : decode cX10_init 28 = .ok (.dup, 1))).to, ?_⟩
  refine List.forall_mem_cons.mpr ⟨z_ci (ci := 5) (by decide +kernel : decode cX10_init 29 = .ok (.invokespecial 15, 3)) mt51 wd164 rfl rfl, ?_⟩
  refine List.forall_mem_cons.mpr ⟨(s_put (ci := 10) (k := 3) (by decide +kernel : decode cX10_init 32 = .ok (.putfield 20, 3)) rfl (by decide) wd582 inX10 tyX10_ok nmX10 rfl rfl).to, ?_⟩
  refine List.forall_mem_cons.mpr ⟨(s_aloadn (by decide +kernel : decode cX10_init 35 = .ok (.aload_n 0, 1)) rfl).to, ?_⟩
  refine List.forall_mem_cons.mpr ⟨(s_new (ci := 2) (by decide +kernel : decode cX10_init 36 = .ok (.new 23, 3)) rfl wd367 wd368 wd140 inX2 tyX2_ok (by decide)).to, ?_⟩
  refine List.forall_mem_cons.mpr ⟨(s_dup (by decide +kernel : decode cX10_init 39 = .ok (.dup, 1))).to, ?_⟩
  refine List.forall_mem_cons.mpr ⟨(s_aloadn (by decide +kernel : decode cX10_init 40 = .ok (.aload_n 0, 1)) rfl).to, ?_⟩
  refine List.forall_mem_cons.mpr ⟨(s_get (ci := 10) (k := 3) (by decide +kernel : decode cX10_init 41 = .ok (.getfield 20, 3)) rfl (by decide) wd582 inX10 rfl).to, ?_⟩
  refine List.forall_mem_cons.mpr ⟨z_ci (ci := 2) (by decide +kernel : decode cX10_init 44 = .ok (.invokespecial 25, 3)) mt9 wd369 rfl rfl, ?_⟩
  refine List.forall_mem_cons.mpr ⟨(s_putF (ci := 10) (k := 4) (by decide +kernel : decode cX10_init 47 = .ok (.putfield 28, 3)) rfl (by decide) wd583 inX10 tyX10_ok nmX10 rfl rfl rfl rfl).to, ?_⟩
  refine List.forall_mem_cons.mpr ⟨(s_aloadn (by decide +kernel : decode cX10_init 50 = .ok (.aload_n 0, 1)) rfl).to, ?_⟩
  refine List.forall_mem_cons.mpr ⟨(s_iconst (by decide +kernel : decode cX10_init 51 = .ok (.iconst (-1), 1)) (by decide)).to, ?_⟩
  refine List.forall_mem_cons.mpr ⟨(s_put (ci := 10) (k := 6) (by decide +kernel : decode cX10_init 52 = .ok (.putfield 32, 3)) rfl (by decide) wd585 inX10 tyX10_ok nmX10 rfl rfl).to, ?_⟩
  refine List.forall_mem_cons.mpr ⟨(s_aloadn (by decide +kernel : decode cX10_init 55 = .ok (.aload_n 0, 1)) rfl).to, ?_⟩
  refine List.forall_mem_cons.mpr ⟨(s_bipush (by decide +kernel : decode cX10_init 56 = .ok (.bipush 8, 2)) (by decide)).to, ?_⟩
  refine List.forall_mem_cons.mpr ⟨(s_newq (kd := 4) (by decide +kernel : decode cX10_init 58 = .ok (.anewarray 36, 3)) rfl wd475 (fun _ _ h => h.2.2.2.2.1)).to, ?_⟩
  refine List.forall_mem_cons.mpr ⟨(s_putF (ci := 10) (k := 7) (by decide +kernel : decode cX10_init 61 = .ok (.putfield 38, 3)) rfl (by decide) wd586 inX10 tyX10_ok nmX10 rfl rfl rfl rfl).to, ?_⟩
  refine List.forall_mem_cons.mpr ⟨(s_aloadn (by decide +kernel : decode cX10_init 64 = .ok (.aload_n 0, 1)) rfl).to, ?_⟩
  refine List.forall_mem_cons.mpr ⟨(s_iconst (by decide +kernel : decode cX10_init 65 = .ok (.iconst 5, 1)) (by decide)).to, ?_⟩
  refine List.forall_mem_cons.mpr ⟨(s_newa (kd := 0) (ty := .int) (by decide +kernel : decode cX10_init 66 = .ok (.newarray .int, 2)) rfl rfl wd195 (by decide) (by decide) (fun _ _ h => h)).to, ?_⟩
  refine List.forall_mem_cons.mpr ⟨(s_putF (ci := 10) (k := 8) (by decide +kernel : decode cX10_init 68 = .ok (.putfield 42, 3)) rfl (by decide) wd587 inX10 tyX10_ok nmX10 rfl rfl rfl rfl).to, ?_⟩
  refine List.forall_mem_cons.mpr ⟨(s_aloadn (by decide +kernel : decode cX10_init 71 = .ok (.aload_n 0, 1)) rfl).to, ?_⟩
  refine List.forall_mem_cons.mpr ⟨(s_sipush (by decide +kernel : decode cX10_init 72 = .ok (.sipush 507, 3)) (by decide)).to, ?_⟩
  refine List.forall_mem_cons.mpr ⟨(s_newa (kd := 0) (ty := .int) (by decide +kernel : decode cX10_init 75 = .ok (.newarray .int, 2)) rfl rfl wd195 (by decide) (by decide) (fun _ _ h => h)).to, ?_⟩
  refine List.forall_mem_cons.mpr ⟨(s_putF (ci := 10) (k := 9) (by decide +kernel : decode cX10_init 77 = .ok (.putfield 45, 3)) rfl (by decide) wd588 inX10 tyX10_ok nmX10 rfl rfl rfl rfl).to, ?_⟩
  refine List.forall_mem_cons.mpr ⟨(s_aloadn (by decide +kernel : decode cX10_init 80 = .ok (.aload_n 0, 1)) rfl).to, ?_⟩
  refine List.forall_mem_cons.mpr ⟨(s_bipush (by decide +kernel : decode cX10_init 81 = .ok (.bipush 48, 2)) (by decide)).to, ?_⟩
  refine List.forall_mem_cons.mpr ⟨(s_newa (kd := 1) (ty := .long) (by decide +kernel : decode cX10_init 83 = .ok (.newarray .long, 2)) rfl rfl wd303 (by decide) (by decide) (fun _ _ h => h)).to, ?_⟩
  refine List.forall_mem_cons.mpr ⟨(s_putF (ci := 10) (k := 11) (by decide +kernel : decode cX10_init 85 = .ok (.putfield 48, 3)) rfl (by decide) wd590 inX10 tyX10_ok nmX10 rfl rfl rfl rfl).to, ?_⟩
  refine List.forall_mem_cons.mpr ⟨(s_aloadn (by decide +kernel : decode cX10_init 88 = .ok (.aload_n 0, 1)) rfl).to, ?_⟩
  refine List.forall_mem_cons.mpr ⟨(s_bipush (by decide +kernel : decode cX10_init 89 = .ok (.bipush 36, 2)) (by decide)).to, ?_⟩
  refine List.forall_mem_cons.mpr ⟨(s_newa (kd := 1) (ty := .long) (by decide +kernel : decode cX10_init 91 = .ok (.newarray .long, 2)) rfl rfl wd303 (by decide) (by decide) (fun _ _ h => h)).to, ?_⟩
  refine List.forall_mem_cons.mpr ⟨(s_putF (ci := 10) (k := 12) (by decide +kernel : decode cX10_init 93 = .ok (.putfield 52, 3)) rfl (by decide) wd591 inX10 tyX10_ok nmX10 rfl rfl rfl rfl).to, ?_⟩
  refine List.forall_mem_cons.mpr ⟨(s_aloadn (by decide +kernel : decode cX10_init 96 = .ok (.aload_n 0, 1)) rfl).to, ?_⟩
  refine List.forall_mem_cons.mpr ⟨(s_iconst (by decide +kernel : decode cX10_init 97 = .ok (.iconst (-1), 1)) (by decide)).to, ?_⟩
  refine List.forall_mem_cons.mpr ⟨(s_put (ci := 10) (k := 14) (by decide +kernel : decode cX10_init 98 = .ok (.putfield 55, 3)) rfl (by decide) wd593 inX10 tyX10_ok nmX10 rfl rfl).to, ?_⟩
  refine List.forall_mem_cons.mpr ⟨(s_aloadn (by decide +kernel : decode cX10_init 101 = .ok (.aload_n 0, 1)) rfl).to, ?_⟩
  refine List.forall_mem_cons.mpr ⟨(s_iconst (by decide +kernel : decode cX10_init 102 = .ok (.iconst (-1), 1)) (by decide)).to, ?_⟩
  refine List.forall_mem_cons.mpr ⟨(s_put (ci := 10) (k := 15) (by decide +kernel : decode cX10_init 103 = .ok (.putfield 58, 3)) rfl (by decide) wd594 inX10 tyX10_ok nmX10 rfl rfl).to, ?_⟩
  refine List.forall_mem_cons.mpr ⟨(s_iconst (by decide +kernel : decode cX10_init 106 = .ok (.iconst 0, 1)) (by decide)).to, ?_⟩
  refine List.forall_mem_cons.mpr ⟨(s_istoren (by decide +kernel : decode cX10_init 107 = .ok (.istore_n 1, 1)) rfl (by decide)).to, ?_⟩
  refine List.forall_mem_cons.mpr ⟨(s_iloadn (by decide +kernel : decode cX10_init 108 = .ok (.iload_n 1, 1)) rfl).to, ?_⟩
  refine List.forall_mem_cons.mpr ⟨(s_bipush (by decide +kernel : decode cX10_init 109 = .ok (.bipush 8, 2)) (by decide)).to, ?_⟩
  refine List.forall_mem_cons.mpr ⟨(s_icmp_ge (by decide +kernel : decode cX10_init 111 = .ok (.if_icmp .ge 35, 3)) (by decide)).to, ?_⟩
  refine List.forall_mem_cons.mpr ⟨(s_aloadn (by decide +kernel : decode cX10_init 114 = .ok (.aload_n 0, 1)) rfl).to, ?_⟩
  refine List.forall_mem_cons.mpr ⟨(s_get (ci := 10) (k := 7) (by decide +kernel : decode cX10_init 115 = .ok (.getfield 38, 3)) rfl (by decide) wd586 inX10 rfl).to, ?_⟩
  refine List.forall_mem_cons.mpr ⟨(s_iloadn (by decide +kernel : decode cX10_init 118 = .ok (.iload_n 1, 1)) rfl).to, ?_⟩
  exact fun _ h => absurd h List.not_mem_nil
theorem sn_tX10_init_1 : ∀ q ∈ tX10_init_1, am_Snd am_P0 RX10 cX10_init 2 (Option.none : Option FieldType) "<init>" q.1 q.2 := by
  unfold tX10_init_1
  refine List.forall_mem_cons.mpr ⟨(s_new (ci := 8) (by decide +kernel : decode cX10_init 119 = .ok (.new 36, 3)) rfl wd475 wd477 wd146 inX8 tyX8_ok (by decide)).to, ?_⟩
  refine List.forall_mem_cons.mpr ⟨(s_dup (by decide +kernel : decode cX10_init 122 = .ok (.dup, 1))).to, ?_⟩
  refine List.forall_mem_cons.mpr ⟨(s_aloadn (by decide +kernel : decode cX10_init 123 = .ok (.aload_n 0, 1)) rfl).to, ?_⟩
  refine List.forall_mem_cons.mpr ⟨(s_get (ci := 10) (k := 2) (by decide +kernel : decode cX10_init 124 = .ok (.getfield 16, 3)) rfl (by decide) wd581 inX10 rfl).to, ?_⟩
  refine List.forall_mem_cons.mpr ⟨(s_aloadn (by decide +kernel : decode cX10_init 127 = .ok (.aload_n 0, 1)) rfl).to, ?_⟩
  refine List.forall_mem_cons.mpr ⟨(s_get (ci := 10) (k := 2) (by decide +kernel : decode cX10_init 128 = .ok (.getfield 16, 3)) rfl (by decide) wd581 inX10 rfl).to, ?_⟩
  refine List.forall_mem_cons.mpr ⟨(s_get (ci := 5) (k := 4) (by decide +kernel : decode cX10_init 131 = .ok (.getfield 61, 3)) rfl (by decide) wd318 inX5 rfl).to, ?_⟩
  refine List.forall_mem_cons.mpr ⟨(s_iloadn (by decide +kernel : decode cX10_init 134 = .ok (.iload_n 1, 1)) rfl).to, ?_⟩
  refine List.forall_mem_cons.mpr ⟨(s_aald (by decide +kernel : decode cX10_init 135 = .ok (.aaload, 1))).to, ?_⟩
  refine List.forall_mem_cons.mpr ⟨z_ci (ci := 8) (by decide +kernel : decode cX10_init 136 = .ok (.invokespecial 65, 3)) mt72 wd478 rfl rfl, ?_⟩
  refine List.forall_mem_cons.mpr ⟨(s_aas (by decide +kernel : decode cX10_init 139 = .ok (.aastore, 1))).to, ?_⟩
  refine List.forall_mem_cons.mpr ⟨(s_iinc (by decide +kernel : decode cX10_init 140 = .ok (.iinc 1 1, 3)) (by decide) (by decide)).to, ?_⟩
  refine List.forall_mem_cons.mpr ⟨(s_goto (by decide +kernel : decode cX10_init 143 = .ok (.goto (-35), 3)) (by decide)).to, ?_⟩
  refine List.forall_mem_cons.mpr ⟨s_vret (by decide +kernel : decode cX10_init 146 = .ok (.return_, 1)) rfl, ?_⟩
  exact fun _ h => absurd h List.not_mem_nil
theorem sn_tX10_init : ∀ q ∈ tX10_init, am_Snd am_P0 RX10 cX10_init 2 (Option.none : Option FieldType) "<init>" q.1 q.2 := by
  unfold tX10_init
  exact List.forall_mem_append.mpr ⟨sn_tX10_init_0, sn_tX10_init_1⟩
theorem sn_tX10_feed : ∀ q ∈ tX10_feed, am_Snd am_P0 RX10 cX10_feed 6 (Option.some FieldType.int) "feed" q.1 q.2 := by
  unfold tX10_feed
  refine List.forall_mem_cons.mpr ⟨(s_aloadn (by decide +kernel : decode cX10_feed 0 = .ok (.aload_n 0, 1)) rfl).to, ?_⟩
  refine List.forall_mem_cons.mpr ⟨(s_get (ci := 10) (k := 1) (by decide +kernel : decode cX10_feed 1 = .ok (.getfield 68, 3)) rfl (by decide) wd580 inX10 rfl).to, ?_⟩
  refine List.forall_mem_cons.mpr ⟨(s_bipush (by decide +kernel : decode cX10_feed 4 = .ok (.bipush 20, 2)) (by decide)).to, ?_⟩
  refine List.forall_mem_cons.mpr ⟨(s_iadd (by decide +kernel : decode cX10_feed 6 = .ok (.iadd, 1))).to, ?_⟩
  refine List.forall_mem_cons.mpr ⟨(s_sipush (by decide +kernel : decode cX10_feed 7 = .ok (.sipush 1800, 3)) (by decide)).to, ?_⟩
  refine List.forall_mem_cons.mpr ⟨(s_icmp_le (by decide +kernel : decode cX10_feed 10 = .ok (.if_icmp .le 15, 3)) (by decide)).to, ?_⟩
  refine List.forall_mem_cons.mpr ⟨(s_aloadn (by decide +kernel : decode cX10_feed 13 = .ok (.aload_n 0, 1)) rfl).to, ?_⟩
  refine List.forall_mem_cons.mpr ⟨(s_get (ci := 10) (k := 8) (by decide +kernel : decode cX10_feed 14 = .ok (.getfield 42, 3)) rfl (by decide) wd587 inX10 rfl).to, ?_⟩
  refine List.forall_mem_cons.mpr ⟨(s_iconst (by decide +kernel : decode cX10_feed 17 = .ok (.iconst 0, 1)) (by decide)).to, ?_⟩
  refine List.forall_mem_cons.mpr ⟨(s_dup2 (by decide +kernel : decode cX10_feed 18 = .ok (.dup2, 1))).to, ?_⟩
  refine List.forall_mem_cons.mpr ⟨(s_iald (by decide +kernel : decode cX10_feed 19 = .ok (.iaload, 1))).to, ?_⟩
  refine List.forall_mem_cons.mpr ⟨(s_iconst (by decide +kernel : decode cX10_feed 20 = .ok (.iconst 1, 1)) (by decide)).to, ?_⟩
  refine List.forall_mem_cons.mpr ⟨(s_iadd (by decide +kernel : decode cX10_feed 21 = .ok (.iadd, 1))).to, ?_⟩
  refine List.forall_mem_cons.mpr ⟨(s_iast (by decide +kernel : decode cX10_feed 22 = .ok (.iastore, 1))).to, ?_⟩
  refine List.forall_mem_cons.mpr ⟨(s_iconst (by decide +kernel : decode cX10_feed 23 = .ok (.iconst (-1), 1)) (by decide)).to, ?_⟩
  refine List.forall_mem_cons.mpr ⟨s_iret (by decide +kernel : decode cX10_feed 24 = .ok (.ireturn, 1)) rfl, ?_⟩
  refine List.forall_mem_cons.mpr ⟨(s_aloadn (by decide +kernel : decode cX10_feed 25 = .ok (.aload_n 0, 1)) rfl).to, ?_⟩
  refine List.forall_mem_cons.mpr ⟨(s_iloadn (by decide +kernel : decode cX10_feed 26 = .ok (.iload_n 1, 1)) rfl).to, ?_⟩
  refine List.forall_mem_cons.mpr ⟨z_cv (by decide +kernel : decode cX10_feed 27 = .ok (.invokevirtual 71, 3)) mt152 wd635 (ci := 10) rfl (by decide), ?_⟩
  refine List.forall_mem_cons.mpr ⟨(s_aloadn (by decide +kernel : decode cX10_feed 30 = .ok (.aload_n 0, 1)) rfl).to, ?_⟩
  refine List.forall_mem_cons.mpr ⟨(s_iloadn (by decide +kernel : decode cX10_feed 31 = .ok (.iload_n 2, 1)) rfl).to, ?_⟩
  refine List.forall_mem_cons.mpr ⟨z_cv (by decide +kernel : decode cX10_feed 32 = .ok (.invokevirtual 71, 3)) mt152 wd635 (ci := 10) rfl (by decide), ?_⟩
  refine List.forall_mem_cons.mpr ⟨(s_aloadn (by decide +kernel : decode cX10_feed 35 = .ok (.aload_n 0, 1)) rfl).to, ?_⟩
  refine List.forall_mem_cons.mpr ⟨(s_iloadn (by decide +kernel : decode cX10_feed 36 = .ok (.iload_n 3, 1)) rfl).to, ?_⟩
  refine List.forall_mem_cons.mpr ⟨z_cv (by decide +kernel : decode cX10_feed 37 = .ok (.invokevirtual 71, 3)) mt152 wd635 (ci := 10) rfl (by decide), ?_⟩
  refine List.forall_mem_cons.mpr ⟨(s_aloadn (by decide +kernel : decode cX10_feed 40 = .ok (.aload_n 0, 1)) rfl).to, ?_⟩
  refine List.forall_mem_cons.mpr ⟨(s_iload (by decide +kernel : decode cX10_feed 41 = .ok (.iload 4, 2))).to, ?_⟩
  refine List.forall_mem_cons.mpr ⟨z_cv (by decide +kernel : decode cX10_feed 43 = .ok (.invokevirtual 71, 3)) mt152 wd635 (ci := 10) rfl (by decide), ?_⟩
  refine List.forall_mem_cons.mpr ⟨(s_aloadn (by decide +kernel : decode cX10_feed 46 = .ok (.aload_n 0, 1)) rfl).to, ?_⟩
  refine List.forall_mem_cons.mpr ⟨(s_iload (by decide +kernel : decode cX10_feed 47 = .ok (.iload 5, 2))).to, ?_⟩
  refine List.forall_mem_cons.mpr ⟨z_cv (by decide +kernel : decode cX10_feed 49 = .ok (.invokevirtual 71, 3)) mt152 wd635 (ci := 10) rfl (by decide), ?_⟩
  refine List.forall_mem_cons.mpr ⟨(s_aloadn (by decide +kernel : decode cX10_feed 52 = .ok (.aload_n 0, 1)) rfl).to, ?_⟩
  refine List.forall_mem_cons.mpr ⟨(s_get (ci := 10) (k := 1) (by decide +kernel : decode cX10_feed 53 = .ok (.getfield 68, 3)) rfl (by decide) wd580 inX10 rfl).to, ?_⟩
  refine List.forall_mem_cons.mpr ⟨s_iret (by decide +kernel : decode cX10_feed 56 = .ok (.ireturn, 1)) rfl, ?_⟩
  exact fun _ h => absurd h List.not_mem_nil
theorem sn_tX10_end : ∀ q ∈ tX10_end, am_Snd am_P0 RX10 cX10_end 2 (Option.some FieldType.boolean) "end" q.1 q.2 := by
  unfold tX10_end
  refine List.forall_mem_cons.mpr ⟨(s_iloadn (by decide +kernel : decode cX10_end 0 = .ok (.iload_n 1, 1)) rfl).to, ?_⟩
  refine List.forall_mem_cons.mpr ⟨(s_if_lt (by decide +kernel : decode cX10_end 1 = .ok (.ifCond .lt 11, 3)) (by decide)).to, ?_⟩
  refine List.forall_mem_cons.mpr ⟨(s_iloadn (by decide +kernel : decode cX10_end 4 = .ok (.iload_n 1, 1)) rfl).to, ?_⟩
  refine List.forall_mem_cons.mpr ⟨(s_aloadn (by decide +kernel : decode cX10_end 5 = .ok (.aload_n 0, 1)) rfl).to, ?_⟩
  refine List.forall_mem_cons.mpr ⟨(s_get (ci := 10) (k := 1) (by decide +kernel : decode cX10_end 6 = .ok (.getfield 68, 3)) rfl (by decide) wd580 inX10 rfl).to, ?_⟩
  refine List.forall_mem_cons.mpr ⟨(s_icmp_le (by decide +kernel : decode cX10_end 9 = .ok (.if_icmp .le 15, 3)) (by decide)).to, ?_⟩
  refine List.forall_mem_cons.mpr ⟨(s_aloadn (by decide +kernel : decode cX10_end 12 = .ok (.aload_n 0, 1)) rfl).to, ?_⟩
  refine List.forall_mem_cons.mpr ⟨(s_get (ci := 10) (k := 8) (by decide +kernel : decode cX10_end 13 = .ok (.getfield 42, 3)) rfl (by decide) wd587 inX10 rfl).to, ?_⟩
  refine List.forall_mem_cons.mpr ⟨(s_iconst (by decide +kernel : decode cX10_end 16 = .ok (.iconst 0, 1)) (by decide)).to, ?_⟩
  refine List.forall_mem_cons.mpr ⟨(s_dup2 (by decide +kernel : decode cX10_end 17 = .ok (.dup2, 1))).to, ?_⟩
  refine List.forall_mem_cons.mpr ⟨(s_iald (by decide +kernel : decode cX10_end 18 = .ok (.iaload, 1))).to, ?_⟩
  refine List.forall_mem_cons.mpr ⟨(s_iconst (by decide +kernel : decode cX10_end 19 = .ok (.iconst 1, 1)) (by decide)).to, ?_⟩
  refine List.forall_mem_cons.mpr ⟨(s_iadd (by decide +kernel : decode cX10_end 20 = .ok (.iadd, 1))).to, ?_⟩
  refine List.forall_mem_cons.mpr ⟨(s_iast (by decide +kernel : decode cX10_end 21 = .ok (.iastore, 1))).to, ?_⟩
  refine List.forall_mem_cons.mpr ⟨(s_iconst (by decide +kernel : decode cX10_end 22 = .ok (.iconst 0, 1)) (by decide)).to, ?_⟩
  refine List.forall_mem_cons.mpr ⟨s_zret (by decide +kernel : decode cX10_end 23 = .ok (.ireturn, 1)) rfl, ?_⟩
  refine List.forall_mem_cons.mpr ⟨(s_aloadn (by decide +kernel : decode cX10_end 24 = .ok (.aload_n 0, 1)) rfl).to, ?_⟩
  refine List.forall_mem_cons.mpr ⟨(s_iloadn (by decide +kernel : decode cX10_end 25 = .ok (.iload_n 1, 1)) rfl).to, ?_⟩
  refine List.forall_mem_cons.mpr ⟨(s_put (ci := 10) (k := 1) (by decide +kernel : decode cX10_end 26 = .ok (.putfield 68, 3)) rfl (by decide) wd580 inX10 tyX10_ok nmX10 rfl rfl).to, ?_⟩
  refine List.forall_mem_cons.mpr ⟨(s_iconst (by decide +kernel : decode cX10_end 29 = .ok (.iconst 1, 1)) (by decide)).to, ?_⟩
  refine List.forall_mem_cons.mpr ⟨s_zret (by decide +kernel : decode cX10_end 30 = .ok (.ireturn, 1)) rfl, ?_⟩
  exact fun _ h => absurd h List.not_mem_nil
theorem sn_tX10_sea_0 : ∀ q ∈ tX10_sea_0, am_Snd am_P0 RX10 cX10_sea 4 (Option.some FieldType.int) "sea" q.1 q.2 := by
  unfold tX10_sea_0
  refine List.forall_mem_cons.mpr ⟨(s_aloadn (by decide +kernel : decode cX10_sea 0 = .ok (.aload_n 0, 1)) rfl).to, ?_⟩
  refine List.forall_mem_cons.mpr ⟨(s_get (ci := 10) (k := 4) (by decide +kernel : decode cX10_sea 1 = .ok (.getfield 28, 3)) rfl (by decide) wd583 inX10 rfl).to, ?_⟩
  refine List.forall_mem_cons.mpr ⟨(s_aloadn (by decide +kernel : decode cX10_sea 4 = .ok (.aload_n 0, 1)) rfl).to, ?_⟩
  refine List.forall_mem_cons.mpr ⟨(s_get (ci := 10) (k := 3) (by decide +kernel : decode cX10_sea 5 = .ok (.getfield 20, 3)) rfl (by decide) wd582 inX10 rfl).to, ?_⟩
  refine List.forall_mem_cons.mpr ⟨(s_aloadn (by decide +kernel : decode cX10_sea 8 = .ok (.aload_n 0, 1)) rfl).to, ?_⟩
  refine List.forall_mem_cons.mpr ⟨(s_get (ci := 10) (k := 0) (by decide +kernel : decode cX10_sea 9 = .ok (.getfield 9, 3)) rfl (by decide) wd579 inX10 rfl).to, ?_⟩
  refine List.forall_mem_cons.mpr ⟨(s_aloadn (by decide +kernel : decode cX10_sea 12 = .ok (.aload_n 0, 1)) rfl).to, ?_⟩
  refine List.forall_mem_cons.mpr ⟨(s_get (ci := 10) (k := 1) (by decide +kernel : decode cX10_sea 13 = .ok (.getfield 68, 3)) rfl (by decide) wd580 inX10 rfl).to, ?_⟩
  refine List.forall_mem_cons.mpr ⟨z_cv (by decide +kernel : decode cX10_sea 16 = .ok (.invokevirtual 75, 3)) mt10 wd647 (ci := 2) rfl (by decide), ?_⟩
  refine List.forall_mem_cons.mpr ⟨(s_iconst (by decide +kernel : decode cX10_sea 19 = .ok (.iconst 0, 1)) (by decide)).to, ?_⟩
  refine List.forall_mem_cons.mpr ⟨(s_istoren (by decide +kernel : decode cX10_sea 20 = .ok (.istore_n 1, 1)) rfl (by decide)).to, ?_⟩
  refine List.forall_mem_cons.mpr ⟨(s_aloadn (by decide +kernel : decode cX10_sea 21 = .ok (.aload_n 0, 1)) rfl).to, ?_⟩
  refine List.forall_mem_cons.mpr ⟨(s_get (ci := 10) (k := 4) (by decide +kernel : decode cX10_sea 22 = .ok (.getfield 28, 3)) rfl (by decide) wd583 inX10 rfl).to, ?_⟩
  refine List.forall_mem_cons.mpr ⟨(s_iloadn (by decide +kernel : decode cX10_sea 25 = .ok (.iload_n 1, 1)) rfl).to, ?_⟩
  refine List.forall_mem_cons.mpr ⟨(s_if_ne (by decide +kernel : decode cX10_sea 26 = .ok (.ifCond .ne 7, 3)) (by decide)).to, ?_⟩
  refine List.forall_mem_cons.mpr ⟨(s_iconst (by decide +kernel : decode cX10_sea 29 = .ok (.iconst 1, 1)) (by decide)).to, ?_⟩
  refine List.forall_mem_cons.mpr ⟨(s_goto (by decide +kernel : decode cX10_sea 30 = .ok (.goto 4, 3)) (by decide)).to, ?_⟩
  refine List.forall_mem_cons.mpr ⟨(s_iconst (by decide +kernel : decode cX10_sea 33 = .ok (.iconst 0, 1)) (by decide)).to, ?_⟩
  refine List.forall_mem_cons.mpr ⟨z_cv (by decide +kernel : decode cX10_sea 34 = .ok (.invokevirtual 79, 3)) mt11 wd677 (ci := 2) rfl (by decide), ?_⟩
  refine List.forall_mem_cons.mpr ⟨(s_aloadn (by decide +kernel : decode cX10_sea 37 = .ok (.aload_n 0, 1)) rfl).to, ?_⟩
  refine List.forall_mem_cons.mpr ⟨(s_get (ci := 10) (k := 4) (by decide +kernel : decode cX10_sea 38 = .ok (.getfield 28, 3)) rfl (by decide) wd583 inX10 rfl).to, ?_⟩
  refine List.forall_mem_cons.mpr ⟨(s_get (ci := 2) (k := 0) (by decide +kernel : decode cX10_sea 41 = .ok (.getfield 83, 3)) rfl (by decide) wd468 inX2 rfl).to, ?_⟩
  refine List.forall_mem_cons.mpr ⟨(s_bipush (by decide +kernel : decode cX10_sea 44 = .ok (.bipush 59, 2)) (by decide)).to, ?_⟩
  refine List.forall_mem_cons.mpr ⟨z_cv (by decide +kernel : decode cX10_sea 46 = .ok (.invokevirtual 87, 3)) mt41 wd842 (ci := 3) rfl (by decide), ?_⟩
  refine List.forall_mem_cons.mpr ⟨(s_iinc (by decide +kernel : decode cX10_sea 49 = .ok (.iinc 1 1, 3)) (by decide) (by decide)).to, ?_⟩
  refine List.forall_mem_cons.mpr ⟨(s_aloadn (by decide +kernel : decode cX10_sea 52 = .ok (.aload_n 0, 1)) rfl).to, ?_⟩
  refine List.forall_mem_cons.mpr ⟨(s_get (ci := 10) (k := 4) (by decide +kernel : decode cX10_sea 53 = .ok (.getfield 28, 3)) rfl (by decide) wd583 inX10 rfl).to, ?_⟩
  refine List.forall_mem_cons.mpr ⟨(s_get (ci := 2) (k := 0) (by decide +kernel : decode cX10_sea 56 = .ok (.getfield 83, 3)) rfl (by decide) wd468 inX2 rfl).to, ?_⟩
  refine List.forall_mem_cons.mpr ⟨(s_get (ci := 3) (k := 4) (by decide +kernel : decode cX10_sea 59 = .ok (.getfield 92, 3)) rfl (by decide) wd433 inX3 rfl).to, ?_⟩
  refine List.forall_mem_cons.mpr ⟨(s_if_eq (by decide +kernel : decode cX10_sea 62 = .ok (.ifCond .eq 10, 3)) (by decide)).to, ?_⟩
  refine List.forall_mem_cons.mpr ⟨(s_iloadn (by decide +kernel : decode cX10_sea 65 = .ok (.iload_n 1, 1)) rfl).to, ?_⟩
  refine List.forall_mem_cons.mpr ⟨(s_sipush (by decide +kernel : decode cX10_sea 66 = .ok (.sipush 1800, 3)) (by decide)).to, ?_⟩
  refine List.forall_mem_cons.mpr ⟨(s_icmp_lt (by decide +kernel : decode cX10_sea 69 = .ok (.if_icmp .lt (-48), 3)) (by decide)).to, ?_⟩
  refine List.forall_mem_cons.mpr ⟨(s_aloadn (by decide +kernel : decode cX10_sea 72 = .ok (.aload_n 0, 1)) rfl).to, ?_⟩
  refine List.forall_mem_cons.mpr ⟨(s_iconst (by decide +kernel : decode cX10_sea 73 = .ok (.iconst 0, 1)) (by decide)).to, ?_⟩
  refine List.forall_mem_cons.mpr ⟨(s_put (ci := 10) (k := 1) (by decide +kernel : decode cX10_sea 74 = .ok (.putfield 68, 3)) rfl (by decide) wd580 inX10 tyX10_ok nmX10 rfl rfl).to, ?_⟩
  refine List.forall_mem_cons.mpr ⟨(s_aloadn (by decide +kernel : decode cX10_sea 77 = .ok (.aload_n 0, 1)) rfl).to, ?_⟩
  refine List.forall_mem_cons.mpr ⟨(s_aloadn (by decide +kernel : decode cX10_sea 78 = .ok (.aload_n 0, 1)) rfl).to, ?_⟩
  refine List.forall_mem_cons.mpr ⟨(s_get (ci := 10) (k := 4) (by decide +kernel : decode cX10_sea 79 = .ok (.getfield 28, 3)) rfl (by decide) wd583 inX10 rfl).to, ?_⟩
  refine List.forall_mem_cons.mpr ⟨(s_get (ci := 2) (k := 0) (by decide +kernel : decode cX10_sea 82 = .ok (.getfield 83, 3)) rfl (by decide) wd468 inX2 rfl).to, ?_⟩
  refine List.forall_mem_cons.mpr ⟨(s_get (ci := 3) (k := 8) (by decide +kernel : decode cX10_sea 85 = .ok (.getfield 95, 3)) rfl (by decide) wd441 inX3 rfl).to, ?_⟩
  refine List.forall_mem_cons.mpr ⟨(s_put (ci := 10) (k := 5) (by decide +kernel : decode cX10_sea 88 = .ok (.putfield 98, 3)) rfl (by decide) wd584 inX10 tyX10_ok nmX10 rfl rfl).to, ?_⟩
  refine List.forall_mem_cons.mpr ⟨(s_aloadn (by decide +kernel : decode cX10_sea 91 = .ok (.aload_n 0, 1)) rfl).to, ?_⟩
  refine List.forall_mem_cons.mpr ⟨(s_aloadn (by decide +kernel : decode cX10_sea 92 = .ok (.aload_n 0, 1)) rfl).to, ?_⟩
  refine List.forall_mem_cons.mpr ⟨(s_get (ci := 10) (k := 4) (by decide +kernel : decode cX10_sea 93 = .ok (.getfield 28, 3)) rfl (by decide) wd583 inX10 rfl).to, ?_⟩
  refine List.forall_mem_cons.mpr ⟨(s_get (ci := 2) (k := 0) (by decide +kernel : decode cX10_sea 96 = .ok (.getfield 83, 3)) rfl (by decide) wd468 inX2 rfl).to, ?_⟩
  refine List.forall_mem_cons.mpr ⟨(s_get (ci := 3) (k := 9) (by decide +kernel : decode cX10_sea 99 = .ok (.getfield 101, 3)) rfl (by decide) wd444 inX3 rfl).to, ?_⟩
  refine List.forall_mem_cons.mpr ⟨(s_put (ci := 10) (k := 6) (by decide +kernel : decode cX10_sea 102 = .ok (.putfield 32, 3)) rfl (by decide) wd585 inX10 tyX10_ok nmX10 rfl rfl).to, ?_⟩
  refine List.forall_mem_cons.mpr ⟨(s_aloadn (by decide +kernel : decode cX10_sea 105 = .ok (.aload_n 0, 1)) rfl).to, ?_⟩
  refine List.forall_mem_cons.mpr ⟨(s_get (ci := 10) (k := 5) (by decide +kernel : decode cX10_sea 106 = .ok (.getfield 98, 3)) rfl (by decide) wd584 inX10 rfl).to, ?_⟩
  refine List.forall_mem_cons.mpr ⟨(s_if_eq (by decide +kernel : decode cX10_sea 109 = .ok (.ifCond .eq 15, 3)) (by decide)).to, ?_⟩
  refine List.forall_mem_cons.mpr ⟨(s_aloadn (by decide +kernel : decode cX10_sea 112 = .ok (.aload_n 0, 1)) rfl).to, ?_⟩
  refine List.forall_mem_cons.mpr ⟨(s_get (ci := 10) (k := 8) (by decide +kernel : decode cX10_sea 113 = .ok (.getfield 42, 3)) rfl (by decide) wd587 inX10 rfl).to, ?_⟩
  refine List.forall_mem_cons.mpr ⟨(s_iconst (by decide +kernel : decode cX10_sea 116 = .ok (.iconst 1, 1)) (by decide)).to, ?_⟩
  refine List.forall_mem_cons.mpr ⟨(s_dup2 (by decide +kernel : decode cX10_sea 117 = .ok (.dup2, 1))).to, ?_⟩
  refine List.forall_mem_cons.mpr ⟨(s_iald (by decide +kernel : decode cX10_sea 118 = .ok (.iaload, 1))).to, ?_⟩
  refine List.forall_mem_cons.mpr ⟨(s_iconst (by decide +kernel : decode cX10_sea 119 = .ok (.iconst 1, 1)) (by decide)).to, ?_⟩
  refine List.forall_mem_cons.mpr ⟨(s_iadd (by decide +kernel : decode cX10_sea 120 = .ok (.iadd, 1))).to, ?_⟩
  refine List.forall_mem_cons.mpr ⟨(s_iast (by decide +kernel : decode cX10_sea 121 = .ok (.iastore, 1))).to, ?_⟩
  refine List.forall_mem_cons.mpr ⟨(s_iconst (by decide +kernel : decode cX10_sea 122 = .ok (.iconst (-1), 1)) (by decide)).to, ?_⟩
  exact fun _ h => absurd h List.not_mem_nil
theorem sn_tX10_sea_1 : ∀ q ∈ tX10_sea_1, am_Snd am_P0 RX10 cX10_sea 4 (Option.some FieldType.int) "sea" q.1 q.2 := by
  unfold tX10_sea_1
  refine List.forall_mem_cons.mpr ⟨s_iret (by decide +kernel : decode cX10_sea 123 = .ok (.ireturn, 1)) rfl, ?_⟩
  refine List.forall_mem_cons.mpr ⟨(s_aloadn (by decide +kernel : decode cX10_sea 124 = .ok (.aload_n 0, 1)) rfl).to, ?_⟩
  refine List.forall_mem_cons.mpr ⟨(s_get (ci := 10) (k := 2) (by decide +kernel : decode cX10_sea 125 = .ok (.getfield 16, 3)) rfl (by decide) wd581 inX10 rfl).to, ?_⟩
  refine List.forall_mem_cons.mpr ⟨(s_astoren (by decide +kernel : decode cX10_sea 128 = .ok (.astore_n 2, 1)) rfl (by decide)).to, ?_⟩
  refine List.forall_mem_cons.mpr ⟨(s_aloadn (by decide +kernel : decode cX10_sea 129 = .ok (.aload_n 0, 1)) rfl).to, ?_⟩
  refine List.forall_mem_cons.mpr ⟨(s_aloadn (by decide +kernel : decode cX10_sea 130 = .ok (.aload_n 0, 1)) rfl).to, ?_⟩
  refine List.forall_mem_cons.mpr ⟨(s_get (ci := 10) (k := 3) (by decide +kernel : decode cX10_sea 131 = .ok (.getfield 20, 3)) rfl (by decide) wd582 inX10 rfl).to, ?_⟩
  refine List.forall_mem_cons.mpr ⟨(s_put (ci := 10) (k := 2) (by decide +kernel : decode cX10_sea 134 = .ok (.putfield 16, 3)) rfl (by decide) wd581 inX10 tyX10_ok nmX10 rfl rfl).to, ?_⟩
  refine List.forall_mem_cons.mpr ⟨(s_aloadn (by decide +kernel : decode cX10_sea 137 = .ok (.aload_n 0, 1)) rfl).to, ?_⟩
  refine List.forall_mem_cons.mpr ⟨(s_aloadn (by decide +kernel : decode cX10_sea 138 = .ok (.aload_n 2, 1)) rfl).to, ?_⟩
  refine List.forall_mem_cons.mpr ⟨(s_put (ci := 10) (k := 3) (by decide +kernel : decode cX10_sea 139 = .ok (.putfield 20, 3)) rfl (by decide) wd582 inX10 tyX10_ok nmX10 rfl rfl).to, ?_⟩
  refine List.forall_mem_cons.mpr ⟨(s_aloadn (by decide +kernel : decode cX10_sea 142 = .ok (.aload_n 0, 1)) rfl).to, ?_⟩
  refine List.forall_mem_cons.mpr ⟨(s_get (ci := 10) (k := 2) (by decide +kernel : decode cX10_sea 143 = .ok (.getfield 16, 3)) rfl (by decide) wd581 inX10 rfl).to, ?_⟩
  refine List.forall_mem_cons.mpr ⟨z_cv (by decide +kernel : decode cX10_sea 146 = .ok (.invokevirtual 102, 3)) mt53 wd843 (ci := 5) rfl (by decide), ?_⟩
  refine List.forall_mem_cons.mpr ⟨(s_iconst (by decide +kernel : decode cX10_sea 149 = .ok (.iconst 0, 1)) (by decide)).to, ?_⟩
  refine List.forall_mem_cons.mpr ⟨(s_istoren (by decide +kernel : decode cX10_sea 150 = .ok (.istore_n 3, 1)) rfl (by decide)).to, ?_⟩
  refine List.forall_mem_cons.mpr ⟨(s_iloadn (by decide +kernel : decode cX10_sea 151 = .ok (.iload_n 3, 1)) rfl).to, ?_⟩
  refine List.forall_mem_cons.mpr ⟨(s_aloadn (by decide +kernel : decode cX10_sea 152 = .ok (.aload_n 0, 1)) rfl).to, ?_⟩
  refine List.forall_mem_cons.mpr ⟨(s_get (ci := 10) (k := 2) (by decide +kernel : decode cX10_sea 153 = .ok (.getfield 16, 3)) rfl (by decide) wd581 inX10 rfl).to, ?_⟩
  refine List.forall_mem_cons.mpr ⟨(s_get (ci := 5) (k := 3) (by decide +kernel : decode cX10_sea 156 = .ok (.getfield 105, 3)) rfl (by decide) wd315 inX5 rfl).to, ?_⟩
  refine List.forall_mem_cons.mpr ⟨(s_icmp_ge (by decide +kernel : decode cX10_sea 159 = .ok (.if_icmp .ge 31, 3)) (by decide)).to, ?_⟩
  refine List.forall_mem_cons.mpr ⟨(s_aloadn (by decide +kernel : decode cX10_sea 162 = .ok (.aload_n 0, 1)) rfl).to, ?_⟩
  refine List.forall_mem_cons.mpr ⟨(s_get (ci := 10) (k := 7) (by decide +kernel : decode cX10_sea 163 = .ok (.getfield 38, 3)) rfl (by decide) wd586 inX10 rfl).to, ?_⟩
  refine List.forall_mem_cons.mpr ⟨(s_iloadn (by decide +kernel : decode cX10_sea 166 = .ok (.iload_n 3, 1)) rfl).to, ?_⟩
  refine List.forall_mem_cons.mpr ⟨(s_aald (by decide +kernel : decode cX10_sea 167 = .ok (.aaload, 1))).to, ?_⟩
  refine List.forall_mem_cons.mpr ⟨(s_aloadn (by decide +kernel : decode cX10_sea 168 = .ok (.aload_n 0, 1)) rfl).to, ?_⟩
  refine List.forall_mem_cons.mpr ⟨(s_get (ci := 10) (k := 2) (by decide +kernel : decode cX10_sea 169 = .ok (.getfield 16, 3)) rfl (by decide) wd581 inX10 rfl).to, ?_⟩
  refine List.forall_mem_cons.mpr ⟨(s_aloadn (by decide +kernel : decode cX10_sea 172 = .ok (.aload_n 0, 1)) rfl).to, ?_⟩
  refine List.forall_mem_cons.mpr ⟨(s_get (ci := 10) (k := 2) (by decide +kernel : decode cX10_sea 173 = .ok (.getfield 16, 3)) rfl (by decide) wd581 inX10 rfl).to, ?_⟩
  refine List.forall_mem_cons.mpr ⟨(s_get (ci := 5) (k := 4) (by decide +kernel : decode cX10_sea 176 = .ok (.getfield 61, 3)) rfl (by decide) wd318 inX5 rfl).to, ?_⟩
  refine List.forall_mem_cons.mpr ⟨(s_iloadn (by decide +kernel : decode cX10_sea 179 = .ok (.iload_n 3, 1)) rfl).to, ?_⟩
  refine List.forall_mem_cons.mpr ⟨(s_aald (by decide +kernel : decode cX10_sea 180 = .ok (.aaload, 1))).to, ?_⟩
  refine List.forall_mem_cons.mpr ⟨z_cv (by decide +kernel : decode cX10_sea 181 = .ok (.invokevirtual 108, 3)) mt73 wd889 (ci := 8) rfl (by decide), ?_⟩
  refine List.forall_mem_cons.mpr ⟨(s_iinc (by decide +kernel : decode cX10_sea 184 = .ok (.iinc 3 1, 3)) (by decide) (by decide)).to, ?_⟩
  refine List.forall_mem_cons.mpr ⟨(s_goto (by decide +kernel : decode cX10_sea 187 = .ok (.goto (-36), 3)) (by decide)).to, ?_⟩
  refine List.forall_mem_cons.mpr ⟨(s_aloadn (by decide +kernel : decode cX10_sea 190 = .ok (.aload_n 0, 1)) rfl).to, ?_⟩
  refine List.forall_mem_cons.mpr ⟨(s_iconst (by decide +kernel : decode cX10_sea 191 = .ok (.iconst 0, 1)) (by decide)).to, ?_⟩
  refine List.forall_mem_cons.mpr ⟨(s_put (ci := 10) (k := 13) (by decide +kernel : decode cX10_sea 192 = .ok (.putfield 111, 3)) rfl (by decide) wd592 inX10 tyX10_ok nmX10 rfl rfl).to, ?_⟩
  refine List.forall_mem_cons.mpr ⟨(s_iloadn (by decide +kernel : decode cX10_sea 195 = .ok (.iload_n 1, 1)) rfl).to, ?_⟩
  refine List.forall_mem_cons.mpr ⟨s_iret (by decide +kernel : decode cX10_sea 196 = .ok (.ireturn, 1)) rfl, ?_⟩
  exact fun _ h => absurd h List.not_mem_nil
theorem sn_tX10_sea : ∀ q ∈ tX10_sea, am_Snd am_P0 RX10 cX10_sea 4 (Option.some FieldType.int) "sea" q.1 q.2 := by
  unfold tX10_sea
  exact List.forall_mem_append.mpr ⟨sn_tX10_sea_0, sn_tX10_sea_1⟩
theorem sn_tX10_fault : ∀ q ∈ tX10_fault, am_Snd am_P0 RX10 cX10_fault 2 (Option.some FieldType.int) "fault" q.1 q.2 := by
  unfold tX10_fault
  refine List.forall_mem_cons.mpr ⟨(s_iloadn (by decide +kernel : decode cX10_fault 0 = .ok (.iload_n 1, 1)) rfl).to, ?_⟩
  refine List.forall_mem_cons.mpr ⟨(s_look (by decide +kernel : decode cX10_fault 1 = .ok (.lookupswitch 37 #[(0, 27), (1, 32)], 27)) (by decide) (by decide) (by decide)).to, ?_⟩
  refine List.forall_mem_cons.mpr ⟨(s_aloadn (by decide +kernel : decode cX10_fault 28 = .ok (.aload_n 0, 1)) rfl).to, ?_⟩
  refine List.forall_mem_cons.mpr ⟨(s_get (ci := 10) (k := 5) (by decide +kernel : decode cX10_fault 29 = .ok (.getfield 98, 3)) rfl (by decide) wd584 inX10 rfl).to, ?_⟩
  refine List.forall_mem_cons.mpr ⟨s_iret (by decide +kernel : decode cX10_fault 32 = .ok (.ireturn, 1)) rfl, ?_⟩
  refine List.forall_mem_cons.mpr ⟨(s_aloadn (by decide +kernel : decode cX10_fault 33 = .ok (.aload_n 0, 1)) rfl).to, ?_⟩
  refine List.forall_mem_cons.mpr ⟨(s_get (ci := 10) (k := 6) (by decide +kernel : decode cX10_fault 34 = .ok (.getfield 32, 3)) rfl (by decide) wd585 inX10 rfl).to, ?_⟩
  refine List.forall_mem_cons.mpr ⟨s_iret (by decide +kernel : decode cX10_fault 37 = .ok (.ireturn, 1)) rfl, ?_⟩
  refine List.forall_mem_cons.mpr ⟨(s_iconst (by decide +kernel : decode cX10_fault 38 = .ok (.iconst (-1), 1)) (by decide)).to, ?_⟩
  refine List.forall_mem_cons.mpr ⟨s_iret (by decide +kernel : decode cX10_fault 39 = .ok (.ireturn, 1)) rfl, ?_⟩
  exact fun _ h => absurd h List.not_mem_nil
theorem sn_tX10_has : ∀ q ∈ tX10_has, am_Snd am_P0 RX10 cX10_has 2 (Option.some FieldType.int) "has" q.1 q.2 := by
  unfold tX10_has
  refine List.forall_mem_cons.mpr ⟨(s_iloadn (by decide +kernel : decode cX10_has 0 = .ok (.iload_n 1, 1)) rfl).to, ?_⟩
  refine List.forall_mem_cons.mpr ⟨(s_table (by decide +kernel : decode cX10_has 1 = .ok (.tableswitch 114 0 7 #[47, 55, 63, 71, 79, 87, 98, 106], 47)) (by decide) (by decide) (by decide) (by decide)).to, ?_⟩
  refine List.forall_mem_cons.mpr ⟨(s_aloadn (by decide +kernel : decode cX10_has 48 = .ok (.aload_n 0, 1)) rfl).to, ?_⟩
  refine List.forall_mem_cons.mpr ⟨(s_get (ci := 10) (k := 2) (by decide +kernel : decode cX10_has 49 = .ok (.getfield 16, 3)) rfl (by decide) wd581 inX10 rfl).to, ?_⟩
  refine List.forall_mem_cons.mpr ⟨(s_get (ci := 5) (k := 0) (by decide +kernel : decode cX10_has 52 = .ok (.getfield 115, 3)) rfl (by decide) wd307 inX5 rfl).to, ?_⟩
  refine List.forall_mem_cons.mpr ⟨s_iret (by decide +kernel : decode cX10_has 55 = .ok (.ireturn, 1)) rfl, ?_⟩
  refine List.forall_mem_cons.mpr ⟨(s_aloadn (by decide +kernel : decode cX10_has 56 = .ok (.aload_n 0, 1)) rfl).to, ?_⟩
  refine List.forall_mem_cons.mpr ⟨(s_get (ci := 10) (k := 2) (by decide +kernel : decode cX10_has 57 = .ok (.getfield 16, 3)) rfl (by decide) wd581 inX10 rfl).to, ?_⟩
  refine List.forall_mem_cons.mpr ⟨(s_get (ci := 5) (k := 1) (by decide +kernel : decode cX10_has 60 = .ok (.getfield 118, 3)) rfl (by decide) wd310 inX5 rfl).to, ?_⟩
  refine List.forall_mem_cons.mpr ⟨s_iret (by decide +kernel : decode cX10_has 63 = .ok (.ireturn, 1)) rfl, ?_⟩
  refine List.forall_mem_cons.mpr ⟨(s_aloadn (by decide +kernel : decode cX10_has 64 = .ok (.aload_n 0, 1)) rfl).to, ?_⟩
  refine List.forall_mem_cons.mpr ⟨(s_get (ci := 10) (k := 2) (by decide +kernel : decode cX10_has 65 = .ok (.getfield 16, 3)) rfl (by decide) wd581 inX10 rfl).to, ?_⟩
  refine List.forall_mem_cons.mpr ⟨(s_get (ci := 5) (k := 3) (by decide +kernel : decode cX10_has 68 = .ok (.getfield 105, 3)) rfl (by decide) wd315 inX5 rfl).to, ?_⟩
  refine List.forall_mem_cons.mpr ⟨s_iret (by decide +kernel : decode cX10_has 71 = .ok (.ireturn, 1)) rfl, ?_⟩
  refine List.forall_mem_cons.mpr ⟨(s_aloadn (by decide +kernel : decode cX10_has 72 = .ok (.aload_n 0, 1)) rfl).to, ?_⟩
  refine List.forall_mem_cons.mpr ⟨(s_get (ci := 10) (k := 2) (by decide +kernel : decode cX10_has 73 = .ok (.getfield 16, 3)) rfl (by decide) wd581 inX10 rfl).to, ?_⟩
  refine List.forall_mem_cons.mpr ⟨z_cv (by decide +kernel : decode cX10_has 76 = .ok (.invokevirtual 121, 3)) mt59 wd911 (ci := 5) rfl (by decide), ?_⟩
  refine List.forall_mem_cons.mpr ⟨s_iret (by decide +kernel : decode cX10_has 79 = .ok (.ireturn, 1)) rfl, ?_⟩
  refine List.forall_mem_cons.mpr ⟨(s_aloadn (by decide +kernel : decode cX10_has 80 = .ok (.aload_n 0, 1)) rfl).to, ?_⟩
  refine List.forall_mem_cons.mpr ⟨(s_get (ci := 10) (k := 2) (by decide +kernel : decode cX10_has 81 = .ok (.getfield 16, 3)) rfl (by decide) wd581 inX10 rfl).to, ?_⟩
  refine List.forall_mem_cons.mpr ⟨z_cv (by decide +kernel : decode cX10_has 84 = .ok (.invokevirtual 125, 3)) mt61 wd912 (ci := 5) rfl (by decide), ?_⟩
  refine List.forall_mem_cons.mpr ⟨s_iret (by decide +kernel : decode cX10_has 87 = .ok (.ireturn, 1)) rfl, ?_⟩
  refine List.forall_mem_cons.mpr ⟨(s_aloadn (by decide +kernel : decode cX10_has 88 = .ok (.aload_n 0, 1)) rfl).to, ?_⟩
  refine List.forall_mem_cons.mpr ⟨(s_get (ci := 10) (k := 2) (by decide +kernel : decode cX10_has 89 = .ok (.getfield 16, 3)) rfl (by decide) wd581 inX10 rfl).to, ?_⟩
  refine List.forall_mem_cons.mpr ⟨(s_get (ci := 5) (k := 5) (by decide +kernel : decode cX10_has 92 = .ok (.getfield 128, 3)) rfl (by decide) wd321 inX5 rfl).to, ?_⟩
  refine List.forall_mem_cons.mpr ⟨(s_get (ci := 7) (k := 0) (by decide +kernel : decode cX10_has 95 = .ok (.getfield 132, 3)) rfl (by decide) wd178 inX7 rfl).to, ?_⟩
  refine List.forall_mem_cons.mpr ⟨s_iret (by decide +kernel : decode cX10_has 98 = .ok (.ireturn, 1)) rfl, ?_⟩
  refine List.forall_mem_cons.mpr ⟨(s_aloadn (by decide +kernel : decode cX10_has 99 = .ok (.aload_n 0, 1)) rfl).to, ?_⟩
  refine List.forall_mem_cons.mpr ⟨(s_get (ci := 10) (k := 2) (by decide +kernel : decode cX10_has 100 = .ok (.getfield 16, 3)) rfl (by decide) wd581 inX10 rfl).to, ?_⟩
  refine List.forall_mem_cons.mpr ⟨(s_get (ci := 5) (k := 2) (by decide +kernel : decode cX10_has 103 = .ok (.getfield 137, 3)) rfl (by decide) wd313 inX5 rfl).to, ?_⟩
  refine List.forall_mem_cons.mpr ⟨s_iret (by decide +kernel : decode cX10_has 106 = .ok (.ireturn, 1)) rfl, ?_⟩
  refine List.forall_mem_cons.mpr ⟨(s_aloadn (by decide +kernel : decode cX10_has 107 = .ok (.aload_n 0, 1)) rfl).to, ?_⟩
  refine List.forall_mem_cons.mpr ⟨(s_get (ci := 10) (k := 2) (by decide +kernel : decode cX10_has 108 = .ok (.getfield 16, 3)) rfl (by decide) wd581 inX10 rfl).to, ?_⟩
  refine List.forall_mem_cons.mpr ⟨z_cv (by decide +kernel : decode cX10_has 111 = .ok (.invokevirtual 140, 3)) mt60 wd913 (ci := 5) rfl (by decide), ?_⟩
  refine List.forall_mem_cons.mpr ⟨s_iret (by decide +kernel : decode cX10_has 114 = .ok (.ireturn, 1)) rfl, ?_⟩
  refine List.forall_mem_cons.mpr ⟨(s_iconst (by decide +kernel : decode cX10_has 115 = .ok (.iconst (-1), 1)) (by decide)).to, ?_⟩
  refine List.forall_mem_cons.mpr ⟨s_iret (by decide +kernel : decode cX10_has 116 = .ok (.ireturn, 1)) rfl, ?_⟩
  exact fun _ h => absurd h List.not_mem_nil
theorem sn_tX10_letter : ∀ q ∈ tX10_letter, am_Snd am_P0 RX10 cX10_letter 4 (Option.some FieldType.int) "letter" q.1 q.2 := by
  unfold tX10_letter
  refine List.forall_mem_cons.mpr ⟨(s_aloadn (by decide +kernel : decode cX10_letter 0 = .ok (.aload_n 0, 1)) rfl).to, ?_⟩
  refine List.forall_mem_cons.mpr ⟨(s_iloadn (by decide +kernel : decode cX10_letter 1 = .ok (.iload_n 1, 1)) rfl).to, ?_⟩
  refine List.forall_mem_cons.mpr ⟨z_cv (by decide +kernel : decode cX10_letter 2 = .ok (.invokevirtual 143, 3)) mt150 wd921 (ci := 10) rfl (by decide), ?_⟩
  refine List.forall_mem_cons.mpr ⟨(s_if_eq (by decide +kernel : decode cX10_letter 5 = .ok (.ifCond .eq 13, 3)) (by decide)).to, ?_⟩
  refine List.forall_mem_cons.mpr ⟨(s_iloadn (by decide +kernel : decode cX10_letter 8 = .ok (.iload_n 2, 1)) rfl).to, ?_⟩
  refine List.forall_mem_cons.mpr ⟨(s_if_lt (by decide +kernel : decode cX10_letter 9 = .ok (.ifCond .lt 9, 3)) (by decide)).to, ?_⟩
  refine List.forall_mem_cons.mpr ⟨(s_iloadn (by decide +kernel : decode cX10_letter 12 = .ok (.iload_n 2, 1)) rfl).to, ?_⟩
  refine List.forall_mem_cons.mpr ⟨(s_bipush (by decide +kernel : decode cX10_letter 13 = .ok (.bipush 6, 2)) (by decide)).to, ?_⟩
  refine List.forall_mem_cons.mpr ⟨(s_icmp_lt (by decide +kernel : decode cX10_letter 15 = .ok (.if_icmp .lt 5, 3)) (by decide)).to, ?_⟩
  refine List.forall_mem_cons.mpr ⟨(s_iconst (by decide +kernel : decode cX10_letter 18 = .ok (.iconst (-1), 1)) (by decide)).to, ?_⟩
  refine List.forall_mem_cons.mpr ⟨s_iret (by decide +kernel : decode cX10_letter 19 = .ok (.ireturn, 1)) rfl, ?_⟩
  refine List.forall_mem_cons.mpr ⟨(s_aloadn (by decide +kernel : decode cX10_letter 20 = .ok (.aload_n 0, 1)) rfl).to, ?_⟩
  refine List.forall_mem_cons.mpr ⟨(s_get (ci := 10) (k := 2) (by decide +kernel : decode cX10_letter 21 = .ok (.getfield 16, 3)) rfl (by decide) wd581 inX10 rfl).to, ?_⟩
  refine List.forall_mem_cons.mpr ⟨(s_get (ci := 5) (k := 4) (by decide +kernel : decode cX10_letter 24 = .ok (.getfield 61, 3)) rfl (by decide) wd318 inX5 rfl).to, ?_⟩
  refine List.forall_mem_cons.mpr ⟨(s_iloadn (by decide +kernel : decode cX10_letter 27 = .ok (.iload_n 1, 1)) rfl).to, ?_⟩
  refine List.forall_mem_cons.mpr ⟨(s_aald (by decide +kernel : decode cX10_letter 28 = .ok (.aaload, 1))).to, ?_⟩
  refine List.forall_mem_cons.mpr ⟨(s_get (ci := 6) (k := 0) (by decide +kernel : decode cX10_letter 29 = .ok (.getfield 147, 3)) rfl (by decide) wd239 inX6 rfl).to, ?_⟩
  refine List.forall_mem_cons.mpr ⟨(s_iconst (by decide +kernel : decode cX10_letter 32 = .ok (.iconst 5, 1)) (by decide)).to, ?_⟩
  refine List.forall_mem_cons.mpr ⟨(s_iloadn (by decide +kernel : decode cX10_letter 33 = .ok (.iload_n 2, 1)) rfl).to, ?_⟩
  refine List.forall_mem_cons.mpr ⟨(s_imul (by decide +kernel : decode cX10_letter 34 = .ok (.imul, 1))).to, ?_⟩
  refine List.forall_mem_cons.mpr ⟨(s_ishr (by decide +kernel : decode cX10_letter 35 = .ok (.ishr, 1))).to, ?_⟩
  refine List.forall_mem_cons.mpr ⟨(s_bipush (by decide +kernel : decode cX10_letter 36 = .ok (.bipush 31, 2)) (by decide)).to, ?_⟩
  refine List.forall_mem_cons.mpr ⟨(s_iand (by decide +kernel : decode cX10_letter 38 = .ok (.iand, 1))).to, ?_⟩
  refine List.forall_mem_cons.mpr ⟨(s_istoren (by decide +kernel : decode cX10_letter 39 = .ok (.istore_n 3, 1)) rfl (by decide)).to, ?_⟩
  refine List.forall_mem_cons.mpr ⟨(s_iloadn (by decide +kernel : decode cX10_letter 40 = .ok (.iload_n 3, 1)) rfl).to, ?_⟩
  refine List.forall_mem_cons.mpr ⟨(s_if_ne (by decide +kernel : decode cX10_letter 41 = .ok (.ifCond .ne 7, 3)) (by decide)).to, ?_⟩
  refine List.forall_mem_cons.mpr ⟨(s_iconst (by decide +kernel : decode cX10_letter 44 = .ok (.iconst (-1), 1)) (by decide)).to, ?_⟩
  refine List.forall_mem_cons.mpr ⟨(s_goto (by decide +kernel : decode cX10_letter 45 = .ok (.goto 7, 3)) (by decide)).to, ?_⟩
  refine List.forall_mem_cons.mpr ⟨(s_iloadn (by decide +kernel : decode cX10_letter 48 = .ok (.iload_n 3, 1)) rfl).to, ?_⟩
  refine List.forall_mem_cons.mpr ⟨(s_bipush (by decide +kernel : decode cX10_letter 49 = .ok (.bipush 96, 2)) (by decide)).to, ?_⟩
  refine List.forall_mem_cons.mpr ⟨(s_iadd (by decide +kernel : decode cX10_letter 51 = .ok (.iadd, 1))).to, ?_⟩
  refine List.forall_mem_cons.mpr ⟨s_iret (by decide +kernel : decode cX10_letter 52 = .ok (.ireturn, 1)) rfl, ?_⟩
  exact fun _ h => absurd h List.not_mem_nil
theorem sn_tX10_ship : ∀ q ∈ tX10_ship, am_Snd am_P0 RX10 cX10_ship 4 (Option.some FieldType.int) "ship" q.1 q.2 := by
  unfold tX10_ship
  refine List.forall_mem_cons.mpr ⟨(s_aloadn (by decide +kernel : decode cX10_ship 0 = .ok (.aload_n 0, 1)) rfl).to, ?_⟩
  refine List.forall_mem_cons.mpr ⟨(s_iloadn (by decide +kernel : decode cX10_ship 1 = .ok (.iload_n 1, 1)) rfl).to, ?_⟩
  refine List.forall_mem_cons.mpr ⟨z_cv (by decide +kernel : decode cX10_ship 2 = .ok (.invokevirtual 143, 3)) mt150 wd921 (ci := 10) rfl (by decide), ?_⟩
  refine List.forall_mem_cons.mpr ⟨(s_if_ne (by decide +kernel : decode cX10_ship 5 = .ok (.ifCond .ne 5, 3)) (by decide)).to, ?_⟩
  refine List.forall_mem_cons.mpr ⟨(s_iconst (by decide +kernel : decode cX10_ship 8 = .ok (.iconst (-1), 1)) (by decide)).to, ?_⟩
  refine List.forall_mem_cons.mpr ⟨s_iret (by decide +kernel : decode cX10_ship 9 = .ok (.ireturn, 1)) rfl, ?_⟩
  refine List.forall_mem_cons.mpr ⟨(s_aloadn (by decide +kernel : decode cX10_ship 10 = .ok (.aload_n 0, 1)) rfl).to, ?_⟩
  refine List.forall_mem_cons.mpr ⟨(s_get (ci := 10) (k := 2) (by decide +kernel : decode cX10_ship 11 = .ok (.getfield 16, 3)) rfl (by decide) wd581 inX10 rfl).to, ?_⟩
  refine List.forall_mem_cons.mpr ⟨(s_get (ci := 5) (k := 4) (by decide +kernel : decode cX10_ship 14 = .ok (.getfield 61, 3)) rfl (by decide) wd318 inX5 rfl).to, ?_⟩
  refine List.forall_mem_cons.mpr ⟨(s_iloadn (by decide +kernel : decode cX10_ship 17 = .ok (.iload_n 1, 1)) rfl).to, ?_⟩
  refine List.forall_mem_cons.mpr ⟨(s_aald (by decide +kernel : decode cX10_ship 18 = .ok (.aaload, 1))).to, ?_⟩
  refine List.forall_mem_cons.mpr ⟨(s_astoren (by decide +kernel : decode cX10_ship 19 = .ok (.astore_n 3, 1)) rfl (by decide)).to, ?_⟩
  refine List.forall_mem_cons.mpr ⟨(s_iloadn (by decide +kernel : decode cX10_ship 20 = .ok (.iload_n 2, 1)) rfl).to, ?_⟩
  refine List.forall_mem_cons.mpr ⟨(s_table (by decide +kernel : decode cX10_ship 21 = .ok (.tableswitch 116 0 8 #[51, 56, 61, 66, 71, 76, 85, 99, 104], 51)) (by decide) (by decide) (by decide) (by decide)).to, ?_⟩
  refine List.forall_mem_cons.mpr ⟨(s_aloadn (by decide +kernel : decode cX10_ship 72 = .ok (.aload_n 3, 1)) rfl).to, ?_⟩
  refine List.forall_mem_cons.mpr ⟨(s_get (ci := 6) (k := 1) (by decide +kernel : decode cX10_ship 73 = .ok (.getfield 152, 3)) rfl (by decide) wd241 inX6 rfl).to, ?_⟩
  refine List.forall_mem_cons.mpr ⟨s_iret (by decide +kernel : decode cX10_ship 76 = .ok (.ireturn, 1)) rfl, ?_⟩
  refine List.forall_mem_cons.mpr ⟨(s_aloadn (by decide +kernel : decode cX10_ship 77 = .ok (.aload_n 3, 1)) rfl).to, ?_⟩
  refine List.forall_mem_cons.mpr ⟨(s_get (ci := 6) (k := 2) (by decide +kernel : decode cX10_ship 78 = .ok (.getfield 155, 3)) rfl (by decide) wd244 inX6 rfl).to, ?_⟩
  refine List.forall_mem_cons.mpr ⟨s_iret (by decide +kernel : decode cX10_ship 81 = .ok (.ireturn, 1)) rfl, ?_⟩
  refine List.forall_mem_cons.mpr ⟨(s_aloadn (by decide +kernel : decode cX10_ship 82 = .ok (.aload_n 3, 1)) rfl).to, ?_⟩
  refine List.forall_mem_cons.mpr ⟨(s_get (ci := 6) (k := 3) (by decide +kernel : decode cX10_ship 83 = .ok (.getfield 158, 3)) rfl (by decide) wd248 inX6 rfl).to, ?_⟩
  refine List.forall_mem_cons.mpr ⟨s_iret (by decide +kernel : decode cX10_ship 86 = .ok (.ireturn, 1)) rfl, ?_⟩
  refine List.forall_mem_cons.mpr ⟨(s_aloadn (by decide +kernel : decode cX10_ship 87 = .ok (.aload_n 3, 1)) rfl).to, ?_⟩
  refine List.forall_mem_cons.mpr ⟨(s_get (ci := 6) (k := 4) (by decide +kernel : decode cX10_ship 88 = .ok (.getfield 161, 3)) rfl (by decide) wd251 inX6 rfl).to, ?_⟩
  refine List.forall_mem_cons.mpr ⟨s_iret (by decide +kernel : decode cX10_ship 91 = .ok (.ireturn, 1)) rfl, ?_⟩
  refine List.forall_mem_cons.mpr ⟨(s_aloadn (by decide +kernel : decode cX10_ship 92 = .ok (.aload_n 3, 1)) rfl).to, ?_⟩
  refine List.forall_mem_cons.mpr ⟨(s_get (ci := 6) (k := 5) (by decide +kernel : decode cX10_ship 93 = .ok (.getfield 164, 3)) rfl (by decide) wd255 inX6 rfl).to, ?_⟩
  refine List.forall_mem_cons.mpr ⟨s_iret (by decide +kernel : decode cX10_ship 96 = .ok (.ireturn, 1)) rfl, ?_⟩
  refine List.forall_mem_cons.mpr ⟨(s_aloadn (by decide +kernel : decode cX10_ship 97 = .ok (.aload_n 0, 1)) rfl).to, ?_⟩
  refine List.forall_mem_cons.mpr ⟨(s_iloadn (by decide +kernel : decode cX10_ship 98 = .ok (.iload_n 1, 1)) rfl).to, ?_⟩
  refine List.forall_mem_cons.mpr ⟨z_cv (by decide +kernel : decode cX10_ship 99 = .ok (.invokevirtual 165, 3)) mt154 wd929 (ci := 10) rfl (by decide), ?_⟩
  refine List.forall_mem_cons.mpr ⟨(s_get (ci := 8) (k := 11) (by decide +kernel : decode cX10_ship 102 = .ok (.getfield 169, 3)) rfl (by decide) wd534 inX8 rfl).to, ?_⟩
  refine List.forall_mem_cons.mpr ⟨s_iret (by decide +kernel : decode cX10_ship 105 = .ok (.ireturn, 1)) rfl, ?_⟩
  refine List.forall_mem_cons.mpr ⟨(s_aloadn (by decide +kernel : decode cX10_ship 106 = .ok (.aload_n 3, 1)) rfl).to, ?_⟩
  refine List.forall_mem_cons.mpr ⟨(s_get (ci := 6) (k := 5) (by decide +kernel : decode cX10_ship 107 = .ok (.getfield 164, 3)) rfl (by decide) wd255 inX6 rfl).to, ?_⟩
  refine List.forall_mem_cons.mpr ⟨(s_aloadn (by decide +kernel : decode cX10_ship 110 = .ok (.aload_n 0, 1)) rfl).to, ?_⟩
  refine List.forall_mem_cons.mpr ⟨(s_iloadn (by decide +kernel : decode cX10_ship 111 = .ok (.iload_n 1, 1)) rfl).to, ?_⟩
  refine List.forall_mem_cons.mpr ⟨z_cv (by decide +kernel : decode cX10_ship 112 = .ok (.invokevirtual 165, 3)) mt154 wd929 (ci := 10) rfl (by decide), ?_⟩
  refine List.forall_mem_cons.mpr ⟨(s_get (ci := 8) (k := 11) (by decide +kernel : decode cX10_ship 115 = .ok (.getfield 169, 3)) rfl (by decide) wd534 inX8 rfl).to, ?_⟩
  refine List.forall_mem_cons.mpr ⟨(s_isub (by decide +kernel : decode cX10_ship 118 = .ok (.isub, 1))).to, ?_⟩
  refine List.forall_mem_cons.mpr ⟨s_iret (by decide +kernel : decode cX10_ship 119 = .ok (.ireturn, 1)) rfl, ?_⟩
  refine List.forall_mem_cons.mpr ⟨(s_aloadn (by decide +kernel : decode cX10_ship 120 = .ok (.aload_n 3, 1)) rfl).to, ?_⟩
  refine List.forall_mem_cons.mpr ⟨(s_get (ci := 6) (k := 9) (by decide +kernel : decode cX10_ship 121 = .ok (.getfield 172, 3)) rfl (by decide) wd268 inX6 rfl).to, ?_⟩
  refine List.forall_mem_cons.mpr ⟨s_iret (by decide +kernel : decode cX10_ship 124 = .ok (.ireturn, 1)) rfl, ?_⟩
  refine List.forall_mem_cons.mpr ⟨(s_aloadn (by decide +kernel : decode cX10_ship 125 = .ok (.aload_n 0, 1)) rfl).to, ?_⟩
  refine List.forall_mem_cons.mpr ⟨(s_iloadn (by decide +kernel : decode cX10_ship 126 = .ok (.iload_n 1, 1)) rfl).to, ?_⟩
  refine List.forall_mem_cons.mpr ⟨z_cv (by decide +kernel : decode cX10_ship 127 = .ok (.invokevirtual 165, 3)) mt154 wd929 (ci := 10) rfl (by decide), ?_⟩
  refine List.forall_mem_cons.mpr ⟨(s_get (ci := 8) (k := 8) (by decide +kernel : decode cX10_ship 130 = .ok (.getfield 175, 3)) rfl (by decide) wd529 inX8 rfl).to, ?_⟩
  refine List.forall_mem_cons.mpr ⟨z_cs (by decide +kernel : decode cX10_ship 133 = .ok (.invokestatic 178, 3)) mt148 wd1004, ?_⟩
  refine List.forall_mem_cons.mpr ⟨s_iret (by decide +kernel : decode cX10_ship 136 = .ok (.ireturn, 1)) rfl, ?_⟩
  refine List.forall_mem_cons.mpr ⟨(s_iconst (by decide +kernel : decode cX10_ship 137 = .ok (.iconst (-1), 1)) (by decide)).to, ?_⟩
  refine List.forall_mem_cons.mpr ⟨s_iret (by decide +kernel : decode cX10_ship 138 = .ok (.ireturn, 1)) rfl, ?_⟩
  exact fun _ h => absurd h List.not_mem_nil
theorem sn_tX10_saying : ∀ q ∈ tX10_saying, am_Snd am_P0 RX10 cX10_saying 5 (Option.some FieldType.int) "saying" q.1 q.2 := by
  unfold tX10_saying
  refine List.forall_mem_cons.mpr ⟨(s_aloadn (by decide +kernel : decode cX10_saying 0 = .ok (.aload_n 0, 1)) rfl).to, ?_⟩
  refine List.forall_mem_cons.mpr ⟨(s_iloadn (by decide +kernel : decode cX10_saying 1 = .ok (.iload_n 1, 1)) rfl).to, ?_⟩
  refine List.forall_mem_cons.mpr ⟨(s_iloadn (by decide +kernel : decode cX10_saying 2 = .ok (.iload_n 2, 1)) rfl).to, ?_⟩
  refine List.forall_mem_cons.mpr ⟨z_cv (by decide +kernel : decode cX10_saying 3 = .ok (.invokevirtual 182, 3)) mt151 wd1011 (ci := 10) rfl (by decide), ?_⟩
  refine List.forall_mem_cons.mpr ⟨(s_if_ne (by decide +kernel : decode cX10_saying 6 = .ok (.ifCond .ne 5, 3)) (by decide)).to, ?_⟩
  refine List.forall_mem_cons.mpr ⟨(s_iconst (by decide +kernel : decode cX10_saying 9 = .ok (.iconst (-1), 1)) (by decide)).to, ?_⟩
  refine List.forall_mem_cons.mpr ⟨s_iret (by decide +kernel : decode cX10_saying 10 = .ok (.ireturn, 1)) rfl, ?_⟩
  refine List.forall_mem_cons.mpr ⟨(s_aloadn (by decide +kernel : decode cX10_saying 11 = .ok (.aload_n 0, 1)) rfl).to, ?_⟩
  refine List.forall_mem_cons.mpr ⟨(s_get (ci := 10) (k := 2) (by decide +kernel : decode cX10_saying 12 = .ok (.getfield 16, 3)) rfl (by decide) wd581 inX10 rfl).to, ?_⟩
  refine List.forall_mem_cons.mpr ⟨(s_get (ci := 5) (k := 4) (by decide +kernel : decode cX10_saying 15 = .ok (.getfield 61, 3)) rfl (by decide) wd318 inX5 rfl).to, ?_⟩
  refine List.forall_mem_cons.mpr ⟨(s_iloadn (by decide +kernel : decode cX10_saying 18 = .ok (.iload_n 1, 1)) rfl).to, ?_⟩
  refine List.forall_mem_cons.mpr ⟨(s_aald (by decide +kernel : decode cX10_saying 19 = .ok (.aaload, 1))).to, ?_⟩
  refine List.forall_mem_cons.mpr ⟨(s_astore (by decide +kernel : decode cX10_saying 20 = .ok (.astore 4, 2)) (by decide)).to, ?_⟩
  refine List.forall_mem_cons.mpr ⟨(s_iloadn (by decide +kernel : decode cX10_saying 22 = .ok (.iload_n 3, 1)) rfl).to, ?_⟩
  refine List.forall_mem_cons.mpr ⟨(s_table (by decide +kernel : decode cX10_saying 23 = .ok (.tableswitch 108 0 4 #[33, 41, 56, 67, 94], 33)) (by decide) (by decide) (by decide) (by decide)).to, ?_⟩
  refine List.forall_mem_cons.mpr ⟨(s_aload (by decide +kernel : decode cX10_saying 56 = .ok (.aload 4, 2))).to, ?_⟩
  refine List.forall_mem_cons.mpr ⟨(s_get (ci := 6) (k := 6) (by decide +kernel : decode cX10_saying 58 = .ok (.getfield 186, 3)) rfl (by decide) wd259 inX6 rfl).to, ?_⟩
  refine List.forall_mem_cons.mpr ⟨(s_iloadn (by decide +kernel : decode cX10_saying 61 = .ok (.iload_n 2, 1)) rfl).to, ?_⟩
  refine List.forall_mem_cons.mpr ⟨(s_iald (by decide +kernel : decode cX10_saying 62 = .ok (.iaload, 1))).to, ?_⟩
  refine List.forall_mem_cons.mpr ⟨s_iret (by decide +kernel : decode cX10_saying 63 = .ok (.ireturn, 1)) rfl, ?_⟩
  refine List.forall_mem_cons.mpr ⟨(s_aloadn (by decide +kernel : decode cX10_saying 64 = .ok (.aload_n 0, 1)) rfl).to, ?_⟩
  refine List.forall_mem_cons.mpr ⟨(s_get (ci := 10) (k := 2) (by decide +kernel : decode cX10_saying 65 = .ok (.getfield 16, 3)) rfl (by decide) wd581 inX10 rfl).to, ?_⟩
  refine List.forall_mem_cons.mpr ⟨(s_aload (by decide +kernel : decode cX10_saying 68 = .ok (.aload 4, 2))).to, ?_⟩
  refine List.forall_mem_cons.mpr ⟨(s_get (ci := 6) (k := 7) (by decide +kernel : decode cX10_saying 70 = .ok (.getfield 189, 3)) rfl (by decide) wd262 inX6 rfl).to, ?_⟩
  refine List.forall_mem_cons.mpr ⟨(s_iloadn (by decide +kernel : decode cX10_saying 73 = .ok (.iload_n 2, 1)) rfl).to, ?_⟩
  refine List.forall_mem_cons.mpr ⟨(s_iald (by decide +kernel : decode cX10_saying 74 = .ok (.iaload, 1))).to, ?_⟩
  refine List.forall_mem_cons.mpr ⟨z_cv (by decide +kernel : decode cX10_saying 75 = .ok (.invokevirtual 192, 3)) mt58 wd1015 (ci := 5) rfl (by decide), ?_⟩
  refine List.forall_mem_cons.mpr ⟨s_iret (by decide +kernel : decode cX10_saying 78 = .ok (.ireturn, 1)) rfl, ?_⟩
  refine List.forall_mem_cons.mpr ⟨(s_aload (by decide +kernel : decode cX10_saying 79 = .ok (.aload 4, 2))).to, ?_⟩
  refine List.forall_mem_cons.mpr ⟨(s_get (ci := 6) (k := 8) (by decide +kernel : decode cX10_saying 81 = .ok (.getfield 196, 3)) rfl (by decide) wd265 inX6 rfl).to, ?_⟩
  refine List.forall_mem_cons.mpr ⟨(s_iloadn (by decide +kernel : decode cX10_saying 84 = .ok (.iload_n 2, 1)) rfl).to, ?_⟩
  refine List.forall_mem_cons.mpr ⟨(s_zald (by decide +kernel : decode cX10_saying 85 = .ok (.baload, 1))).to, ?_⟩
  refine List.forall_mem_cons.mpr ⟨z_cs (by decide +kernel : decode cX10_saying 86 = .ok (.invokestatic 178, 3)) mt148 wd1004, ?_⟩
  refine List.forall_mem_cons.mpr ⟨s_iret (by decide +kernel : decode cX10_saying 89 = .ok (.ireturn, 1)) rfl, ?_⟩
  refine List.forall_mem_cons.mpr ⟨(s_aloadn (by decide +kernel : decode cX10_saying 90 = .ok (.aload_n 0, 1)) rfl).to, ?_⟩
  refine List.forall_mem_cons.mpr ⟨(s_get (ci := 10) (k := 7) (by decide +kernel : decode cX10_saying 91 = .ok (.getfield 38, 3)) rfl (by decide) wd586 inX10 rfl).to, ?_⟩
  refine List.forall_mem_cons.mpr ⟨(s_iloadn (by decide +kernel : decode cX10_saying 94 = .ok (.iload_n 1, 1)) rfl).to, ?_⟩
  refine List.forall_mem_cons.mpr ⟨(s_aald (by decide +kernel : decode cX10_saying 95 = .ok (.aaload, 1))).to, ?_⟩
  refine List.forall_mem_cons.mpr ⟨(s_aload (by decide +kernel : decode cX10_saying 96 = .ok (.aload 4, 2))).to, ?_⟩
  refine List.forall_mem_cons.mpr ⟨(s_get (ci := 6) (k := 7) (by decide +kernel : decode cX10_saying 98 = .ok (.getfield 189, 3)) rfl (by decide) wd262 inX6 rfl).to, ?_⟩
  refine List.forall_mem_cons.mpr ⟨(s_iloadn (by decide +kernel : decode cX10_saying 101 = .ok (.iload_n 2, 1)) rfl).to, ?_⟩
  refine List.forall_mem_cons.mpr ⟨(s_iald (by decide +kernel : decode cX10_saying 102 = .ok (.iaload, 1))).to, ?_⟩
  refine List.forall_mem_cons.mpr ⟨(s_aload (by decide +kernel : decode cX10_saying 103 = .ok (.aload 4, 2))).to, ?_⟩
  refine List.forall_mem_cons.mpr ⟨(s_get (ci := 6) (k := 8) (by decide +kernel : decode cX10_saying 105 = .ok (.getfield 196, 3)) rfl (by decide) wd265 inX6 rfl).to, ?_⟩
  refine List.forall_mem_cons.mpr ⟨(s_iloadn (by decide +kernel : decode cX10_saying 108 = .ok (.iload_n 2, 1)) rfl).to, ?_⟩
  refine List.forall_mem_cons.mpr ⟨(s_zald (by decide +kernel : decode cX10_saying 109 = .ok (.baload, 1))).to, ?_⟩
  refine List.forall_mem_cons.mpr ⟨z_cv (by decide +kernel : decode cX10_saying 110 = .ok (.invokevirtual 200, 3)) mt75 wd1019 (ci := 8) rfl (by decide), ?_⟩
  refine List.forall_mem_cons.mpr ⟨z_cs (by decide +kernel : decode cX10_saying 113 = .ok (.invokestatic 178, 3)) mt148 wd1004, ?_⟩
  refine List.forall_mem_cons.mpr ⟨s_iret (by decide +kernel : decode cX10_saying 116 = .ok (.ireturn, 1)) rfl, ?_⟩
  refine List.forall_mem_cons.mpr ⟨(s_aloadn (by decide +kernel : decode cX10_saying 117 = .ok (.aload_n 0, 1)) rfl).to, ?_⟩
  refine List.forall_mem_cons.mpr ⟨(s_iloadn (by decide +kernel : decode cX10_saying 118 = .ok (.iload_n 1, 1)) rfl).to, ?_⟩
  refine List.forall_mem_cons.mpr ⟨z_cv (by decide +kernel : decode cX10_saying 119 = .ok (.invokevirtual 165, 3)) mt154 wd929 (ci := 10) rfl (by decide), ?_⟩
  refine List.forall_mem_cons.mpr ⟨(s_get (ci := 8) (k := 10) (by decide +kernel : decode cX10_saying 122 = .ok (.getfield 204, 3)) rfl (by decide) wd533 inX8 rfl).to, ?_⟩
  refine List.forall_mem_cons.mpr ⟨(s_iloadn (by decide +kernel : decode cX10_saying 125 = .ok (.iload_n 2, 1)) rfl).to, ?_⟩
  refine List.forall_mem_cons.mpr ⟨(s_zald (by decide +kernel : decode cX10_saying 126 = .ok (.baload, 1))).to, ?_⟩
  refine List.forall_mem_cons.mpr ⟨z_cs (by decide +kernel : decode cX10_saying 127 = .ok (.invokestatic 178, 3)) mt148 wd1004, ?_⟩
  refine List.forall_mem_cons.mpr ⟨s_iret (by decide +kernel : decode cX10_saying 130 = .ok (.ireturn, 1)) rfl, ?_⟩
  refine List.forall_mem_cons.mpr ⟨(s_iconst (by decide +kernel : decode cX10_saying 131 = .ok (.iconst (-1), 1)) (by decide)).to, ?_⟩
  refine List.forall_mem_cons.mpr ⟨s_iret (by decide +kernel : decode cX10_saying 132 = .ok (.ireturn, 1)) rfl, ?_⟩
  exact fun _ h => absurd h List.not_mem_nil
theorem sn_tX10_cell : ∀ q ∈ tX10_cell, am_Snd am_P0 RX10 cX10_cell 6 (Option.some FieldType.int) "cell" q.1 q.2 := by
  unfold tX10_cell
  refine List.forall_mem_cons.mpr ⟨(s_aloadn (by decide +kernel : decode cX10_cell 0 = .ok (.aload_n 0, 1)) rfl).to, ?_⟩
  refine List.forall_mem_cons.mpr ⟨(s_get (ci := 10) (k := 2) (by decide +kernel : decode cX10_cell 1 = .ok (.getfield 16, 3)) rfl (by decide) wd581 inX10 rfl).to, ?_⟩
  refine List.forall_mem_cons.mpr ⟨(s_iloadn (by decide +kernel : decode cX10_cell 4 = .ok (.iload_n 1, 1)) rfl).to, ?_⟩
  refine List.forall_mem_cons.mpr ⟨(s_iloadn (by decide +kernel : decode cX10_cell 5 = .ok (.iload_n 2, 1)) rfl).to, ?_⟩
  refine List.forall_mem_cons.mpr ⟨z_cv (by decide +kernel : decode cX10_cell 6 = .ok (.invokevirtual 207, 3)) mt56 wd1024 (ci := 5) rfl (by decide), ?_⟩
  refine List.forall_mem_cons.mpr ⟨(s_istore (by decide +kernel : decode cX10_cell 9 = .ok (.istore 5, 2)) (by decide)).to, ?_⟩
  refine List.forall_mem_cons.mpr ⟨(s_iload (by decide +kernel : decode cX10_cell 11 = .ok (.iload 5, 2))).to, ?_⟩
  refine List.forall_mem_cons.mpr ⟨(s_iconst (by decide +kernel : decode cX10_cell 13 = .ok (.iconst (-1), 1)) (by decide)).to, ?_⟩
  refine List.forall_mem_cons.mpr ⟨(s_icmp_eq (by decide +kernel : decode cX10_cell 14 = .ok (.if_icmp .eq 10, 3)) (by decide)).to, ?_⟩
  refine List.forall_mem_cons.mpr ⟨(s_iloadn (by decide +kernel : decode cX10_cell 17 = .ok (.iload_n 3, 1)) rfl).to, ?_⟩
  refine List.forall_mem_cons.mpr ⟨z_cs (by decide +kernel : decode cX10_cell 18 = .ok (.invokestatic 211, 3)) mt149 wd1028, ?_⟩
  refine List.forall_mem_cons.mpr ⟨(s_if_ne (by decide +kernel : decode cX10_cell 21 = .ok (.ifCond .ne 5, 3)) (by decide)).to, ?_⟩
  refine List.forall_mem_cons.mpr ⟨(s_iconst (by decide +kernel : decode cX10_cell 24 = .ok (.iconst (-1), 1)) (by decide)).to, ?_⟩
  refine List.forall_mem_cons.mpr ⟨s_iret (by decide +kernel : decode cX10_cell 25 = .ok (.ireturn, 1)) rfl, ?_⟩
  refine List.forall_mem_cons.mpr ⟨(s_iload (by decide +kernel : decode cX10_cell 26 = .ok (.iload 4, 2))).to, ?_⟩
  refine List.forall_mem_cons.mpr ⟨(s_table (by decide +kernel : decode cX10_cell 28 = .ok (.tableswitch 63 0 2 #[28, 39, 49], 28)) (by decide) (by decide) (by decide) (by decide)).to, ?_⟩
  refine List.forall_mem_cons.mpr ⟨(s_aloadn (by decide +kernel : decode cX10_cell 56 = .ok (.aload_n 0, 1)) rfl).to, ?_⟩
  refine List.forall_mem_cons.mpr ⟨(s_get (ci := 10) (k := 2) (by decide +kernel : decode cX10_cell 57 = .ok (.getfield 16, 3)) rfl (by decide) wd581 inX10 rfl).to, ?_⟩
  refine List.forall_mem_cons.mpr ⟨(s_get (ci := 5) (k := 10) (by decide +kernel : decode cX10_cell 60 = .ok (.getfield 214, 3)) rfl (by decide) wd334 inX5 rfl).to, ?_⟩
  refine List.forall_mem_cons.mpr ⟨(s_iload (by decide +kernel : decode cX10_cell 63 = .ok (.iload 5, 2))).to, ?_⟩
  refine List.forall_mem_cons.mpr ⟨(s_iald (by decide +kernel : decode cX10_cell 65 = .ok (.iaload, 1))).to, ?_⟩
  refine List.forall_mem_cons.mpr ⟨s_iret (by decide +kernel : decode cX10_cell 66 = .ok (.ireturn, 1)) rfl, ?_⟩
  refine List.forall_mem_cons.mpr ⟨(s_aloadn (by decide +kernel : decode cX10_cell 67 = .ok (.aload_n 0, 1)) rfl).to, ?_⟩
  refine List.forall_mem_cons.mpr ⟨(s_get (ci := 10) (k := 2) (by decide +kernel : decode cX10_cell 68 = .ok (.getfield 16, 3)) rfl (by decide) wd581 inX10 rfl).to, ?_⟩
  refine List.forall_mem_cons.mpr ⟨(s_iload (by decide +kernel : decode cX10_cell 71 = .ok (.iload 5, 2))).to, ?_⟩
  refine List.forall_mem_cons.mpr ⟨z_cv (by decide +kernel : decode cX10_cell 73 = .ok (.invokevirtual 217, 3)) mt54 wd1031 (ci := 5) rfl (by decide), ?_⟩
  refine List.forall_mem_cons.mpr ⟨s_iret (by decide +kernel : decode cX10_cell 76 = .ok (.ireturn, 1)) rfl, ?_⟩
  refine List.forall_mem_cons.mpr ⟨(s_aloadn (by decide +kernel : decode cX10_cell 77 = .ok (.aload_n 0, 1)) rfl).to, ?_⟩
  refine List.forall_mem_cons.mpr ⟨(s_get (ci := 10) (k := 2) (by decide +kernel : decode cX10_cell 78 = .ok (.getfield 16, 3)) rfl (by decide) wd581 inX10 rfl).to, ?_⟩
  refine List.forall_mem_cons.mpr ⟨(s_iload (by decide +kernel : decode cX10_cell 81 = .ok (.iload 5, 2))).to, ?_⟩
  refine List.forall_mem_cons.mpr ⟨(s_iloadn (by decide +kernel : decode cX10_cell 83 = .ok (.iload_n 3, 1)) rfl).to, ?_⟩
  refine List.forall_mem_cons.mpr ⟨z_cv (by decide +kernel : decode cX10_cell 84 = .ok (.invokevirtual 220, 3)) mt55 wd1035 (ci := 5) rfl (by decide), ?_⟩
  refine List.forall_mem_cons.mpr ⟨z_cs (by decide +kernel : decode cX10_cell 87 = .ok (.invokestatic 178, 3)) mt148 wd1004, ?_⟩
  refine List.forall_mem_cons.mpr ⟨s_iret (by decide +kernel : decode cX10_cell 90 = .ok (.ireturn, 1)) rfl, ?_⟩
  refine List.forall_mem_cons.mpr ⟨(s_iconst (by decide +kernel : decode cX10_cell 91 = .ok (.iconst (-1), 1)) (by decide)).to, ?_⟩
  refine List.forall_mem_cons.mpr ⟨s_iret (by decide +kernel : decode cX10_cell 92 = .ok (.ireturn, 1)) rfl, ?_⟩
  exact fun _ h => absurd h List.not_mem_nil
theorem sn_tX10_far : ∀ q ∈ tX10_far, am_Snd am_P0 RX10 cX10_far 8 (Option.some FieldType.int) "far" q.1 q.2 := by
  unfold tX10_far
  refine List.forall_mem_cons.mpr ⟨(s_aloadn (by decide +kernel : decode cX10_far 0 = .ok (.aload_n 0, 1)) rfl).to, ?_⟩
  refine List.forall_mem_cons.mpr ⟨(s_get (ci := 10) (k := 2) (by decide +kernel : decode cX10_far 1 = .ok (.getfield 16, 3)) rfl (by decide) wd581 inX10 rfl).to, ?_⟩
  refine List.forall_mem_cons.mpr ⟨(s_iloadn (by decide +kernel : decode cX10_far 4 = .ok (.iload_n 2, 1)) rfl).to, ?_⟩
  refine List.forall_mem_cons.mpr ⟨(s_iloadn (by decide +kernel : decode cX10_far 5 = .ok (.iload_n 3, 1)) rfl).to, ?_⟩
  refine List.forall_mem_cons.mpr ⟨z_cv (by decide +kernel : decode cX10_far 6 = .ok (.invokevirtual 207, 3)) mt56 wd1024 (ci := 5) rfl (by decide), ?_⟩
  refine List.forall_mem_cons.mpr ⟨(s_istore (by decide +kernel : decode cX10_far 9 = .ok (.istore 6, 2)) (by decide)).to, ?_⟩
  refine List.forall_mem_cons.mpr ⟨(s_aloadn (by decide +kernel : decode cX10_far 11 = .ok (.aload_n 0, 1)) rfl).to, ?_⟩
  refine List.forall_mem_cons.mpr ⟨(s_get (ci := 10) (k := 2) (by decide +kernel : decode cX10_far 12 = .ok (.getfield 16, 3)) rfl (by decide) wd581 inX10 rfl).to, ?_⟩
  refine List.forall_mem_cons.mpr ⟨(s_iload (by decide +kernel : decode cX10_far 15 = .ok (.iload 4, 2))).to, ?_⟩
  refine List.forall_mem_cons.mpr ⟨(s_iload (by decide +kernel : decode cX10_far 17 = .ok (.iload 5, 2))).to, ?_⟩
  refine List.forall_mem_cons.mpr ⟨z_cv (by decide +kernel : decode cX10_far 19 = .ok (.invokevirtual 207, 3)) mt56 wd1024 (ci := 5) rfl (by decide), ?_⟩
  refine List.forall_mem_cons.mpr ⟨(s_istore (by decide +kernel : decode cX10_far 22 = .ok (.istore 7, 2)) (by decide)).to, ?_⟩
  refine List.forall_mem_cons.mpr ⟨(s_aloadn (by decide +kernel : decode cX10_far 24 = .ok (.aload_n 0, 1)) rfl).to, ?_⟩
  refine List.forall_mem_cons.mpr ⟨(s_iloadn (by decide +kernel : decode cX10_far 25 = .ok (.iload_n 1, 1)) rfl).to, ?_⟩
  refine List.forall_mem_cons.mpr ⟨z_cv (by decide +kernel : decode cX10_far 26 = .ok (.invokevirtual 143, 3)) mt150 wd921 (ci := 10) rfl (by decide), ?_⟩
  refine List.forall_mem_cons.mpr ⟨(s_if_eq (by decide +kernel : decode cX10_far 29 = .ok (.ifCond .eq 15, 3)) (by decide)).to, ?_⟩
  refine List.forall_mem_cons.mpr ⟨(s_iload (by decide +kernel : decode cX10_far 32 = .ok (.iload 6, 2))).to, ?_⟩
  refine List.forall_mem_cons.mpr ⟨(s_iconst (by decide +kernel : decode cX10_far 34 = .ok (.iconst (-1), 1)) (by decide)).to, ?_⟩
  refine List.forall_mem_cons.mpr ⟨(s_icmp_eq (by decide +kernel : decode cX10_far 35 = .ok (.if_icmp .eq 9, 3)) (by decide)).to, ?_⟩
  refine List.forall_mem_cons.mpr ⟨(s_iload (by decide +kernel : decode cX10_far 38 = .ok (.iload 7, 2))).to, ?_⟩
  refine List.forall_mem_cons.mpr ⟨(s_iconst (by decide +kernel : decode cX10_far 40 = .ok (.iconst (-1), 1)) (by decide)).to, ?_⟩
  refine List.forall_mem_cons.mpr ⟨(s_icmp_ne (by decide +kernel : decode cX10_far 41 = .ok (.if_icmp .ne 5, 3)) (by decide)).to, ?_⟩
  refine List.forall_mem_cons.mpr ⟨(s_iconst (by decide +kernel : decode cX10_far 44 = .ok (.iconst (-1), 1)) (by decide)).to, ?_⟩
  refine List.forall_mem_cons.mpr ⟨s_iret (by decide +kernel : decode cX10_far 45 = .ok (.ireturn, 1)) rfl, ?_⟩
  refine List.forall_mem_cons.mpr ⟨(s_aloadn (by decide +kernel : decode cX10_far 46 = .ok (.aload_n 0, 1)) rfl).to, ?_⟩
  refine List.forall_mem_cons.mpr ⟨(s_get (ci := 10) (k := 7) (by decide +kernel : decode cX10_far 47 = .ok (.getfield 38, 3)) rfl (by decide) wd586 inX10 rfl).to, ?_⟩
  refine List.forall_mem_cons.mpr ⟨(s_iloadn (by decide +kernel : decode cX10_far 50 = .ok (.iload_n 1, 1)) rfl).to, ?_⟩
  refine List.forall_mem_cons.mpr ⟨(s_aald (by decide +kernel : decode cX10_far 51 = .ok (.aaload, 1))).to, ?_⟩
  refine List.forall_mem_cons.mpr ⟨(s_get (ci := 8) (k := 2) (by decide +kernel : decode cX10_far 52 = .ok (.getfield 223, 3)) rfl (by decide) wd522 inX8 rfl).to, ?_⟩
  refine List.forall_mem_cons.mpr ⟨(s_iload (by decide +kernel : decode cX10_far 55 = .ok (.iload 6, 2))).to, ?_⟩
  refine List.forall_mem_cons.mpr ⟨(s_iload (by decide +kernel : decode cX10_far 57 = .ok (.iload 7, 2))).to, ?_⟩
  refine List.forall_mem_cons.mpr ⟨z_cv (by decide +kernel : decode cX10_far 59 = .ok (.invokevirtual 227, 3)) mt107 wd1044 (ci := 9) rfl (by decide), ?_⟩
  refine List.forall_mem_cons.mpr ⟨s_iret (by decide +kernel : decode cX10_far 62 = .ok (.ireturn, 1)) rfl, ?_⟩
  exact fun _ h => absurd h List.not_mem_nil
theorem sn_tX10_can : ∀ q ∈ tX10_can, am_Snd am_P0 RX10 cX10_can 4 (Option.some FieldType.int) "can" q.1 q.2 := by
  unfold tX10_can
  refine List.forall_mem_cons.mpr ⟨(s_iloadn (by decide +kernel : decode cX10_can 0 = .ok (.iload_n 2, 1)) rfl).to, ?_⟩
  refine List.forall_mem_cons.mpr ⟨(s_iloadn (by decide +kernel : decode cX10_can 1 = .ok (.iload_n 3, 1)) rfl).to, ?_⟩
  refine List.forall_mem_cons.mpr ⟨(s_icmp_eq (by decide +kernel : decode cX10_can 2 = .ok (.if_icmp .eq 21, 3)) (by decide)).to, ?_⟩
  refine List.forall_mem_cons.mpr ⟨(s_aloadn (by decide +kernel : decode cX10_can 5 = .ok (.aload_n 0, 1)) rfl).to, ?_⟩
  refine List.forall_mem_cons.mpr ⟨(s_iloadn (by decide +kernel : decode cX10_can 6 = .ok (.iload_n 1, 1)) rfl).to, ?_⟩
  refine List.forall_mem_cons.mpr ⟨(s_iloadn (by decide +kernel : decode cX10_can 7 = .ok (.iload_n 2, 1)) rfl).to, ?_⟩
  refine List.forall_mem_cons.mpr ⟨z_cv (by decide +kernel : decode cX10_can 8 = .ok (.invokevirtual 182, 3)) mt151 wd1011 (ci := 10) rfl (by decide), ?_⟩
  refine List.forall_mem_cons.mpr ⟨(s_if_eq (by decide +kernel : decode cX10_can 11 = .ok (.ifCond .eq 12, 3)) (by decide)).to, ?_⟩
  refine List.forall_mem_cons.mpr ⟨(s_aloadn (by decide +kernel : decode cX10_can 14 = .ok (.aload_n 0, 1)) rfl).to, ?_⟩
  refine List.forall_mem_cons.mpr ⟨(s_iloadn (by decide +kernel : decode cX10_can 15 = .ok (.iload_n 1, 1)) rfl).to, ?_⟩
  refine List.forall_mem_cons.mpr ⟨(s_iloadn (by decide +kernel : decode cX10_can 16 = .ok (.iload_n 3, 1)) rfl).to, ?_⟩
  refine List.forall_mem_cons.mpr ⟨z_cv (by decide +kernel : decode cX10_can 17 = .ok (.invokevirtual 182, 3)) mt151 wd1011 (ci := 10) rfl (by decide), ?_⟩
  refine List.forall_mem_cons.mpr ⟨(s_if_ne (by decide +kernel : decode cX10_can 20 = .ok (.ifCond .ne 5, 3)) (by decide)).to, ?_⟩
  refine List.forall_mem_cons.mpr ⟨(s_iconst (by decide +kernel : decode cX10_can 23 = .ok (.iconst (-1), 1)) (by decide)).to, ?_⟩
  refine List.forall_mem_cons.mpr ⟨s_iret (by decide +kernel : decode cX10_can 24 = .ok (.ireturn, 1)) rfl, ?_⟩
  refine List.forall_mem_cons.mpr ⟨(s_aloadn (by decide +kernel : decode cX10_can 25 = .ok (.aload_n 0, 1)) rfl).to, ?_⟩
  refine List.forall_mem_cons.mpr ⟨(s_get (ci := 10) (k := 7) (by decide +kernel : decode cX10_can 26 = .ok (.getfield 38, 3)) rfl (by decide) wd586 inX10 rfl).to, ?_⟩
  refine List.forall_mem_cons.mpr ⟨(s_iloadn (by decide +kernel : decode cX10_can 29 = .ok (.iload_n 1, 1)) rfl).to, ?_⟩
  refine List.forall_mem_cons.mpr ⟨(s_aald (by decide +kernel : decode cX10_can 30 = .ok (.aaload, 1))).to, ?_⟩
  refine List.forall_mem_cons.mpr ⟨(s_iloadn (by decide +kernel : decode cX10_can 31 = .ok (.iload_n 2, 1)) rfl).to, ?_⟩
  refine List.forall_mem_cons.mpr ⟨(s_iloadn (by decide +kernel : decode cX10_can 32 = .ok (.iload_n 3, 1)) rfl).to, ?_⟩
  refine List.forall_mem_cons.mpr ⟨z_cv (by decide +kernel : decode cX10_can 33 = .ok (.invokevirtual 232, 3)) mt76 wd1053 (ci := 8) rfl (by decide), ?_⟩
  refine List.forall_mem_cons.mpr ⟨z_cs (by decide +kernel : decode cX10_can 36 = .ok (.invokestatic 178, 3)) mt148 wd1004, ?_⟩
  refine List.forall_mem_cons.mpr ⟨s_iret (by decide +kernel : decode cX10_can 39 = .ok (.ireturn, 1)) rfl, ?_⟩
  exact fun _ h => absurd h List.not_mem_nil
theorem sn_tX10_reach : ∀ q ∈ tX10_reach, am_Snd am_P0 RX10 cX10_reach 7 (Option.some FieldType.int) "reach" q.1 q.2 := by
  unfold tX10_reach
  refine List.forall_mem_cons.mpr ⟨(s_aloadn (by decide +kernel : decode cX10_reach 0 = .ok (.aload_n 0, 1)) rfl).to, ?_⟩
  refine List.forall_mem_cons.mpr ⟨(s_iloadn (by decide +kernel : decode cX10_reach 1 = .ok (.iload_n 1, 1)) rfl).to, ?_⟩
  refine List.forall_mem_cons.mpr ⟨z_cv (by decide +kernel : decode cX10_reach 2 = .ok (.invokevirtual 143, 3)) mt150 wd921 (ci := 10) rfl (by decide), ?_⟩
  refine List.forall_mem_cons.mpr ⟨(s_if_eq (by decide +kernel : decode cX10_reach 5 = .ok (.ifCond .eq 15, 3)) (by decide)).to, ?_⟩
  refine List.forall_mem_cons.mpr ⟨(s_iloadn (by decide +kernel : decode cX10_reach 8 = .ok (.iload_n 2, 1)) rfl).to, ?_⟩
  refine List.forall_mem_cons.mpr ⟨z_cs (by decide +kernel : decode cX10_reach 9 = .ok (.invokestatic 211, 3)) mt149 wd1028, ?_⟩
  refine List.forall_mem_cons.mpr ⟨(s_if_eq (by decide +kernel : decode cX10_reach 12 = .ok (.ifCond .eq 8, 3)) (by decide)).to, ?_⟩
  refine List.forall_mem_cons.mpr ⟨(s_iloadn (by decide +kernel : decode cX10_reach 15 = .ok (.iload_n 3, 1)) rfl).to, ?_⟩
  refine List.forall_mem_cons.mpr ⟨(s_iconst (by decide +kernel : decode cX10_reach 16 = .ok (.iconst (-1), 1)) (by decide)).to, ?_⟩
  refine List.forall_mem_cons.mpr ⟨(s_icmp_ge (by decide +kernel : decode cX10_reach 17 = .ok (.if_icmp .ge 5, 3)) (by decide)).to, ?_⟩
  refine List.forall_mem_cons.mpr ⟨(s_iconst (by decide +kernel : decode cX10_reach 20 = .ok (.iconst (-1), 1)) (by decide)).to, ?_⟩
  refine List.forall_mem_cons.mpr ⟨s_iret (by decide +kernel : decode cX10_reach 21 = .ok (.ireturn, 1)) rfl, ?_⟩
  refine List.forall_mem_cons.mpr ⟨(s_aloadn (by decide +kernel : decode cX10_reach 22 = .ok (.aload_n 0, 1)) rfl).to, ?_⟩
  refine List.forall_mem_cons.mpr ⟨(s_iloadn (by decide +kernel : decode cX10_reach 23 = .ok (.iload_n 1, 1)) rfl).to, ?_⟩
  refine List.forall_mem_cons.mpr ⟨z_cv (by decide +kernel : decode cX10_reach 24 = .ok (.invokevirtual 165, 3)) mt154 wd929 (ci := 10) rfl (by decide), ?_⟩
  refine List.forall_mem_cons.mpr ⟨(s_astore (by decide +kernel : decode cX10_reach 27 = .ok (.astore 4, 2)) (by decide)).to, ?_⟩
  refine List.forall_mem_cons.mpr ⟨(s_iloadn (by decide +kernel : decode cX10_reach 29 = .ok (.iload_n 3, 1)) rfl).to, ?_⟩
  refine List.forall_mem_cons.mpr ⟨(s_iconst (by decide +kernel : decode cX10_reach 30 = .ok (.iconst (-1), 1)) (by decide)).to, ?_⟩
  refine List.forall_mem_cons.mpr ⟨(s_icmp_ne (by decide +kernel : decode cX10_reach 31 = .ok (.if_icmp .ne 10, 3)) (by decide)).to, ?_⟩
  refine List.forall_mem_cons.mpr ⟨(s_aload (by decide +kernel : decode cX10_reach 34 = .ok (.aload 4, 2))).to, ?_⟩
  refine List.forall_mem_cons.mpr ⟨(s_iloadn (by decide +kernel : decode cX10_reach 36 = .ok (.iload_n 2, 1)) rfl).to, ?_⟩
  refine List.forall_mem_cons.mpr ⟨z_cv (by decide +kernel : decode cX10_reach 37 = .ok (.invokevirtual 235, 3)) mt89 wd1064 (ci := 8) rfl (by decide), ?_⟩
  refine List.forall_mem_cons.mpr ⟨s_iret (by decide +kernel : decode cX10_reach 40 = .ok (.ireturn, 1)) rfl, ?_⟩
  refine List.forall_mem_cons.mpr ⟨(s_iloadn (by decide +kernel : decode cX10_reach 41 = .ok (.iload_n 3, 1)) rfl).to, ?_⟩
  refine List.forall_mem_cons.mpr ⟨(s_istore (by decide +kernel : decode cX10_reach 42 = .ok (.istore 5, 2)) (by decide)).to, ?_⟩
  refine List.forall_mem_cons.mpr ⟨(s_iconst (by decide +kernel : decode cX10_reach 44 = .ok (.iconst 0, 1)) (by decide)).to, ?_⟩
  refine List.forall_mem_cons.mpr ⟨(s_istore (by decide +kernel : decode cX10_reach 45 = .ok (.istore 6, 2)) (by decide)).to, ?_⟩
  refine List.forall_mem_cons.mpr ⟨(s_iload (by decide +kernel : decode cX10_reach 47 = .ok (.iload 6, 2))).to, ?_⟩
  refine List.forall_mem_cons.mpr ⟨(s_sipush (by decide +kernel : decode cX10_reach 49 = .ok (.sipush 256, 3)) (by decide)).to, ?_⟩
  refine List.forall_mem_cons.mpr ⟨(s_icmp_ge (by decide +kernel : decode cX10_reach 52 = .ok (.if_icmp .ge 38, 3)) (by decide)).to, ?_⟩
  refine List.forall_mem_cons.mpr ⟨(s_aload (by decide +kernel : decode cX10_reach 55 = .ok (.aload 4, 2))).to, ?_⟩
  refine List.forall_mem_cons.mpr ⟨(s_iloadn (by decide +kernel : decode cX10_reach 57 = .ok (.iload_n 2, 1)) rfl).to, ?_⟩
  refine List.forall_mem_cons.mpr ⟨(s_iload (by decide +kernel : decode cX10_reach 58 = .ok (.iload 6, 2))).to, ?_⟩
  refine List.forall_mem_cons.mpr ⟨z_cv (by decide +kernel : decode cX10_reach 60 = .ok (.invokevirtual 238, 3)) mt88 wd1078 (ci := 8) rfl (by decide), ?_⟩
  refine List.forall_mem_cons.mpr ⟨(s_if_eq (by decide +kernel : decode cX10_reach 63 = .ok (.ifCond .eq 21, 3)) (by decide)).to, ?_⟩
  refine List.forall_mem_cons.mpr ⟨(s_iload (by decide +kernel : decode cX10_reach 66 = .ok (.iload 5, 2))).to, ?_⟩
  refine List.forall_mem_cons.mpr ⟨(s_if_ne (by decide +kernel : decode cX10_reach 68 = .ok (.ifCond .ne 13, 3)) (by decide)).to, ?_⟩
  refine List.forall_mem_cons.mpr ⟨(s_aloadn (by decide +kernel : decode cX10_reach 71 = .ok (.aload_n 0, 1)) rfl).to, ?_⟩
  refine List.forall_mem_cons.mpr ⟨(s_get (ci := 10) (k := 2) (by decide +kernel : decode cX10_reach 72 = .ok (.getfield 16, 3)) rfl (by decide) wd581 inX10 rfl).to, ?_⟩
  refine List.forall_mem_cons.mpr ⟨(s_iload (by decide +kernel : decode cX10_reach 75 = .ok (.iload 6, 2))).to, ?_⟩
  refine List.forall_mem_cons.mpr ⟨z_cv (by decide +kernel : decode cX10_reach 77 = .ok (.invokevirtual 192, 3)) mt58 wd1015 (ci := 5) rfl (by decide), ?_⟩
  refine List.forall_mem_cons.mpr ⟨s_iret (by decide +kernel : decode cX10_reach 80 = .ok (.ireturn, 1)) rfl, ?_⟩
  refine List.forall_mem_cons.mpr ⟨(s_iinc (by decide +kernel : decode cX10_reach 81 = .ok (.iinc 5 (-1), 3)) (by decide) (by decide)).to, ?_⟩
  refine List.forall_mem_cons.mpr ⟨(s_iinc (by decide +kernel : decode cX10_reach 84 = .ok (.iinc 6 1, 3)) (by decide) (by decide)).to, ?_⟩
  refine List.forall_mem_cons.mpr ⟨(s_goto (by decide +kernel : decode cX10_reach 87 = .ok (.goto (-40), 3)) (by decide)).to, ?_⟩
  refine List.forall_mem_cons.mpr ⟨(s_iconst (by decide +kernel : decode cX10_reach 90 = .ok (.iconst (-1), 1)) (by decide)).to, ?_⟩
  refine List.forall_mem_cons.mpr ⟨s_iret (by decide +kernel : decode cX10_reach 91 = .ok (.ireturn, 1)) rfl, ?_⟩
  exact fun _ h => absurd h List.not_mem_nil
