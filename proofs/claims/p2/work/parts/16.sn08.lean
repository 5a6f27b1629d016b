/-! the machine follows each instruction (by program: gen_prog.py) -/
theorem sn_tX11_booksOf : ∀ q ∈ tX11_booksOf, am_Snd am_P0 RX11 cX11_booksOf 4 (Option.some FieldType.int) "booksOf" q.1 q.2 := by
  unfold tX11_booksOf
  refine List.forall_mem_cons.mpr ⟨(s_iconst (am_dp pw_X11_booksOf_0 dd_X11_booksOf_0a.1) (by decide)).to, ?_⟩
  refine List.forall_mem_cons.mpr ⟨(s_istoren (am_dp pw_X11_booksOf_0 dd_X11_booksOf_0a.2.1) rfl (by decide)).to, ?_⟩
  refine List.forall_mem_cons.mpr ⟨(s_iconst (am_dp pw_X11_booksOf_0 dd_X11_booksOf_0a.2.2.1) (by decide)).to, ?_⟩
  refine List.forall_mem_cons.mpr ⟨(s_istoren (am_dp pw_X11_booksOf_0 dd_X11_booksOf_0a.2.2.2.1) rfl (by decide)).to, ?_⟩
  refine List.forall_mem_cons.mpr ⟨(s_iloadn (am_dp pw_X11_booksOf_0 dd_X11_booksOf_0a.2.2.2.2.1) rfl).to, ?_⟩
  refine List.forall_mem_cons.mpr ⟨(s_aloadn (am_dp pw_X11_booksOf_0 dd_X11_booksOf_0a.2.2.2.2.2.1) rfl).to, ?_⟩
  refine List.forall_mem_cons.mpr ⟨(s_get (ci := 11) (k := 28) (am_dp pw_X11_booksOf_0 dd_X11_booksOf_0a.2.2.2.2.2.2.1) rfl (by decide) wd1361 inX11 rfl).to, ?_⟩
  refine List.forall_mem_cons.mpr ⟨(s_aloadn (am_dp pw_X11_booksOf_0 dd_X11_booksOf_0a.2.2.2.2.2.2.2) rfl).to, ?_⟩
  refine List.forall_mem_cons.mpr ⟨(s_get (ci := 11) (k := 12) (am_dp pw_X11_booksOf_0 dd_X11_booksOf_0b.1) rfl (by decide) wd1345 inX11 rfl).to, ?_⟩
  refine List.forall_mem_cons.mpr ⟨(s_iald (am_dp pw_X11_booksOf_0 dd_X11_booksOf_0b.2.1)).to, ?_⟩
  refine List.forall_mem_cons.mpr ⟨(s_icmp_ge (am_dp pw_X11_booksOf_0 dd_X11_booksOf_0b.2.2.1) (by decide)).to, ?_⟩
  refine List.forall_mem_cons.mpr ⟨(s_iloadn (am_dp pw_X11_booksOf_0 dd_X11_booksOf_0b.2.2.2.1) rfl).to, ?_⟩
  refine List.forall_mem_cons.mpr ⟨(s_aloadn (am_dp pw_X11_booksOf_0 dd_X11_booksOf_0b.2.2.2.2.1) rfl).to, ?_⟩
  refine List.forall_mem_cons.mpr ⟨(s_get (ci := 11) (k := 29) (am_dp pw_X11_booksOf_0 dd_X11_booksOf_0b.2.2.2.2.2.1) rfl (by decide) wd1362 inX11 rfl).to, ?_⟩
  refine List.forall_mem_cons.mpr ⟨(s_bipush (am_dp pw_X11_booksOf_0 dd_X11_booksOf_0b.2.2.2.2.2.2.1) (by decide)).to, ?_⟩
  refine List.forall_mem_cons.mpr ⟨(s_aloadn (am_dp pw_X11_booksOf_0 dd_X11_booksOf_0b.2.2.2.2.2.2.2) rfl).to, ?_⟩
  refine List.forall_mem_cons.mpr ⟨(s_get (ci := 11) (k := 12) (am_dp pw_X11_booksOf_0 dd_X11_booksOf_0c.1) rfl (by decide) wd1345 inX11 rfl).to, ?_⟩
  refine List.forall_mem_cons.mpr ⟨(s_imul (am_dp pw_X11_booksOf_0 dd_X11_booksOf_0c.2.1)).to, ?_⟩
  refine List.forall_mem_cons.mpr ⟨(s_iloadn (am_dp pw_X11_booksOf_0 dd_X11_booksOf_0c.2.2.1) rfl).to, ?_⟩
  refine List.forall_mem_cons.mpr ⟨(s_iadd (am_dp pw_X11_booksOf_0 dd_X11_booksOf_0c.2.2.2.1)).to, ?_⟩
  refine List.forall_mem_cons.mpr ⟨(s_iald (am_dp pw_X11_booksOf_0 dd_X11_booksOf_0c.2.2.2.2)).to, ?_⟩
  refine List.forall_mem_cons.mpr ⟨(s_iloadn (am_dp pw_X11_booksOf_32 dd_X11_booksOf_32a.1) rfl).to, ?_⟩
  refine List.forall_mem_cons.mpr ⟨(s_icmp_ne (am_dp pw_X11_booksOf_32 dd_X11_booksOf_32a.2.1) (by decide)).to, ?_⟩
  refine List.forall_mem_cons.mpr ⟨(s_iconst (am_dp pw_X11_booksOf_32 dd_X11_booksOf_32a.2.2.1) (by decide)).to, ?_⟩
  refine List.forall_mem_cons.mpr ⟨(s_goto (am_dp pw_X11_booksOf_32 dd_X11_booksOf_32a.2.2.2.1) (by decide)).to, ?_⟩
  refine List.forall_mem_cons.mpr ⟨(s_iconst (am_dp pw_X11_booksOf_32 dd_X11_booksOf_32a.2.2.2.2.1) (by decide)).to, ?_⟩
  refine List.forall_mem_cons.mpr ⟨(s_iadd (am_dp pw_X11_booksOf_32 dd_X11_booksOf_32a.2.2.2.2.2.1)).to, ?_⟩
  refine List.forall_mem_cons.mpr ⟨(s_istoren (am_dp pw_X11_booksOf_32 dd_X11_booksOf_32a.2.2.2.2.2.2.1) rfl (by decide)).to, ?_⟩
  refine List.forall_mem_cons.mpr ⟨(s_iinc (am_dp pw_X11_booksOf_32 dd_X11_booksOf_32a.2.2.2.2.2.2.2) (by decide) (by decide)).to, ?_⟩
  refine List.forall_mem_cons.mpr ⟨(s_goto (am_dp pw_X11_booksOf_32 dd_X11_booksOf_32b.1) (by decide)).to, ?_⟩
  refine List.forall_mem_cons.mpr ⟨(s_iloadn (am_dp pw_X11_booksOf_32 dd_X11_booksOf_32b.2.1) rfl).to, ?_⟩
  refine List.forall_mem_cons.mpr ⟨s_iret (am_dp pw_X11_booksOf_32 dd_X11_booksOf_32b.2.2) rfl, ?_⟩
  exact fun _ h => absurd h List.not_mem_nil
theorem sn_tX11_has_0 : ∀ q ∈ tX11_has_0, am_Snd am_P0 RX11 cX11_has 4 (Option.some FieldType.int) "has" q.1 q.2 := by
  unfold tX11_has_0
  refine List.forall_mem_cons.mpr ⟨(s_iconst (am_dp pw_X11_has_0 dd_X11_has_0a.1) (by decide)).to, ?_⟩
  refine List.forall_mem_cons.mpr ⟨(s_istoren (am_dp pw_X11_has_0 dd_X11_has_0a.2.1) rfl (by decide)).to, ?_⟩
  refine List.forall_mem_cons.mpr ⟨(s_iloadn (am_dp pw_X11_has_0 dd_X11_has_0a.2.2) rfl).to, ?_⟩
  refine List.forall_mem_cons.mpr ⟨(s_table (by decide +kernel : decode cX11_has 3 = .ok (.tableswitch 154 0 7 #[45, 55, 65, 75, 85, 95, 105, 115], 45)) (by decide) (by decide) (by decide) (by decide)).to, ?_⟩
  refine List.forall_mem_cons.mpr ⟨(s_aloadn (am_dp pw_X11_has_32 dd_X11_has_32a.1) rfl).to, ?_⟩
  refine List.forall_mem_cons.mpr ⟨(s_get (ci := 11) (k := 13) (am_dp pw_X11_has_32 dd_X11_has_32a.2.1) rfl (by decide) wd1346 inX11 rfl).to, ?_⟩
  refine List.forall_mem_cons.mpr ⟨(s_aloadn (am_dp pw_X11_has_32 dd_X11_has_32a.2.2.1) rfl).to, ?_⟩
  refine List.forall_mem_cons.mpr ⟨(s_get (ci := 11) (k := 12) (am_dp pw_X11_has_32 dd_X11_has_32a.2.2.2.1) rfl (by decide) wd1345 inX11 rfl).to, ?_⟩
  refine List.forall_mem_cons.mpr ⟨(s_iald (am_dp pw_X11_has_32 dd_X11_has_32a.2.2.2.2.1)).to, ?_⟩
  refine List.forall_mem_cons.mpr ⟨s_iret (am_dp pw_X11_has_32 dd_X11_has_32a.2.2.2.2.2.1) rfl, ?_⟩
  refine List.forall_mem_cons.mpr ⟨(s_aloadn (am_dp pw_X11_has_32 dd_X11_has_32a.2.2.2.2.2.2.1) rfl).to, ?_⟩
  refine List.forall_mem_cons.mpr ⟨(s_get (ci := 11) (k := 14) (am_dp pw_X11_has_32 dd_X11_has_32a.2.2.2.2.2.2.2) rfl (by decide) wd1347 inX11 rfl).to, ?_⟩
  refine List.forall_mem_cons.mpr ⟨(s_aloadn (am_dp pw_X11_has_32 dd_X11_has_32b.1) rfl).to, ?_⟩
  refine List.forall_mem_cons.mpr ⟨(s_get (ci := 11) (k := 12) (am_dp pw_X11_has_32 dd_X11_has_32b.2) rfl (by decide) wd1345 inX11 rfl).to, ?_⟩
  refine List.forall_mem_cons.mpr ⟨(s_iald (am_dp pw_X11_has_64 dd_X11_has_64a.1)).to, ?_⟩
  refine List.forall_mem_cons.mpr ⟨s_iret (am_dp pw_X11_has_64 dd_X11_has_64a.2.1) rfl, ?_⟩
  refine List.forall_mem_cons.mpr ⟨(s_aloadn (am_dp pw_X11_has_64 dd_X11_has_64a.2.2.1) rfl).to, ?_⟩
  refine List.forall_mem_cons.mpr ⟨(s_get (ci := 11) (k := 19) (am_dp pw_X11_has_64 dd_X11_has_64a.2.2.2.1) rfl (by decide) wd1352 inX11 rfl).to, ?_⟩
  refine List.forall_mem_cons.mpr ⟨(s_aloadn (am_dp pw_X11_has_64 dd_X11_has_64a.2.2.2.2.1) rfl).to, ?_⟩
  refine List.forall_mem_cons.mpr ⟨(s_get (ci := 11) (k := 12) (am_dp pw_X11_has_64 dd_X11_has_64a.2.2.2.2.2.1) rfl (by decide) wd1345 inX11 rfl).to, ?_⟩
  refine List.forall_mem_cons.mpr ⟨(s_iald (am_dp pw_X11_has_64 dd_X11_has_64a.2.2.2.2.2.2.1)).to, ?_⟩
  refine List.forall_mem_cons.mpr ⟨s_iret (am_dp pw_X11_has_64 dd_X11_has_64a.2.2.2.2.2.2.2) rfl, ?_⟩
  refine List.forall_mem_cons.mpr ⟨(s_aloadn (am_dp pw_X11_has_64 dd_X11_has_64b.1) rfl).to, ?_⟩
  refine List.forall_mem_cons.mpr ⟨(s_get (ci := 11) (k := 25) (am_dp pw_X11_has_64 dd_X11_has_64b.2.1) rfl (by decide) wd1358 inX11 rfl).to, ?_⟩
  refine List.forall_mem_cons.mpr ⟨(s_aloadn (am_dp pw_X11_has_64 dd_X11_has_64b.2.2.1) rfl).to, ?_⟩
  refine List.forall_mem_cons.mpr ⟨(s_get (ci := 11) (k := 12) (am_dp pw_X11_has_64 dd_X11_has_64b.2.2.2.1) rfl (by decide) wd1345 inX11 rfl).to, ?_⟩
  refine List.forall_mem_cons.mpr ⟨(s_iald (am_dp pw_X11_has_64 dd_X11_has_64b.2.2.2.2.1)).to, ?_⟩
  refine List.forall_mem_cons.mpr ⟨s_iret (am_dp pw_X11_has_64 dd_X11_has_64b.2.2.2.2.2.1) rfl, ?_⟩
  refine List.forall_mem_cons.mpr ⟨(s_aloadn (am_dp pw_X11_has_64 dd_X11_has_64b.2.2.2.2.2.2.1) rfl).to, ?_⟩
  refine List.forall_mem_cons.mpr ⟨(s_get (ci := 11) (k := 28) (am_dp pw_X11_has_64 dd_X11_has_64b.2.2.2.2.2.2.2) rfl (by decide) wd1361 inX11 rfl).to, ?_⟩
  refine List.forall_mem_cons.mpr ⟨(s_aloadn (am_dp pw_X11_has_64 dd_X11_has_64c.1) rfl).to, ?_⟩
  refine List.forall_mem_cons.mpr ⟨(s_get (ci := 11) (k := 12) (am_dp pw_X11_has_64 dd_X11_has_64c.2) rfl (by decide) wd1345 inX11 rfl).to, ?_⟩
  refine List.forall_mem_cons.mpr ⟨(s_iald (am_dp pw_X11_has_96 dd_X11_has_96a.1)).to, ?_⟩
  refine List.forall_mem_cons.mpr ⟨s_iret (am_dp pw_X11_has_96 dd_X11_has_96a.2.1) rfl, ?_⟩
  refine List.forall_mem_cons.mpr ⟨(s_aloadn (am_dp pw_X11_has_96 dd_X11_has_96a.2.2.1) rfl).to, ?_⟩
  refine List.forall_mem_cons.mpr ⟨(s_get (ci := 11) (k := 33) (am_dp pw_X11_has_96 dd_X11_has_96a.2.2.2.1) rfl (by decide) wd1366 inX11 rfl).to, ?_⟩
  refine List.forall_mem_cons.mpr ⟨(s_aloadn (am_dp pw_X11_has_96 dd_X11_has_96a.2.2.2.2.1) rfl).to, ?_⟩
  refine List.forall_mem_cons.mpr ⟨(s_get (ci := 11) (k := 12) (am_dp pw_X11_has_96 dd_X11_has_96a.2.2.2.2.2.1) rfl (by decide) wd1345 inX11 rfl).to, ?_⟩
  refine List.forall_mem_cons.mpr ⟨(s_iald (am_dp pw_X11_has_96 dd_X11_has_96a.2.2.2.2.2.2.1)).to, ?_⟩
  refine List.forall_mem_cons.mpr ⟨s_iret (am_dp pw_X11_has_96 dd_X11_has_96a.2.2.2.2.2.2.2) rfl, ?_⟩
  refine List.forall_mem_cons.mpr ⟨(s_aloadn (am_dp pw_X11_has_96 dd_X11_has_96b.1) rfl).to, ?_⟩
  refine List.forall_mem_cons.mpr ⟨(s_get (ci := 11) (k := 37) (am_dp pw_X11_has_96 dd_X11_has_96b.2.1) rfl (by decide) wd1370 inX11 rfl).to, ?_⟩
  refine List.forall_mem_cons.mpr ⟨(s_aloadn (am_dp pw_X11_has_96 dd_X11_has_96b.2.2.1) rfl).to, ?_⟩
  refine List.forall_mem_cons.mpr ⟨(s_get (ci := 11) (k := 12) (am_dp pw_X11_has_96 dd_X11_has_96b.2.2.2.1) rfl (by decide) wd1345 inX11 rfl).to, ?_⟩
  refine List.forall_mem_cons.mpr ⟨(s_iald (am_dp pw_X11_has_96 dd_X11_has_96b.2.2.2.2.1)).to, ?_⟩
  refine List.forall_mem_cons.mpr ⟨s_iret (am_dp pw_X11_has_96 dd_X11_has_96b.2.2.2.2.2.1) rfl, ?_⟩
  refine List.forall_mem_cons.mpr ⟨(s_iconst (am_dp pw_X11_has_96 dd_X11_has_96b.2.2.2.2.2.2.1) (by decide)).to, ?_⟩
  refine List.forall_mem_cons.mpr ⟨(s_istoren (am_dp pw_X11_has_96 dd_X11_has_96b.2.2.2.2.2.2.2) rfl (by decide)).to, ?_⟩
  refine List.forall_mem_cons.mpr ⟨(s_iloadn (am_dp pw_X11_has_96 dd_X11_has_96c.1) rfl).to, ?_⟩
  refine List.forall_mem_cons.mpr ⟨(s_aloadn (am_dp pw_X11_has_96 dd_X11_has_96c.2.1) rfl).to, ?_⟩
  refine List.forall_mem_cons.mpr ⟨(s_get (ci := 11) (k := 19) (am_dp pw_X11_has_96 dd_X11_has_96c.2.2.1) rfl (by decide) wd1352 inX11 rfl).to, ?_⟩
  refine List.forall_mem_cons.mpr ⟨(s_aloadn (am_dp pw_X11_has_96 dd_X11_has_96c.2.2.2.1) rfl).to, ?_⟩
  refine List.forall_mem_cons.mpr ⟨(s_get (ci := 11) (k := 12) (am_dp pw_X11_has_96 dd_X11_has_96c.2.2.2.2) rfl (by decide) wd1345 inX11 rfl).to, ?_⟩
  refine List.forall_mem_cons.mpr ⟨(s_iald (am_dp pw_X11_has_128 dd_X11_has_128a.1)).to, ?_⟩
  refine List.forall_mem_cons.mpr ⟨(s_icmp_ge (am_dp pw_X11_has_128 dd_X11_has_128a.2.1) (by decide)).to, ?_⟩
  refine List.forall_mem_cons.mpr ⟨(s_iloadn (am_dp pw_X11_has_128 dd_X11_has_128a.2.2.1) rfl).to, ?_⟩
  refine List.forall_mem_cons.mpr ⟨(s_aloadn (am_dp pw_X11_has_128 dd_X11_has_128a.2.2.2.1) rfl).to, ?_⟩
  refine List.forall_mem_cons.mpr ⟨(s_iloadn (am_dp pw_X11_has_128 dd_X11_has_128a.2.2.2.2.1) rfl).to, ?_⟩
  refine List.forall_mem_cons.mpr ⟨zw_cv228 (am_dp pw_X11_has_128 dd_X11_has_128a.2.2.2.2.2.1) wd1838, ?_⟩
  refine List.forall_mem_cons.mpr ⟨(s_if_le (am_dp pw_X11_has_128 dd_X11_has_128a.2.2.2.2.2.2.1) (by decide)).to, ?_⟩
  exact fun _ h => absurd h List.not_mem_nil
theorem sn_tX11_has_1 : ∀ q ∈ tX11_has_1, am_Snd am_P0 RX11 cX11_has 4 (Option.some FieldType.int) "has" q.1 q.2 := by
  unfold tX11_has_1
  refine List.forall_mem_cons.mpr ⟨(s_iconst (am_dp pw_X11_has_128 dd_X11_has_128a.2.2.2.2.2.2.2) (by decide)).to, ?_⟩
  refine List.forall_mem_cons.mpr ⟨(s_goto (am_dp pw_X11_has_128 dd_X11_has_128b.1) (by decide)).to, ?_⟩
  refine List.forall_mem_cons.mpr ⟨(s_iconst (am_dp pw_X11_has_128 dd_X11_has_128b.2.1) (by decide)).to, ?_⟩
  refine List.forall_mem_cons.mpr ⟨(s_iadd (am_dp pw_X11_has_128 dd_X11_has_128b.2.2.1)).to, ?_⟩
  refine List.forall_mem_cons.mpr ⟨(s_istoren (am_dp pw_X11_has_128 dd_X11_has_128b.2.2.2.1) rfl (by decide)).to, ?_⟩
  refine List.forall_mem_cons.mpr ⟨(s_iinc (am_dp pw_X11_has_128 dd_X11_has_128b.2.2.2.2.1) (by decide) (by decide)).to, ?_⟩
  refine List.forall_mem_cons.mpr ⟨(s_goto (am_dp pw_X11_has_128 dd_X11_has_128b.2.2.2.2.2.1) (by decide)).to, ?_⟩
  refine List.forall_mem_cons.mpr ⟨(s_iloadn (am_dp pw_X11_has_128 dd_X11_has_128b.2.2.2.2.2.2.1) rfl).to, ?_⟩
  refine List.forall_mem_cons.mpr ⟨s_iret (am_dp pw_X11_has_128 dd_X11_has_128b.2.2.2.2.2.2.2) rfl, ?_⟩
  refine List.forall_mem_cons.mpr ⟨(s_iconst (am_dp pw_X11_has_128 dd_X11_has_128c.1) (by decide)).to, ?_⟩
  refine List.forall_mem_cons.mpr ⟨s_iret (am_dp pw_X11_has_128 dd_X11_has_128c.2) rfl, ?_⟩
  exact fun _ h => absurd h List.not_mem_nil
theorem sn_tX11_has : ∀ q ∈ tX11_has, am_Snd am_P0 RX11 cX11_has 4 (Option.some FieldType.int) "has" q.1 q.2 := by
  unfold tX11_has
  exact List.forall_mem_append.mpr ⟨sn_tX11_has_0, sn_tX11_has_1⟩
theorem sn_tX11_letter : ∀ q ∈ tX11_letter, am_Snd am_P0 RX11 cX11_letter 8 (Option.some FieldType.int) "letter" q.1 q.2 := by
  unfold tX11_letter
  refine List.forall_mem_cons.mpr ⟨(s_aloadn (am_dp pw_X11_letter_0 dd_X11_letter_0a.1) rfl).to, ?_⟩
  refine List.forall_mem_cons.mpr ⟨(s_iloadn (am_dp pw_X11_letter_0 dd_X11_letter_0a.2.1) rfl).to, ?_⟩
  refine List.forall_mem_cons.mpr ⟨zw_cv220 (am_dp pw_X11_letter_0 dd_X11_letter_0a.2.2.1) wd1850, ?_⟩
  refine List.forall_mem_cons.mpr ⟨(s_if_ne (am_dp pw_X11_letter_0 dd_X11_letter_0a.2.2.2.1) (by decide)).to, ?_⟩
  refine List.forall_mem_cons.mpr ⟨(s_iconst (am_dp pw_X11_letter_0 dd_X11_letter_0a.2.2.2.2.1) (by decide)).to, ?_⟩
  refine List.forall_mem_cons.mpr ⟨s_iret (am_dp pw_X11_letter_0 dd_X11_letter_0a.2.2.2.2.2.1) rfl, ?_⟩
  refine List.forall_mem_cons.mpr ⟨(s_aloadn (am_dp pw_X11_letter_0 dd_X11_letter_0a.2.2.2.2.2.2.1) rfl).to, ?_⟩
  refine List.forall_mem_cons.mpr ⟨(s_get (ci := 11) (k := 20) (am_dp pw_X11_letter_0 dd_X11_letter_0a.2.2.2.2.2.2.2) rfl (by decide) wd1353 inX11 rfl).to, ?_⟩
  refine List.forall_mem_cons.mpr ⟨(s_bipush (am_dp pw_X11_letter_0 dd_X11_letter_0b.1) (by decide)).to, ?_⟩
  refine List.forall_mem_cons.mpr ⟨(s_aloadn (am_dp pw_X11_letter_0 dd_X11_letter_0b.2.1) rfl).to, ?_⟩
  refine List.forall_mem_cons.mpr ⟨(s_get (ci := 11) (k := 12) (am_dp pw_X11_letter_0 dd_X11_letter_0b.2.2.1) rfl (by decide) wd1345 inX11 rfl).to, ?_⟩
  refine List.forall_mem_cons.mpr ⟨(s_imul (am_dp pw_X11_letter_0 dd_X11_letter_0b.2.2.2.1)).to, ?_⟩
  refine List.forall_mem_cons.mpr ⟨(s_iloadn (am_dp pw_X11_letter_0 dd_X11_letter_0b.2.2.2.2.1) rfl).to, ?_⟩
  refine List.forall_mem_cons.mpr ⟨(s_iadd (am_dp pw_X11_letter_0 dd_X11_letter_0b.2.2.2.2.2.1)).to, ?_⟩
  refine List.forall_mem_cons.mpr ⟨(s_lald (am_dp pw_X11_letter_0 dd_X11_letter_0b.2.2.2.2.2.2.1)).to, ?_⟩
  refine List.forall_mem_cons.mpr ⟨(s_lstoren (am_dp pw_X11_letter_0 dd_X11_letter_0b.2.2.2.2.2.2.2) rfl (by decide)).to, ?_⟩
  refine List.forall_mem_cons.mpr ⟨(s_iconst (am_dp pw_X11_letter_0 dd_X11_letter_0c.1) (by decide)).to, ?_⟩
  refine List.forall_mem_cons.mpr ⟨(s_istore (am_dp pw_X11_letter_0 dd_X11_letter_0c.2.1) (by decide)).to, ?_⟩
  refine List.forall_mem_cons.mpr ⟨(s_lloadn (am_dp pw_X11_letter_0 dd_X11_letter_0c.2.2.1) rfl).to, ?_⟩
  refine List.forall_mem_cons.mpr ⟨(s_lstore (am_dp pw_X11_letter_0 dd_X11_letter_0c.2.2.2.1) (by decide)).to, ?_⟩
  refine List.forall_mem_cons.mpr ⟨(s_lload (am_dp pw_X11_letter_0 dd_X11_letter_0c.2.2.2.2)).to, ?_⟩
  refine List.forall_mem_cons.mpr ⟨(s_lconst (am_dp pw_X11_letter_32 dd_X11_letter_32a.1) (by decide)).to, ?_⟩
  refine List.forall_mem_cons.mpr ⟨(s_lcmp (am_dp pw_X11_letter_32 dd_X11_letter_32a.2.1)).to, ?_⟩
  refine List.forall_mem_cons.mpr ⟨(s_if_eq (am_dp pw_X11_letter_32 dd_X11_letter_32a.2.2.1) (by decide)).to, ?_⟩
  refine List.forall_mem_cons.mpr ⟨(s_iinc (am_dp pw_X11_letter_32 dd_X11_letter_32a.2.2.2.1) (by decide) (by decide)).to, ?_⟩
  refine List.forall_mem_cons.mpr ⟨(s_lload (am_dp pw_X11_letter_32 dd_X11_letter_32a.2.2.2.2.1)).to, ?_⟩
  refine List.forall_mem_cons.mpr ⟨(s_bipush (am_dp pw_X11_letter_32 dd_X11_letter_32a.2.2.2.2.2.1) (by decide)).to, ?_⟩
  refine List.forall_mem_cons.mpr ⟨(s_lushr (am_dp pw_X11_letter_32 dd_X11_letter_32a.2.2.2.2.2.2.1)).to, ?_⟩
  refine List.forall_mem_cons.mpr ⟨(s_lstore (am_dp pw_X11_letter_32 dd_X11_letter_32a.2.2.2.2.2.2.2) (by decide)).to, ?_⟩
  refine List.forall_mem_cons.mpr ⟨(s_goto (am_dp pw_X11_letter_32 dd_X11_letter_32b.1) (by decide)).to, ?_⟩
  refine List.forall_mem_cons.mpr ⟨(s_iloadn (am_dp pw_X11_letter_32 dd_X11_letter_32b.2.1) rfl).to, ?_⟩
  refine List.forall_mem_cons.mpr ⟨(s_if_lt (am_dp pw_X11_letter_32 dd_X11_letter_32b.2.2.1) (by decide)).to, ?_⟩
  refine List.forall_mem_cons.mpr ⟨(s_iloadn (am_dp pw_X11_letter_32 dd_X11_letter_32b.2.2.2.1) rfl).to, ?_⟩
  refine List.forall_mem_cons.mpr ⟨(s_iload (am_dp pw_X11_letter_32 dd_X11_letter_32b.2.2.2.2.1)).to, ?_⟩
  refine List.forall_mem_cons.mpr ⟨(s_icmp_lt (am_dp pw_X11_letter_32 dd_X11_letter_32b.2.2.2.2.2.1) (by decide)).to, ?_⟩
  refine List.forall_mem_cons.mpr ⟨(s_iconst (am_dp pw_X11_letter_32 dd_X11_letter_32b.2.2.2.2.2.2.1) (by decide)).to, ?_⟩
  refine List.forall_mem_cons.mpr ⟨(s_goto (am_dp pw_X11_letter_32 dd_X11_letter_32b.2.2.2.2.2.2.2) (by decide)).to, ?_⟩
  refine List.forall_mem_cons.mpr ⟨(s_lloadn (am_dp pw_X11_letter_64 dd_X11_letter_64a.1) rfl).to, ?_⟩
  refine List.forall_mem_cons.mpr ⟨(s_bipush (am_dp pw_X11_letter_64 dd_X11_letter_64a.2.1) (by decide)).to, ?_⟩
  refine List.forall_mem_cons.mpr ⟨(s_iload (am_dp pw_X11_letter_64 dd_X11_letter_64a.2.2.1)).to, ?_⟩
  refine List.forall_mem_cons.mpr ⟨(s_iconst (am_dp pw_X11_letter_64 dd_X11_letter_64a.2.2.2.1) (by decide)).to, ?_⟩
  refine List.forall_mem_cons.mpr ⟨(s_isub (am_dp pw_X11_letter_64 dd_X11_letter_64a.2.2.2.2.1)).to, ?_⟩
  refine List.forall_mem_cons.mpr ⟨(s_iloadn (am_dp pw_X11_letter_64 dd_X11_letter_64a.2.2.2.2.2.1) rfl).to, ?_⟩
  refine List.forall_mem_cons.mpr ⟨(s_isub (am_dp pw_X11_letter_64 dd_X11_letter_64a.2.2.2.2.2.2.1)).to, ?_⟩
  refine List.forall_mem_cons.mpr ⟨(s_imul (am_dp pw_X11_letter_64 dd_X11_letter_64a.2.2.2.2.2.2.2)).to, ?_⟩
  refine List.forall_mem_cons.mpr ⟨(s_lushr (am_dp pw_X11_letter_64 dd_X11_letter_64b.1)).to, ?_⟩
  refine List.forall_mem_cons.mpr ⟨(s_ldc2 (am_dp pw_X11_letter_64 dd_X11_letter_64b.2.1) wd1854).to, ?_⟩
  refine List.forall_mem_cons.mpr ⟨(s_land (am_dp pw_X11_letter_64 dd_X11_letter_64b.2.2.1)).to, ?_⟩
  refine List.forall_mem_cons.mpr ⟨(s_l2i (am_dp pw_X11_letter_64 dd_X11_letter_64b.2.2.2.1)).to, ?_⟩
  refine List.forall_mem_cons.mpr ⟨s_iret (am_dp pw_X11_letter_64 dd_X11_letter_64b.2.2.2.2) rfl, ?_⟩
  exact fun _ h => absurd h List.not_mem_nil
theorem sn_tX11_isWater : ∀ q ∈ tX11_isWater, am_Snd am_P0 RX11 cX11_isWater 3 (Option.some FieldType.boolean) "isWater" q.1 q.2 := by
  unfold tX11_isWater
  refine List.forall_mem_cons.mpr ⟨(s_aloadn (am_dp pw_X11_isWater_0 dd_X11_isWater_0a.1) rfl).to, ?_⟩
  refine List.forall_mem_cons.mpr ⟨(s_get (ci := 11) (k := 55) (am_dp pw_X11_isWater_0 dd_X11_isWater_0a.2.1) rfl (by decide) wd1388 inX11 rfl).to, ?_⟩
  refine List.forall_mem_cons.mpr ⟨(s_iloadn (am_dp pw_X11_isWater_0 dd_X11_isWater_0a.2.2.1) rfl).to, ?_⟩
  refine List.forall_mem_cons.mpr ⟨(s_iald (am_dp pw_X11_isWater_0 dd_X11_isWater_0a.2.2.2.1)).to, ?_⟩
  refine List.forall_mem_cons.mpr ⟨(s_aloadn (am_dp pw_X11_isWater_0 dd_X11_isWater_0a.2.2.2.2.1) rfl).to, ?_⟩
  refine List.forall_mem_cons.mpr ⟨(s_get (ci := 11) (k := 23) (am_dp pw_X11_isWater_0 dd_X11_isWater_0a.2.2.2.2.2.1) rfl (by decide) wd1356 inX11 rfl).to, ?_⟩
  refine List.forall_mem_cons.mpr ⟨(s_bipush (am_dp pw_X11_isWater_0 dd_X11_isWater_0a.2.2.2.2.2.2.1) (by decide)).to, ?_⟩
  refine List.forall_mem_cons.mpr ⟨(s_aloadn (am_dp pw_X11_isWater_0 dd_X11_isWater_0a.2.2.2.2.2.2.2) rfl).to, ?_⟩
  refine List.forall_mem_cons.mpr ⟨(s_get (ci := 11) (k := 12) (am_dp pw_X11_isWater_0 dd_X11_isWater_0b.1) rfl (by decide) wd1345 inX11 rfl).to, ?_⟩
  refine List.forall_mem_cons.mpr ⟨(s_imul (am_dp pw_X11_isWater_0 dd_X11_isWater_0b.2.1)).to, ?_⟩
  refine List.forall_mem_cons.mpr ⟨(s_iloadn (am_dp pw_X11_isWater_0 dd_X11_isWater_0b.2.2.1) rfl).to, ?_⟩
  refine List.forall_mem_cons.mpr ⟨(s_iadd (am_dp pw_X11_isWater_0 dd_X11_isWater_0b.2.2.2.1)).to, ?_⟩
  refine List.forall_mem_cons.mpr ⟨(s_iald (am_dp pw_X11_isWater_0 dd_X11_isWater_0b.2.2.2.2.1)).to, ?_⟩
  refine List.forall_mem_cons.mpr ⟨(s_icmp_lt (am_dp pw_X11_isWater_0 dd_X11_isWater_0b.2.2.2.2.2.1) (by decide)).to, ?_⟩
  refine List.forall_mem_cons.mpr ⟨(s_iconst (am_dp pw_X11_isWater_0 dd_X11_isWater_0b.2.2.2.2.2.2.1) (by decide)).to, ?_⟩
  refine List.forall_mem_cons.mpr ⟨(s_goto (am_dp pw_X11_isWater_0 dd_X11_isWater_0b.2.2.2.2.2.2.2) (by decide)).to, ?_⟩
  refine List.forall_mem_cons.mpr ⟨(s_iconst (am_dp pw_X11_isWater_0 dd_X11_isWater_0c.1) (by decide)).to, ?_⟩
  refine List.forall_mem_cons.mpr ⟨s_zret (am_dp pw_X11_isWater_0 dd_X11_isWater_0c.2) rfl, ?_⟩
  exact fun _ h => absurd h List.not_mem_nil
theorem sn_tX11_isSound : ∀ q ∈ tX11_isSound, am_Snd am_P0 RX11 cX11_isSound 4 (Option.some FieldType.boolean) "isSound" q.1 q.2 := by
  unfold tX11_isSound
  refine List.forall_mem_cons.mpr ⟨(s_aloadn (am_dp pw_X11_isSound_0 dd_X11_isSound_0a.1) rfl).to, ?_⟩
  refine List.forall_mem_cons.mpr ⟨(s_get (ci := 11) (k := 55) (am_dp pw_X11_isSound_0 dd_X11_isSound_0a.2.1) rfl (by decide) wd1388 inX11 rfl).to, ?_⟩
  refine List.forall_mem_cons.mpr ⟨(s_iloadn (am_dp pw_X11_isSound_0 dd_X11_isSound_0a.2.2.1) rfl).to, ?_⟩
  refine List.forall_mem_cons.mpr ⟨(s_iald (am_dp pw_X11_isSound_0 dd_X11_isSound_0a.2.2.2.1)).to, ?_⟩
  refine List.forall_mem_cons.mpr ⟨(s_aloadn (am_dp pw_X11_isSound_0 dd_X11_isSound_0a.2.2.2.2.1) rfl).to, ?_⟩
  refine List.forall_mem_cons.mpr ⟨(s_get (ci := 11) (k := 23) (am_dp pw_X11_isSound_0 dd_X11_isSound_0a.2.2.2.2.2.1) rfl (by decide) wd1356 inX11 rfl).to, ?_⟩
  refine List.forall_mem_cons.mpr ⟨(s_bipush (am_dp pw_X11_isSound_0 dd_X11_isSound_0a.2.2.2.2.2.2.1) (by decide)).to, ?_⟩
  refine List.forall_mem_cons.mpr ⟨(s_aloadn (am_dp pw_X11_isSound_0 dd_X11_isSound_0a.2.2.2.2.2.2.2) rfl).to, ?_⟩
  refine List.forall_mem_cons.mpr ⟨(s_get (ci := 11) (k := 12) (am_dp pw_X11_isSound_0 dd_X11_isSound_0b.1) rfl (by decide) wd1345 inX11 rfl).to, ?_⟩
  refine List.forall_mem_cons.mpr ⟨(s_imul (am_dp pw_X11_isSound_0 dd_X11_isSound_0b.2.1)).to, ?_⟩
  refine List.forall_mem_cons.mpr ⟨(s_iloadn (am_dp pw_X11_isSound_0 dd_X11_isSound_0b.2.2.1) rfl).to, ?_⟩
  refine List.forall_mem_cons.mpr ⟨(s_iadd (am_dp pw_X11_isSound_0 dd_X11_isSound_0b.2.2.2.1)).to, ?_⟩
  refine List.forall_mem_cons.mpr ⟨(s_iald (am_dp pw_X11_isSound_0 dd_X11_isSound_0b.2.2.2.2.1)).to, ?_⟩
  refine List.forall_mem_cons.mpr ⟨(s_iloadn (am_dp pw_X11_isSound_0 dd_X11_isSound_0b.2.2.2.2.2.1) rfl).to, ?_⟩
  refine List.forall_mem_cons.mpr ⟨(s_if_eq (am_dp pw_X11_isSound_0 dd_X11_isSound_0b.2.2.2.2.2.2.1) (by decide)).to, ?_⟩
  refine List.forall_mem_cons.mpr ⟨(s_aloadn (am_dp pw_X11_isSound_0 dd_X11_isSound_0b.2.2.2.2.2.2.2) rfl).to, ?_⟩
  refine List.forall_mem_cons.mpr ⟨(s_get (ci := 11) (k := 24) (am_dp pw_X11_isSound_0 dd_X11_isSound_0c.1) rfl (by decide) wd1357 inX11 rfl).to, ?_⟩
  refine List.forall_mem_cons.mpr ⟨(s_bipush (am_dp pw_X11_isSound_0 dd_X11_isSound_0c.2.1) (by decide)).to, ?_⟩
  refine List.forall_mem_cons.mpr ⟨(s_aloadn (am_dp pw_X11_isSound_0 dd_X11_isSound_0c.2.2.1) rfl).to, ?_⟩
  refine List.forall_mem_cons.mpr ⟨(s_get (ci := 11) (k := 12) (am_dp pw_X11_isSound_0 dd_X11_isSound_0c.2.2.2) rfl (by decide) wd1345 inX11 rfl).to, ?_⟩
  refine List.forall_mem_cons.mpr ⟨(s_imul (am_dp pw_X11_isSound_32 dd_X11_isSound_32a.1)).to, ?_⟩
  refine List.forall_mem_cons.mpr ⟨(s_iloadn (am_dp pw_X11_isSound_32 dd_X11_isSound_32a.2.1) rfl).to, ?_⟩
  refine List.forall_mem_cons.mpr ⟨(s_iadd (am_dp pw_X11_isSound_32 dd_X11_isSound_32a.2.2.1)).to, ?_⟩
  refine List.forall_mem_cons.mpr ⟨(s_iald (am_dp pw_X11_isSound_32 dd_X11_isSound_32a.2.2.2.1)).to, ?_⟩
  refine List.forall_mem_cons.mpr ⟨(s_goto (am_dp pw_X11_isSound_32 dd_X11_isSound_32a.2.2.2.2.1) (by decide)).to, ?_⟩
  refine List.forall_mem_cons.mpr ⟨(s_iconst (am_dp pw_X11_isSound_32 dd_X11_isSound_32a.2.2.2.2.2.1) (by decide)).to, ?_⟩
  refine List.forall_mem_cons.mpr ⟨(s_iadd (am_dp pw_X11_isSound_32 dd_X11_isSound_32a.2.2.2.2.2.2.1)).to, ?_⟩
  refine List.forall_mem_cons.mpr ⟨(s_icmp_lt (am_dp pw_X11_isSound_32 dd_X11_isSound_32a.2.2.2.2.2.2.2) (by decide)).to, ?_⟩
  refine List.forall_mem_cons.mpr ⟨(s_iconst (am_dp pw_X11_isSound_32 dd_X11_isSound_32b.1) (by decide)).to, ?_⟩
  refine List.forall_mem_cons.mpr ⟨(s_goto (am_dp pw_X11_isSound_32 dd_X11_isSound_32b.2.1) (by decide)).to, ?_⟩
  refine List.forall_mem_cons.mpr ⟨(s_iconst (am_dp pw_X11_isSound_32 dd_X11_isSound_32b.2.2.1) (by decide)).to, ?_⟩
  refine List.forall_mem_cons.mpr ⟨s_zret (am_dp pw_X11_isSound_32 dd_X11_isSound_32b.2.2.2) rfl, ?_⟩
  exact fun _ h => absurd h List.not_mem_nil
theorem sn_tX11_reaches : ∀ q ∈ tX11_reaches, am_Snd am_P0 RX11 cX11_reaches 6 (Option.none : Option FieldType) "reaches" q.1 q.2 := by
  unfold tX11_reaches
  refine List.forall_mem_cons.mpr ⟨(s_aloadn (am_dp pw_X11_reaches_0 dd_X11_reaches_0a.1) rfl).to, ?_⟩
  refine List.forall_mem_cons.mpr ⟨(s_iloadn (am_dp pw_X11_reaches_0 dd_X11_reaches_0a.2.1) rfl).to, ?_⟩
  refine List.forall_mem_cons.mpr ⟨(s_iloadn (am_dp pw_X11_reaches_0 dd_X11_reaches_0a.2.2.1) rfl).to, ?_⟩
  refine List.forall_mem_cons.mpr ⟨zw_cv217 (am_dp pw_X11_reaches_0 dd_X11_reaches_0a.2.2.2.1) wd1819, ?_⟩
  refine List.forall_mem_cons.mpr ⟨(s_if_ne (am_dp pw_X11_reaches_0 dd_X11_reaches_0a.2.2.2.2.1) (by decide)).to, ?_⟩
  refine List.forall_mem_cons.mpr ⟨s_vret (am_dp pw_X11_reaches_0 dd_X11_reaches_0a.2.2.2.2.2.1) rfl, ?_⟩
  refine List.forall_mem_cons.mpr ⟨(s_aloadn (am_dp pw_X11_reaches_0 dd_X11_reaches_0a.2.2.2.2.2.2.1) rfl).to, ?_⟩
  refine List.forall_mem_cons.mpr ⟨(s_iloadn (am_dp pw_X11_reaches_0 dd_X11_reaches_0a.2.2.2.2.2.2.2) rfl).to, ?_⟩
  refine List.forall_mem_cons.mpr ⟨(s_iloadn (am_dp pw_X11_reaches_0 dd_X11_reaches_0b.1) rfl).to, ?_⟩
  refine List.forall_mem_cons.mpr ⟨zw_cv218 (am_dp pw_X11_reaches_0 dd_X11_reaches_0b.2.1) wd1826, ?_⟩
  refine List.forall_mem_cons.mpr ⟨(s_istore (am_dp pw_X11_reaches_0 dd_X11_reaches_0b.2.2.1) (by decide)).to, ?_⟩
  refine List.forall_mem_cons.mpr ⟨(s_aloadn (am_dp pw_X11_reaches_0 dd_X11_reaches_0b.2.2.2.1) rfl).to, ?_⟩
  refine List.forall_mem_cons.mpr ⟨(s_get (ci := 11) (k := 57) (am_dp pw_X11_reaches_0 dd_X11_reaches_0b.2.2.2.2.1) rfl (by decide) wd1390 inX11 rfl).to, ?_⟩
  refine List.forall_mem_cons.mpr ⟨(s_iload (am_dp pw_X11_reaches_0 dd_X11_reaches_0b.2.2.2.2.2.1)).to, ?_⟩
  refine List.forall_mem_cons.mpr ⟨(s_iald (am_dp pw_X11_reaches_0 dd_X11_reaches_0b.2.2.2.2.2.2.1)).to, ?_⟩
  refine List.forall_mem_cons.mpr ⟨(s_iconst (am_dp pw_X11_reaches_0 dd_X11_reaches_0b.2.2.2.2.2.2.2) (by decide)).to, ?_⟩
  refine List.forall_mem_cons.mpr ⟨(s_icmp_ne (am_dp pw_X11_reaches_0 dd_X11_reaches_0c.1) (by decide)).to, ?_⟩
  refine List.forall_mem_cons.mpr ⟨(s_aloadn (am_dp pw_X11_reaches_0 dd_X11_reaches_0c.2.1) rfl).to, ?_⟩
  refine List.forall_mem_cons.mpr ⟨(s_iloadn (am_dp pw_X11_reaches_0 dd_X11_reaches_0c.2.2.1) rfl).to, ?_⟩
  refine List.forall_mem_cons.mpr ⟨(s_iload (am_dp pw_X11_reaches_0 dd_X11_reaches_0c.2.2.2)).to, ?_⟩
  refine List.forall_mem_cons.mpr ⟨zw_cv234 (am_dp pw_X11_reaches_32 dd_X11_reaches_32a.1) wd1867, ?_⟩
  refine List.forall_mem_cons.mpr ⟨(s_if_ne (am_dp pw_X11_reaches_32 dd_X11_reaches_32a.2.1) (by decide)).to, ?_⟩
  refine List.forall_mem_cons.mpr ⟨s_vret (am_dp pw_X11_reaches_32 dd_X11_reaches_32a.2.2.1) rfl, ?_⟩
  refine List.forall_mem_cons.mpr ⟨(s_aloadn (am_dp pw_X11_reaches_32 dd_X11_reaches_32a.2.2.2.1) rfl).to, ?_⟩
  refine List.forall_mem_cons.mpr ⟨(s_get (ci := 11) (k := 57) (am_dp pw_X11_reaches_32 dd_X11_reaches_32a.2.2.2.2.1) rfl (by decide) wd1390 inX11 rfl).to, ?_⟩
  refine List.forall_mem_cons.mpr ⟨(s_iload (am_dp pw_X11_reaches_32 dd_X11_reaches_32a.2.2.2.2.2.1)).to, ?_⟩
  refine List.forall_mem_cons.mpr ⟨(s_iload (am_dp pw_X11_reaches_32 dd_X11_reaches_32a.2.2.2.2.2.2.1)).to, ?_⟩
  refine List.forall_mem_cons.mpr ⟨(s_iast (am_dp pw_X11_reaches_32 dd_X11_reaches_32a.2.2.2.2.2.2.2)).to, ?_⟩
  refine List.forall_mem_cons.mpr ⟨(s_aloadn (am_dp pw_X11_reaches_32 dd_X11_reaches_32b.1) rfl).to, ?_⟩
  refine List.forall_mem_cons.mpr ⟨(s_get (ci := 11) (k := 58) (am_dp pw_X11_reaches_32 dd_X11_reaches_32b.2.1) rfl (by decide) wd1391 inX11 rfl).to, ?_⟩
  refine List.forall_mem_cons.mpr ⟨(s_aloadn (am_dp pw_X11_reaches_32 dd_X11_reaches_32b.2.2.1) rfl).to, ?_⟩
  refine List.forall_mem_cons.mpr ⟨(s_get (ci := 11) (k := 59) (am_dp pw_X11_reaches_32 dd_X11_reaches_32b.2.2.2.1) rfl (by decide) wd1392 inX11 rfl).to, ?_⟩
  refine List.forall_mem_cons.mpr ⟨(s_iload (am_dp pw_X11_reaches_32 dd_X11_reaches_32b.2.2.2.2.1)).to, ?_⟩
  refine List.forall_mem_cons.mpr ⟨(s_iast (am_dp pw_X11_reaches_32 dd_X11_reaches_32b.2.2.2.2.2.1)).to, ?_⟩
  refine List.forall_mem_cons.mpr ⟨(s_aloadn (am_dp pw_X11_reaches_32 dd_X11_reaches_32b.2.2.2.2.2.2.1) rfl).to, ?_⟩
  refine List.forall_mem_cons.mpr ⟨(s_dup (am_dp pw_X11_reaches_32 dd_X11_reaches_32b.2.2.2.2.2.2.2)).to, ?_⟩
  refine List.forall_mem_cons.mpr ⟨(s_get (ci := 11) (k := 59) (am_dp pw_X11_reaches_32 dd_X11_reaches_32c) rfl (by decide) wd1392 inX11 rfl).to, ?_⟩
  refine List.forall_mem_cons.mpr ⟨(s_iconst (am_dp pw_X11_reaches_64 dd_X11_reaches_64a.1) (by decide)).to, ?_⟩
  refine List.forall_mem_cons.mpr ⟨(s_iadd (am_dp pw_X11_reaches_64 dd_X11_reaches_64a.2.1)).to, ?_⟩
  refine List.forall_mem_cons.mpr ⟨(s_put (ci := 11) (k := 59) (am_dp pw_X11_reaches_64 dd_X11_reaches_64a.2.2.1) rfl (by decide) wd1392 inX11 tyX11_ok nmX11 rfl rfl).to, ?_⟩
  refine List.forall_mem_cons.mpr ⟨s_vret (am_dp pw_X11_reaches_64 dd_X11_reaches_64a.2.2.2) rfl, ?_⟩
  exact fun _ h => absurd h List.not_mem_nil
theorem sn_tX11_goes_0 : ∀ q ∈ tX11_goes_0, am_Snd am_P0 RX11 cX11_goes 7 (Option.none : Option FieldType) "goes" q.1 q.2 := by
  unfold tX11_goes_0
  refine List.forall_mem_cons.mpr ⟨(s_iconst (am_dp pw_X11_goes_0 dd_X11_goes_0a.1) (by decide)).to, ?_⟩
  refine List.forall_mem_cons.mpr ⟨(s_istoren (am_dp pw_X11_goes_0 dd_X11_goes_0a.2.1) rfl (by decide)).to, ?_⟩
  refine List.forall_mem_cons.mpr ⟨(s_iloadn (am_dp pw_X11_goes_0 dd_X11_goes_0a.2.2.1) rfl).to, ?_⟩
  refine List.forall_mem_cons.mpr ⟨(s_aloadn (am_dp pw_X11_goes_0 dd_X11_goes_0a.2.2.2.1) rfl).to, ?_⟩
  refine List.forall_mem_cons.mpr ⟨zw_cv214 (am_dp pw_X11_goes_0 dd_X11_goes_0a.2.2.2.2.1) wd1771, ?_⟩
  refine List.forall_mem_cons.mpr ⟨(s_icmp_ge (am_dp pw_X11_goes_0 dd_X11_goes_0a.2.2.2.2.2.1) (by decide)).to, ?_⟩
  refine List.forall_mem_cons.mpr ⟨(s_aloadn (am_dp pw_X11_goes_0 dd_X11_goes_0a.2.2.2.2.2.2.1) rfl).to, ?_⟩
  refine List.forall_mem_cons.mpr ⟨(s_get (ci := 11) (k := 57) (am_dp pw_X11_goes_0 dd_X11_goes_0a.2.2.2.2.2.2.2) rfl (by decide) wd1390 inX11 rfl).to, ?_⟩
  refine List.forall_mem_cons.mpr ⟨(s_iloadn (am_dp pw_X11_goes_0 dd_X11_goes_0b.1) rfl).to, ?_⟩
  refine List.forall_mem_cons.mpr ⟨(s_iconst (am_dp pw_X11_goes_0 dd_X11_goes_0b.2.1) (by decide)).to, ?_⟩
  refine List.forall_mem_cons.mpr ⟨(s_iast (am_dp pw_X11_goes_0 dd_X11_goes_0b.2.2.1)).to, ?_⟩
  refine List.forall_mem_cons.mpr ⟨(s_iinc (am_dp pw_X11_goes_0 dd_X11_goes_0b.2.2.2.1) (by decide) (by decide)).to, ?_⟩
  refine List.forall_mem_cons.mpr ⟨(s_goto (am_dp pw_X11_goes_0 dd_X11_goes_0b.2.2.2.2.1) (by decide)).to, ?_⟩
  refine List.forall_mem_cons.mpr ⟨(s_aloadn (am_dp pw_X11_goes_0 dd_X11_goes_0b.2.2.2.2.2.1) rfl).to, ?_⟩
  refine List.forall_mem_cons.mpr ⟨(s_iconst (am_dp pw_X11_goes_0 dd_X11_goes_0b.2.2.2.2.2.2.1) (by decide)).to, ?_⟩
  refine List.forall_mem_cons.mpr ⟨(s_put (ci := 11) (k := 59) (am_dp pw_X11_goes_0 dd_X11_goes_0b.2.2.2.2.2.2.2) rfl (by decide) wd1392 inX11 tyX11_ok nmX11 rfl rfl).to, ?_⟩
  refine List.forall_mem_cons.mpr ⟨(s_aloadn (am_dp pw_X11_goes_0 dd_X11_goes_0c.1) rfl).to, ?_⟩
  refine List.forall_mem_cons.mpr ⟨(s_iloadn (am_dp pw_X11_goes_0 dd_X11_goes_0c.2.1) rfl).to, ?_⟩
  refine List.forall_mem_cons.mpr ⟨(s_aloadn (am_dp pw_X11_goes_0 dd_X11_goes_0c.2.2.1) rfl).to, ?_⟩
  refine List.forall_mem_cons.mpr ⟨(s_iloadn (am_dp pw_X11_goes_0 dd_X11_goes_0c.2.2.2) rfl).to, ?_⟩
  refine List.forall_mem_cons.mpr ⟨zw_cv215 (am_dp pw_X11_goes_32 dd_X11_goes_32a.1) wd1783, ?_⟩
  refine List.forall_mem_cons.mpr ⟨(s_aloadn (am_dp pw_X11_goes_32 dd_X11_goes_32a.2.1) rfl).to, ?_⟩
  refine List.forall_mem_cons.mpr ⟨(s_iloadn (am_dp pw_X11_goes_32 dd_X11_goes_32a.2.2.1) rfl).to, ?_⟩
  refine List.forall_mem_cons.mpr ⟨zw_cv216 (am_dp pw_X11_goes_32 dd_X11_goes_32a.2.2.2.1) wd1787, ?_⟩
  refine List.forall_mem_cons.mpr ⟨(s_iconst (am_dp pw_X11_goes_32 dd_X11_goes_32a.2.2.2.2.1) (by decide)).to, ?_⟩
  refine List.forall_mem_cons.mpr ⟨zw_cv236 (am_dp pw_X11_goes_32 dd_X11_goes_32a.2.2.2.2.2.1) wd1863, ?_⟩
  refine List.forall_mem_cons.mpr ⟨(s_iconst (am_dp pw_X11_goes_32 dd_X11_goes_32a.2.2.2.2.2.2.1) (by decide)).to, ?_⟩
  refine List.forall_mem_cons.mpr ⟨(s_istoren (am_dp pw_X11_goes_32 dd_X11_goes_32a.2.2.2.2.2.2.2) rfl (by decide)).to, ?_⟩
  refine List.forall_mem_cons.mpr ⟨(s_iloadn (am_dp pw_X11_goes_32 dd_X11_goes_32b.1) rfl).to, ?_⟩
  refine List.forall_mem_cons.mpr ⟨(s_aloadn (am_dp pw_X11_goes_32 dd_X11_goes_32b.2.1) rfl).to, ?_⟩
  refine List.forall_mem_cons.mpr ⟨(s_get (ci := 11) (k := 59) (am_dp pw_X11_goes_32 dd_X11_goes_32b.2.2.1) rfl (by decide) wd1392 inX11 rfl).to, ?_⟩
  refine List.forall_mem_cons.mpr ⟨(s_icmp_ge (am_dp pw_X11_goes_32 dd_X11_goes_32b.2.2.2.1) (by decide)).to, ?_⟩
  refine List.forall_mem_cons.mpr ⟨(s_aloadn (am_dp pw_X11_goes_32 dd_X11_goes_32b.2.2.2.2.1) rfl).to, ?_⟩
  refine List.forall_mem_cons.mpr ⟨(s_get (ci := 11) (k := 58) (am_dp pw_X11_goes_32 dd_X11_goes_32b.2.2.2.2.2.1) rfl (by decide) wd1391 inX11 rfl).to, ?_⟩
  refine List.forall_mem_cons.mpr ⟨(s_iloadn (am_dp pw_X11_goes_32 dd_X11_goes_32b.2.2.2.2.2.2.1) rfl).to, ?_⟩
  refine List.forall_mem_cons.mpr ⟨(s_iald (am_dp pw_X11_goes_32 dd_X11_goes_32b.2.2.2.2.2.2.2)).to, ?_⟩
  refine List.forall_mem_cons.mpr ⟨(s_istore (am_dp pw_X11_goes_32 dd_X11_goes_32c.1) (by decide)).to, ?_⟩
  refine List.forall_mem_cons.mpr ⟨(s_aloadn (am_dp pw_X11_goes_32 dd_X11_goes_32c.2.1) rfl).to, ?_⟩
  refine List.forall_mem_cons.mpr ⟨(s_iload (am_dp pw_X11_goes_32 dd_X11_goes_32c.2.2)).to, ?_⟩
  refine List.forall_mem_cons.mpr ⟨zw_cv215 (am_dp pw_X11_goes_64 dd_X11_goes_64a.1) wd1783, ?_⟩
  refine List.forall_mem_cons.mpr ⟨(s_istore (am_dp pw_X11_goes_64 dd_X11_goes_64a.2.1) (by decide)).to, ?_⟩
  refine List.forall_mem_cons.mpr ⟨(s_aloadn (am_dp pw_X11_goes_64 dd_X11_goes_64a.2.2.1) rfl).to, ?_⟩
  refine List.forall_mem_cons.mpr ⟨(s_iload (am_dp pw_X11_goes_64 dd_X11_goes_64a.2.2.2.1)).to, ?_⟩
  refine List.forall_mem_cons.mpr ⟨zw_cv216 (am_dp pw_X11_goes_64 dd_X11_goes_64a.2.2.2.2.1) wd1787, ?_⟩
  refine List.forall_mem_cons.mpr ⟨(s_istore (am_dp pw_X11_goes_64 dd_X11_goes_64a.2.2.2.2.2.1) (by decide)).to, ?_⟩
  refine List.forall_mem_cons.mpr ⟨(s_aloadn (am_dp pw_X11_goes_64 dd_X11_goes_64a.2.2.2.2.2.2.1) rfl).to, ?_⟩
  refine List.forall_mem_cons.mpr ⟨(s_iloadn (am_dp pw_X11_goes_64 dd_X11_goes_64a.2.2.2.2.2.2.2) rfl).to, ?_⟩
  refine List.forall_mem_cons.mpr ⟨(s_iload (am_dp pw_X11_goes_64 dd_X11_goes_64b.1)).to, ?_⟩
  refine List.forall_mem_cons.mpr ⟨(s_iconst (am_dp pw_X11_goes_64 dd_X11_goes_64b.2.1) (by decide)).to, ?_⟩
  refine List.forall_mem_cons.mpr ⟨(s_isub (am_dp pw_X11_goes_64 dd_X11_goes_64b.2.2.1)).to, ?_⟩
  refine List.forall_mem_cons.mpr ⟨(s_iload (am_dp pw_X11_goes_64 dd_X11_goes_64b.2.2.2.1)).to, ?_⟩
  refine List.forall_mem_cons.mpr ⟨(s_aloadn (am_dp pw_X11_goes_64 dd_X11_goes_64b.2.2.2.2.1) rfl).to, ?_⟩
  refine List.forall_mem_cons.mpr ⟨(s_get (ci := 11) (k := 57) (am_dp pw_X11_goes_64 dd_X11_goes_64b.2.2.2.2.2.1) rfl (by decide) wd1390 inX11 rfl).to, ?_⟩
  refine List.forall_mem_cons.mpr ⟨(s_iload (am_dp pw_X11_goes_64 dd_X11_goes_64b.2.2.2.2.2.2.1)).to, ?_⟩
  refine List.forall_mem_cons.mpr ⟨(s_iald (am_dp pw_X11_goes_64 dd_X11_goes_64b.2.2.2.2.2.2.2)).to, ?_⟩
  refine List.forall_mem_cons.mpr ⟨(s_iconst (am_dp pw_X11_goes_64 dd_X11_goes_64c.1) (by decide)).to, ?_⟩
  refine List.forall_mem_cons.mpr ⟨(s_iadd (am_dp pw_X11_goes_64 dd_X11_goes_64c.2.1)).to, ?_⟩
  refine List.forall_mem_cons.mpr ⟨zw_cv236 (am_dp pw_X11_goes_64 dd_X11_goes_64c.2.2) wd1863, ?_⟩
  refine List.forall_mem_cons.mpr ⟨(s_aloadn (am_dp pw_X11_goes_96 dd_X11_goes_96a.1) rfl).to, ?_⟩
  refine List.forall_mem_cons.mpr ⟨(s_iloadn (am_dp pw_X11_goes_96 dd_X11_goes_96a.2.1) rfl).to, ?_⟩
  exact fun _ h => absurd h List.not_mem_nil
theorem sn_tX11_goes_1 : ∀ q ∈ tX11_goes_1, am_Snd am_P0 RX11 cX11_goes 7 (Option.none : Option FieldType) "goes" q.1 q.2 := by
  unfold tX11_goes_1
  refine List.forall_mem_cons.mpr ⟨(s_iload (am_dp pw_X11_goes_96 dd_X11_goes_96a.2.2.1)).to, ?_⟩
  refine List.forall_mem_cons.mpr ⟨(s_iconst (am_dp pw_X11_goes_96 dd_X11_goes_96a.2.2.2.1) (by decide)).to, ?_⟩
  refine List.forall_mem_cons.mpr ⟨(s_iadd (am_dp pw_X11_goes_96 dd_X11_goes_96a.2.2.2.2.1)).to, ?_⟩
  refine List.forall_mem_cons.mpr ⟨(s_iload (am_dp pw_X11_goes_96 dd_X11_goes_96a.2.2.2.2.2.1)).to, ?_⟩
  refine List.forall_mem_cons.mpr ⟨(s_aloadn (am_dp pw_X11_goes_96 dd_X11_goes_96a.2.2.2.2.2.2.1) rfl).to, ?_⟩
  refine List.forall_mem_cons.mpr ⟨(s_get (ci := 11) (k := 57) (am_dp pw_X11_goes_96 dd_X11_goes_96a.2.2.2.2.2.2.2) rfl (by decide) wd1390 inX11 rfl).to, ?_⟩
  refine List.forall_mem_cons.mpr ⟨(s_iload (am_dp pw_X11_goes_96 dd_X11_goes_96b.1)).to, ?_⟩
  refine List.forall_mem_cons.mpr ⟨(s_iald (am_dp pw_X11_goes_96 dd_X11_goes_96b.2.1)).to, ?_⟩
  refine List.forall_mem_cons.mpr ⟨(s_iconst (am_dp pw_X11_goes_96 dd_X11_goes_96b.2.2.1) (by decide)).to, ?_⟩
  refine List.forall_mem_cons.mpr ⟨(s_iadd (am_dp pw_X11_goes_96 dd_X11_goes_96b.2.2.2.1)).to, ?_⟩
  refine List.forall_mem_cons.mpr ⟨zw_cv236 (am_dp pw_X11_goes_96 dd_X11_goes_96b.2.2.2.2.1) wd1863, ?_⟩
  refine List.forall_mem_cons.mpr ⟨(s_aloadn (am_dp pw_X11_goes_96 dd_X11_goes_96b.2.2.2.2.2.1) rfl).to, ?_⟩
  refine List.forall_mem_cons.mpr ⟨(s_iloadn (am_dp pw_X11_goes_96 dd_X11_goes_96b.2.2.2.2.2.2.1) rfl).to, ?_⟩
  refine List.forall_mem_cons.mpr ⟨(s_iload (am_dp pw_X11_goes_96 dd_X11_goes_96b.2.2.2.2.2.2.2)).to, ?_⟩
  refine List.forall_mem_cons.mpr ⟨(s_iload (am_dp pw_X11_goes_96 dd_X11_goes_96c.1)).to, ?_⟩
  refine List.forall_mem_cons.mpr ⟨(s_iconst (am_dp pw_X11_goes_96 dd_X11_goes_96c.2.1) (by decide)).to, ?_⟩
  refine List.forall_mem_cons.mpr ⟨(s_isub (am_dp pw_X11_goes_96 dd_X11_goes_96c.2.2.1)).to, ?_⟩
  refine List.forall_mem_cons.mpr ⟨(s_aloadn (am_dp pw_X11_goes_96 dd_X11_goes_96c.2.2.2.1) rfl).to, ?_⟩
  refine List.forall_mem_cons.mpr ⟨(s_get (ci := 11) (k := 57) (am_dp pw_X11_goes_96 dd_X11_goes_96c.2.2.2.2) rfl (by decide) wd1390 inX11 rfl).to, ?_⟩
  refine List.forall_mem_cons.mpr ⟨(s_iload (am_dp pw_X11_goes_128 dd_X11_goes_128a.1)).to, ?_⟩
  refine List.forall_mem_cons.mpr ⟨(s_iald (am_dp pw_X11_goes_128 dd_X11_goes_128a.2.1)).to, ?_⟩
  refine List.forall_mem_cons.mpr ⟨(s_iconst (am_dp pw_X11_goes_128 dd_X11_goes_128a.2.2.1) (by decide)).to, ?_⟩
  refine List.forall_mem_cons.mpr ⟨(s_iadd (am_dp pw_X11_goes_128 dd_X11_goes_128a.2.2.2.1)).to, ?_⟩
  refine List.forall_mem_cons.mpr ⟨zw_cv236 (am_dp pw_X11_goes_128 dd_X11_goes_128a.2.2.2.2.1) wd1863, ?_⟩
  refine List.forall_mem_cons.mpr ⟨(s_aloadn (am_dp pw_X11_goes_128 dd_X11_goes_128a.2.2.2.2.2.1) rfl).to, ?_⟩
  refine List.forall_mem_cons.mpr ⟨(s_iloadn (am_dp pw_X11_goes_128 dd_X11_goes_128a.2.2.2.2.2.2.1) rfl).to, ?_⟩
  refine List.forall_mem_cons.mpr ⟨(s_iload (am_dp pw_X11_goes_128 dd_X11_goes_128a.2.2.2.2.2.2.2)).to, ?_⟩
  refine List.forall_mem_cons.mpr ⟨(s_iload (am_dp pw_X11_goes_128 dd_X11_goes_128b.1)).to, ?_⟩
  refine List.forall_mem_cons.mpr ⟨(s_iconst (am_dp pw_X11_goes_128 dd_X11_goes_128b.2.1) (by decide)).to, ?_⟩
  refine List.forall_mem_cons.mpr ⟨(s_iadd (am_dp pw_X11_goes_128 dd_X11_goes_128b.2.2.1)).to, ?_⟩
  refine List.forall_mem_cons.mpr ⟨(s_aloadn (am_dp pw_X11_goes_128 dd_X11_goes_128b.2.2.2.1) rfl).to, ?_⟩
  refine List.forall_mem_cons.mpr ⟨(s_get (ci := 11) (k := 57) (am_dp pw_X11_goes_128 dd_X11_goes_128b.2.2.2.2.1) rfl (by decide) wd1390 inX11 rfl).to, ?_⟩
  refine List.forall_mem_cons.mpr ⟨(s_iload (am_dp pw_X11_goes_128 dd_X11_goes_128b.2.2.2.2.2.1)).to, ?_⟩
  refine List.forall_mem_cons.mpr ⟨(s_iald (am_dp pw_X11_goes_128 dd_X11_goes_128b.2.2.2.2.2.2.1)).to, ?_⟩
  refine List.forall_mem_cons.mpr ⟨(s_iconst (am_dp pw_X11_goes_128 dd_X11_goes_128b.2.2.2.2.2.2.2) (by decide)).to, ?_⟩
  refine List.forall_mem_cons.mpr ⟨(s_iadd (am_dp pw_X11_goes_128 dd_X11_goes_128c.1)).to, ?_⟩
  refine List.forall_mem_cons.mpr ⟨zw_cv236 (am_dp pw_X11_goes_128 dd_X11_goes_128c.2.1) wd1863, ?_⟩
  refine List.forall_mem_cons.mpr ⟨(s_iinc (am_dp pw_X11_goes_128 dd_X11_goes_128c.2.2) (by decide) (by decide)).to, ?_⟩
  refine List.forall_mem_cons.mpr ⟨(s_goto (am_dp pw_X11_goes_160 dd_X11_goes_160a.1) (by decide)).to, ?_⟩
  refine List.forall_mem_cons.mpr ⟨s_vret (am_dp pw_X11_goes_160 dd_X11_goes_160a.2) rfl, ?_⟩
  exact fun _ h => absurd h List.not_mem_nil
theorem sn_tX11_goes : ∀ q ∈ tX11_goes, am_Snd am_P0 RX11 cX11_goes 7 (Option.none : Option FieldType) "goes" q.1 q.2 := by
  unfold tX11_goes
  exact List.forall_mem_append.mpr ⟨sn_tX11_goes_0, sn_tX11_goes_1⟩
theorem sn_tX11_hoursTo : ∀ q ∈ tX11_hoursTo, am_Snd am_P0 RX11 cX11_hoursTo 4 (Option.some FieldType.int) "hoursTo" q.1 q.2 := by
  unfold tX11_hoursTo
  refine List.forall_mem_cons.mpr ⟨(s_aloadn (am_dp pw_X11_hoursTo_0 dd_X11_hoursTo_0a.1) rfl).to, ?_⟩
  refine List.forall_mem_cons.mpr ⟨(s_get (ci := 11) (k := 22) (am_dp pw_X11_hoursTo_0 dd_X11_hoursTo_0a.2.1) rfl (by decide) wd1355 inX11 rfl).to, ?_⟩
  refine List.forall_mem_cons.mpr ⟨(s_bipush (am_dp pw_X11_hoursTo_0 dd_X11_hoursTo_0a.2.2.1) (by decide)).to, ?_⟩
  refine List.forall_mem_cons.mpr ⟨(s_aloadn (am_dp pw_X11_hoursTo_0 dd_X11_hoursTo_0a.2.2.2.1) rfl).to, ?_⟩
  refine List.forall_mem_cons.mpr ⟨(s_get (ci := 11) (k := 12) (am_dp pw_X11_hoursTo_0 dd_X11_hoursTo_0a.2.2.2.2.1) rfl (by decide) wd1345 inX11 rfl).to, ?_⟩
  refine List.forall_mem_cons.mpr ⟨(s_imul (am_dp pw_X11_hoursTo_0 dd_X11_hoursTo_0a.2.2.2.2.2.1)).to, ?_⟩
  refine List.forall_mem_cons.mpr ⟨(s_iloadn (am_dp pw_X11_hoursTo_0 dd_X11_hoursTo_0a.2.2.2.2.2.2.1) rfl).to, ?_⟩
  refine List.forall_mem_cons.mpr ⟨(s_iadd (am_dp pw_X11_hoursTo_0 dd_X11_hoursTo_0a.2.2.2.2.2.2.2)).to, ?_⟩
  refine List.forall_mem_cons.mpr ⟨(s_iald (am_dp pw_X11_hoursTo_0 dd_X11_hoursTo_0b.1)).to, ?_⟩
  refine List.forall_mem_cons.mpr ⟨(s_istoren (am_dp pw_X11_hoursTo_0 dd_X11_hoursTo_0b.2.1) rfl (by decide)).to, ?_⟩
  refine List.forall_mem_cons.mpr ⟨(s_aloadn (am_dp pw_X11_hoursTo_0 dd_X11_hoursTo_0b.2.2.1) rfl).to, ?_⟩
  refine List.forall_mem_cons.mpr ⟨(s_get (ci := 11) (k := 57) (am_dp pw_X11_hoursTo_0 dd_X11_hoursTo_0b.2.2.2.1) rfl (by decide) wd1390 inX11 rfl).to, ?_⟩
  refine List.forall_mem_cons.mpr ⟨(s_iloadn (am_dp pw_X11_hoursTo_0 dd_X11_hoursTo_0b.2.2.2.2.1) rfl).to, ?_⟩
  refine List.forall_mem_cons.mpr ⟨(s_iald (am_dp pw_X11_hoursTo_0 dd_X11_hoursTo_0b.2.2.2.2.2.1)).to, ?_⟩
  refine List.forall_mem_cons.mpr ⟨(s_iconst (am_dp pw_X11_hoursTo_0 dd_X11_hoursTo_0b.2.2.2.2.2.2.1) (by decide)).to, ?_⟩
  refine List.forall_mem_cons.mpr ⟨(s_icmp_ne (am_dp pw_X11_hoursTo_0 dd_X11_hoursTo_0b.2.2.2.2.2.2.2) (by decide)).to, ?_⟩
  refine List.forall_mem_cons.mpr ⟨(s_sipush (am_dp pw_X11_hoursTo_0 dd_X11_hoursTo_0c.1) (by decide)).to, ?_⟩
  refine List.forall_mem_cons.mpr ⟨(s_goto (am_dp pw_X11_hoursTo_0 dd_X11_hoursTo_0c.2.1) (by decide)).to, ?_⟩
  refine List.forall_mem_cons.mpr ⟨(s_aloadn (am_dp pw_X11_hoursTo_0 dd_X11_hoursTo_0c.2.2) rfl).to, ?_⟩
  refine List.forall_mem_cons.mpr ⟨(s_get (ci := 11) (k := 57) (am_dp pw_X11_hoursTo_32 dd_X11_hoursTo_32a.1) rfl (by decide) wd1390 inX11 rfl).to, ?_⟩
  refine List.forall_mem_cons.mpr ⟨(s_iloadn (am_dp pw_X11_hoursTo_32 dd_X11_hoursTo_32a.2.1) rfl).to, ?_⟩
  refine List.forall_mem_cons.mpr ⟨(s_iald (am_dp pw_X11_hoursTo_32 dd_X11_hoursTo_32a.2.2.1)).to, ?_⟩
  refine List.forall_mem_cons.mpr ⟨(s_iloadn (am_dp pw_X11_hoursTo_32 dd_X11_hoursTo_32a.2.2.2.1) rfl).to, ?_⟩
  refine List.forall_mem_cons.mpr ⟨(s_iadd (am_dp pw_X11_hoursTo_32 dd_X11_hoursTo_32a.2.2.2.2.1)).to, ?_⟩
  refine List.forall_mem_cons.mpr ⟨(s_iconst (am_dp pw_X11_hoursTo_32 dd_X11_hoursTo_32a.2.2.2.2.2.1) (by decide)).to, ?_⟩
  refine List.forall_mem_cons.mpr ⟨(s_isub (am_dp pw_X11_hoursTo_32 dd_X11_hoursTo_32a.2.2.2.2.2.2.1)).to, ?_⟩
  refine List.forall_mem_cons.mpr ⟨(s_iloadn (am_dp pw_X11_hoursTo_32 dd_X11_hoursTo_32a.2.2.2.2.2.2.2) rfl).to, ?_⟩
  refine List.forall_mem_cons.mpr ⟨(s_idiv (am_dp pw_X11_hoursTo_32 dd_X11_hoursTo_32b.1)).to, ?_⟩
  refine List.forall_mem_cons.mpr ⟨s_iret (am_dp pw_X11_hoursTo_32 dd_X11_hoursTo_32b.2) rfl, ?_⟩
  exact fun _ h => absurd h List.not_mem_nil
theorem sn_tX11_far : ∀ q ∈ tX11_far, am_Snd am_P0 RX11 cX11_far 7 (Option.some FieldType.int) "far" q.1 q.2 := by
  unfold tX11_far
  refine List.forall_mem_cons.mpr ⟨(s_aloadn (am_dp pw_X11_far_0 dd_X11_far_0a.1) rfl).to, ?_⟩
  refine List.forall_mem_cons.mpr ⟨(s_iloadn (am_dp pw_X11_far_0 dd_X11_far_0a.2.1) rfl).to, ?_⟩
  refine List.forall_mem_cons.mpr ⟨zw_cv220 (am_dp pw_X11_far_0 dd_X11_far_0a.2.2.1) wd1850, ?_⟩
  refine List.forall_mem_cons.mpr ⟨(s_if_eq (am_dp pw_X11_far_0 dd_X11_far_0a.2.2.2.1) (by decide)).to, ?_⟩
  refine List.forall_mem_cons.mpr ⟨(s_aloadn (am_dp pw_X11_far_0 dd_X11_far_0a.2.2.2.2.1) rfl).to, ?_⟩
  refine List.forall_mem_cons.mpr ⟨(s_iloadn (am_dp pw_X11_far_0 dd_X11_far_0a.2.2.2.2.2.1) rfl).to, ?_⟩
  refine List.forall_mem_cons.mpr ⟨(s_iloadn (am_dp pw_X11_far_0 dd_X11_far_0a.2.2.2.2.2.2.1) rfl).to, ?_⟩
  refine List.forall_mem_cons.mpr ⟨zw_cv217 (am_dp pw_X11_far_0 dd_X11_far_0a.2.2.2.2.2.2.2) wd1819, ?_⟩
  refine List.forall_mem_cons.mpr ⟨(s_if_eq (am_dp pw_X11_far_0 dd_X11_far_0b.1) (by decide)).to, ?_⟩
  refine List.forall_mem_cons.mpr ⟨(s_aloadn (am_dp pw_X11_far_0 dd_X11_far_0b.2.1) rfl).to, ?_⟩
  refine List.forall_mem_cons.mpr ⟨(s_iload (am_dp pw_X11_far_0 dd_X11_far_0b.2.2.1)).to, ?_⟩
  refine List.forall_mem_cons.mpr ⟨(s_iload (am_dp pw_X11_far_0 dd_X11_far_0b.2.2.2.1)).to, ?_⟩
  refine List.forall_mem_cons.mpr ⟨zw_cv217 (am_dp pw_X11_far_0 dd_X11_far_0b.2.2.2.2.1) wd1819, ?_⟩
  refine List.forall_mem_cons.mpr ⟨(s_if_ne (am_dp pw_X11_far_0 dd_X11_far_0b.2.2.2.2.2.1) (by decide)).to, ?_⟩
  refine List.forall_mem_cons.mpr ⟨(s_iconst (am_dp pw_X11_far_0 dd_X11_far_0b.2.2.2.2.2.2.1) (by decide)).to, ?_⟩
  refine List.forall_mem_cons.mpr ⟨s_iret (am_dp pw_X11_far_0 dd_X11_far_0b.2.2.2.2.2.2.2) rfl, ?_⟩
  refine List.forall_mem_cons.mpr ⟨(s_aloadn (am_dp pw_X11_far_0 dd_X11_far_0c.1) rfl).to, ?_⟩
  refine List.forall_mem_cons.mpr ⟨(s_iloadn (am_dp pw_X11_far_0 dd_X11_far_0c.2) rfl).to, ?_⟩
  refine List.forall_mem_cons.mpr ⟨(s_aloadn (am_dp pw_X11_far_32 dd_X11_far_32a.1) rfl).to, ?_⟩
  refine List.forall_mem_cons.mpr ⟨(s_iloadn (am_dp pw_X11_far_32 dd_X11_far_32a.2.1) rfl).to, ?_⟩
  refine List.forall_mem_cons.mpr ⟨(s_iloadn (am_dp pw_X11_far_32 dd_X11_far_32a.2.2.1) rfl).to, ?_⟩
  refine List.forall_mem_cons.mpr ⟨zw_cv218 (am_dp pw_X11_far_32 dd_X11_far_32a.2.2.2.1) wd1826, ?_⟩
  refine List.forall_mem_cons.mpr ⟨zw_cv237 (am_dp pw_X11_far_32 dd_X11_far_32a.2.2.2.2.1) wd1859, ?_⟩
  refine List.forall_mem_cons.mpr ⟨(s_aloadn (am_dp pw_X11_far_32 dd_X11_far_32a.2.2.2.2.2.1) rfl).to, ?_⟩
  refine List.forall_mem_cons.mpr ⟨(s_iloadn (am_dp pw_X11_far_32 dd_X11_far_32a.2.2.2.2.2.2.1) rfl).to, ?_⟩
  refine List.forall_mem_cons.mpr ⟨(s_aloadn (am_dp pw_X11_far_32 dd_X11_far_32a.2.2.2.2.2.2.2) rfl).to, ?_⟩
  refine List.forall_mem_cons.mpr ⟨(s_iload (am_dp pw_X11_far_32 dd_X11_far_32b.1)).to, ?_⟩
  refine List.forall_mem_cons.mpr ⟨(s_iload (am_dp pw_X11_far_32 dd_X11_far_32b.2.1)).to, ?_⟩
  refine List.forall_mem_cons.mpr ⟨zw_cv218 (am_dp pw_X11_far_32 dd_X11_far_32b.2.2.1) wd1826, ?_⟩
  refine List.forall_mem_cons.mpr ⟨zw_cv238 (am_dp pw_X11_far_32 dd_X11_far_32b.2.2.2.1) wd1871, ?_⟩
  refine List.forall_mem_cons.mpr ⟨(s_istore (am_dp pw_X11_far_32 dd_X11_far_32b.2.2.2.2.1) (by decide)).to, ?_⟩
  refine List.forall_mem_cons.mpr ⟨(s_iload (am_dp pw_X11_far_32 dd_X11_far_32b.2.2.2.2.2.1)).to, ?_⟩
  refine List.forall_mem_cons.mpr ⟨(s_sipush (am_dp pw_X11_far_32 dd_X11_far_32b.2.2.2.2.2.2.1) (by decide)).to, ?_⟩
  refine List.forall_mem_cons.mpr ⟨(s_icmp_ne (am_dp pw_X11_far_32 dd_X11_far_32b.2.2.2.2.2.2.2) (by decide)).to, ?_⟩
  refine List.forall_mem_cons.mpr ⟨(s_iconst (am_dp pw_X11_far_64 dd_X11_far_64a.1) (by decide)).to, ?_⟩
  refine List.forall_mem_cons.mpr ⟨(s_goto (am_dp pw_X11_far_64 dd_X11_far_64a.2.1) (by decide)).to, ?_⟩
  refine List.forall_mem_cons.mpr ⟨(s_iload (am_dp pw_X11_far_64 dd_X11_far_64a.2.2.1)).to, ?_⟩
  refine List.forall_mem_cons.mpr ⟨s_iret (am_dp pw_X11_far_64 dd_X11_far_64a.2.2.2) rfl, ?_⟩
  exact fun _ h => absurd h List.not_mem_nil
theorem sn_tX11_fact : ∀ q ∈ tX11_fact, am_Snd am_P0 RX11 cX11_fact 4 (Option.none : Option FieldType) "fact" q.1 q.2 := by
  unfold tX11_fact
  refine List.forall_mem_cons.mpr ⟨(s_aloadn (am_dp pw_X11_fact_0 dd_X11_fact_0a.1) rfl).to, ?_⟩
  refine List.forall_mem_cons.mpr ⟨(s_get (ci := 11) (k := 61) (am_dp pw_X11_fact_0 dd_X11_fact_0a.2.1) rfl (by decide) wd1394 inX11 rfl).to, ?_⟩
  refine List.forall_mem_cons.mpr ⟨(s_aloadn (am_dp pw_X11_fact_0 dd_X11_fact_0a.2.2.1) rfl).to, ?_⟩
  refine List.forall_mem_cons.mpr ⟨(s_get (ci := 11) (k := 60) (am_dp pw_X11_fact_0 dd_X11_fact_0a.2.2.2.1) rfl (by decide) wd1393 inX11 rfl).to, ?_⟩
  refine List.forall_mem_cons.mpr ⟨(s_iloadn (am_dp pw_X11_fact_0 dd_X11_fact_0a.2.2.2.2.1) rfl).to, ?_⟩
  refine List.forall_mem_cons.mpr ⟨(s_iast (am_dp pw_X11_fact_0 dd_X11_fact_0a.2.2.2.2.2.1)).to, ?_⟩
  refine List.forall_mem_cons.mpr ⟨(s_aloadn (am_dp pw_X11_fact_0 dd_X11_fact_0a.2.2.2.2.2.2.1) rfl).to, ?_⟩
  refine List.forall_mem_cons.mpr ⟨(s_get (ci := 11) (k := 62) (am_dp pw_X11_fact_0 dd_X11_fact_0a.2.2.2.2.2.2.2) rfl (by decide) wd1395 inX11 rfl).to, ?_⟩
  refine List.forall_mem_cons.mpr ⟨(s_aloadn (am_dp pw_X11_fact_0 dd_X11_fact_0b.1) rfl).to, ?_⟩
  refine List.forall_mem_cons.mpr ⟨(s_get (ci := 11) (k := 60) (am_dp pw_X11_fact_0 dd_X11_fact_0b.2.1) rfl (by decide) wd1393 inX11 rfl).to, ?_⟩
  refine List.forall_mem_cons.mpr ⟨(s_iloadn (am_dp pw_X11_fact_0 dd_X11_fact_0b.2.2.1) rfl).to, ?_⟩
  refine List.forall_mem_cons.mpr ⟨(s_iast (am_dp pw_X11_fact_0 dd_X11_fact_0b.2.2.2.1)).to, ?_⟩
  refine List.forall_mem_cons.mpr ⟨(s_aloadn (am_dp pw_X11_fact_0 dd_X11_fact_0b.2.2.2.2.1) rfl).to, ?_⟩
  refine List.forall_mem_cons.mpr ⟨(s_get (ci := 11) (k := 63) (am_dp pw_X11_fact_0 dd_X11_fact_0b.2.2.2.2.2.1) rfl (by decide) wd1396 inX11 rfl).to, ?_⟩
  refine List.forall_mem_cons.mpr ⟨(s_aloadn (am_dp pw_X11_fact_0 dd_X11_fact_0b.2.2.2.2.2.2.1) rfl).to, ?_⟩
  refine List.forall_mem_cons.mpr ⟨(s_get (ci := 11) (k := 60) (am_dp pw_X11_fact_0 dd_X11_fact_0b.2.2.2.2.2.2.2) rfl (by decide) wd1393 inX11 rfl).to, ?_⟩
  refine List.forall_mem_cons.mpr ⟨(s_iloadn (am_dp pw_X11_fact_0 dd_X11_fact_0c.1) rfl).to, ?_⟩
  refine List.forall_mem_cons.mpr ⟨(s_iast (am_dp pw_X11_fact_0 dd_X11_fact_0c.2.1)).to, ?_⟩
  refine List.forall_mem_cons.mpr ⟨(s_aloadn (am_dp pw_X11_fact_0 dd_X11_fact_0c.2.2.1) rfl).to, ?_⟩
  refine List.forall_mem_cons.mpr ⟨(s_dup (am_dp pw_X11_fact_0 dd_X11_fact_0c.2.2.2)).to, ?_⟩
  refine List.forall_mem_cons.mpr ⟨(s_get (ci := 11) (k := 60) (am_dp pw_X11_fact_32 dd_X11_fact_32a.1) rfl (by decide) wd1393 inX11 rfl).to, ?_⟩
  refine List.forall_mem_cons.mpr ⟨(s_iconst (am_dp pw_X11_fact_32 dd_X11_fact_32a.2.1) (by decide)).to, ?_⟩
  refine List.forall_mem_cons.mpr ⟨(s_iadd (am_dp pw_X11_fact_32 dd_X11_fact_32a.2.2.1)).to, ?_⟩
  refine List.forall_mem_cons.mpr ⟨(s_put (ci := 11) (k := 60) (am_dp pw_X11_fact_32 dd_X11_fact_32a.2.2.2.1) rfl (by decide) wd1393 inX11 tyX11_ok nmX11 rfl rfl).to, ?_⟩
  refine List.forall_mem_cons.mpr ⟨s_vret (am_dp pw_X11_fact_32 dd_X11_fact_32a.2.2.2.2) rfl, ?_⟩
  exact fun _ h => absurd h List.not_mem_nil
theorem sn_tX11_addBooks : ∀ q ∈ tX11_addBooks, am_Snd am_P0 RX11 cX11_addBooks 3 (Option.none : Option FieldType) "addBooks" q.1 q.2 := by
  unfold tX11_addBooks
  refine List.forall_mem_cons.mpr ⟨(s_bipush (am_dp pw_X11_addBooks_0 dd_X11_addBooks_0a.1) (by decide)).to, ?_⟩
  refine List.forall_mem_cons.mpr ⟨(s_aloadn (am_dp pw_X11_addBooks_0 dd_X11_addBooks_0a.2.1) rfl).to, ?_⟩
  refine List.forall_mem_cons.mpr ⟨(s_get (ci := 11) (k := 12) (am_dp pw_X11_addBooks_0 dd_X11_addBooks_0a.2.2.1) rfl (by decide) wd1345 inX11 rfl).to, ?_⟩
  refine List.forall_mem_cons.mpr ⟨(s_imul (am_dp pw_X11_addBooks_0 dd_X11_addBooks_0a.2.2.2.1)).to, ?_⟩
  refine List.forall_mem_cons.mpr ⟨(s_istoren (am_dp pw_X11_addBooks_0 dd_X11_addBooks_0a.2.2.2.2.1) rfl (by decide)).to, ?_⟩
  refine List.forall_mem_cons.mpr ⟨(s_iloadn (am_dp pw_X11_addBooks_0 dd_X11_addBooks_0a.2.2.2.2.2.1) rfl).to, ?_⟩
  refine List.forall_mem_cons.mpr ⟨(s_bipush (am_dp pw_X11_addBooks_0 dd_X11_addBooks_0a.2.2.2.2.2.2.1) (by decide)).to, ?_⟩
  refine List.forall_mem_cons.mpr ⟨(s_aloadn (am_dp pw_X11_addBooks_0 dd_X11_addBooks_0a.2.2.2.2.2.2.2) rfl).to, ?_⟩
  refine List.forall_mem_cons.mpr ⟨(s_get (ci := 11) (k := 12) (am_dp pw_X11_addBooks_0 dd_X11_addBooks_0b.1) rfl (by decide) wd1345 inX11 rfl).to, ?_⟩
  refine List.forall_mem_cons.mpr ⟨(s_imul (am_dp pw_X11_addBooks_0 dd_X11_addBooks_0b.2.1)).to, ?_⟩
  refine List.forall_mem_cons.mpr ⟨(s_aloadn (am_dp pw_X11_addBooks_0 dd_X11_addBooks_0b.2.2.1) rfl).to, ?_⟩
  refine List.forall_mem_cons.mpr ⟨(s_get (ci := 11) (k := 28) (am_dp pw_X11_addBooks_0 dd_X11_addBooks_0b.2.2.2.1) rfl (by decide) wd1361 inX11 rfl).to, ?_⟩
  refine List.forall_mem_cons.mpr ⟨(s_aloadn (am_dp pw_X11_addBooks_0 dd_X11_addBooks_0b.2.2.2.2.1) rfl).to, ?_⟩
  refine List.forall_mem_cons.mpr ⟨(s_get (ci := 11) (k := 12) (am_dp pw_X11_addBooks_0 dd_X11_addBooks_0b.2.2.2.2.2.1) rfl (by decide) wd1345 inX11 rfl).to, ?_⟩
  refine List.forall_mem_cons.mpr ⟨(s_iald (am_dp pw_X11_addBooks_0 dd_X11_addBooks_0b.2.2.2.2.2.2.1)).to, ?_⟩
  refine List.forall_mem_cons.mpr ⟨(s_iadd (am_dp pw_X11_addBooks_0 dd_X11_addBooks_0b.2.2.2.2.2.2.2)).to, ?_⟩
  refine List.forall_mem_cons.mpr ⟨(s_icmp_ge (am_dp pw_X11_addBooks_0 dd_X11_addBooks_0c.1) (by decide)).to, ?_⟩
  refine List.forall_mem_cons.mpr ⟨(s_aloadn (am_dp pw_X11_addBooks_0 dd_X11_addBooks_0c.2.1) rfl).to, ?_⟩
  refine List.forall_mem_cons.mpr ⟨(s_get (ci := 11) (k := 29) (am_dp pw_X11_addBooks_0 dd_X11_addBooks_0c.2.2) rfl (by decide) wd1362 inX11 rfl).to, ?_⟩
  refine List.forall_mem_cons.mpr ⟨(s_iloadn (am_dp pw_X11_addBooks_32 dd_X11_addBooks_32a.1) rfl).to, ?_⟩
  refine List.forall_mem_cons.mpr ⟨(s_iald (am_dp pw_X11_addBooks_32 dd_X11_addBooks_32a.2.1)).to, ?_⟩
  refine List.forall_mem_cons.mpr ⟨(s_iloadn (am_dp pw_X11_addBooks_32 dd_X11_addBooks_32a.2.2.1) rfl).to, ?_⟩
  refine List.forall_mem_cons.mpr ⟨(s_icmp_ne (am_dp pw_X11_addBooks_32 dd_X11_addBooks_32a.2.2.2.1) (by decide)).to, ?_⟩
  refine List.forall_mem_cons.mpr ⟨(s_aloadn (am_dp pw_X11_addBooks_32 dd_X11_addBooks_32a.2.2.2.2.1) rfl).to, ?_⟩
  refine List.forall_mem_cons.mpr ⟨(s_aloadn (am_dp pw_X11_addBooks_32 dd_X11_addBooks_32a.2.2.2.2.2.1) rfl).to, ?_⟩
  refine List.forall_mem_cons.mpr ⟨(s_get (ci := 11) (k := 30) (am_dp pw_X11_addBooks_32 dd_X11_addBooks_32a.2.2.2.2.2.2.1) rfl (by decide) wd1363 inX11 rfl).to, ?_⟩
  refine List.forall_mem_cons.mpr ⟨(s_iloadn (am_dp pw_X11_addBooks_32 dd_X11_addBooks_32a.2.2.2.2.2.2.2) rfl).to, ?_⟩
  refine List.forall_mem_cons.mpr ⟨(s_iald (am_dp pw_X11_addBooks_32 dd_X11_addBooks_32b.1)).to, ?_⟩
  refine List.forall_mem_cons.mpr ⟨(s_aloadn (am_dp pw_X11_addBooks_32 dd_X11_addBooks_32b.2.1) rfl).to, ?_⟩
  refine List.forall_mem_cons.mpr ⟨(s_get (ci := 11) (k := 31) (am_dp pw_X11_addBooks_32 dd_X11_addBooks_32b.2.2.1) rfl (by decide) wd1364 inX11 rfl).to, ?_⟩
  refine List.forall_mem_cons.mpr ⟨(s_iloadn (am_dp pw_X11_addBooks_32 dd_X11_addBooks_32b.2.2.2.1) rfl).to, ?_⟩
  refine List.forall_mem_cons.mpr ⟨(s_iald (am_dp pw_X11_addBooks_32 dd_X11_addBooks_32b.2.2.2.2.1)).to, ?_⟩
  refine List.forall_mem_cons.mpr ⟨(s_aloadn (am_dp pw_X11_addBooks_32 dd_X11_addBooks_32b.2.2.2.2.2.1) rfl).to, ?_⟩
  refine List.forall_mem_cons.mpr ⟨(s_get (ci := 11) (k := 32) (am_dp pw_X11_addBooks_32 dd_X11_addBooks_32b.2.2.2.2.2.2.1) rfl (by decide) wd1365 inX11 rfl).to, ?_⟩
  refine List.forall_mem_cons.mpr ⟨(s_iloadn (am_dp pw_X11_addBooks_32 dd_X11_addBooks_32b.2.2.2.2.2.2.2) rfl).to, ?_⟩
  refine List.forall_mem_cons.mpr ⟨(s_iald (am_dp pw_X11_addBooks_32 dd_X11_addBooks_32c.1)).to, ?_⟩
  refine List.forall_mem_cons.mpr ⟨zw_cv240 (am_dp pw_X11_addBooks_32 dd_X11_addBooks_32c.2.1) wd1891, ?_⟩
  refine List.forall_mem_cons.mpr ⟨(s_iinc (am_dp pw_X11_addBooks_32 dd_X11_addBooks_32c.2.2) (by decide) (by decide)).to, ?_⟩
  refine List.forall_mem_cons.mpr ⟨(s_goto (am_dp pw_X11_addBooks_64 dd_X11_addBooks_64a.1) (by decide)).to, ?_⟩
  refine List.forall_mem_cons.mpr ⟨s_vret (am_dp pw_X11_addBooks_64 dd_X11_addBooks_64a.2) rfl, ?_⟩
  exact fun _ h => absurd h List.not_mem_nil
theorem sn_tX11_addSayings : ∀ q ∈ tX11_addSayings, am_Snd am_P0 RX11 cX11_addSayings 6 (Option.some FieldType.boolean) "addSayings" q.1 q.2 := by
  unfold tX11_addSayings
  refine List.forall_mem_cons.mpr ⟨(s_iconst (am_dp pw_X11_addSayings_0 dd_X11_addSayings_0a.1) (by decide)).to, ?_⟩
  refine List.forall_mem_cons.mpr ⟨(s_istore (am_dp pw_X11_addSayings_0 dd_X11_addSayings_0a.2.1) (by decide)).to, ?_⟩
  refine List.forall_mem_cons.mpr ⟨(s_iconst (am_dp pw_X11_addSayings_0 dd_X11_addSayings_0a.2.2.1) (by decide)).to, ?_⟩
  refine List.forall_mem_cons.mpr ⟨(s_istore (am_dp pw_X11_addSayings_0 dd_X11_addSayings_0a.2.2.2.1) (by decide)).to, ?_⟩
  refine List.forall_mem_cons.mpr ⟨(s_iload (am_dp pw_X11_addSayings_0 dd_X11_addSayings_0a.2.2.2.2.1)).to, ?_⟩
  refine List.forall_mem_cons.mpr ⟨(s_bipush (am_dp pw_X11_addSayings_0 dd_X11_addSayings_0a.2.2.2.2.2.1) (by decide)).to, ?_⟩
  refine List.forall_mem_cons.mpr ⟨(s_icmp_ge (am_dp pw_X11_addSayings_0 dd_X11_addSayings_0a.2.2.2.2.2.2.1) (by decide)).to, ?_⟩
  refine List.forall_mem_cons.mpr ⟨(s_aloadn (am_dp pw_X11_addSayings_0 dd_X11_addSayings_0a.2.2.2.2.2.2.2) rfl).to, ?_⟩
  refine List.forall_mem_cons.mpr ⟨(s_iloadn (am_dp pw_X11_addSayings_0 dd_X11_addSayings_0b.1) rfl).to, ?_⟩
  refine List.forall_mem_cons.mpr ⟨(s_iload (am_dp pw_X11_addSayings_0 dd_X11_addSayings_0b.2.1)).to, ?_⟩
  refine List.forall_mem_cons.mpr ⟨zw_cv226 (am_dp pw_X11_addSayings_0 dd_X11_addSayings_0b.2.2.1) wd1842, ?_⟩
  refine List.forall_mem_cons.mpr ⟨(s_iconst (am_dp pw_X11_addSayings_0 dd_X11_addSayings_0b.2.2.2.1) (by decide)).to, ?_⟩
  refine List.forall_mem_cons.mpr ⟨(s_icmp_eq (am_dp pw_X11_addSayings_0 dd_X11_addSayings_0b.2.2.2.2.1) (by decide)).to, ?_⟩
  refine List.forall_mem_cons.mpr ⟨(s_iload (am_dp pw_X11_addSayings_0 dd_X11_addSayings_0b.2.2.2.2.2.1)).to, ?_⟩
  refine List.forall_mem_cons.mpr ⟨(s_iloadn (am_dp pw_X11_addSayings_0 dd_X11_addSayings_0b.2.2.2.2.2.2.1) rfl).to, ?_⟩
  refine List.forall_mem_cons.mpr ⟨(s_iadd (am_dp pw_X11_addSayings_0 dd_X11_addSayings_0b.2.2.2.2.2.2.2)).to, ?_⟩
  refine List.forall_mem_cons.mpr ⟨zw_cs219 (am_dp pw_X11_addSayings_0 dd_X11_addSayings_0c.1) wd1823, ?_⟩
  refine List.forall_mem_cons.mpr ⟨(s_if_ne (am_dp pw_X11_addSayings_0 dd_X11_addSayings_0c.2) (by decide)).to, ?_⟩
  refine List.forall_mem_cons.mpr ⟨(s_goto (am_dp pw_X11_addSayings_32 dd_X11_addSayings_32a.1) (by decide)).to, ?_⟩
  refine List.forall_mem_cons.mpr ⟨(s_aloadn (am_dp pw_X11_addSayings_32 dd_X11_addSayings_32a.2.1) rfl).to, ?_⟩
  refine List.forall_mem_cons.mpr ⟨(s_aloadn (am_dp pw_X11_addSayings_32 dd_X11_addSayings_32a.2.2.1) rfl).to, ?_⟩
  refine List.forall_mem_cons.mpr ⟨(s_iloadn (am_dp pw_X11_addSayings_32 dd_X11_addSayings_32a.2.2.2.1) rfl).to, ?_⟩
  refine List.forall_mem_cons.mpr ⟨(s_iload (am_dp pw_X11_addSayings_32 dd_X11_addSayings_32a.2.2.2.2.1)).to, ?_⟩
  refine List.forall_mem_cons.mpr ⟨zw_cv226 (am_dp pw_X11_addSayings_32 dd_X11_addSayings_32a.2.2.2.2.2.1) wd1842, ?_⟩
  refine List.forall_mem_cons.mpr ⟨(s_iload (am_dp pw_X11_addSayings_32 dd_X11_addSayings_32a.2.2.2.2.2.2.1)).to, ?_⟩
  refine List.forall_mem_cons.mpr ⟨(s_iloadn (am_dp pw_X11_addSayings_32 dd_X11_addSayings_32a.2.2.2.2.2.2.2) rfl).to, ?_⟩
  refine List.forall_mem_cons.mpr ⟨(s_iadd (am_dp pw_X11_addSayings_32 dd_X11_addSayings_32b.1)).to, ?_⟩
  refine List.forall_mem_cons.mpr ⟨(s_iload (am_dp pw_X11_addSayings_32 dd_X11_addSayings_32b.2.1)).to, ?_⟩
  refine List.forall_mem_cons.mpr ⟨(s_iloadn (am_dp pw_X11_addSayings_32 dd_X11_addSayings_32b.2.2.1) rfl).to, ?_⟩
  refine List.forall_mem_cons.mpr ⟨(s_iadd (am_dp pw_X11_addSayings_32 dd_X11_addSayings_32b.2.2.2.1)).to, ?_⟩
  refine List.forall_mem_cons.mpr ⟨zw_cv240 (am_dp pw_X11_addSayings_32 dd_X11_addSayings_32b.2.2.2.2.1) wd1891, ?_⟩
  refine List.forall_mem_cons.mpr ⟨(s_iload (am_dp pw_X11_addSayings_32 dd_X11_addSayings_32b.2.2.2.2.2.1)).to, ?_⟩
  refine List.forall_mem_cons.mpr ⟨(s_if_eq (am_dp pw_X11_addSayings_32 dd_X11_addSayings_32b.2.2.2.2.2.2.1) (by decide)).to, ?_⟩
  refine List.forall_mem_cons.mpr ⟨(s_aloadn (am_dp pw_X11_addSayings_32 dd_X11_addSayings_32b.2.2.2.2.2.2.2) rfl).to, ?_⟩
  refine List.forall_mem_cons.mpr ⟨(s_iloadn (am_dp pw_X11_addSayings_32 dd_X11_addSayings_32c.1) rfl).to, ?_⟩
  refine List.forall_mem_cons.mpr ⟨(s_aloadn (am_dp pw_X11_addSayings_32 dd_X11_addSayings_32c.2) rfl).to, ?_⟩
  refine List.forall_mem_cons.mpr ⟨(s_iloadn (am_dp pw_X11_addSayings_64 dd_X11_addSayings_64a.1) rfl).to, ?_⟩
  refine List.forall_mem_cons.mpr ⟨(s_iload (am_dp pw_X11_addSayings_64 dd_X11_addSayings_64a.2.1)).to, ?_⟩
  refine List.forall_mem_cons.mpr ⟨zw_cv226 (am_dp pw_X11_addSayings_64 dd_X11_addSayings_64a.2.2.1) wd1842, ?_⟩
  refine List.forall_mem_cons.mpr ⟨(s_aloadn (am_dp pw_X11_addSayings_64 dd_X11_addSayings_64a.2.2.2.1) rfl).to, ?_⟩
  refine List.forall_mem_cons.mpr ⟨(s_iloadn (am_dp pw_X11_addSayings_64 dd_X11_addSayings_64a.2.2.2.2.1) rfl).to, ?_⟩
  refine List.forall_mem_cons.mpr ⟨(s_iload (am_dp pw_X11_addSayings_64 dd_X11_addSayings_64a.2.2.2.2.2.1)).to, ?_⟩
  refine List.forall_mem_cons.mpr ⟨zw_cv227 (am_dp pw_X11_addSayings_64 dd_X11_addSayings_64a.2.2.2.2.2.2.1) wd1910, ?_⟩
  refine List.forall_mem_cons.mpr ⟨zw_cv235 (am_dp pw_X11_addSayings_64 dd_X11_addSayings_64a.2.2.2.2.2.2.2) wd1914, ?_⟩
  refine List.forall_mem_cons.mpr ⟨(s_if_eq (am_dp pw_X11_addSayings_64 dd_X11_addSayings_64b.1) (by decide)).to, ?_⟩
  refine List.forall_mem_cons.mpr ⟨(s_iconst (am_dp pw_X11_addSayings_64 dd_X11_addSayings_64b.2.1) (by decide)).to, ?_⟩
  refine List.forall_mem_cons.mpr ⟨(s_goto (am_dp pw_X11_addSayings_64 dd_X11_addSayings_64b.2.2.1) (by decide)).to, ?_⟩
  refine List.forall_mem_cons.mpr ⟨(s_iconst (am_dp pw_X11_addSayings_64 dd_X11_addSayings_64b.2.2.2.1) (by decide)).to, ?_⟩
  refine List.forall_mem_cons.mpr ⟨(s_istore (am_dp pw_X11_addSayings_64 dd_X11_addSayings_64b.2.2.2.2.1) (by decide)).to, ?_⟩
  refine List.forall_mem_cons.mpr ⟨(s_iinc (am_dp pw_X11_addSayings_64 dd_X11_addSayings_64b.2.2.2.2.2.1) (by decide) (by decide)).to, ?_⟩
  refine List.forall_mem_cons.mpr ⟨(s_goto (am_dp pw_X11_addSayings_64 dd_X11_addSayings_64b.2.2.2.2.2.2) (by decide)).to, ?_⟩
  refine List.forall_mem_cons.mpr ⟨(s_iload (am_dp pw_X11_addSayings_96 dd_X11_addSayings_96a.1)).to, ?_⟩
  refine List.forall_mem_cons.mpr ⟨s_zret (am_dp pw_X11_addSayings_96 dd_X11_addSayings_96a.2) rfl, ?_⟩
  exact fun _ h => absurd h List.not_mem_nil
theorem sn_tX11_between : ∀ q ∈ tX11_between, am_Snd am_P0 RX11 cX11_between 4 (Option.some FieldType.int) "between" q.1 q.2 := by
  unfold tX11_between
  refine List.forall_mem_cons.mpr ⟨(s_iloadn (am_dp pw_X11_between_0 dd_X11_between_0a.1) rfl).to, ?_⟩
  refine List.forall_mem_cons.mpr ⟨(s_iloadn (am_dp pw_X11_between_0 dd_X11_between_0a.2.1) rfl).to, ?_⟩
  refine List.forall_mem_cons.mpr ⟨(s_icmp_le (am_dp pw_X11_between_0 dd_X11_between_0a.2.2.1) (by decide)).to, ?_⟩
  refine List.forall_mem_cons.mpr ⟨(s_iloadn (am_dp pw_X11_between_0 dd_X11_between_0a.2.2.2.1) rfl).to, ?_⟩
  refine List.forall_mem_cons.mpr ⟨(s_iloadn (am_dp pw_X11_between_0 dd_X11_between_0a.2.2.2.2.1) rfl).to, ?_⟩
  refine List.forall_mem_cons.mpr ⟨(s_isub (am_dp pw_X11_between_0 dd_X11_between_0a.2.2.2.2.2.1)).to, ?_⟩
  refine List.forall_mem_cons.mpr ⟨(s_goto (am_dp pw_X11_between_0 dd_X11_between_0a.2.2.2.2.2.2.1) (by decide)).to, ?_⟩
  refine List.forall_mem_cons.mpr ⟨(s_iloadn (am_dp pw_X11_between_0 dd_X11_between_0a.2.2.2.2.2.2.2) rfl).to, ?_⟩
  refine List.forall_mem_cons.mpr ⟨(s_iloadn (am_dp pw_X11_between_0 dd_X11_between_0b.1) rfl).to, ?_⟩
  refine List.forall_mem_cons.mpr ⟨(s_icmp_le (am_dp pw_X11_between_0 dd_X11_between_0b.2.1) (by decide)).to, ?_⟩
  refine List.forall_mem_cons.mpr ⟨(s_iloadn (am_dp pw_X11_between_0 dd_X11_between_0b.2.2.1) rfl).to, ?_⟩
  refine List.forall_mem_cons.mpr ⟨(s_iloadn (am_dp pw_X11_between_0 dd_X11_between_0b.2.2.2.1) rfl).to, ?_⟩
  refine List.forall_mem_cons.mpr ⟨(s_isub (am_dp pw_X11_between_0 dd_X11_between_0b.2.2.2.2.1)).to, ?_⟩
  refine List.forall_mem_cons.mpr ⟨(s_goto (am_dp pw_X11_between_0 dd_X11_between_0b.2.2.2.2.2.1) (by decide)).to, ?_⟩
  refine List.forall_mem_cons.mpr ⟨(s_iconst (am_dp pw_X11_between_0 dd_X11_between_0b.2.2.2.2.2.2.1) (by decide)).to, ?_⟩
  refine List.forall_mem_cons.mpr ⟨s_iret (am_dp pw_X11_between_0 dd_X11_between_0b.2.2.2.2.2.2.2) rfl, ?_⟩
  exact fun _ h => absurd h List.not_mem_nil
theorem sn_tX11_fit : ∀ q ∈ tX11_fit, am_Snd am_P0 RX11 cX11_fit 4 (Option.some FieldType.boolean) "fit" q.1 q.2 := by
  unfold tX11_fit
  refine List.forall_mem_cons.mpr ⟨(s_iconst (am_dp pw_X11_fit_0 dd_X11_fit_0a.1) (by decide)).to, ?_⟩
  refine List.forall_mem_cons.mpr ⟨(s_istoren (am_dp pw_X11_fit_0 dd_X11_fit_0a.2.1) rfl (by decide)).to, ?_⟩
  refine List.forall_mem_cons.mpr ⟨(s_iloadn (am_dp pw_X11_fit_0 dd_X11_fit_0a.2.2.1) rfl).to, ?_⟩
  refine List.forall_mem_cons.mpr ⟨(s_aloadn (am_dp pw_X11_fit_0 dd_X11_fit_0a.2.2.2.1) rfl).to, ?_⟩
  refine List.forall_mem_cons.mpr ⟨(s_get (ci := 11) (k := 60) (am_dp pw_X11_fit_0 dd_X11_fit_0a.2.2.2.2.1) rfl (by decide) wd1393 inX11 rfl).to, ?_⟩
  refine List.forall_mem_cons.mpr ⟨(s_icmp_ge (am_dp pw_X11_fit_0 dd_X11_fit_0a.2.2.2.2.2.1) (by decide)).to, ?_⟩
  refine List.forall_mem_cons.mpr ⟨(s_aloadn (am_dp pw_X11_fit_0 dd_X11_fit_0a.2.2.2.2.2.2.1) rfl).to, ?_⟩
  refine List.forall_mem_cons.mpr ⟨(s_iloadn (am_dp pw_X11_fit_0 dd_X11_fit_0a.2.2.2.2.2.2.2) rfl).to, ?_⟩
  refine List.forall_mem_cons.mpr ⟨(s_aloadn (am_dp pw_X11_fit_0 dd_X11_fit_0b.1) rfl).to, ?_⟩
  refine List.forall_mem_cons.mpr ⟨(s_get (ci := 11) (k := 61) (am_dp pw_X11_fit_0 dd_X11_fit_0b.2.1) rfl (by decide) wd1394 inX11 rfl).to, ?_⟩
  refine List.forall_mem_cons.mpr ⟨(s_iloadn (am_dp pw_X11_fit_0 dd_X11_fit_0b.2.2.1) rfl).to, ?_⟩
  refine List.forall_mem_cons.mpr ⟨(s_iald (am_dp pw_X11_fit_0 dd_X11_fit_0b.2.2.2.1)).to, ?_⟩
  refine List.forall_mem_cons.mpr ⟨zw_cv237 (am_dp pw_X11_fit_0 dd_X11_fit_0b.2.2.2.2.1) wd1859, ?_⟩
  refine List.forall_mem_cons.mpr ⟨(s_iconst (am_dp pw_X11_fit_0 dd_X11_fit_0b.2.2.2.2.2.1) (by decide)).to, ?_⟩
  refine List.forall_mem_cons.mpr ⟨(s_istoren (am_dp pw_X11_fit_0 dd_X11_fit_0b.2.2.2.2.2.2.1) rfl (by decide)).to, ?_⟩
  refine List.forall_mem_cons.mpr ⟨(s_iloadn (am_dp pw_X11_fit_0 dd_X11_fit_0b.2.2.2.2.2.2.2) rfl).to, ?_⟩
  refine List.forall_mem_cons.mpr ⟨(s_aloadn (am_dp pw_X11_fit_0 dd_X11_fit_0c.1) rfl).to, ?_⟩
  refine List.forall_mem_cons.mpr ⟨(s_get (ci := 11) (k := 60) (am_dp pw_X11_fit_0 dd_X11_fit_0c.2.1) rfl (by decide) wd1393 inX11 rfl).to, ?_⟩
  refine List.forall_mem_cons.mpr ⟨(s_icmp_ge (am_dp pw_X11_fit_0 dd_X11_fit_0c.2.2.1) (by decide)).to, ?_⟩
  refine List.forall_mem_cons.mpr ⟨(s_aloadn (am_dp pw_X11_fit_0 dd_X11_fit_0c.2.2.2) rfl).to, ?_⟩
  refine List.forall_mem_cons.mpr ⟨(s_iloadn (am_dp pw_X11_fit_32 dd_X11_fit_32a.1) rfl).to, ?_⟩
  refine List.forall_mem_cons.mpr ⟨(s_aloadn (am_dp pw_X11_fit_32 dd_X11_fit_32a.2.1) rfl).to, ?_⟩
  refine List.forall_mem_cons.mpr ⟨(s_get (ci := 11) (k := 61) (am_dp pw_X11_fit_32 dd_X11_fit_32a.2.2.1) rfl (by decide) wd1394 inX11 rfl).to, ?_⟩
  refine List.forall_mem_cons.mpr ⟨(s_iloadn (am_dp pw_X11_fit_32 dd_X11_fit_32a.2.2.2.1) rfl).to, ?_⟩
  refine List.forall_mem_cons.mpr ⟨(s_iald (am_dp pw_X11_fit_32 dd_X11_fit_32a.2.2.2.2.1)).to, ?_⟩
  refine List.forall_mem_cons.mpr ⟨zw_cv238 (am_dp pw_X11_fit_32 dd_X11_fit_32a.2.2.2.2.2.1) wd1871, ?_⟩
  refine List.forall_mem_cons.mpr ⟨(s_aloadn (am_dp pw_X11_fit_32 dd_X11_fit_32a.2.2.2.2.2.2.1) rfl).to, ?_⟩
  refine List.forall_mem_cons.mpr ⟨(s_get (ci := 11) (k := 62) (am_dp pw_X11_fit_32 dd_X11_fit_32a.2.2.2.2.2.2.2) rfl (by decide) wd1395 inX11 rfl).to, ?_⟩
  refine List.forall_mem_cons.mpr ⟨(s_iloadn (am_dp pw_X11_fit_32 dd_X11_fit_32b.1) rfl).to, ?_⟩
  refine List.forall_mem_cons.mpr ⟨(s_iald (am_dp pw_X11_fit_32 dd_X11_fit_32b.2.1)).to, ?_⟩
  refine List.forall_mem_cons.mpr ⟨(s_aloadn (am_dp pw_X11_fit_32 dd_X11_fit_32b.2.2.1) rfl).to, ?_⟩
  refine List.forall_mem_cons.mpr ⟨(s_get (ci := 11) (k := 63) (am_dp pw_X11_fit_32 dd_X11_fit_32b.2.2.2.1) rfl (by decide) wd1396 inX11 rfl).to, ?_⟩
  refine List.forall_mem_cons.mpr ⟨(s_iloadn (am_dp pw_X11_fit_32 dd_X11_fit_32b.2.2.2.2.1) rfl).to, ?_⟩
  refine List.forall_mem_cons.mpr ⟨(s_iald (am_dp pw_X11_fit_32 dd_X11_fit_32b.2.2.2.2.2.1)).to, ?_⟩
  refine List.forall_mem_cons.mpr ⟨(s_aloadn (am_dp pw_X11_fit_32 dd_X11_fit_32b.2.2.2.2.2.2.1) rfl).to, ?_⟩
  refine List.forall_mem_cons.mpr ⟨(s_get (ci := 11) (k := 62) (am_dp pw_X11_fit_32 dd_X11_fit_32b.2.2.2.2.2.2.2) rfl (by decide) wd1395 inX11 rfl).to, ?_⟩
  refine List.forall_mem_cons.mpr ⟨(s_iloadn (am_dp pw_X11_fit_32 dd_X11_fit_32c.1) rfl).to, ?_⟩
  refine List.forall_mem_cons.mpr ⟨(s_iald (am_dp pw_X11_fit_32 dd_X11_fit_32c.2.1)).to, ?_⟩
  refine List.forall_mem_cons.mpr ⟨(s_aloadn (am_dp pw_X11_fit_32 dd_X11_fit_32c.2.2.1) rfl).to, ?_⟩
  refine List.forall_mem_cons.mpr ⟨(s_get (ci := 11) (k := 63) (am_dp pw_X11_fit_32 dd_X11_fit_32c.2.2.2) rfl (by decide) wd1396 inX11 rfl).to, ?_⟩
  refine List.forall_mem_cons.mpr ⟨(s_iloadn (am_dp pw_X11_fit_64 dd_X11_fit_64a.1) rfl).to, ?_⟩
  refine List.forall_mem_cons.mpr ⟨(s_iald (am_dp pw_X11_fit_64 dd_X11_fit_64a.2.1)).to, ?_⟩
  refine List.forall_mem_cons.mpr ⟨zw_cs243 (am_dp pw_X11_fit_64 dd_X11_fit_64a.2.2.1) wd1899, ?_⟩
  refine List.forall_mem_cons.mpr ⟨(s_icmp_le (am_dp pw_X11_fit_64 dd_X11_fit_64a.2.2.2.1) (by decide)).to, ?_⟩
  refine List.forall_mem_cons.mpr ⟨(s_iconst (am_dp pw_X11_fit_64 dd_X11_fit_64a.2.2.2.2.1) (by decide)).to, ?_⟩
  refine List.forall_mem_cons.mpr ⟨s_zret (am_dp pw_X11_fit_64 dd_X11_fit_64a.2.2.2.2.2.1) rfl, ?_⟩
  refine List.forall_mem_cons.mpr ⟨(s_iinc (am_dp pw_X11_fit_64 dd_X11_fit_64a.2.2.2.2.2.2.1) (by decide) (by decide)).to, ?_⟩
  refine List.forall_mem_cons.mpr ⟨(s_goto (am_dp pw_X11_fit_64 dd_X11_fit_64a.2.2.2.2.2.2.2) (by decide)).to, ?_⟩
  refine List.forall_mem_cons.mpr ⟨(s_iinc (am_dp pw_X11_fit_64 dd_X11_fit_64b.1) (by decide) (by decide)).to, ?_⟩
  refine List.forall_mem_cons.mpr ⟨(s_goto (am_dp pw_X11_fit_64 dd_X11_fit_64b.2.1) (by decide)).to, ?_⟩
  refine List.forall_mem_cons.mpr ⟨(s_iconst (am_dp pw_X11_fit_64 dd_X11_fit_64b.2.2.1) (by decide)).to, ?_⟩
  refine List.forall_mem_cons.mpr ⟨s_zret (am_dp pw_X11_fit_64 dd_X11_fit_64b.2.2.2) rfl, ?_⟩
  exact fun _ h => absurd h List.not_mem_nil
theorem sn_tX11_booksFit : ∀ q ∈ tX11_booksFit, am_Snd am_P0 RX11 cX11_booksFit 2 (Option.some FieldType.boolean) "booksFit" q.1 q.2 := by
  unfold tX11_booksFit
  refine List.forall_mem_cons.mpr ⟨(s_aloadn (am_dp pw_X11_booksFit_0 dd_X11_booksFit_0a.1) rfl).to, ?_⟩
  refine List.forall_mem_cons.mpr ⟨(s_iconst (am_dp pw_X11_booksFit_0 dd_X11_booksFit_0a.2.1) (by decide)).to, ?_⟩
  refine List.forall_mem_cons.mpr ⟨(s_put (ci := 11) (k := 60) (am_dp pw_X11_booksFit_0 dd_X11_booksFit_0a.2.2.1) rfl (by decide) wd1393 inX11 tyX11_ok nmX11 rfl rfl).to, ?_⟩
  refine List.forall_mem_cons.mpr ⟨(s_aloadn (am_dp pw_X11_booksFit_0 dd_X11_booksFit_0a.2.2.2.1) rfl).to, ?_⟩
  refine List.forall_mem_cons.mpr ⟨(s_iloadn (am_dp pw_X11_booksFit_0 dd_X11_booksFit_0a.2.2.2.2.1) rfl).to, ?_⟩
  refine List.forall_mem_cons.mpr ⟨zw_cv241 (am_dp pw_X11_booksFit_0 dd_X11_booksFit_0a.2.2.2.2.2.1) wd1887, ?_⟩
  refine List.forall_mem_cons.mpr ⟨(s_aloadn (am_dp pw_X11_booksFit_0 dd_X11_booksFit_0a.2.2.2.2.2.2.1) rfl).to, ?_⟩
  refine List.forall_mem_cons.mpr ⟨(s_iloadn (am_dp pw_X11_booksFit_0 dd_X11_booksFit_0a.2.2.2.2.2.2.2) rfl).to, ?_⟩
  refine List.forall_mem_cons.mpr ⟨zw_cv244 (am_dp pw_X11_booksFit_0 dd_X11_booksFit_0b.1) wd1895, ?_⟩
  refine List.forall_mem_cons.mpr ⟨s_zret (am_dp pw_X11_booksFit_0 dd_X11_booksFit_0b.2) rfl, ?_⟩
  exact fun _ h => absurd h List.not_mem_nil
theorem sn_tX11_withBooks : ∀ q ∈ tX11_withBooks, am_Snd am_P0 RX11 cX11_withBooks 5 (Option.some FieldType.boolean) "withBooks" q.1 q.2 := by
  unfold tX11_withBooks
  refine List.forall_mem_cons.mpr ⟨(s_aloadn (am_dp pw_X11_withBooks_0 dd_X11_withBooks_0a.1) rfl).to, ?_⟩
  refine List.forall_mem_cons.mpr ⟨(s_iloadn (am_dp pw_X11_withBooks_0 dd_X11_withBooks_0a.2.1) rfl).to, ?_⟩
  refine List.forall_mem_cons.mpr ⟨(s_iloadn (am_dp pw_X11_withBooks_0 dd_X11_withBooks_0a.2.2.1) rfl).to, ?_⟩
  refine List.forall_mem_cons.mpr ⟨zw_cv237 (am_dp pw_X11_withBooks_0 dd_X11_withBooks_0a.2.2.2.1) wd1859, ?_⟩
  refine List.forall_mem_cons.mpr ⟨(s_bipush (am_dp pw_X11_withBooks_0 dd_X11_withBooks_0a.2.2.2.2.1) (by decide)).to, ?_⟩
  refine List.forall_mem_cons.mpr ⟨(s_aloadn (am_dp pw_X11_withBooks_0 dd_X11_withBooks_0a.2.2.2.2.2.1) rfl).to, ?_⟩
  refine List.forall_mem_cons.mpr ⟨(s_get (ci := 11) (k := 12) (am_dp pw_X11_withBooks_0 dd_X11_withBooks_0a.2.2.2.2.2.2.1) rfl (by decide) wd1345 inX11 rfl).to, ?_⟩
  refine List.forall_mem_cons.mpr ⟨(s_imul (am_dp pw_X11_withBooks_0 dd_X11_withBooks_0a.2.2.2.2.2.2.2)).to, ?_⟩
  refine List.forall_mem_cons.mpr ⟨(s_istore (am_dp pw_X11_withBooks_0 dd_X11_withBooks_0b.1) (by decide)).to, ?_⟩
  refine List.forall_mem_cons.mpr ⟨(s_iload (am_dp pw_X11_withBooks_0 dd_X11_withBooks_0b.2.1)).to, ?_⟩
  refine List.forall_mem_cons.mpr ⟨(s_bipush (am_dp pw_X11_withBooks_0 dd_X11_withBooks_0b.2.2.1) (by decide)).to, ?_⟩
  refine List.forall_mem_cons.mpr ⟨(s_aloadn (am_dp pw_X11_withBooks_0 dd_X11_withBooks_0b.2.2.2.1) rfl).to, ?_⟩
  refine List.forall_mem_cons.mpr ⟨(s_get (ci := 11) (k := 12) (am_dp pw_X11_withBooks_0 dd_X11_withBooks_0b.2.2.2.2.1) rfl (by decide) wd1345 inX11 rfl).to, ?_⟩
  refine List.forall_mem_cons.mpr ⟨(s_imul (am_dp pw_X11_withBooks_0 dd_X11_withBooks_0b.2.2.2.2.2.1)).to, ?_⟩
  refine List.forall_mem_cons.mpr ⟨(s_aloadn (am_dp pw_X11_withBooks_0 dd_X11_withBooks_0b.2.2.2.2.2.2.1) rfl).to, ?_⟩
  refine List.forall_mem_cons.mpr ⟨(s_get (ci := 11) (k := 28) (am_dp pw_X11_withBooks_0 dd_X11_withBooks_0b.2.2.2.2.2.2.2) rfl (by decide) wd1361 inX11 rfl).to, ?_⟩
  refine List.forall_mem_cons.mpr ⟨(s_aloadn (am_dp pw_X11_withBooks_0 dd_X11_withBooks_0c.1) rfl).to, ?_⟩
  refine List.forall_mem_cons.mpr ⟨(s_get (ci := 11) (k := 12) (am_dp pw_X11_withBooks_0 dd_X11_withBooks_0c.2) rfl (by decide) wd1345 inX11 rfl).to, ?_⟩
  refine List.forall_mem_cons.mpr ⟨(s_iald (am_dp pw_X11_withBooks_32 dd_X11_withBooks_32a.1)).to, ?_⟩
  refine List.forall_mem_cons.mpr ⟨(s_iadd (am_dp pw_X11_withBooks_32 dd_X11_withBooks_32a.2.1)).to, ?_⟩
  refine List.forall_mem_cons.mpr ⟨(s_icmp_ge (am_dp pw_X11_withBooks_32 dd_X11_withBooks_32a.2.2.1) (by decide)).to, ?_⟩
  refine List.forall_mem_cons.mpr ⟨(s_aloadn (am_dp pw_X11_withBooks_32 dd_X11_withBooks_32a.2.2.2.1) rfl).to, ?_⟩
  refine List.forall_mem_cons.mpr ⟨(s_get (ci := 11) (k := 29) (am_dp pw_X11_withBooks_32 dd_X11_withBooks_32a.2.2.2.2.1) rfl (by decide) wd1362 inX11 rfl).to, ?_⟩
  refine List.forall_mem_cons.mpr ⟨(s_iload (am_dp pw_X11_withBooks_32 dd_X11_withBooks_32a.2.2.2.2.2.1)).to, ?_⟩
  refine List.forall_mem_cons.mpr ⟨(s_iald (am_dp pw_X11_withBooks_32 dd_X11_withBooks_32a.2.2.2.2.2.2.1)).to, ?_⟩
  refine List.forall_mem_cons.mpr ⟨(s_iloadn (am_dp pw_X11_withBooks_32 dd_X11_withBooks_32a.2.2.2.2.2.2.2) rfl).to, ?_⟩
  refine List.forall_mem_cons.mpr ⟨(s_icmp_ne (am_dp pw_X11_withBooks_32 dd_X11_withBooks_32b.1) (by decide)).to, ?_⟩
  refine List.forall_mem_cons.mpr ⟨(s_aloadn (am_dp pw_X11_withBooks_32 dd_X11_withBooks_32b.2.1) rfl).to, ?_⟩
  refine List.forall_mem_cons.mpr ⟨(s_iloadn (am_dp pw_X11_withBooks_32 dd_X11_withBooks_32b.2.2.1) rfl).to, ?_⟩
  refine List.forall_mem_cons.mpr ⟨(s_aloadn (am_dp pw_X11_withBooks_32 dd_X11_withBooks_32b.2.2.2.1) rfl).to, ?_⟩
  refine List.forall_mem_cons.mpr ⟨(s_get (ci := 11) (k := 30) (am_dp pw_X11_withBooks_32 dd_X11_withBooks_32b.2.2.2.2.1) rfl (by decide) wd1363 inX11 rfl).to, ?_⟩
  refine List.forall_mem_cons.mpr ⟨(s_iload (am_dp pw_X11_withBooks_32 dd_X11_withBooks_32b.2.2.2.2.2.1)).to, ?_⟩
  refine List.forall_mem_cons.mpr ⟨(s_iald (am_dp pw_X11_withBooks_32 dd_X11_withBooks_32b.2.2.2.2.2.2.1)).to, ?_⟩
  refine List.forall_mem_cons.mpr ⟨zw_cv238 (am_dp pw_X11_withBooks_32 dd_X11_withBooks_32b.2.2.2.2.2.2.2) wd1871, ?_⟩
  refine List.forall_mem_cons.mpr ⟨(s_iloadn (am_dp pw_X11_withBooks_32 dd_X11_withBooks_32c.1) rfl).to, ?_⟩
  refine List.forall_mem_cons.mpr ⟨(s_iloadn (am_dp pw_X11_withBooks_32 dd_X11_withBooks_32c.2.1) rfl).to, ?_⟩
  refine List.forall_mem_cons.mpr ⟨(s_aloadn (am_dp pw_X11_withBooks_32 dd_X11_withBooks_32c.2.2.1) rfl).to, ?_⟩
  refine List.forall_mem_cons.mpr ⟨(s_get (ci := 11) (k := 31) (am_dp pw_X11_withBooks_32 dd_X11_withBooks_32c.2.2.2) rfl (by decide) wd1364 inX11 rfl).to, ?_⟩
  refine List.forall_mem_cons.mpr ⟨(s_iload (am_dp pw_X11_withBooks_64 dd_X11_withBooks_64a.1)).to, ?_⟩
  refine List.forall_mem_cons.mpr ⟨(s_iald (am_dp pw_X11_withBooks_64 dd_X11_withBooks_64a.2.1)).to, ?_⟩
  refine List.forall_mem_cons.mpr ⟨(s_aloadn (am_dp pw_X11_withBooks_64 dd_X11_withBooks_64a.2.2.1) rfl).to, ?_⟩
  refine List.forall_mem_cons.mpr ⟨(s_get (ci := 11) (k := 32) (am_dp pw_X11_withBooks_64 dd_X11_withBooks_64a.2.2.2.1) rfl (by decide) wd1365 inX11 rfl).to, ?_⟩
  refine List.forall_mem_cons.mpr ⟨(s_iload (am_dp pw_X11_withBooks_64 dd_X11_withBooks_64a.2.2.2.2.1)).to, ?_⟩
  refine List.forall_mem_cons.mpr ⟨(s_iald (am_dp pw_X11_withBooks_64 dd_X11_withBooks_64a.2.2.2.2.2.1)).to, ?_⟩
  refine List.forall_mem_cons.mpr ⟨zw_cs243 (am_dp pw_X11_withBooks_64 dd_X11_withBooks_64a.2.2.2.2.2.2.1) wd1899, ?_⟩
  refine List.forall_mem_cons.mpr ⟨(s_icmp_le (am_dp pw_X11_withBooks_64 dd_X11_withBooks_64a.2.2.2.2.2.2.2) (by decide)).to, ?_⟩
  refine List.forall_mem_cons.mpr ⟨(s_iconst (am_dp pw_X11_withBooks_64 dd_X11_withBooks_64b.1) (by decide)).to, ?_⟩
  refine List.forall_mem_cons.mpr ⟨s_zret (am_dp pw_X11_withBooks_64 dd_X11_withBooks_64b.2.1) rfl, ?_⟩
  refine List.forall_mem_cons.mpr ⟨(s_iinc (am_dp pw_X11_withBooks_64 dd_X11_withBooks_64b.2.2.1) (by decide) (by decide)).to, ?_⟩
  refine List.forall_mem_cons.mpr ⟨(s_goto (am_dp pw_X11_withBooks_64 dd_X11_withBooks_64b.2.2.2.1) (by decide)).to, ?_⟩
  refine List.forall_mem_cons.mpr ⟨(s_iconst (am_dp pw_X11_withBooks_64 dd_X11_withBooks_64b.2.2.2.2.1) (by decide)).to, ?_⟩
  refine List.forall_mem_cons.mpr ⟨s_zret (am_dp pw_X11_withBooks_64 dd_X11_withBooks_64b.2.2.2.2.2) rfl, ?_⟩
  exact fun _ h => absurd h List.not_mem_nil
theorem sn_tX11_pairs_0 : ∀ q ∈ tX11_pairs_0, am_Snd am_P0 RX11 cX11_pairs 5 (Option.none : Option FieldType) "pairs" q.1 q.2 := by
  unfold tX11_pairs_0
  refine List.forall_mem_cons.mpr ⟨(s_aloadn (am_dp pw_X11_pairs_0 dd_X11_pairs_0a.1) rfl).to, ?_⟩
  refine List.forall_mem_cons.mpr ⟨(s_iconst (am_dp pw_X11_pairs_0 dd_X11_pairs_0a.2.1) (by decide)).to, ?_⟩
  refine List.forall_mem_cons.mpr ⟨(s_put (ci := 11) (k := 65) (am_dp pw_X11_pairs_0 dd_X11_pairs_0a.2.2.1) rfl (by decide) wd1398 inX11 tyX11_ok nmX11 rfl rfl).to, ?_⟩
  refine List.forall_mem_cons.mpr ⟨(s_iconst (am_dp pw_X11_pairs_0 dd_X11_pairs_0a.2.2.2.1) (by decide)).to, ?_⟩
  refine List.forall_mem_cons.mpr ⟨(s_istoren (am_dp pw_X11_pairs_0 dd_X11_pairs_0a.2.2.2.2.1) rfl (by decide)).to, ?_⟩
  refine List.forall_mem_cons.mpr ⟨(s_iloadn (am_dp pw_X11_pairs_0 dd_X11_pairs_0a.2.2.2.2.2.1) rfl).to, ?_⟩
  refine List.forall_mem_cons.mpr ⟨(s_bipush (am_dp pw_X11_pairs_0 dd_X11_pairs_0a.2.2.2.2.2.2.1) (by decide)).to, ?_⟩
  refine List.forall_mem_cons.mpr ⟨(s_icmp_ge (am_dp pw_X11_pairs_0 dd_X11_pairs_0a.2.2.2.2.2.2.2) (by decide)).to, ?_⟩
  refine List.forall_mem_cons.mpr ⟨(s_aloadn (am_dp pw_X11_pairs_0 dd_X11_pairs_0b.1) rfl).to, ?_⟩
  refine List.forall_mem_cons.mpr ⟨(s_iloadn (am_dp pw_X11_pairs_0 dd_X11_pairs_0b.2.1) rfl).to, ?_⟩
  refine List.forall_mem_cons.mpr ⟨(s_iloadn (am_dp pw_X11_pairs_0 dd_X11_pairs_0b.2.2.1) rfl).to, ?_⟩
  refine List.forall_mem_cons.mpr ⟨zw_cv226 (am_dp pw_X11_pairs_0 dd_X11_pairs_0b.2.2.2.1) wd1842, ?_⟩
  refine List.forall_mem_cons.mpr ⟨(s_iconst (am_dp pw_X11_pairs_0 dd_X11_pairs_0b.2.2.2.2.1) (by decide)).to, ?_⟩
  refine List.forall_mem_cons.mpr ⟨(s_icmp_ne (am_dp pw_X11_pairs_0 dd_X11_pairs_0b.2.2.2.2.2.1) (by decide)).to, ?_⟩
  refine List.forall_mem_cons.mpr ⟨(s_goto (am_dp pw_X11_pairs_0 dd_X11_pairs_0b.2.2.2.2.2.2.1) (by decide)).to, ?_⟩
  refine List.forall_mem_cons.mpr ⟨(s_aloadn (am_dp pw_X11_pairs_0 dd_X11_pairs_0b.2.2.2.2.2.2.2) rfl).to, ?_⟩
  refine List.forall_mem_cons.mpr ⟨(s_get (ci := 11) (k := 67) (am_dp pw_X11_pairs_0 dd_X11_pairs_0c.1) rfl (by decide) wd1400 inX11 rfl).to, ?_⟩
  refine List.forall_mem_cons.mpr ⟨(s_aloadn (am_dp pw_X11_pairs_0 dd_X11_pairs_0c.2.1) rfl).to, ?_⟩
  refine List.forall_mem_cons.mpr ⟨(s_get (ci := 11) (k := 65) (am_dp pw_X11_pairs_0 dd_X11_pairs_0c.2.2) rfl (by decide) wd1398 inX11 rfl).to, ?_⟩
  refine List.forall_mem_cons.mpr ⟨(s_iloadn (am_dp pw_X11_pairs_32 dd_X11_pairs_32a.1) rfl).to, ?_⟩
  refine List.forall_mem_cons.mpr ⟨(s_iast (am_dp pw_X11_pairs_32 dd_X11_pairs_32a.2.1)).to, ?_⟩
  refine List.forall_mem_cons.mpr ⟨(s_aloadn (am_dp pw_X11_pairs_32 dd_X11_pairs_32a.2.2.1) rfl).to, ?_⟩
  refine List.forall_mem_cons.mpr ⟨(s_dup (am_dp pw_X11_pairs_32 dd_X11_pairs_32a.2.2.2.1)).to, ?_⟩
  refine List.forall_mem_cons.mpr ⟨(s_get (ci := 11) (k := 65) (am_dp pw_X11_pairs_32 dd_X11_pairs_32a.2.2.2.2.1) rfl (by decide) wd1398 inX11 rfl).to, ?_⟩
  refine List.forall_mem_cons.mpr ⟨(s_iconst (am_dp pw_X11_pairs_32 dd_X11_pairs_32a.2.2.2.2.2.1) (by decide)).to, ?_⟩
  refine List.forall_mem_cons.mpr ⟨(s_iadd (am_dp pw_X11_pairs_32 dd_X11_pairs_32a.2.2.2.2.2.2.1)).to, ?_⟩
  refine List.forall_mem_cons.mpr ⟨(s_put (ci := 11) (k := 65) (am_dp pw_X11_pairs_32 dd_X11_pairs_32a.2.2.2.2.2.2.2) rfl (by decide) wd1398 inX11 tyX11_ok nmX11 rfl rfl).to, ?_⟩
  refine List.forall_mem_cons.mpr ⟨(s_iinc (am_dp pw_X11_pairs_32 dd_X11_pairs_32b.1) (by decide) (by decide)).to, ?_⟩
  refine List.forall_mem_cons.mpr ⟨(s_goto (am_dp pw_X11_pairs_32 dd_X11_pairs_32b.2.1) (by decide)).to, ?_⟩
  refine List.forall_mem_cons.mpr ⟨(s_iconst (am_dp pw_X11_pairs_32 dd_X11_pairs_32b.2.2.1) (by decide)).to, ?_⟩
  refine List.forall_mem_cons.mpr ⟨(s_istoren (am_dp pw_X11_pairs_32 dd_X11_pairs_32b.2.2.2.1) rfl (by decide)).to, ?_⟩
  refine List.forall_mem_cons.mpr ⟨(s_iloadn (am_dp pw_X11_pairs_32 dd_X11_pairs_32b.2.2.2.2.1) rfl).to, ?_⟩
  refine List.forall_mem_cons.mpr ⟨(s_aloadn (am_dp pw_X11_pairs_32 dd_X11_pairs_32b.2.2.2.2.2.1) rfl).to, ?_⟩
  refine List.forall_mem_cons.mpr ⟨(s_get (ci := 11) (k := 65) (am_dp pw_X11_pairs_32 dd_X11_pairs_32b.2.2.2.2.2.2.1) rfl (by decide) wd1398 inX11 rfl).to, ?_⟩
  refine List.forall_mem_cons.mpr ⟨(s_icmp_ge (am_dp pw_X11_pairs_32 dd_X11_pairs_32b.2.2.2.2.2.2.2) (by decide)).to, ?_⟩
  refine List.forall_mem_cons.mpr ⟨(s_aloadn (am_dp pw_X11_pairs_32 dd_X11_pairs_32c.1) rfl).to, ?_⟩
  refine List.forall_mem_cons.mpr ⟨(s_iloadn (am_dp pw_X11_pairs_32 dd_X11_pairs_32c.2) rfl).to, ?_⟩
  refine List.forall_mem_cons.mpr ⟨(s_aloadn (am_dp pw_X11_pairs_64 dd_X11_pairs_64a.1) rfl).to, ?_⟩
  refine List.forall_mem_cons.mpr ⟨(s_get (ci := 11) (k := 67) (am_dp pw_X11_pairs_64 dd_X11_pairs_64a.2.1) rfl (by decide) wd1400 inX11 rfl).to, ?_⟩
  refine List.forall_mem_cons.mpr ⟨(s_iloadn (am_dp pw_X11_pairs_64 dd_X11_pairs_64a.2.2.1) rfl).to, ?_⟩
  refine List.forall_mem_cons.mpr ⟨(s_iald (am_dp pw_X11_pairs_64 dd_X11_pairs_64a.2.2.2.1)).to, ?_⟩
  refine List.forall_mem_cons.mpr ⟨zw_cv226 (am_dp pw_X11_pairs_64 dd_X11_pairs_64a.2.2.2.2.1) wd1842, ?_⟩
  refine List.forall_mem_cons.mpr ⟨(s_istoren (am_dp pw_X11_pairs_64 dd_X11_pairs_64a.2.2.2.2.2.1) rfl (by decide)).to, ?_⟩
  refine List.forall_mem_cons.mpr ⟨(s_aloadn (am_dp pw_X11_pairs_64 dd_X11_pairs_64a.2.2.2.2.2.2.1) rfl).to, ?_⟩
  refine List.forall_mem_cons.mpr ⟨(s_get (ci := 11) (k := 68) (am_dp pw_X11_pairs_64 dd_X11_pairs_64a.2.2.2.2.2.2.2) rfl (by decide) wd1401 inX11 rfl).to, ?_⟩
  refine List.forall_mem_cons.mpr ⟨(s_iloadn (am_dp pw_X11_pairs_64 dd_X11_pairs_64b.1) rfl).to, ?_⟩
  refine List.forall_mem_cons.mpr ⟨(s_aloadn (am_dp pw_X11_pairs_64 dd_X11_pairs_64b.2.1) rfl).to, ?_⟩
  refine List.forall_mem_cons.mpr ⟨(s_iloadn (am_dp pw_X11_pairs_64 dd_X11_pairs_64b.2.2.1) rfl).to, ?_⟩
  refine List.forall_mem_cons.mpr ⟨(s_iloadn (am_dp pw_X11_pairs_64 dd_X11_pairs_64b.2.2.2.1) rfl).to, ?_⟩
  refine List.forall_mem_cons.mpr ⟨(s_aloadn (am_dp pw_X11_pairs_64 dd_X11_pairs_64b.2.2.2.2.1) rfl).to, ?_⟩
  refine List.forall_mem_cons.mpr ⟨(s_iloadn (am_dp pw_X11_pairs_64 dd_X11_pairs_64b.2.2.2.2.2.1) rfl).to, ?_⟩
  refine List.forall_mem_cons.mpr ⟨(s_aloadn (am_dp pw_X11_pairs_64 dd_X11_pairs_64b.2.2.2.2.2.2.1) rfl).to, ?_⟩
  refine List.forall_mem_cons.mpr ⟨(s_get (ci := 11) (k := 67) (am_dp pw_X11_pairs_64 dd_X11_pairs_64b.2.2.2.2.2.2.2) rfl (by decide) wd1400 inX11 rfl).to, ?_⟩
  refine List.forall_mem_cons.mpr ⟨(s_iloadn (am_dp pw_X11_pairs_64 dd_X11_pairs_64c.1) rfl).to, ?_⟩
  refine List.forall_mem_cons.mpr ⟨(s_iald (am_dp pw_X11_pairs_64 dd_X11_pairs_64c.2.1)).to, ?_⟩
  refine List.forall_mem_cons.mpr ⟨zw_cv227 (am_dp pw_X11_pairs_64 dd_X11_pairs_64c.2.2.1) wd1910, ?_⟩
  refine List.forall_mem_cons.mpr ⟨zw_cv235 (am_dp pw_X11_pairs_64 dd_X11_pairs_64c.2.2.2) wd1914, ?_⟩
  refine List.forall_mem_cons.mpr ⟨(s_if_eq (am_dp pw_X11_pairs_96 dd_X11_pairs_96a.1) (by decide)).to, ?_⟩
  refine List.forall_mem_cons.mpr ⟨(s_aloadn (am_dp pw_X11_pairs_96 dd_X11_pairs_96a.2.1) rfl).to, ?_⟩
  refine List.forall_mem_cons.mpr ⟨(s_iloadn (am_dp pw_X11_pairs_96 dd_X11_pairs_96a.2.2.1) rfl).to, ?_⟩
  exact fun _ h => absurd h List.not_mem_nil
theorem sn_tX11_pairs_1 : ∀ q ∈ tX11_pairs_1, am_Snd am_P0 RX11 cX11_pairs 5 (Option.none : Option FieldType) "pairs" q.1 q.2 := by
  unfold tX11_pairs_1
  refine List.forall_mem_cons.mpr ⟨(s_iloadn (am_dp pw_X11_pairs_96 dd_X11_pairs_96a.2.2.2.1) rfl).to, ?_⟩
  refine List.forall_mem_cons.mpr ⟨(s_aloadn (am_dp pw_X11_pairs_96 dd_X11_pairs_96a.2.2.2.2.1) rfl).to, ?_⟩
  refine List.forall_mem_cons.mpr ⟨(s_get (ci := 11) (k := 67) (am_dp pw_X11_pairs_96 dd_X11_pairs_96a.2.2.2.2.2.1) rfl (by decide) wd1400 inX11 rfl).to, ?_⟩
  refine List.forall_mem_cons.mpr ⟨(s_iloadn (am_dp pw_X11_pairs_96 dd_X11_pairs_96a.2.2.2.2.2.2.1) rfl).to, ?_⟩
  refine List.forall_mem_cons.mpr ⟨(s_iald (am_dp pw_X11_pairs_96 dd_X11_pairs_96a.2.2.2.2.2.2.2)).to, ?_⟩
  refine List.forall_mem_cons.mpr ⟨zw_cv246 (am_dp pw_X11_pairs_96 dd_X11_pairs_96b.1) wd1918, ?_⟩
  refine List.forall_mem_cons.mpr ⟨(s_if_eq (am_dp pw_X11_pairs_96 dd_X11_pairs_96b.2.1) (by decide)).to, ?_⟩
  refine List.forall_mem_cons.mpr ⟨(s_iconst (am_dp pw_X11_pairs_96 dd_X11_pairs_96b.2.2.1) (by decide)).to, ?_⟩
  refine List.forall_mem_cons.mpr ⟨(s_goto (am_dp pw_X11_pairs_96 dd_X11_pairs_96b.2.2.2.1) (by decide)).to, ?_⟩
  refine List.forall_mem_cons.mpr ⟨(s_iconst (am_dp pw_X11_pairs_96 dd_X11_pairs_96b.2.2.2.2.1) (by decide)).to, ?_⟩
  refine List.forall_mem_cons.mpr ⟨(s_zast (am_dp pw_X11_pairs_96 dd_X11_pairs_96b.2.2.2.2.2.1)).to, ?_⟩
  refine List.forall_mem_cons.mpr ⟨(s_aloadn (am_dp pw_X11_pairs_96 dd_X11_pairs_96b.2.2.2.2.2.2.1) rfl).to, ?_⟩
  refine List.forall_mem_cons.mpr ⟨(s_iloadn (am_dp pw_X11_pairs_96 dd_X11_pairs_96b.2.2.2.2.2.2.2) rfl).to, ?_⟩
  refine List.forall_mem_cons.mpr ⟨(s_iloadn (am_dp pw_X11_pairs_96 dd_X11_pairs_96c.1) rfl).to, ?_⟩
  refine List.forall_mem_cons.mpr ⟨zw_cv237 (am_dp pw_X11_pairs_96 dd_X11_pairs_96c.2.1) wd1859, ?_⟩
  refine List.forall_mem_cons.mpr ⟨(s_iconst (am_dp pw_X11_pairs_96 dd_X11_pairs_96c.2.2.1) (by decide)).to, ?_⟩
  refine List.forall_mem_cons.mpr ⟨(s_istore (am_dp pw_X11_pairs_96 dd_X11_pairs_96c.2.2.2) (by decide)).to, ?_⟩
  refine List.forall_mem_cons.mpr ⟨(s_iload (am_dp pw_X11_pairs_128 dd_X11_pairs_128a.1)).to, ?_⟩
  refine List.forall_mem_cons.mpr ⟨(s_aloadn (am_dp pw_X11_pairs_128 dd_X11_pairs_128a.2.1) rfl).to, ?_⟩
  refine List.forall_mem_cons.mpr ⟨(s_get (ci := 11) (k := 65) (am_dp pw_X11_pairs_128 dd_X11_pairs_128a.2.2.1) rfl (by decide) wd1398 inX11 rfl).to, ?_⟩
  refine List.forall_mem_cons.mpr ⟨(s_icmp_ge (am_dp pw_X11_pairs_128 dd_X11_pairs_128a.2.2.2.1) (by decide)).to, ?_⟩
  refine List.forall_mem_cons.mpr ⟨(s_aloadn (am_dp pw_X11_pairs_128 dd_X11_pairs_128a.2.2.2.2.1) rfl).to, ?_⟩
  refine List.forall_mem_cons.mpr ⟨(s_get (ci := 11) (k := 70) (am_dp pw_X11_pairs_128 dd_X11_pairs_128a.2.2.2.2.2.1) rfl (by decide) wd1403 inX11 rfl).to, ?_⟩
  refine List.forall_mem_cons.mpr ⟨(s_bipush (am_dp pw_X11_pairs_128 dd_X11_pairs_128a.2.2.2.2.2.2.1) (by decide)).to, ?_⟩
  refine List.forall_mem_cons.mpr ⟨(s_iloadn (am_dp pw_X11_pairs_128 dd_X11_pairs_128a.2.2.2.2.2.2.2) rfl).to, ?_⟩
  refine List.forall_mem_cons.mpr ⟨(s_imul (am_dp pw_X11_pairs_128 dd_X11_pairs_128b.1)).to, ?_⟩
  refine List.forall_mem_cons.mpr ⟨(s_iload (am_dp pw_X11_pairs_128 dd_X11_pairs_128b.2.1)).to, ?_⟩
  refine List.forall_mem_cons.mpr ⟨(s_iadd (am_dp pw_X11_pairs_128 dd_X11_pairs_128b.2.2.1)).to, ?_⟩
  refine List.forall_mem_cons.mpr ⟨(s_aloadn (am_dp pw_X11_pairs_128 dd_X11_pairs_128b.2.2.2.1) rfl).to, ?_⟩
  refine List.forall_mem_cons.mpr ⟨(s_iloadn (am_dp pw_X11_pairs_128 dd_X11_pairs_128b.2.2.2.2.1) rfl).to, ?_⟩
  refine List.forall_mem_cons.mpr ⟨(s_aloadn (am_dp pw_X11_pairs_128 dd_X11_pairs_128b.2.2.2.2.2.1) rfl).to, ?_⟩
  refine List.forall_mem_cons.mpr ⟨(s_iloadn (am_dp pw_X11_pairs_128 dd_X11_pairs_128b.2.2.2.2.2.2.1) rfl).to, ?_⟩
  refine List.forall_mem_cons.mpr ⟨(s_aloadn (am_dp pw_X11_pairs_128 dd_X11_pairs_128b.2.2.2.2.2.2.2) rfl).to, ?_⟩
  refine List.forall_mem_cons.mpr ⟨(s_get (ci := 11) (k := 67) (am_dp pw_X11_pairs_128 dd_X11_pairs_128c.1) rfl (by decide) wd1400 inX11 rfl).to, ?_⟩
  refine List.forall_mem_cons.mpr ⟨(s_iload (am_dp pw_X11_pairs_128 dd_X11_pairs_128c.2.1)).to, ?_⟩
  refine List.forall_mem_cons.mpr ⟨(s_iald (am_dp pw_X11_pairs_128 dd_X11_pairs_128c.2.2)).to, ?_⟩
  refine List.forall_mem_cons.mpr ⟨zw_cv226 (am_dp pw_X11_pairs_160 dd_X11_pairs_160a.1) wd1842, ?_⟩
  refine List.forall_mem_cons.mpr ⟨zw_cv238 (am_dp pw_X11_pairs_160 dd_X11_pairs_160a.2.1) wd1871, ?_⟩
  refine List.forall_mem_cons.mpr ⟨(s_aloadn (am_dp pw_X11_pairs_160 dd_X11_pairs_160a.2.2.1) rfl).to, ?_⟩
  refine List.forall_mem_cons.mpr ⟨(s_get (ci := 11) (k := 67) (am_dp pw_X11_pairs_160 dd_X11_pairs_160a.2.2.2.1) rfl (by decide) wd1400 inX11 rfl).to, ?_⟩
  refine List.forall_mem_cons.mpr ⟨(s_iloadn (am_dp pw_X11_pairs_160 dd_X11_pairs_160a.2.2.2.2.1) rfl).to, ?_⟩
  refine List.forall_mem_cons.mpr ⟨(s_iald (am_dp pw_X11_pairs_160 dd_X11_pairs_160a.2.2.2.2.2.1)).to, ?_⟩
  refine List.forall_mem_cons.mpr ⟨(s_aloadn (am_dp pw_X11_pairs_160 dd_X11_pairs_160a.2.2.2.2.2.2.1) rfl).to, ?_⟩
  refine List.forall_mem_cons.mpr ⟨(s_get (ci := 11) (k := 67) (am_dp pw_X11_pairs_160 dd_X11_pairs_160a.2.2.2.2.2.2.2) rfl (by decide) wd1400 inX11 rfl).to, ?_⟩
  refine List.forall_mem_cons.mpr ⟨(s_iload (am_dp pw_X11_pairs_160 dd_X11_pairs_160b.1)).to, ?_⟩
  refine List.forall_mem_cons.mpr ⟨(s_iald (am_dp pw_X11_pairs_160 dd_X11_pairs_160b.2.1)).to, ?_⟩
  refine List.forall_mem_cons.mpr ⟨(s_icmp_ge (am_dp pw_X11_pairs_160 dd_X11_pairs_160b.2.2.1) (by decide)).to, ?_⟩
  refine List.forall_mem_cons.mpr ⟨(s_aloadn (am_dp pw_X11_pairs_160 dd_X11_pairs_160b.2.2.2.1) rfl).to, ?_⟩
  refine List.forall_mem_cons.mpr ⟨(s_get (ci := 11) (k := 67) (am_dp pw_X11_pairs_160 dd_X11_pairs_160b.2.2.2.2.1) rfl (by decide) wd1400 inX11 rfl).to, ?_⟩
  refine List.forall_mem_cons.mpr ⟨(s_iload (am_dp pw_X11_pairs_160 dd_X11_pairs_160b.2.2.2.2.2.1)).to, ?_⟩
  refine List.forall_mem_cons.mpr ⟨(s_iald (am_dp pw_X11_pairs_160 dd_X11_pairs_160b.2.2.2.2.2.2.1)).to, ?_⟩
  refine List.forall_mem_cons.mpr ⟨(s_aloadn (am_dp pw_X11_pairs_160 dd_X11_pairs_160b.2.2.2.2.2.2.2) rfl).to, ?_⟩
  refine List.forall_mem_cons.mpr ⟨(s_get (ci := 11) (k := 67) (am_dp pw_X11_pairs_160 dd_X11_pairs_160c) rfl (by decide) wd1400 inX11 rfl).to, ?_⟩
  refine List.forall_mem_cons.mpr ⟨(s_iloadn (am_dp pw_X11_pairs_192 dd_X11_pairs_192a.1) rfl).to, ?_⟩
  refine List.forall_mem_cons.mpr ⟨(s_iald (am_dp pw_X11_pairs_192 dd_X11_pairs_192a.2.1)).to, ?_⟩
  refine List.forall_mem_cons.mpr ⟨(s_isub (am_dp pw_X11_pairs_192 dd_X11_pairs_192a.2.2.1)).to, ?_⟩
  refine List.forall_mem_cons.mpr ⟨(s_goto (am_dp pw_X11_pairs_192 dd_X11_pairs_192a.2.2.2.1) (by decide)).to, ?_⟩
  refine List.forall_mem_cons.mpr ⟨(s_aloadn (am_dp pw_X11_pairs_192 dd_X11_pairs_192a.2.2.2.2.1) rfl).to, ?_⟩
  refine List.forall_mem_cons.mpr ⟨(s_get (ci := 11) (k := 67) (am_dp pw_X11_pairs_192 dd_X11_pairs_192a.2.2.2.2.2.1) rfl (by decide) wd1400 inX11 rfl).to, ?_⟩
  refine List.forall_mem_cons.mpr ⟨(s_iloadn (am_dp pw_X11_pairs_192 dd_X11_pairs_192a.2.2.2.2.2.2.1) rfl).to, ?_⟩
  exact fun _ h => absurd h List.not_mem_nil
theorem sn_tX11_pairs_2 : ∀ q ∈ tX11_pairs_2, am_Snd am_P0 RX11 cX11_pairs 5 (Option.none : Option FieldType) "pairs" q.1 q.2 := by
  unfold tX11_pairs_2
  refine List.forall_mem_cons.mpr ⟨(s_iald (am_dp pw_X11_pairs_192 dd_X11_pairs_192a.2.2.2.2.2.2.2)).to, ?_⟩
  refine List.forall_mem_cons.mpr ⟨(s_aloadn (am_dp pw_X11_pairs_192 dd_X11_pairs_192b.1) rfl).to, ?_⟩
  refine List.forall_mem_cons.mpr ⟨(s_get (ci := 11) (k := 67) (am_dp pw_X11_pairs_192 dd_X11_pairs_192b.2.1) rfl (by decide) wd1400 inX11 rfl).to, ?_⟩
  refine List.forall_mem_cons.mpr ⟨(s_iload (am_dp pw_X11_pairs_192 dd_X11_pairs_192b.2.2.1)).to, ?_⟩
  refine List.forall_mem_cons.mpr ⟨(s_iald (am_dp pw_X11_pairs_192 dd_X11_pairs_192b.2.2.2.1)).to, ?_⟩
  refine List.forall_mem_cons.mpr ⟨(s_isub (am_dp pw_X11_pairs_192 dd_X11_pairs_192b.2.2.2.2.1)).to, ?_⟩
  refine List.forall_mem_cons.mpr ⟨(s_icmp_gt (am_dp pw_X11_pairs_192 dd_X11_pairs_192b.2.2.2.2.2.1) (by decide)).to, ?_⟩
  refine List.forall_mem_cons.mpr ⟨(s_iconst (am_dp pw_X11_pairs_192 dd_X11_pairs_192b.2.2.2.2.2.2.1) (by decide)).to, ?_⟩
  refine List.forall_mem_cons.mpr ⟨(s_goto (am_dp pw_X11_pairs_192 dd_X11_pairs_192b.2.2.2.2.2.2.2) (by decide)).to, ?_⟩
  refine List.forall_mem_cons.mpr ⟨(s_iconst (am_dp pw_X11_pairs_192 dd_X11_pairs_192c.1) (by decide)).to, ?_⟩
  refine List.forall_mem_cons.mpr ⟨(s_zast (am_dp pw_X11_pairs_192 dd_X11_pairs_192c.2.1)).to, ?_⟩
  refine List.forall_mem_cons.mpr ⟨(s_iinc (am_dp pw_X11_pairs_192 dd_X11_pairs_192c.2.2) (by decide) (by decide)).to, ?_⟩
  refine List.forall_mem_cons.mpr ⟨(s_goto (am_dp pw_X11_pairs_224 dd_X11_pairs_224a.1) (by decide)).to, ?_⟩
  refine List.forall_mem_cons.mpr ⟨(s_iinc (am_dp pw_X11_pairs_224 dd_X11_pairs_224a.2.1) (by decide) (by decide)).to, ?_⟩
  refine List.forall_mem_cons.mpr ⟨(s_goto (am_dp pw_X11_pairs_224 dd_X11_pairs_224a.2.2.1) (by decide)).to, ?_⟩
  refine List.forall_mem_cons.mpr ⟨s_vret (am_dp pw_X11_pairs_224 dd_X11_pairs_224a.2.2.2) rfl, ?_⟩
  exact fun _ h => absurd h List.not_mem_nil
theorem sn_tX11_pairs : ∀ q ∈ tX11_pairs, am_Snd am_P0 RX11 cX11_pairs 5 (Option.none : Option FieldType) "pairs" q.1 q.2 := by
  unfold tX11_pairs
  exact List.forall_mem_append.mpr ⟨List.forall_mem_append.mpr ⟨sn_tX11_pairs_0, sn_tX11_pairs_1⟩, sn_tX11_pairs_2⟩
theorem sn_tX11_keeps_0 : ∀ q ∈ tX11_keeps_0, am_Snd am_P0 RX11 cX11_keeps 5 (Option.none : Option FieldType) "keeps" q.1 q.2 := by
  unfold tX11_keeps_0
  refine List.forall_mem_cons.mpr ⟨(s_aloadn (am_dp pw_X11_keeps_0 dd_X11_keeps_0a.1) rfl).to, ?_⟩
  refine List.forall_mem_cons.mpr ⟨(s_aloadn (am_dp pw_X11_keeps_0 dd_X11_keeps_0a.2.1) rfl).to, ?_⟩
  refine List.forall_mem_cons.mpr ⟨(s_iloadn (am_dp pw_X11_keeps_0 dd_X11_keeps_0a.2.2.1) rfl).to, ?_⟩
  refine List.forall_mem_cons.mpr ⟨zw_cv245 (am_dp pw_X11_keeps_0 dd_X11_keeps_0a.2.2.2.1) wd1883, ?_⟩
  refine List.forall_mem_cons.mpr ⟨(s_put (ci := 11) (k := 64) (am_dp pw_X11_keeps_0 dd_X11_keeps_0a.2.2.2.2.1) rfl (by decide) wd1397 inX11 tyX11_ok nmX11 rfl rfl).to, ?_⟩
  refine List.forall_mem_cons.mpr ⟨(s_aloadn (am_dp pw_X11_keeps_0 dd_X11_keeps_0a.2.2.2.2.2.1) rfl).to, ?_⟩
  refine List.forall_mem_cons.mpr ⟨(s_iloadn (am_dp pw_X11_keeps_0 dd_X11_keeps_0a.2.2.2.2.2.2.1) rfl).to, ?_⟩
  refine List.forall_mem_cons.mpr ⟨zw_cv247 (am_dp pw_X11_keeps_0 dd_X11_keeps_0a.2.2.2.2.2.2.2) wd1906, ?_⟩
  refine List.forall_mem_cons.mpr ⟨(s_aloadn (am_dp pw_X11_keeps_0 dd_X11_keeps_0b.1) rfl).to, ?_⟩
  refine List.forall_mem_cons.mpr ⟨(s_iconst (am_dp pw_X11_keeps_0 dd_X11_keeps_0b.2.1) (by decide)).to, ?_⟩
  refine List.forall_mem_cons.mpr ⟨(s_put (ci := 11) (k := 66) (am_dp pw_X11_keeps_0 dd_X11_keeps_0b.2.2.1) rfl (by decide) wd1399 inX11 tyX11_ok nmX11 rfl rfl).to, ?_⟩
  refine List.forall_mem_cons.mpr ⟨(s_iconst (am_dp pw_X11_keeps_0 dd_X11_keeps_0b.2.2.2.1) (by decide)).to, ?_⟩
  refine List.forall_mem_cons.mpr ⟨(s_istoren (am_dp pw_X11_keeps_0 dd_X11_keeps_0b.2.2.2.2.1) rfl (by decide)).to, ?_⟩
  refine List.forall_mem_cons.mpr ⟨(s_iloadn (am_dp pw_X11_keeps_0 dd_X11_keeps_0b.2.2.2.2.2.1) rfl).to, ?_⟩
  refine List.forall_mem_cons.mpr ⟨(s_aloadn (am_dp pw_X11_keeps_0 dd_X11_keeps_0b.2.2.2.2.2.2.1) rfl).to, ?_⟩
  refine List.forall_mem_cons.mpr ⟨(s_get (ci := 11) (k := 65) (am_dp pw_X11_keeps_0 dd_X11_keeps_0b.2.2.2.2.2.2.2) rfl (by decide) wd1398 inX11 rfl).to, ?_⟩
  refine List.forall_mem_cons.mpr ⟨(s_icmp_ge (am_dp pw_X11_keeps_0 dd_X11_keeps_0c.1) (by decide)).to, ?_⟩
  refine List.forall_mem_cons.mpr ⟨(s_aloadn (am_dp pw_X11_keeps_0 dd_X11_keeps_0c.2.1) rfl).to, ?_⟩
  refine List.forall_mem_cons.mpr ⟨(s_get (ci := 11) (k := 69) (am_dp pw_X11_keeps_0 dd_X11_keeps_0c.2.2) rfl (by decide) wd1402 inX11 rfl).to, ?_⟩
  refine List.forall_mem_cons.mpr ⟨(s_iloadn (am_dp pw_X11_keeps_32 dd_X11_keeps_32a.1) rfl).to, ?_⟩
  refine List.forall_mem_cons.mpr ⟨(s_iconst (am_dp pw_X11_keeps_32 dd_X11_keeps_32a.2.1) (by decide)).to, ?_⟩
  refine List.forall_mem_cons.mpr ⟨(s_zast (am_dp pw_X11_keeps_32 dd_X11_keeps_32a.2.2.1)).to, ?_⟩
  refine List.forall_mem_cons.mpr ⟨(s_iinc (am_dp pw_X11_keeps_32 dd_X11_keeps_32a.2.2.2.1) (by decide) (by decide)).to, ?_⟩
  refine List.forall_mem_cons.mpr ⟨(s_goto (am_dp pw_X11_keeps_32 dd_X11_keeps_32a.2.2.2.2.1) (by decide)).to, ?_⟩
  refine List.forall_mem_cons.mpr ⟨(s_aloadn (am_dp pw_X11_keeps_32 dd_X11_keeps_32a.2.2.2.2.2.1) rfl).to, ?_⟩
  refine List.forall_mem_cons.mpr ⟨(s_get (ci := 11) (k := 64) (am_dp pw_X11_keeps_32 dd_X11_keeps_32a.2.2.2.2.2.2.1) rfl (by decide) wd1397 inX11 rfl).to, ?_⟩
  refine List.forall_mem_cons.mpr ⟨(s_if_ne (am_dp pw_X11_keeps_32 dd_X11_keeps_32a.2.2.2.2.2.2.2) (by decide)).to, ?_⟩
  refine List.forall_mem_cons.mpr ⟨s_vret (am_dp pw_X11_keeps_32 dd_X11_keeps_32b.1) rfl, ?_⟩
  refine List.forall_mem_cons.mpr ⟨(s_iconst (am_dp pw_X11_keeps_32 dd_X11_keeps_32b.2.1) (by decide)).to, ?_⟩
  refine List.forall_mem_cons.mpr ⟨(s_istoren (am_dp pw_X11_keeps_32 dd_X11_keeps_32b.2.2.1) rfl (by decide)).to, ?_⟩
  refine List.forall_mem_cons.mpr ⟨(s_aloadn (am_dp pw_X11_keeps_32 dd_X11_keeps_32b.2.2.2.1) rfl).to, ?_⟩
  refine List.forall_mem_cons.mpr ⟨(s_get (ci := 11) (k := 65) (am_dp pw_X11_keeps_32 dd_X11_keeps_32b.2.2.2.2.1) rfl (by decide) wd1398 inX11 rfl).to, ?_⟩
  refine List.forall_mem_cons.mpr ⟨(s_iconst (am_dp pw_X11_keeps_32 dd_X11_keeps_32b.2.2.2.2.2.1) (by decide)).to, ?_⟩
  refine List.forall_mem_cons.mpr ⟨(s_isub (am_dp pw_X11_keeps_32 dd_X11_keeps_32b.2.2.2.2.2.2.1)).to, ?_⟩
  refine List.forall_mem_cons.mpr ⟨(s_istoren (am_dp pw_X11_keeps_32 dd_X11_keeps_32b.2.2.2.2.2.2.2) rfl (by decide)).to, ?_⟩
  refine List.forall_mem_cons.mpr ⟨(s_iloadn (am_dp pw_X11_keeps_32 dd_X11_keeps_32c.1) rfl).to, ?_⟩
  refine List.forall_mem_cons.mpr ⟨(s_if_lt (am_dp pw_X11_keeps_32 dd_X11_keeps_32c.2.1) (by decide)).to, ?_⟩
  refine List.forall_mem_cons.mpr ⟨(s_aloadn (am_dp pw_X11_keeps_32 dd_X11_keeps_32c.2.2) rfl).to, ?_⟩
  refine List.forall_mem_cons.mpr ⟨(s_get (ci := 11) (k := 71) (am_dp pw_X11_keeps_64 dd_X11_keeps_64a.1) rfl (by decide) wd1404 inX11 rfl).to, ?_⟩
  refine List.forall_mem_cons.mpr ⟨(s_iloadn (am_dp pw_X11_keeps_64 dd_X11_keeps_64a.2.1) rfl).to, ?_⟩
  refine List.forall_mem_cons.mpr ⟨(s_aloadn (am_dp pw_X11_keeps_64 dd_X11_keeps_64a.2.2.1) rfl).to, ?_⟩
  refine List.forall_mem_cons.mpr ⟨(s_get (ci := 11) (k := 68) (am_dp pw_X11_keeps_64 dd_X11_keeps_64a.2.2.2.1) rfl (by decide) wd1401 inX11 rfl).to, ?_⟩
  refine List.forall_mem_cons.mpr ⟨(s_iloadn (am_dp pw_X11_keeps_64 dd_X11_keeps_64a.2.2.2.2.1) rfl).to, ?_⟩
  refine List.forall_mem_cons.mpr ⟨(s_zald (am_dp pw_X11_keeps_64 dd_X11_keeps_64a.2.2.2.2.2.1)).to, ?_⟩
  refine List.forall_mem_cons.mpr ⟨(s_if_eq (am_dp pw_X11_keeps_64 dd_X11_keeps_64a.2.2.2.2.2.2.1) (by decide)).to, ?_⟩
  refine List.forall_mem_cons.mpr ⟨(s_iconst (am_dp pw_X11_keeps_64 dd_X11_keeps_64a.2.2.2.2.2.2.2) (by decide)).to, ?_⟩
  refine List.forall_mem_cons.mpr ⟨(s_goto (am_dp pw_X11_keeps_64 dd_X11_keeps_64b.1) (by decide)).to, ?_⟩
  refine List.forall_mem_cons.mpr ⟨(s_iconst (am_dp pw_X11_keeps_64 dd_X11_keeps_64b.2.1) (by decide)).to, ?_⟩
  refine List.forall_mem_cons.mpr ⟨(s_iast (am_dp pw_X11_keeps_64 dd_X11_keeps_64b.2.2.1)).to, ?_⟩
  refine List.forall_mem_cons.mpr ⟨(s_iloadn (am_dp pw_X11_keeps_64 dd_X11_keeps_64b.2.2.2.1) rfl).to, ?_⟩
  refine List.forall_mem_cons.mpr ⟨(s_iconst (am_dp pw_X11_keeps_64 dd_X11_keeps_64b.2.2.2.2.1) (by decide)).to, ?_⟩
  refine List.forall_mem_cons.mpr ⟨(s_iadd (am_dp pw_X11_keeps_64 dd_X11_keeps_64b.2.2.2.2.2.1)).to, ?_⟩
  refine List.forall_mem_cons.mpr ⟨(s_istore (am_dp pw_X11_keeps_64 dd_X11_keeps_64b.2.2.2.2.2.2.1) (by decide)).to, ?_⟩
  refine List.forall_mem_cons.mpr ⟨(s_iload (am_dp pw_X11_keeps_64 dd_X11_keeps_64b.2.2.2.2.2.2.2)).to, ?_⟩
  refine List.forall_mem_cons.mpr ⟨(s_aloadn (am_dp pw_X11_keeps_64 dd_X11_keeps_64c.1) rfl).to, ?_⟩
  refine List.forall_mem_cons.mpr ⟨(s_get (ci := 11) (k := 65) (am_dp pw_X11_keeps_64 dd_X11_keeps_64c.2.1) rfl (by decide) wd1398 inX11 rfl).to, ?_⟩
  refine List.forall_mem_cons.mpr ⟨(s_icmp_ge (am_dp pw_X11_keeps_64 dd_X11_keeps_64c.2.2) (by decide)).to, ?_⟩
  refine List.forall_mem_cons.mpr ⟨(s_aloadn (am_dp pw_X11_keeps_96 dd_X11_keeps_96a.1) rfl).to, ?_⟩
  refine List.forall_mem_cons.mpr ⟨(s_get (ci := 11) (k := 68) (am_dp pw_X11_keeps_96 dd_X11_keeps_96a.2.1) rfl (by decide) wd1401 inX11 rfl).to, ?_⟩
  refine List.forall_mem_cons.mpr ⟨(s_iloadn (am_dp pw_X11_keeps_96 dd_X11_keeps_96a.2.2.1) rfl).to, ?_⟩
  exact fun _ h => absurd h List.not_mem_nil
theorem sn_tX11_keeps_1 : ∀ q ∈ tX11_keeps_1, am_Snd am_P0 RX11 cX11_keeps 5 (Option.none : Option FieldType) "keeps" q.1 q.2 := by
  unfold tX11_keeps_1
  refine List.forall_mem_cons.mpr ⟨(s_zald (am_dp pw_X11_keeps_96 dd_X11_keeps_96a.2.2.2.1)).to, ?_⟩
  refine List.forall_mem_cons.mpr ⟨(s_if_eq (am_dp pw_X11_keeps_96 dd_X11_keeps_96a.2.2.2.2.1) (by decide)).to, ?_⟩
  refine List.forall_mem_cons.mpr ⟨(s_aloadn (am_dp pw_X11_keeps_96 dd_X11_keeps_96a.2.2.2.2.2.1) rfl).to, ?_⟩
  refine List.forall_mem_cons.mpr ⟨(s_get (ci := 11) (k := 70) (am_dp pw_X11_keeps_96 dd_X11_keeps_96a.2.2.2.2.2.2.1) rfl (by decide) wd1403 inX11 rfl).to, ?_⟩
  refine List.forall_mem_cons.mpr ⟨(s_bipush (am_dp pw_X11_keeps_96 dd_X11_keeps_96a.2.2.2.2.2.2.2) (by decide)).to, ?_⟩
  refine List.forall_mem_cons.mpr ⟨(s_iloadn (am_dp pw_X11_keeps_96 dd_X11_keeps_96b.1) rfl).to, ?_⟩
  refine List.forall_mem_cons.mpr ⟨(s_imul (am_dp pw_X11_keeps_96 dd_X11_keeps_96b.2.1)).to, ?_⟩
  refine List.forall_mem_cons.mpr ⟨(s_iload (am_dp pw_X11_keeps_96 dd_X11_keeps_96b.2.2.1)).to, ?_⟩
  refine List.forall_mem_cons.mpr ⟨(s_iadd (am_dp pw_X11_keeps_96 dd_X11_keeps_96b.2.2.2.1)).to, ?_⟩
  refine List.forall_mem_cons.mpr ⟨(s_zald (am_dp pw_X11_keeps_96 dd_X11_keeps_96b.2.2.2.2.1)).to, ?_⟩
  refine List.forall_mem_cons.mpr ⟨(s_if_eq (am_dp pw_X11_keeps_96 dd_X11_keeps_96b.2.2.2.2.2.1) (by decide)).to, ?_⟩
  refine List.forall_mem_cons.mpr ⟨(s_aloadn (am_dp pw_X11_keeps_96 dd_X11_keeps_96b.2.2.2.2.2.2.1) rfl).to, ?_⟩
  refine List.forall_mem_cons.mpr ⟨(s_get (ci := 11) (k := 68) (am_dp pw_X11_keeps_96 dd_X11_keeps_96b.2.2.2.2.2.2.2) rfl (by decide) wd1401 inX11 rfl).to, ?_⟩
  refine List.forall_mem_cons.mpr ⟨(s_iload (am_dp pw_X11_keeps_96 dd_X11_keeps_96c.1)).to, ?_⟩
  refine List.forall_mem_cons.mpr ⟨(s_zald (am_dp pw_X11_keeps_96 dd_X11_keeps_96c.2)).to, ?_⟩
  refine List.forall_mem_cons.mpr ⟨(s_if_eq (am_dp pw_X11_keeps_128 dd_X11_keeps_128a.1) (by decide)).to, ?_⟩
  refine List.forall_mem_cons.mpr ⟨(s_aloadn (am_dp pw_X11_keeps_128 dd_X11_keeps_128a.2.1) rfl).to, ?_⟩
  refine List.forall_mem_cons.mpr ⟨(s_get (ci := 11) (k := 71) (am_dp pw_X11_keeps_128 dd_X11_keeps_128a.2.2.1) rfl (by decide) wd1404 inX11 rfl).to, ?_⟩
  refine List.forall_mem_cons.mpr ⟨(s_iload (am_dp pw_X11_keeps_128 dd_X11_keeps_128a.2.2.2.1)).to, ?_⟩
  refine List.forall_mem_cons.mpr ⟨(s_iald (am_dp pw_X11_keeps_128 dd_X11_keeps_128a.2.2.2.2.1)).to, ?_⟩
  refine List.forall_mem_cons.mpr ⟨(s_iconst (am_dp pw_X11_keeps_128 dd_X11_keeps_128a.2.2.2.2.2.1) (by decide)).to, ?_⟩
  refine List.forall_mem_cons.mpr ⟨(s_iadd (am_dp pw_X11_keeps_128 dd_X11_keeps_128a.2.2.2.2.2.2.1)).to, ?_⟩
  refine List.forall_mem_cons.mpr ⟨(s_aloadn (am_dp pw_X11_keeps_128 dd_X11_keeps_128a.2.2.2.2.2.2.2) rfl).to, ?_⟩
  refine List.forall_mem_cons.mpr ⟨(s_get (ci := 11) (k := 71) (am_dp pw_X11_keeps_128 dd_X11_keeps_128b.1) rfl (by decide) wd1404 inX11 rfl).to, ?_⟩
  refine List.forall_mem_cons.mpr ⟨(s_iloadn (am_dp pw_X11_keeps_128 dd_X11_keeps_128b.2.1) rfl).to, ?_⟩
  refine List.forall_mem_cons.mpr ⟨(s_iald (am_dp pw_X11_keeps_128 dd_X11_keeps_128b.2.2.1)).to, ?_⟩
  refine List.forall_mem_cons.mpr ⟨(s_icmp_le (am_dp pw_X11_keeps_128 dd_X11_keeps_128b.2.2.2.1) (by decide)).to, ?_⟩
  refine List.forall_mem_cons.mpr ⟨(s_aloadn (am_dp pw_X11_keeps_128 dd_X11_keeps_128b.2.2.2.2.1) rfl).to, ?_⟩
  refine List.forall_mem_cons.mpr ⟨(s_get (ci := 11) (k := 71) (am_dp pw_X11_keeps_128 dd_X11_keeps_128b.2.2.2.2.2.1) rfl (by decide) wd1404 inX11 rfl).to, ?_⟩
  refine List.forall_mem_cons.mpr ⟨(s_iloadn (am_dp pw_X11_keeps_128 dd_X11_keeps_128b.2.2.2.2.2.2.1) rfl).to, ?_⟩
  refine List.forall_mem_cons.mpr ⟨(s_aloadn (am_dp pw_X11_keeps_128 dd_X11_keeps_128b.2.2.2.2.2.2.2) rfl).to, ?_⟩
  refine List.forall_mem_cons.mpr ⟨(s_get (ci := 11) (k := 71) (am_dp pw_X11_keeps_128 dd_X11_keeps_128c.1) rfl (by decide) wd1404 inX11 rfl).to, ?_⟩
  refine List.forall_mem_cons.mpr ⟨(s_iload (am_dp pw_X11_keeps_128 dd_X11_keeps_128c.2)).to, ?_⟩
  refine List.forall_mem_cons.mpr ⟨(s_iald (am_dp pw_X11_keeps_160 dd_X11_keeps_160a.1)).to, ?_⟩
  refine List.forall_mem_cons.mpr ⟨(s_iconst (am_dp pw_X11_keeps_160 dd_X11_keeps_160a.2.1) (by decide)).to, ?_⟩
  refine List.forall_mem_cons.mpr ⟨(s_iadd (am_dp pw_X11_keeps_160 dd_X11_keeps_160a.2.2.1)).to, ?_⟩
  refine List.forall_mem_cons.mpr ⟨(s_iast (am_dp pw_X11_keeps_160 dd_X11_keeps_160a.2.2.2.1)).to, ?_⟩
  refine List.forall_mem_cons.mpr ⟨(s_iinc (am_dp pw_X11_keeps_160 dd_X11_keeps_160a.2.2.2.2.1) (by decide) (by decide)).to, ?_⟩
  refine List.forall_mem_cons.mpr ⟨(s_goto (am_dp pw_X11_keeps_160 dd_X11_keeps_160a.2.2.2.2.2.1) (by decide)).to, ?_⟩
  refine List.forall_mem_cons.mpr ⟨(s_aloadn (am_dp pw_X11_keeps_160 dd_X11_keeps_160a.2.2.2.2.2.2.1) rfl).to, ?_⟩
  refine List.forall_mem_cons.mpr ⟨(s_get (ci := 11) (k := 71) (am_dp pw_X11_keeps_160 dd_X11_keeps_160a.2.2.2.2.2.2.2) rfl (by decide) wd1404 inX11 rfl).to, ?_⟩
  refine List.forall_mem_cons.mpr ⟨(s_iloadn (am_dp pw_X11_keeps_160 dd_X11_keeps_160b.1) rfl).to, ?_⟩
  refine List.forall_mem_cons.mpr ⟨(s_iald (am_dp pw_X11_keeps_160 dd_X11_keeps_160b.2.1)).to, ?_⟩
  refine List.forall_mem_cons.mpr ⟨(s_iloadn (am_dp pw_X11_keeps_160 dd_X11_keeps_160b.2.2.1) rfl).to, ?_⟩
  refine List.forall_mem_cons.mpr ⟨(s_icmp_le (am_dp pw_X11_keeps_160 dd_X11_keeps_160b.2.2.2.1) (by decide)).to, ?_⟩
  refine List.forall_mem_cons.mpr ⟨(s_aloadn (am_dp pw_X11_keeps_160 dd_X11_keeps_160b.2.2.2.2.1) rfl).to, ?_⟩
  refine List.forall_mem_cons.mpr ⟨(s_get (ci := 11) (k := 71) (am_dp pw_X11_keeps_160 dd_X11_keeps_160b.2.2.2.2.2.1) rfl (by decide) wd1404 inX11 rfl).to, ?_⟩
  refine List.forall_mem_cons.mpr ⟨(s_iloadn (am_dp pw_X11_keeps_160 dd_X11_keeps_160b.2.2.2.2.2.2.1) rfl).to, ?_⟩
  refine List.forall_mem_cons.mpr ⟨(s_iald (am_dp pw_X11_keeps_160 dd_X11_keeps_160b.2.2.2.2.2.2.2)).to, ?_⟩
  refine List.forall_mem_cons.mpr ⟨(s_goto (am_dp pw_X11_keeps_160 dd_X11_keeps_160c.1) (by decide)).to, ?_⟩
  refine List.forall_mem_cons.mpr ⟨(s_iloadn (am_dp pw_X11_keeps_160 dd_X11_keeps_160c.2.1) rfl).to, ?_⟩
  refine List.forall_mem_cons.mpr ⟨(s_istoren (am_dp pw_X11_keeps_160 dd_X11_keeps_160c.2.2.1) rfl (by decide)).to, ?_⟩
  refine List.forall_mem_cons.mpr ⟨(s_iinc (am_dp pw_X11_keeps_160 dd_X11_keeps_160c.2.2.2) (by decide) (by decide)).to, ?_⟩
  refine List.forall_mem_cons.mpr ⟨(s_goto (am_dp pw_X11_keeps_192 dd_X11_keeps_192a.1) (by decide)).to, ?_⟩
  refine List.forall_mem_cons.mpr ⟨(s_aloadn (am_dp pw_X11_keeps_192 dd_X11_keeps_192a.2.1) rfl).to, ?_⟩
  refine List.forall_mem_cons.mpr ⟨(s_iloadn (am_dp pw_X11_keeps_192 dd_X11_keeps_192a.2.2.1) rfl).to, ?_⟩
  refine List.forall_mem_cons.mpr ⟨(s_put (ci := 11) (k := 66) (am_dp pw_X11_keeps_192 dd_X11_keeps_192a.2.2.2.1) rfl (by decide) wd1399 inX11 tyX11_ok nmX11 rfl rfl).to, ?_⟩
  refine List.forall_mem_cons.mpr ⟨(s_iconst (am_dp pw_X11_keeps_192 dd_X11_keeps_192a.2.2.2.2.1) (by decide)).to, ?_⟩
  refine List.forall_mem_cons.mpr ⟨(s_istoren (am_dp pw_X11_keeps_192 dd_X11_keeps_192a.2.2.2.2.2.1) rfl (by decide)).to, ?_⟩
  refine List.forall_mem_cons.mpr ⟨(s_iconst (am_dp pw_X11_keeps_192 dd_X11_keeps_192a.2.2.2.2.2.2.1) (by decide)).to, ?_⟩
  exact fun _ h => absurd h List.not_mem_nil
theorem sn_tX11_keeps_2 : ∀ q ∈ tX11_keeps_2, am_Snd am_P0 RX11 cX11_keeps 5 (Option.none : Option FieldType) "keeps" q.1 q.2 := by
  unfold tX11_keeps_2
  refine List.forall_mem_cons.mpr ⟨(s_istore (am_dp pw_X11_keeps_192 dd_X11_keeps_192a.2.2.2.2.2.2.2) (by decide)).to, ?_⟩
  refine List.forall_mem_cons.mpr ⟨(s_iload (am_dp pw_X11_keeps_192 dd_X11_keeps_192b.1)).to, ?_⟩
  refine List.forall_mem_cons.mpr ⟨(s_aloadn (am_dp pw_X11_keeps_192 dd_X11_keeps_192b.2.1) rfl).to, ?_⟩
  refine List.forall_mem_cons.mpr ⟨(s_get (ci := 11) (k := 65) (am_dp pw_X11_keeps_192 dd_X11_keeps_192b.2.2.1) rfl (by decide) wd1398 inX11 rfl).to, ?_⟩
  refine List.forall_mem_cons.mpr ⟨(s_icmp_ge (am_dp pw_X11_keeps_192 dd_X11_keeps_192b.2.2.2.1) (by decide)).to, ?_⟩
  refine List.forall_mem_cons.mpr ⟨(s_iloadn (am_dp pw_X11_keeps_192 dd_X11_keeps_192b.2.2.2.2.1) rfl).to, ?_⟩
  refine List.forall_mem_cons.mpr ⟨(s_if_le (am_dp pw_X11_keeps_192 dd_X11_keeps_192b.2.2.2.2.2.1) (by decide)).to, ?_⟩
  refine List.forall_mem_cons.mpr ⟨(s_aloadn (am_dp pw_X11_keeps_192 dd_X11_keeps_192b.2.2.2.2.2.2.1) rfl).to, ?_⟩
  refine List.forall_mem_cons.mpr ⟨(s_get (ci := 11) (k := 71) (am_dp pw_X11_keeps_192 dd_X11_keeps_192b.2.2.2.2.2.2.2) rfl (by decide) wd1404 inX11 rfl).to, ?_⟩
  refine List.forall_mem_cons.mpr ⟨(s_iload (am_dp pw_X11_keeps_224 dd_X11_keeps_224a.1)).to, ?_⟩
  refine List.forall_mem_cons.mpr ⟨(s_iald (am_dp pw_X11_keeps_224 dd_X11_keeps_224a.2.1)).to, ?_⟩
  refine List.forall_mem_cons.mpr ⟨(s_iloadn (am_dp pw_X11_keeps_224 dd_X11_keeps_224a.2.2.1) rfl).to, ?_⟩
  refine List.forall_mem_cons.mpr ⟨(s_icmp_ne (am_dp pw_X11_keeps_224 dd_X11_keeps_224a.2.2.2.1) (by decide)).to, ?_⟩
  refine List.forall_mem_cons.mpr ⟨(s_iloadn (am_dp pw_X11_keeps_224 dd_X11_keeps_224a.2.2.2.2.1) rfl).to, ?_⟩
  refine List.forall_mem_cons.mpr ⟨(s_iconst (am_dp pw_X11_keeps_224 dd_X11_keeps_224a.2.2.2.2.2.1) (by decide)).to, ?_⟩
  refine List.forall_mem_cons.mpr ⟨(s_icmp_eq (am_dp pw_X11_keeps_224 dd_X11_keeps_224a.2.2.2.2.2.2.1) (by decide)).to, ?_⟩
  refine List.forall_mem_cons.mpr ⟨(s_aloadn (am_dp pw_X11_keeps_224 dd_X11_keeps_224a.2.2.2.2.2.2.2) rfl).to, ?_⟩
  refine List.forall_mem_cons.mpr ⟨(s_get (ci := 11) (k := 70) (am_dp pw_X11_keeps_224 dd_X11_keeps_224b.1) rfl (by decide) wd1403 inX11 rfl).to, ?_⟩
  refine List.forall_mem_cons.mpr ⟨(s_bipush (am_dp pw_X11_keeps_224 dd_X11_keeps_224b.2.1) (by decide)).to, ?_⟩
  refine List.forall_mem_cons.mpr ⟨(s_iloadn (am_dp pw_X11_keeps_224 dd_X11_keeps_224b.2.2.1) rfl).to, ?_⟩
  refine List.forall_mem_cons.mpr ⟨(s_imul (am_dp pw_X11_keeps_224 dd_X11_keeps_224b.2.2.2.1)).to, ?_⟩
  refine List.forall_mem_cons.mpr ⟨(s_iload (am_dp pw_X11_keeps_224 dd_X11_keeps_224b.2.2.2.2.1)).to, ?_⟩
  refine List.forall_mem_cons.mpr ⟨(s_iadd (am_dp pw_X11_keeps_224 dd_X11_keeps_224b.2.2.2.2.2.1)).to, ?_⟩
  refine List.forall_mem_cons.mpr ⟨(s_zald (am_dp pw_X11_keeps_224 dd_X11_keeps_224b.2.2.2.2.2.2.1)).to, ?_⟩
  refine List.forall_mem_cons.mpr ⟨(s_if_ne (am_dp pw_X11_keeps_224 dd_X11_keeps_224b.2.2.2.2.2.2.2) (by decide)).to, ?_⟩
  refine List.forall_mem_cons.mpr ⟨(s_goto (am_dp pw_X11_keeps_224 dd_X11_keeps_224c.1) (by decide)).to, ?_⟩
  refine List.forall_mem_cons.mpr ⟨(s_aloadn (am_dp pw_X11_keeps_224 dd_X11_keeps_224c.2.1) rfl).to, ?_⟩
  refine List.forall_mem_cons.mpr ⟨(s_get (ci := 11) (k := 69) (am_dp pw_X11_keeps_224 dd_X11_keeps_224c.2.2) rfl (by decide) wd1402 inX11 rfl).to, ?_⟩
  refine List.forall_mem_cons.mpr ⟨(s_iload (am_dp pw_X11_keeps_256 dd_X11_keeps_256a.1)).to, ?_⟩
  refine List.forall_mem_cons.mpr ⟨(s_iconst (am_dp pw_X11_keeps_256 dd_X11_keeps_256a.2.1) (by decide)).to, ?_⟩
  refine List.forall_mem_cons.mpr ⟨(s_zast (am_dp pw_X11_keeps_256 dd_X11_keeps_256a.2.2.1)).to, ?_⟩
  refine List.forall_mem_cons.mpr ⟨(s_iload (am_dp pw_X11_keeps_256 dd_X11_keeps_256a.2.2.2.1)).to, ?_⟩
  refine List.forall_mem_cons.mpr ⟨(s_istoren (am_dp pw_X11_keeps_256 dd_X11_keeps_256a.2.2.2.2.1) rfl (by decide)).to, ?_⟩
  refine List.forall_mem_cons.mpr ⟨(s_iinc (am_dp pw_X11_keeps_256 dd_X11_keeps_256a.2.2.2.2.2.1) (by decide) (by decide)).to, ?_⟩
  refine List.forall_mem_cons.mpr ⟨(s_iinc (am_dp pw_X11_keeps_256 dd_X11_keeps_256a.2.2.2.2.2.2.1) (by decide) (by decide)).to, ?_⟩
  refine List.forall_mem_cons.mpr ⟨(s_goto (am_dp pw_X11_keeps_256 dd_X11_keeps_256a.2.2.2.2.2.2.2) (by decide)).to, ?_⟩
  refine List.forall_mem_cons.mpr ⟨s_vret (am_dp pw_X11_keeps_256 dd_X11_keeps_256b) rfl, ?_⟩
  exact fun _ h => absurd h List.not_mem_nil
theorem sn_tX11_keeps : ∀ q ∈ tX11_keeps, am_Snd am_P0 RX11 cX11_keeps 5 (Option.none : Option FieldType) "keeps" q.1 q.2 := by
  unfold tX11_keeps
  exact List.forall_mem_append.mpr ⟨List.forall_mem_append.mpr ⟨sn_tX11_keeps_0, sn_tX11_keeps_1⟩, sn_tX11_keeps_2⟩
theorem sn_tX11_lays__0 : ∀ q ∈ tX11_lays__0, am_Snd am_P0 RX11 cX11_lays_ 4 (Option.none : Option FieldType) "lays" q.1 q.2 := by
  unfold tX11_lays__0
  refine List.forall_mem_cons.mpr ⟨(s_aloadn (am_dp pw_X11_lays__0 dd_X11_lays__0a.1) rfl).to, ?_⟩
  refine List.forall_mem_cons.mpr ⟨(s_iloadn (am_dp pw_X11_lays__0 dd_X11_lays__0a.2.1) rfl).to, ?_⟩
  refine List.forall_mem_cons.mpr ⟨zw_cv248 (am_dp pw_X11_lays__0 dd_X11_lays__0a.2.2.1) wd1902, ?_⟩
  refine List.forall_mem_cons.mpr ⟨(s_aloadn (am_dp pw_X11_lays__0 dd_X11_lays__0a.2.2.2.1) rfl).to, ?_⟩
  refine List.forall_mem_cons.mpr ⟨(s_iconst (am_dp pw_X11_lays__0 dd_X11_lays__0a.2.2.2.2.1) (by decide)).to, ?_⟩
  refine List.forall_mem_cons.mpr ⟨(s_put (ci := 11) (k := 60) (am_dp pw_X11_lays__0 dd_X11_lays__0a.2.2.2.2.2.1) rfl (by decide) wd1393 inX11 tyX11_ok nmX11 rfl rfl).to, ?_⟩
  refine List.forall_mem_cons.mpr ⟨(s_aloadn (am_dp pw_X11_lays__0 dd_X11_lays__0a.2.2.2.2.2.2.1) rfl).to, ?_⟩
  refine List.forall_mem_cons.mpr ⟨(s_iloadn (am_dp pw_X11_lays__0 dd_X11_lays__0a.2.2.2.2.2.2.2) rfl).to, ?_⟩
  refine List.forall_mem_cons.mpr ⟨zw_cv241 (am_dp pw_X11_lays__0 dd_X11_lays__0b.1) wd1887, ?_⟩
  refine List.forall_mem_cons.mpr ⟨(s_iconst (am_dp pw_X11_lays__0 dd_X11_lays__0b.2.1) (by decide)).to, ?_⟩
  refine List.forall_mem_cons.mpr ⟨(s_istoren (am_dp pw_X11_lays__0 dd_X11_lays__0b.2.2.1) rfl (by decide)).to, ?_⟩
  refine List.forall_mem_cons.mpr ⟨(s_iloadn (am_dp pw_X11_lays__0 dd_X11_lays__0b.2.2.2.1) rfl).to, ?_⟩
  refine List.forall_mem_cons.mpr ⟨(s_aloadn (am_dp pw_X11_lays__0 dd_X11_lays__0b.2.2.2.2.1) rfl).to, ?_⟩
  refine List.forall_mem_cons.mpr ⟨(s_get (ci := 11) (k := 65) (am_dp pw_X11_lays__0 dd_X11_lays__0b.2.2.2.2.2.1) rfl (by decide) wd1398 inX11 rfl).to, ?_⟩
  refine List.forall_mem_cons.mpr ⟨(s_icmp_ge (am_dp pw_X11_lays__0 dd_X11_lays__0b.2.2.2.2.2.2.1) (by decide)).to, ?_⟩
  refine List.forall_mem_cons.mpr ⟨(s_aloadn (am_dp pw_X11_lays__0 dd_X11_lays__0b.2.2.2.2.2.2.2) rfl).to, ?_⟩
  refine List.forall_mem_cons.mpr ⟨(s_get (ci := 11) (k := 69) (am_dp pw_X11_lays__0 dd_X11_lays__0c.1) rfl (by decide) wd1402 inX11 rfl).to, ?_⟩
  refine List.forall_mem_cons.mpr ⟨(s_iloadn (am_dp pw_X11_lays__0 dd_X11_lays__0c.2.1) rfl).to, ?_⟩
  refine List.forall_mem_cons.mpr ⟨(s_zald (am_dp pw_X11_lays__0 dd_X11_lays__0c.2.2.1)).to, ?_⟩
  refine List.forall_mem_cons.mpr ⟨(s_if_eq (am_dp pw_X11_lays__0 dd_X11_lays__0c.2.2.2) (by decide)).to, ?_⟩
  refine List.forall_mem_cons.mpr ⟨(s_aloadn (am_dp pw_X11_lays__32 dd_X11_lays__32a.1) rfl).to, ?_⟩
  refine List.forall_mem_cons.mpr ⟨(s_aloadn (am_dp pw_X11_lays__32 dd_X11_lays__32a.2.1) rfl).to, ?_⟩
  refine List.forall_mem_cons.mpr ⟨(s_iloadn (am_dp pw_X11_lays__32 dd_X11_lays__32a.2.2.1) rfl).to, ?_⟩
  refine List.forall_mem_cons.mpr ⟨(s_aloadn (am_dp pw_X11_lays__32 dd_X11_lays__32a.2.2.2.1) rfl).to, ?_⟩
  refine List.forall_mem_cons.mpr ⟨(s_get (ci := 11) (k := 67) (am_dp pw_X11_lays__32 dd_X11_lays__32a.2.2.2.2.1) rfl (by decide) wd1400 inX11 rfl).to, ?_⟩
  refine List.forall_mem_cons.mpr ⟨(s_iloadn (am_dp pw_X11_lays__32 dd_X11_lays__32a.2.2.2.2.2.1) rfl).to, ?_⟩
  refine List.forall_mem_cons.mpr ⟨(s_iald (am_dp pw_X11_lays__32 dd_X11_lays__32a.2.2.2.2.2.2.1)).to, ?_⟩
  refine List.forall_mem_cons.mpr ⟨zw_cv226 (am_dp pw_X11_lays__32 dd_X11_lays__32a.2.2.2.2.2.2.2) wd1842, ?_⟩
  refine List.forall_mem_cons.mpr ⟨(s_aloadn (am_dp pw_X11_lays__32 dd_X11_lays__32b.1) rfl).to, ?_⟩
  refine List.forall_mem_cons.mpr ⟨(s_get (ci := 11) (k := 67) (am_dp pw_X11_lays__32 dd_X11_lays__32b.2.1) rfl (by decide) wd1400 inX11 rfl).to, ?_⟩
  refine List.forall_mem_cons.mpr ⟨(s_iloadn (am_dp pw_X11_lays__32 dd_X11_lays__32b.2.2.1) rfl).to, ?_⟩
  refine List.forall_mem_cons.mpr ⟨(s_iald (am_dp pw_X11_lays__32 dd_X11_lays__32b.2.2.2.1)).to, ?_⟩
  refine List.forall_mem_cons.mpr ⟨(s_aloadn (am_dp pw_X11_lays__32 dd_X11_lays__32b.2.2.2.2.1) rfl).to, ?_⟩
  refine List.forall_mem_cons.mpr ⟨(s_get (ci := 11) (k := 67) (am_dp pw_X11_lays__32 dd_X11_lays__32b.2.2.2.2.2.1) rfl (by decide) wd1400 inX11 rfl).to, ?_⟩
  refine List.forall_mem_cons.mpr ⟨(s_iloadn (am_dp pw_X11_lays__32 dd_X11_lays__32b.2.2.2.2.2.2.1) rfl).to, ?_⟩
  refine List.forall_mem_cons.mpr ⟨(s_iald (am_dp pw_X11_lays__32 dd_X11_lays__32b.2.2.2.2.2.2.2)).to, ?_⟩
  refine List.forall_mem_cons.mpr ⟨zw_cv240 (am_dp pw_X11_lays__32 dd_X11_lays__32c.1) wd1891, ?_⟩
  refine List.forall_mem_cons.mpr ⟨(s_iinc (am_dp pw_X11_lays__32 dd_X11_lays__32c.2) (by decide) (by decide)).to, ?_⟩
  refine List.forall_mem_cons.mpr ⟨(s_goto (am_dp pw_X11_lays__64 dd_X11_lays__64a.1) (by decide)).to, ?_⟩
  refine List.forall_mem_cons.mpr ⟨(s_iconst (am_dp pw_X11_lays__64 dd_X11_lays__64a.2.1) (by decide)).to, ?_⟩
  refine List.forall_mem_cons.mpr ⟨(s_istoren (am_dp pw_X11_lays__64 dd_X11_lays__64a.2.2.1) rfl (by decide)).to, ?_⟩
  refine List.forall_mem_cons.mpr ⟨(s_iloadn (am_dp pw_X11_lays__64 dd_X11_lays__64a.2.2.2.1) rfl).to, ?_⟩
  refine List.forall_mem_cons.mpr ⟨(s_aloadn (am_dp pw_X11_lays__64 dd_X11_lays__64a.2.2.2.2.1) rfl).to, ?_⟩
  refine List.forall_mem_cons.mpr ⟨(s_get (ci := 11) (k := 60) (am_dp pw_X11_lays__64 dd_X11_lays__64a.2.2.2.2.2.1) rfl (by decide) wd1393 inX11 rfl).to, ?_⟩
  refine List.forall_mem_cons.mpr ⟨(s_icmp_ge (am_dp pw_X11_lays__64 dd_X11_lays__64a.2.2.2.2.2.2.1) (by decide)).to, ?_⟩
  refine List.forall_mem_cons.mpr ⟨(s_aloadn (am_dp pw_X11_lays__64 dd_X11_lays__64a.2.2.2.2.2.2.2) rfl).to, ?_⟩
  refine List.forall_mem_cons.mpr ⟨(s_iloadn (am_dp pw_X11_lays__64 dd_X11_lays__64b.1) rfl).to, ?_⟩
  refine List.forall_mem_cons.mpr ⟨(s_aloadn (am_dp pw_X11_lays__64 dd_X11_lays__64b.2.1) rfl).to, ?_⟩
  refine List.forall_mem_cons.mpr ⟨(s_get (ci := 11) (k := 61) (am_dp pw_X11_lays__64 dd_X11_lays__64b.2.2.1) rfl (by decide) wd1394 inX11 rfl).to, ?_⟩
  refine List.forall_mem_cons.mpr ⟨(s_iloadn (am_dp pw_X11_lays__64 dd_X11_lays__64b.2.2.2.1) rfl).to, ?_⟩
  refine List.forall_mem_cons.mpr ⟨(s_iald (am_dp pw_X11_lays__64 dd_X11_lays__64b.2.2.2.2.1)).to, ?_⟩
  refine List.forall_mem_cons.mpr ⟨zw_cv237 (am_dp pw_X11_lays__64 dd_X11_lays__64b.2.2.2.2.2.1) wd1859, ?_⟩
  refine List.forall_mem_cons.mpr ⟨(s_iconst (am_dp pw_X11_lays__64 dd_X11_lays__64b.2.2.2.2.2.2.1) (by decide)).to, ?_⟩
  refine List.forall_mem_cons.mpr ⟨(s_istoren (am_dp pw_X11_lays__64 dd_X11_lays__64b.2.2.2.2.2.2.2) rfl (by decide)).to, ?_⟩
  refine List.forall_mem_cons.mpr ⟨(s_iloadn (am_dp pw_X11_lays__64 dd_X11_lays__64c.1) rfl).to, ?_⟩
  refine List.forall_mem_cons.mpr ⟨(s_aloadn (am_dp pw_X11_lays__64 dd_X11_lays__64c.2.1) rfl).to, ?_⟩
  refine List.forall_mem_cons.mpr ⟨zw_cv214 (am_dp pw_X11_lays__64 dd_X11_lays__64c.2.2.1) wd1771, ?_⟩
  refine List.forall_mem_cons.mpr ⟨(s_icmp_ge (am_dp pw_X11_lays__64 dd_X11_lays__64c.2.2.2) (by decide)).to, ?_⟩
  refine List.forall_mem_cons.mpr ⟨(s_aloadn (am_dp pw_X11_lays__96 dd_X11_lays__96a.1) rfl).to, ?_⟩
  refine List.forall_mem_cons.mpr ⟨(s_get (ci := 11) (k := 72) (am_dp pw_X11_lays__96 dd_X11_lays__96a.2.1) rfl (by decide) wd1405 inX11 rfl).to, ?_⟩
  exact fun _ h => absurd h List.not_mem_nil
theorem sn_tX11_lays__1 : ∀ q ∈ tX11_lays__1, am_Snd am_P0 RX11 cX11_lays_ 4 (Option.none : Option FieldType) "lays" q.1 q.2 := by
  unfold tX11_lays__1
  refine List.forall_mem_cons.mpr ⟨(s_sipush (am_dp pw_X11_lays__96 dd_X11_lays__96a.2.2.1) (by decide)).to, ?_⟩
  refine List.forall_mem_cons.mpr ⟨(s_iloadn (am_dp pw_X11_lays__96 dd_X11_lays__96a.2.2.2.1) rfl).to, ?_⟩
  refine List.forall_mem_cons.mpr ⟨(s_imul (am_dp pw_X11_lays__96 dd_X11_lays__96a.2.2.2.2.1)).to, ?_⟩
  refine List.forall_mem_cons.mpr ⟨(s_iloadn (am_dp pw_X11_lays__96 dd_X11_lays__96a.2.2.2.2.2.1) rfl).to, ?_⟩
  refine List.forall_mem_cons.mpr ⟨(s_iadd (am_dp pw_X11_lays__96 dd_X11_lays__96a.2.2.2.2.2.2.1)).to, ?_⟩
  refine List.forall_mem_cons.mpr ⟨(s_aloadn (am_dp pw_X11_lays__96 dd_X11_lays__96a.2.2.2.2.2.2.2) rfl).to, ?_⟩
  refine List.forall_mem_cons.mpr ⟨(s_iloadn (am_dp pw_X11_lays__96 dd_X11_lays__96b.1) rfl).to, ?_⟩
  refine List.forall_mem_cons.mpr ⟨(s_iloadn (am_dp pw_X11_lays__96 dd_X11_lays__96b.2.1) rfl).to, ?_⟩
  refine List.forall_mem_cons.mpr ⟨zw_cv238 (am_dp pw_X11_lays__96 dd_X11_lays__96b.2.2.1) wd1871, ?_⟩
  refine List.forall_mem_cons.mpr ⟨(s_iast (am_dp pw_X11_lays__96 dd_X11_lays__96b.2.2.2.1)).to, ?_⟩
  refine List.forall_mem_cons.mpr ⟨(s_iinc (am_dp pw_X11_lays__96 dd_X11_lays__96b.2.2.2.2.1) (by decide) (by decide)).to, ?_⟩
  refine List.forall_mem_cons.mpr ⟨(s_goto (am_dp pw_X11_lays__96 dd_X11_lays__96b.2.2.2.2.2.1) (by decide)).to, ?_⟩
  refine List.forall_mem_cons.mpr ⟨(s_iinc (am_dp pw_X11_lays__96 dd_X11_lays__96b.2.2.2.2.2.2.1) (by decide) (by decide)).to, ?_⟩
  refine List.forall_mem_cons.mpr ⟨(s_goto (am_dp pw_X11_lays__96 dd_X11_lays__96b.2.2.2.2.2.2.2) (by decide)).to, ?_⟩
  refine List.forall_mem_cons.mpr ⟨s_vret (am_dp pw_X11_lays__128 dd_X11_lays__128a) rfl, ?_⟩
  exact fun _ h => absurd h List.not_mem_nil
theorem sn_tX11_lays_ : ∀ q ∈ tX11_lays_, am_Snd am_P0 RX11 cX11_lays_ 4 (Option.none : Option FieldType) "lays" q.1 q.2 := by
  unfold tX11_lays_
  exact List.forall_mem_append.mpr ⟨sn_tX11_lays__0, sn_tX11_lays__1⟩
theorem sn_tX11_mayBe : ∀ q ∈ tX11_mayBe, am_Snd am_P0 RX11 cX11_mayBe 5 (Option.some FieldType.boolean) "mayBe" q.1 q.2 := by
  unfold tX11_mayBe
  refine List.forall_mem_cons.mpr ⟨(s_aloadn (am_dp pw_X11_mayBe_0 dd_X11_mayBe_0a.1) rfl).to, ?_⟩
  refine List.forall_mem_cons.mpr ⟨(s_get (ci := 11) (k := 64) (am_dp pw_X11_mayBe_0 dd_X11_mayBe_0a.2.1) rfl (by decide) wd1397 inX11 rfl).to, ?_⟩
  refine List.forall_mem_cons.mpr ⟨(s_if_eq (am_dp pw_X11_mayBe_0 dd_X11_mayBe_0a.2.2.1) (by decide)).to, ?_⟩
  refine List.forall_mem_cons.mpr ⟨(s_aloadn (am_dp pw_X11_mayBe_0 dd_X11_mayBe_0a.2.2.2.1) rfl).to, ?_⟩
  refine List.forall_mem_cons.mpr ⟨(s_iloadn (am_dp pw_X11_mayBe_0 dd_X11_mayBe_0a.2.2.2.2.1) rfl).to, ?_⟩
  refine List.forall_mem_cons.mpr ⟨(s_iloadn (am_dp pw_X11_mayBe_0 dd_X11_mayBe_0a.2.2.2.2.2.1) rfl).to, ?_⟩
  refine List.forall_mem_cons.mpr ⟨zw_cv234 (am_dp pw_X11_mayBe_0 dd_X11_mayBe_0a.2.2.2.2.2.2.1) wd1867, ?_⟩
  refine List.forall_mem_cons.mpr ⟨(s_if_ne (am_dp pw_X11_mayBe_0 dd_X11_mayBe_0a.2.2.2.2.2.2.2) (by decide)).to, ?_⟩
  refine List.forall_mem_cons.mpr ⟨(s_iconst (am_dp pw_X11_mayBe_0 dd_X11_mayBe_0b.1) (by decide)).to, ?_⟩
  refine List.forall_mem_cons.mpr ⟨s_zret (am_dp pw_X11_mayBe_0 dd_X11_mayBe_0b.2.1) rfl, ?_⟩
  refine List.forall_mem_cons.mpr ⟨(s_iconst (am_dp pw_X11_mayBe_0 dd_X11_mayBe_0b.2.2.1) (by decide)).to, ?_⟩
  refine List.forall_mem_cons.mpr ⟨(s_istore (am_dp pw_X11_mayBe_0 dd_X11_mayBe_0b.2.2.2.1) (by decide)).to, ?_⟩
  refine List.forall_mem_cons.mpr ⟨(s_iload (am_dp pw_X11_mayBe_0 dd_X11_mayBe_0b.2.2.2.2.1)).to, ?_⟩
  refine List.forall_mem_cons.mpr ⟨(s_aloadn (am_dp pw_X11_mayBe_0 dd_X11_mayBe_0b.2.2.2.2.2.1) rfl).to, ?_⟩
  refine List.forall_mem_cons.mpr ⟨(s_get (ci := 11) (k := 60) (am_dp pw_X11_mayBe_0 dd_X11_mayBe_0b.2.2.2.2.2.2.1) rfl (by decide) wd1393 inX11 rfl).to, ?_⟩
  refine List.forall_mem_cons.mpr ⟨(s_icmp_ge (am_dp pw_X11_mayBe_0 dd_X11_mayBe_0b.2.2.2.2.2.2.2) (by decide)).to, ?_⟩
  refine List.forall_mem_cons.mpr ⟨(s_aloadn (am_dp pw_X11_mayBe_0 dd_X11_mayBe_0c.1) rfl).to, ?_⟩
  refine List.forall_mem_cons.mpr ⟨(s_get (ci := 11) (k := 72) (am_dp pw_X11_mayBe_0 dd_X11_mayBe_0c.2) rfl (by decide) wd1405 inX11 rfl).to, ?_⟩
  refine List.forall_mem_cons.mpr ⟨(s_sipush (am_dp pw_X11_mayBe_32 dd_X11_mayBe_32a.1) (by decide)).to, ?_⟩
  refine List.forall_mem_cons.mpr ⟨(s_iload (am_dp pw_X11_mayBe_32 dd_X11_mayBe_32a.2.1)).to, ?_⟩
  refine List.forall_mem_cons.mpr ⟨(s_imul (am_dp pw_X11_mayBe_32 dd_X11_mayBe_32a.2.2.1)).to, ?_⟩
  refine List.forall_mem_cons.mpr ⟨(s_iloadn (am_dp pw_X11_mayBe_32 dd_X11_mayBe_32a.2.2.2.1) rfl).to, ?_⟩
  refine List.forall_mem_cons.mpr ⟨(s_iadd (am_dp pw_X11_mayBe_32 dd_X11_mayBe_32a.2.2.2.2.1)).to, ?_⟩
  refine List.forall_mem_cons.mpr ⟨(s_iald (am_dp pw_X11_mayBe_32 dd_X11_mayBe_32a.2.2.2.2.2.1)).to, ?_⟩
  refine List.forall_mem_cons.mpr ⟨(s_iloadn (am_dp pw_X11_mayBe_32 dd_X11_mayBe_32a.2.2.2.2.2.2.1) rfl).to, ?_⟩
  refine List.forall_mem_cons.mpr ⟨(s_iloadn (am_dp pw_X11_mayBe_32 dd_X11_mayBe_32a.2.2.2.2.2.2.2) rfl).to, ?_⟩
  refine List.forall_mem_cons.mpr ⟨(s_aloadn (am_dp pw_X11_mayBe_32 dd_X11_mayBe_32b.1) rfl).to, ?_⟩
  refine List.forall_mem_cons.mpr ⟨(s_get (ci := 11) (k := 62) (am_dp pw_X11_mayBe_32 dd_X11_mayBe_32b.2.1) rfl (by decide) wd1395 inX11 rfl).to, ?_⟩
  refine List.forall_mem_cons.mpr ⟨(s_iload (am_dp pw_X11_mayBe_32 dd_X11_mayBe_32b.2.2.1)).to, ?_⟩
  refine List.forall_mem_cons.mpr ⟨(s_iald (am_dp pw_X11_mayBe_32 dd_X11_mayBe_32b.2.2.2.1)).to, ?_⟩
  refine List.forall_mem_cons.mpr ⟨(s_aloadn (am_dp pw_X11_mayBe_32 dd_X11_mayBe_32b.2.2.2.2.1) rfl).to, ?_⟩
  refine List.forall_mem_cons.mpr ⟨(s_get (ci := 11) (k := 63) (am_dp pw_X11_mayBe_32 dd_X11_mayBe_32b.2.2.2.2.2.1) rfl (by decide) wd1396 inX11 rfl).to, ?_⟩
  refine List.forall_mem_cons.mpr ⟨(s_iload (am_dp pw_X11_mayBe_32 dd_X11_mayBe_32b.2.2.2.2.2.2.1)).to, ?_⟩
  refine List.forall_mem_cons.mpr ⟨(s_iald (am_dp pw_X11_mayBe_32 dd_X11_mayBe_32b.2.2.2.2.2.2.2)).to, ?_⟩
  refine List.forall_mem_cons.mpr ⟨zw_cs243 (am_dp pw_X11_mayBe_32 dd_X11_mayBe_32c.1) wd1899, ?_⟩
  refine List.forall_mem_cons.mpr ⟨(s_icmp_le (am_dp pw_X11_mayBe_32 dd_X11_mayBe_32c.2) (by decide)).to, ?_⟩
  refine List.forall_mem_cons.mpr ⟨(s_iconst (am_dp pw_X11_mayBe_64 dd_X11_mayBe_64a.1) (by decide)).to, ?_⟩
  refine List.forall_mem_cons.mpr ⟨s_zret (am_dp pw_X11_mayBe_64 dd_X11_mayBe_64a.2.1) rfl, ?_⟩
  refine List.forall_mem_cons.mpr ⟨(s_iinc (am_dp pw_X11_mayBe_64 dd_X11_mayBe_64a.2.2.1) (by decide) (by decide)).to, ?_⟩
  refine List.forall_mem_cons.mpr ⟨(s_goto (am_dp pw_X11_mayBe_64 dd_X11_mayBe_64a.2.2.2.1) (by decide)).to, ?_⟩
  refine List.forall_mem_cons.mpr ⟨(s_iconst (am_dp pw_X11_mayBe_64 dd_X11_mayBe_64a.2.2.2.2.1) (by decide)).to, ?_⟩
  refine List.forall_mem_cons.mpr ⟨s_zret (am_dp pw_X11_mayBe_64 dd_X11_mayBe_64a.2.2.2.2.2) rfl, ?_⟩
  exact fun _ h => absurd h List.not_mem_nil
theorem sn_tX11_cellsOf : ∀ q ∈ tX11_cellsOf, am_Snd am_P0 RX11 cX11_cellsOf 5 (Option.some FieldType.int) "cellsOf" q.1 q.2 := by
  unfold tX11_cellsOf
  refine List.forall_mem_cons.mpr ⟨(s_iconst (am_dp pw_X11_cellsOf_0 dd_X11_cellsOf_0a.1) (by decide)).to, ?_⟩
  refine List.forall_mem_cons.mpr ⟨(s_istoren (am_dp pw_X11_cellsOf_0 dd_X11_cellsOf_0a.2.1) rfl (by decide)).to, ?_⟩
  refine List.forall_mem_cons.mpr ⟨(s_iconst (am_dp pw_X11_cellsOf_0 dd_X11_cellsOf_0a.2.2.1) (by decide)).to, ?_⟩
  refine List.forall_mem_cons.mpr ⟨(s_istore (am_dp pw_X11_cellsOf_0 dd_X11_cellsOf_0a.2.2.2.1) (by decide)).to, ?_⟩
  refine List.forall_mem_cons.mpr ⟨(s_iload (am_dp pw_X11_cellsOf_0 dd_X11_cellsOf_0a.2.2.2.2.1)).to, ?_⟩
  refine List.forall_mem_cons.mpr ⟨(s_aloadn (am_dp pw_X11_cellsOf_0 dd_X11_cellsOf_0a.2.2.2.2.2.1) rfl).to, ?_⟩
  refine List.forall_mem_cons.mpr ⟨zw_cv214 (am_dp pw_X11_cellsOf_0 dd_X11_cellsOf_0a.2.2.2.2.2.2.1) wd1771, ?_⟩
  refine List.forall_mem_cons.mpr ⟨(s_icmp_ge (am_dp pw_X11_cellsOf_0 dd_X11_cellsOf_0a.2.2.2.2.2.2.2) (by decide)).to, ?_⟩
  refine List.forall_mem_cons.mpr ⟨(s_iloadn (am_dp pw_X11_cellsOf_0 dd_X11_cellsOf_0b.1) rfl).to, ?_⟩
  refine List.forall_mem_cons.mpr ⟨(s_aloadn (am_dp pw_X11_cellsOf_0 dd_X11_cellsOf_0b.2.1) rfl).to, ?_⟩
  refine List.forall_mem_cons.mpr ⟨(s_iloadn (am_dp pw_X11_cellsOf_0 dd_X11_cellsOf_0b.2.2.1) rfl).to, ?_⟩
  refine List.forall_mem_cons.mpr ⟨(s_iload (am_dp pw_X11_cellsOf_0 dd_X11_cellsOf_0b.2.2.2.1)).to, ?_⟩
  refine List.forall_mem_cons.mpr ⟨(s_iloadn (am_dp pw_X11_cellsOf_0 dd_X11_cellsOf_0b.2.2.2.2.1) rfl).to, ?_⟩
  refine List.forall_mem_cons.mpr ⟨zw_cv250 (am_dp pw_X11_cellsOf_0 dd_X11_cellsOf_0b.2.2.2.2.2.1) wd1946, ?_⟩
  refine List.forall_mem_cons.mpr ⟨(s_if_eq (am_dp pw_X11_cellsOf_0 dd_X11_cellsOf_0b.2.2.2.2.2.2.1) (by decide)).to, ?_⟩
  refine List.forall_mem_cons.mpr ⟨(s_iconst (am_dp pw_X11_cellsOf_0 dd_X11_cellsOf_0b.2.2.2.2.2.2.2) (by decide)).to, ?_⟩
  refine List.forall_mem_cons.mpr ⟨(s_goto (am_dp pw_X11_cellsOf_0 dd_X11_cellsOf_0c.1) (by decide)).to, ?_⟩
  refine List.forall_mem_cons.mpr ⟨(s_iconst (am_dp pw_X11_cellsOf_0 dd_X11_cellsOf_0c.2.1) (by decide)).to, ?_⟩
  refine List.forall_mem_cons.mpr ⟨(s_iadd (am_dp pw_X11_cellsOf_0 dd_X11_cellsOf_0c.2.2)).to, ?_⟩
  refine List.forall_mem_cons.mpr ⟨(s_istoren (am_dp pw_X11_cellsOf_32 dd_X11_cellsOf_32a.1) rfl (by decide)).to, ?_⟩
  refine List.forall_mem_cons.mpr ⟨(s_iinc (am_dp pw_X11_cellsOf_32 dd_X11_cellsOf_32a.2.1) (by decide) (by decide)).to, ?_⟩
  refine List.forall_mem_cons.mpr ⟨(s_goto (am_dp pw_X11_cellsOf_32 dd_X11_cellsOf_32a.2.2.1) (by decide)).to, ?_⟩
  refine List.forall_mem_cons.mpr ⟨(s_iloadn (am_dp pw_X11_cellsOf_32 dd_X11_cellsOf_32a.2.2.2.1) rfl).to, ?_⟩
  refine List.forall_mem_cons.mpr ⟨s_iret (am_dp pw_X11_cellsOf_32 dd_X11_cellsOf_32a.2.2.2.2) rfl, ?_⟩
  exact fun _ h => absurd h List.not_mem_nil
theorem sn_tX11_isHonest : ∀ q ∈ tX11_isHonest, am_Snd am_P0 RX11 cX11_isHonest 4 (Option.some FieldType.boolean) "isHonest" q.1 q.2 := by
  unfold tX11_isHonest
  refine List.forall_mem_cons.mpr ⟨(s_iconst (am_dp pw_X11_isHonest_0 dd_X11_isHonest_0a.1) (by decide)).to, ?_⟩
  refine List.forall_mem_cons.mpr ⟨(s_istoren (am_dp pw_X11_isHonest_0 dd_X11_isHonest_0a.2.1) rfl (by decide)).to, ?_⟩
  refine List.forall_mem_cons.mpr ⟨(s_iloadn (am_dp pw_X11_isHonest_0 dd_X11_isHonest_0a.2.2.1) rfl).to, ?_⟩
  refine List.forall_mem_cons.mpr ⟨(s_aloadn (am_dp pw_X11_isHonest_0 dd_X11_isHonest_0a.2.2.2.1) rfl).to, ?_⟩
  refine List.forall_mem_cons.mpr ⟨zw_cv214 (am_dp pw_X11_isHonest_0 dd_X11_isHonest_0a.2.2.2.2.1) wd1771, ?_⟩
  refine List.forall_mem_cons.mpr ⟨(s_icmp_ge (am_dp pw_X11_isHonest_0 dd_X11_isHonest_0a.2.2.2.2.2.1) (by decide)).to, ?_⟩
  refine List.forall_mem_cons.mpr ⟨(s_aloadn (am_dp pw_X11_isHonest_0 dd_X11_isHonest_0a.2.2.2.2.2.2.1) rfl).to, ?_⟩
  refine List.forall_mem_cons.mpr ⟨(s_iloadn (am_dp pw_X11_isHonest_0 dd_X11_isHonest_0a.2.2.2.2.2.2.2) rfl).to, ?_⟩
  refine List.forall_mem_cons.mpr ⟨(s_iloadn (am_dp pw_X11_isHonest_0 dd_X11_isHonest_0b.1) rfl).to, ?_⟩
  refine List.forall_mem_cons.mpr ⟨(s_iloadn (am_dp pw_X11_isHonest_0 dd_X11_isHonest_0b.2.1) rfl).to, ?_⟩
  refine List.forall_mem_cons.mpr ⟨zw_cv250 (am_dp pw_X11_isHonest_0 dd_X11_isHonest_0b.2.2.1) wd1946, ?_⟩
  refine List.forall_mem_cons.mpr ⟨(s_if_eq (am_dp pw_X11_isHonest_0 dd_X11_isHonest_0b.2.2.2.1) (by decide)).to, ?_⟩
  refine List.forall_mem_cons.mpr ⟨(s_aloadn (am_dp pw_X11_isHonest_0 dd_X11_isHonest_0b.2.2.2.2.1) rfl).to, ?_⟩
  refine List.forall_mem_cons.mpr ⟨(s_iloadn (am_dp pw_X11_isHonest_0 dd_X11_isHonest_0b.2.2.2.2.2.1) rfl).to, ?_⟩
  refine List.forall_mem_cons.mpr ⟨(s_iloadn (am_dp pw_X11_isHonest_0 dd_X11_isHonest_0b.2.2.2.2.2.2.1) rfl).to, ?_⟩
  refine List.forall_mem_cons.mpr ⟨zw_cv224 (am_dp pw_X11_isHonest_0 dd_X11_isHonest_0b.2.2.2.2.2.2.2) wd1830, ?_⟩
  refine List.forall_mem_cons.mpr ⟨(s_if_eq (am_dp pw_X11_isHonest_0 dd_X11_isHonest_0c.1) (by decide)).to, ?_⟩
  refine List.forall_mem_cons.mpr ⟨(s_iconst (am_dp pw_X11_isHonest_0 dd_X11_isHonest_0c.2.1) (by decide)).to, ?_⟩
  refine List.forall_mem_cons.mpr ⟨s_zret (am_dp pw_X11_isHonest_0 dd_X11_isHonest_0c.2.2.1) rfl, ?_⟩
  refine List.forall_mem_cons.mpr ⟨(s_iinc (am_dp pw_X11_isHonest_0 dd_X11_isHonest_0c.2.2.2) (by decide) (by decide)).to, ?_⟩
  refine List.forall_mem_cons.mpr ⟨(s_goto (am_dp pw_X11_isHonest_32 dd_X11_isHonest_32a.1) (by decide)).to, ?_⟩
  refine List.forall_mem_cons.mpr ⟨(s_iconst (am_dp pw_X11_isHonest_32 dd_X11_isHonest_32a.2.1) (by decide)).to, ?_⟩
  refine List.forall_mem_cons.mpr ⟨s_zret (am_dp pw_X11_isHonest_32 dd_X11_isHonest_32a.2.2) rfl, ?_⟩
  exact fun _ h => absurd h List.not_mem_nil
theorem sn_tX11_ship__0 : ∀ q ∈ tX11_ship__0, am_Snd am_P0 RX11 cX11_ship_ 4 (Option.some FieldType.int) "ship" q.1 q.2 := by
  unfold tX11_ship__0
  refine List.forall_mem_cons.mpr ⟨(s_aloadn (am_dp pw_X11_ship__0 dd_X11_ship__0a.1) rfl).to, ?_⟩
  refine List.forall_mem_cons.mpr ⟨(s_iloadn (am_dp pw_X11_ship__0 dd_X11_ship__0a.2.1) rfl).to, ?_⟩
  refine List.forall_mem_cons.mpr ⟨zw_cv220 (am_dp pw_X11_ship__0 dd_X11_ship__0a.2.2.1) wd1850, ?_⟩
  refine List.forall_mem_cons.mpr ⟨(s_if_eq (am_dp pw_X11_ship__0 dd_X11_ship__0a.2.2.2.1) (by decide)).to, ?_⟩
  refine List.forall_mem_cons.mpr ⟨(s_iloadn (am_dp pw_X11_ship__0 dd_X11_ship__0a.2.2.2.2.1) rfl).to, ?_⟩
  refine List.forall_mem_cons.mpr ⟨(s_iconst (am_dp pw_X11_ship__0 dd_X11_ship__0a.2.2.2.2.2.1) (by decide)).to, ?_⟩
  refine List.forall_mem_cons.mpr ⟨(s_bipush (am_dp pw_X11_ship__0 dd_X11_ship__0a.2.2.2.2.2.2.1) (by decide)).to, ?_⟩
  refine List.forall_mem_cons.mpr ⟨zw_cs167 (am_dp pw_X11_ship__0 dd_X11_ship__0a.2.2.2.2.2.2.2) wd1630, ?_⟩
  refine List.forall_mem_cons.mpr ⟨(s_if_ne (am_dp pw_X11_ship__0 dd_X11_ship__0b.1) (by decide)).to, ?_⟩
  refine List.forall_mem_cons.mpr ⟨(s_iconst (am_dp pw_X11_ship__0 dd_X11_ship__0b.2.1) (by decide)).to, ?_⟩
  refine List.forall_mem_cons.mpr ⟨s_iret (am_dp pw_X11_ship__0 dd_X11_ship__0b.2.2.1) rfl, ?_⟩
  refine List.forall_mem_cons.mpr ⟨(s_bipush (am_dp pw_X11_ship__0 dd_X11_ship__0b.2.2.2.1) (by decide)).to, ?_⟩
  refine List.forall_mem_cons.mpr ⟨(s_aloadn (am_dp pw_X11_ship__0 dd_X11_ship__0b.2.2.2.2.1) rfl).to, ?_⟩
  refine List.forall_mem_cons.mpr ⟨(s_get (ci := 11) (k := 12) (am_dp pw_X11_ship__0 dd_X11_ship__0b.2.2.2.2.2.1) rfl (by decide) wd1345 inX11 rfl).to, ?_⟩
  refine List.forall_mem_cons.mpr ⟨(s_imul (am_dp pw_X11_ship__0 dd_X11_ship__0b.2.2.2.2.2.2.1)).to, ?_⟩
  refine List.forall_mem_cons.mpr ⟨(s_iloadn (am_dp pw_X11_ship__0 dd_X11_ship__0b.2.2.2.2.2.2.2) rfl).to, ?_⟩
  refine List.forall_mem_cons.mpr ⟨(s_iadd (am_dp pw_X11_ship__0 dd_X11_ship__0c.1)).to, ?_⟩
  refine List.forall_mem_cons.mpr ⟨(s_istoren (am_dp pw_X11_ship__0 dd_X11_ship__0c.2.1) rfl (by decide)).to, ?_⟩
  refine List.forall_mem_cons.mpr ⟨(s_iloadn (am_dp pw_X11_ship__0 dd_X11_ship__0c.2.2) rfl).to, ?_⟩
  refine List.forall_mem_cons.mpr ⟨(s_table (by decide +kernel : decode cX11_ship_ 31 = .ok (.tableswitch 103 0 8 #[49, 56, 63, 70, 77, 103, 103, 83, 89], 49)) (by decide) (by decide) (by decide) (by decide)).to, ?_⟩
  refine List.forall_mem_cons.mpr ⟨(s_aloadn (am_dp pw_X11_ship__64 dd_X11_ship__64a.1) rfl).to, ?_⟩
  refine List.forall_mem_cons.mpr ⟨(s_get (ci := 11) (k := 21) (am_dp pw_X11_ship__64 dd_X11_ship__64a.2.1) rfl (by decide) wd1354 inX11 rfl).to, ?_⟩
  refine List.forall_mem_cons.mpr ⟨(s_iloadn (am_dp pw_X11_ship__64 dd_X11_ship__64a.2.2.1) rfl).to, ?_⟩
  refine List.forall_mem_cons.mpr ⟨(s_iald (am_dp pw_X11_ship__64 dd_X11_ship__64a.2.2.2.1)).to, ?_⟩
  refine List.forall_mem_cons.mpr ⟨s_iret (am_dp pw_X11_ship__64 dd_X11_ship__64a.2.2.2.2.1) rfl, ?_⟩
  refine List.forall_mem_cons.mpr ⟨(s_aloadn (am_dp pw_X11_ship__64 dd_X11_ship__64a.2.2.2.2.2.1) rfl).to, ?_⟩
  refine List.forall_mem_cons.mpr ⟨(s_get (ci := 11) (k := 22) (am_dp pw_X11_ship__64 dd_X11_ship__64a.2.2.2.2.2.2.1) rfl (by decide) wd1355 inX11 rfl).to, ?_⟩
  refine List.forall_mem_cons.mpr ⟨(s_iloadn (am_dp pw_X11_ship__64 dd_X11_ship__64a.2.2.2.2.2.2.2) rfl).to, ?_⟩
  refine List.forall_mem_cons.mpr ⟨(s_iald (am_dp pw_X11_ship__64 dd_X11_ship__64b.1)).to, ?_⟩
  refine List.forall_mem_cons.mpr ⟨s_iret (am_dp pw_X11_ship__64 dd_X11_ship__64b.2.1) rfl, ?_⟩
  refine List.forall_mem_cons.mpr ⟨(s_aloadn (am_dp pw_X11_ship__64 dd_X11_ship__64b.2.2.1) rfl).to, ?_⟩
  refine List.forall_mem_cons.mpr ⟨(s_get (ci := 11) (k := 23) (am_dp pw_X11_ship__64 dd_X11_ship__64b.2.2.2) rfl (by decide) wd1356 inX11 rfl).to, ?_⟩
  refine List.forall_mem_cons.mpr ⟨(s_iloadn (am_dp pw_X11_ship__96 dd_X11_ship__96a.1) rfl).to, ?_⟩
  refine List.forall_mem_cons.mpr ⟨(s_iald (am_dp pw_X11_ship__96 dd_X11_ship__96a.2.1)).to, ?_⟩
  refine List.forall_mem_cons.mpr ⟨s_iret (am_dp pw_X11_ship__96 dd_X11_ship__96a.2.2.1) rfl, ?_⟩
  refine List.forall_mem_cons.mpr ⟨(s_aloadn (am_dp pw_X11_ship__96 dd_X11_ship__96a.2.2.2.1) rfl).to, ?_⟩
  refine List.forall_mem_cons.mpr ⟨(s_get (ci := 11) (k := 24) (am_dp pw_X11_ship__96 dd_X11_ship__96a.2.2.2.2.1) rfl (by decide) wd1357 inX11 rfl).to, ?_⟩
  refine List.forall_mem_cons.mpr ⟨(s_iloadn (am_dp pw_X11_ship__96 dd_X11_ship__96a.2.2.2.2.2.1) rfl).to, ?_⟩
  refine List.forall_mem_cons.mpr ⟨(s_iald (am_dp pw_X11_ship__96 dd_X11_ship__96a.2.2.2.2.2.2.1)).to, ?_⟩
  refine List.forall_mem_cons.mpr ⟨s_iret (am_dp pw_X11_ship__96 dd_X11_ship__96a.2.2.2.2.2.2.2) rfl, ?_⟩
  refine List.forall_mem_cons.mpr ⟨(s_aloadn (am_dp pw_X11_ship__96 dd_X11_ship__96b.1) rfl).to, ?_⟩
  refine List.forall_mem_cons.mpr ⟨(s_iloadn (am_dp pw_X11_ship__96 dd_X11_ship__96b.2.1) rfl).to, ?_⟩
  refine List.forall_mem_cons.mpr ⟨zw_cv228 (am_dp pw_X11_ship__96 dd_X11_ship__96b.2.2.1) wd1838, ?_⟩
  refine List.forall_mem_cons.mpr ⟨s_iret (am_dp pw_X11_ship__96 dd_X11_ship__96b.2.2.2.1) rfl, ?_⟩
  refine List.forall_mem_cons.mpr ⟨(s_aloadn (am_dp pw_X11_ship__96 dd_X11_ship__96b.2.2.2.2.1) rfl).to, ?_⟩
  refine List.forall_mem_cons.mpr ⟨(s_iloadn (am_dp pw_X11_ship__96 dd_X11_ship__96b.2.2.2.2.2.1) rfl).to, ?_⟩
  refine List.forall_mem_cons.mpr ⟨zw_cv231 (am_dp pw_X11_ship__96 dd_X11_ship__96b.2.2.2.2.2.2.1) wd1879, ?_⟩
  refine List.forall_mem_cons.mpr ⟨s_iret (am_dp pw_X11_ship__96 dd_X11_ship__96b.2.2.2.2.2.2.2) rfl, ?_⟩
  refine List.forall_mem_cons.mpr ⟨(s_aloadn (am_dp pw_X11_ship__96 dd_X11_ship__96c.1) rfl).to, ?_⟩
  refine List.forall_mem_cons.mpr ⟨(s_iloadn (am_dp pw_X11_ship__96 dd_X11_ship__96c.2.1) rfl).to, ?_⟩
  refine List.forall_mem_cons.mpr ⟨zw_cv245 (am_dp pw_X11_ship__96 dd_X11_ship__96c.2.2.1) wd1883, ?_⟩
  refine List.forall_mem_cons.mpr ⟨(s_if_eq (am_dp pw_X11_ship__96 dd_X11_ship__96c.2.2.2) (by decide)).to, ?_⟩
  refine List.forall_mem_cons.mpr ⟨(s_iconst (am_dp pw_X11_ship__128 dd_X11_ship__128a.1) (by decide)).to, ?_⟩
  refine List.forall_mem_cons.mpr ⟨(s_goto (am_dp pw_X11_ship__128 dd_X11_ship__128a.2.1) (by decide)).to, ?_⟩
  refine List.forall_mem_cons.mpr ⟨(s_iconst (am_dp pw_X11_ship__128 dd_X11_ship__128a.2.2.1) (by decide)).to, ?_⟩
  refine List.forall_mem_cons.mpr ⟨s_iret (am_dp pw_X11_ship__128 dd_X11_ship__128a.2.2.2.1) rfl, ?_⟩
  refine List.forall_mem_cons.mpr ⟨(s_aloadn (am_dp pw_X11_ship__128 dd_X11_ship__128a.2.2.2.2.1) rfl).to, ?_⟩
  refine List.forall_mem_cons.mpr ⟨(s_iloadn (am_dp pw_X11_ship__128 dd_X11_ship__128a.2.2.2.2.2.1) rfl).to, ?_⟩
  refine List.forall_mem_cons.mpr ⟨zw_cv248 (am_dp pw_X11_ship__128 dd_X11_ship__128a.2.2.2.2.2.2.1) wd1902, ?_⟩
  refine List.forall_mem_cons.mpr ⟨(s_iloadn (am_dp pw_X11_ship__128 dd_X11_ship__128a.2.2.2.2.2.2.2) rfl).to, ?_⟩
  exact fun _ h => absurd h List.not_mem_nil
theorem sn_tX11_ship__1 : ∀ q ∈ tX11_ship__1, am_Snd am_P0 RX11 cX11_ship_ 4 (Option.some FieldType.int) "ship" q.1 q.2 := by
  unfold tX11_ship__1
  refine List.forall_mem_cons.mpr ⟨(s_iconst (am_dp pw_X11_ship__128 dd_X11_ship__128b.1) (by decide)).to, ?_⟩
  refine List.forall_mem_cons.mpr ⟨(s_icmp_ne (am_dp pw_X11_ship__128 dd_X11_ship__128b.2.1) (by decide)).to, ?_⟩
  refine List.forall_mem_cons.mpr ⟨(s_aloadn (am_dp pw_X11_ship__128 dd_X11_ship__128b.2.2.1) rfl).to, ?_⟩
  refine List.forall_mem_cons.mpr ⟨(s_get (ci := 11) (k := 66) (am_dp pw_X11_ship__128 dd_X11_ship__128b.2.2.2.1) rfl (by decide) wd1399 inX11 rfl).to, ?_⟩
  refine List.forall_mem_cons.mpr ⟨(s_goto (am_dp pw_X11_ship__128 dd_X11_ship__128b.2.2.2.2.1) (by decide)).to, ?_⟩
  refine List.forall_mem_cons.mpr ⟨(s_aloadn (am_dp pw_X11_ship__128 dd_X11_ship__128b.2.2.2.2.2.1) rfl).to, ?_⟩
  refine List.forall_mem_cons.mpr ⟨(s_get (ci := 11) (k := 65) (am_dp pw_X11_ship__128 dd_X11_ship__128b.2.2.2.2.2.2.1) rfl (by decide) wd1398 inX11 rfl).to, ?_⟩
  refine List.forall_mem_cons.mpr ⟨(s_aloadn (am_dp pw_X11_ship__128 dd_X11_ship__128b.2.2.2.2.2.2.2) rfl).to, ?_⟩
  refine List.forall_mem_cons.mpr ⟨(s_get (ci := 11) (k := 66) (am_dp pw_X11_ship__128 dd_X11_ship__128c.1) rfl (by decide) wd1399 inX11 rfl).to, ?_⟩
  refine List.forall_mem_cons.mpr ⟨(s_isub (am_dp pw_X11_ship__128 dd_X11_ship__128c.2)).to, ?_⟩
  refine List.forall_mem_cons.mpr ⟨s_iret (am_dp pw_X11_ship__160 dd_X11_ship__160a) rfl, ?_⟩
  exact fun _ h => absurd h List.not_mem_nil
theorem sn_tX11_ship_ : ∀ q ∈ tX11_ship_, am_Snd am_P0 RX11 cX11_ship_ 4 (Option.some FieldType.int) "ship" q.1 q.2 := by
  unfold tX11_ship_
  exact List.forall_mem_append.mpr ⟨sn_tX11_ship__0, sn_tX11_ship__1⟩
theorem sn_tX11_saying_0 : ∀ q ∈ tX11_saying_0, am_Snd am_P0 RX11 cX11_saying 5 (Option.some FieldType.int) "saying" q.1 q.2 := by
  unfold tX11_saying_0
  refine List.forall_mem_cons.mpr ⟨(s_aloadn (am_dp pw_X11_saying_0 dd_X11_saying_0a.1) rfl).to, ?_⟩
  refine List.forall_mem_cons.mpr ⟨(s_iloadn (am_dp pw_X11_saying_0 dd_X11_saying_0a.2.1) rfl).to, ?_⟩
  refine List.forall_mem_cons.mpr ⟨zw_cv220 (am_dp pw_X11_saying_0 dd_X11_saying_0a.2.2.1) wd1850, ?_⟩
  refine List.forall_mem_cons.mpr ⟨(s_if_eq (am_dp pw_X11_saying_0 dd_X11_saying_0a.2.2.2.1) (by decide)).to, ?_⟩
  refine List.forall_mem_cons.mpr ⟨(s_aloadn (am_dp pw_X11_saying_0 dd_X11_saying_0a.2.2.2.2.1) rfl).to, ?_⟩
  refine List.forall_mem_cons.mpr ⟨(s_iloadn (am_dp pw_X11_saying_0 dd_X11_saying_0a.2.2.2.2.2.1) rfl).to, ?_⟩
  refine List.forall_mem_cons.mpr ⟨(s_iloadn (am_dp pw_X11_saying_0 dd_X11_saying_0a.2.2.2.2.2.2.1) rfl).to, ?_⟩
  refine List.forall_mem_cons.mpr ⟨zw_cv229 (am_dp pw_X11_saying_0 dd_X11_saying_0a.2.2.2.2.2.2.2) wd1926, ?_⟩
  refine List.forall_mem_cons.mpr ⟨(s_goto (am_dp pw_X11_saying_0 dd_X11_saying_0b.1) (by decide)).to, ?_⟩
  refine List.forall_mem_cons.mpr ⟨(s_iconst (am_dp pw_X11_saying_0 dd_X11_saying_0b.2.1) (by decide)).to, ?_⟩
  refine List.forall_mem_cons.mpr ⟨(s_istore (am_dp pw_X11_saying_0 dd_X11_saying_0b.2.2.1) (by decide)).to, ?_⟩
  refine List.forall_mem_cons.mpr ⟨(s_iload (am_dp pw_X11_saying_0 dd_X11_saying_0b.2.2.2.1)).to, ?_⟩
  refine List.forall_mem_cons.mpr ⟨(s_iconst (am_dp pw_X11_saying_0 dd_X11_saying_0b.2.2.2.2.1) (by decide)).to, ?_⟩
  refine List.forall_mem_cons.mpr ⟨(s_icmp_ne (am_dp pw_X11_saying_0 dd_X11_saying_0b.2.2.2.2.2.1) (by decide)).to, ?_⟩
  refine List.forall_mem_cons.mpr ⟨(s_iconst (am_dp pw_X11_saying_0 dd_X11_saying_0b.2.2.2.2.2.2.1) (by decide)).to, ?_⟩
  refine List.forall_mem_cons.mpr ⟨s_iret (am_dp pw_X11_saying_0 dd_X11_saying_0b.2.2.2.2.2.2.2) rfl, ?_⟩
  refine List.forall_mem_cons.mpr ⟨(s_iloadn (am_dp pw_X11_saying_0 dd_X11_saying_0c) rfl).to, ?_⟩
  refine List.forall_mem_cons.mpr ⟨(s_table (by decide +kernel : decode cX11_saying 29 = .ok (.tableswitch 110 0 4 #[35, 38, 46, 62, 90], 35)) (by decide) (by decide) (by decide) (by decide)).to, ?_⟩
  refine List.forall_mem_cons.mpr ⟨(s_iload (am_dp pw_X11_saying_64 dd_X11_saying_64a.1)).to, ?_⟩
  refine List.forall_mem_cons.mpr ⟨s_iret (am_dp pw_X11_saying_64 dd_X11_saying_64a.2.1) rfl, ?_⟩
  refine List.forall_mem_cons.mpr ⟨(s_aloadn (am_dp pw_X11_saying_64 dd_X11_saying_64a.2.2.1) rfl).to, ?_⟩
  refine List.forall_mem_cons.mpr ⟨(s_iloadn (am_dp pw_X11_saying_64 dd_X11_saying_64a.2.2.2.1) rfl).to, ?_⟩
  refine List.forall_mem_cons.mpr ⟨(s_iload (am_dp pw_X11_saying_64 dd_X11_saying_64a.2.2.2.2.1)).to, ?_⟩
  refine List.forall_mem_cons.mpr ⟨zw_cv226 (am_dp pw_X11_saying_64 dd_X11_saying_64a.2.2.2.2.2.1) wd1842, ?_⟩
  refine List.forall_mem_cons.mpr ⟨s_iret (am_dp pw_X11_saying_64 dd_X11_saying_64a.2.2.2.2.2.2.1) rfl, ?_⟩
  refine List.forall_mem_cons.mpr ⟨(s_aloadn (am_dp pw_X11_saying_64 dd_X11_saying_64a.2.2.2.2.2.2.2) rfl).to, ?_⟩
  refine List.forall_mem_cons.mpr ⟨(s_iloadn (am_dp pw_X11_saying_64 dd_X11_saying_64b.1) rfl).to, ?_⟩
  refine List.forall_mem_cons.mpr ⟨(s_iload (am_dp pw_X11_saying_64 dd_X11_saying_64b.2.1)).to, ?_⟩
  refine List.forall_mem_cons.mpr ⟨zw_cv227 (am_dp pw_X11_saying_64 dd_X11_saying_64b.2.2.1) wd1910, ?_⟩
  refine List.forall_mem_cons.mpr ⟨(s_if_eq (am_dp pw_X11_saying_64 dd_X11_saying_64b.2.2.2.1) (by decide)).to, ?_⟩
  refine List.forall_mem_cons.mpr ⟨(s_iconst (am_dp pw_X11_saying_64 dd_X11_saying_64b.2.2.2.2.1) (by decide)).to, ?_⟩
  refine List.forall_mem_cons.mpr ⟨(s_goto (am_dp pw_X11_saying_64 dd_X11_saying_64b.2.2.2.2.2.1) (by decide)).to, ?_⟩
  refine List.forall_mem_cons.mpr ⟨(s_iconst (am_dp pw_X11_saying_64 dd_X11_saying_64b.2.2.2.2.2.2.1) (by decide)).to, ?_⟩
  refine List.forall_mem_cons.mpr ⟨s_iret (am_dp pw_X11_saying_64 dd_X11_saying_64b.2.2.2.2.2.2.2) rfl, ?_⟩
  refine List.forall_mem_cons.mpr ⟨(s_aloadn (am_dp pw_X11_saying_64 dd_X11_saying_64c.1) rfl).to, ?_⟩
  refine List.forall_mem_cons.mpr ⟨(s_iloadn (am_dp pw_X11_saying_64 dd_X11_saying_64c.2.1) rfl).to, ?_⟩
  refine List.forall_mem_cons.mpr ⟨(s_aloadn (am_dp pw_X11_saying_64 dd_X11_saying_64c.2.2.1) rfl).to, ?_⟩
  refine List.forall_mem_cons.mpr ⟨(s_iloadn (am_dp pw_X11_saying_64 dd_X11_saying_64c.2.2.2.1) rfl).to, ?_⟩
  refine List.forall_mem_cons.mpr ⟨(s_iload (am_dp pw_X11_saying_64 dd_X11_saying_64c.2.2.2.2)).to, ?_⟩
  refine List.forall_mem_cons.mpr ⟨zw_cv226 (am_dp pw_X11_saying_96 dd_X11_saying_96a.1) wd1842, ?_⟩
  refine List.forall_mem_cons.mpr ⟨(s_aloadn (am_dp pw_X11_saying_96 dd_X11_saying_96a.2.1) rfl).to, ?_⟩
  refine List.forall_mem_cons.mpr ⟨(s_iloadn (am_dp pw_X11_saying_96 dd_X11_saying_96a.2.2.1) rfl).to, ?_⟩
  refine List.forall_mem_cons.mpr ⟨(s_iload (am_dp pw_X11_saying_96 dd_X11_saying_96a.2.2.2.1)).to, ?_⟩
  refine List.forall_mem_cons.mpr ⟨zw_cv227 (am_dp pw_X11_saying_96 dd_X11_saying_96a.2.2.2.2.1) wd1910, ?_⟩
  refine List.forall_mem_cons.mpr ⟨zw_cv235 (am_dp pw_X11_saying_96 dd_X11_saying_96a.2.2.2.2.2.1) wd1914, ?_⟩
  refine List.forall_mem_cons.mpr ⟨(s_if_eq (am_dp pw_X11_saying_96 dd_X11_saying_96a.2.2.2.2.2.2.1) (by decide)).to, ?_⟩
  refine List.forall_mem_cons.mpr ⟨(s_iconst (am_dp pw_X11_saying_96 dd_X11_saying_96a.2.2.2.2.2.2.2) (by decide)).to, ?_⟩
  refine List.forall_mem_cons.mpr ⟨(s_goto (am_dp pw_X11_saying_96 dd_X11_saying_96b.1) (by decide)).to, ?_⟩
  refine List.forall_mem_cons.mpr ⟨(s_iconst (am_dp pw_X11_saying_96 dd_X11_saying_96b.2.1) (by decide)).to, ?_⟩
  refine List.forall_mem_cons.mpr ⟨s_iret (am_dp pw_X11_saying_96 dd_X11_saying_96b.2.2.1) rfl, ?_⟩
  refine List.forall_mem_cons.mpr ⟨(s_aloadn (am_dp pw_X11_saying_96 dd_X11_saying_96b.2.2.2.1) rfl).to, ?_⟩
  refine List.forall_mem_cons.mpr ⟨(s_iloadn (am_dp pw_X11_saying_96 dd_X11_saying_96b.2.2.2.2.1) rfl).to, ?_⟩
  refine List.forall_mem_cons.mpr ⟨zw_cv248 (am_dp pw_X11_saying_96 dd_X11_saying_96b.2.2.2.2.2.1) wd1902, ?_⟩
  refine List.forall_mem_cons.mpr ⟨(s_aloadn (am_dp pw_X11_saying_96 dd_X11_saying_96b.2.2.2.2.2.2.1) rfl).to, ?_⟩
  refine List.forall_mem_cons.mpr ⟨(s_get (ci := 11) (k := 69) (am_dp pw_X11_saying_96 dd_X11_saying_96b.2.2.2.2.2.2.2) rfl (by decide) wd1402 inX11 rfl).to, ?_⟩
  refine List.forall_mem_cons.mpr ⟨(s_iloadn (am_dp pw_X11_saying_128 dd_X11_saying_128a.1) rfl).to, ?_⟩
  refine List.forall_mem_cons.mpr ⟨(s_zald (am_dp pw_X11_saying_128 dd_X11_saying_128a.2.1)).to, ?_⟩
  refine List.forall_mem_cons.mpr ⟨(s_if_eq (am_dp pw_X11_saying_128 dd_X11_saying_128a.2.2.1) (by decide)).to, ?_⟩
  refine List.forall_mem_cons.mpr ⟨(s_iconst (am_dp pw_X11_saying_128 dd_X11_saying_128a.2.2.2.1) (by decide)).to, ?_⟩
  refine List.forall_mem_cons.mpr ⟨(s_goto (am_dp pw_X11_saying_128 dd_X11_saying_128a.2.2.2.2.1) (by decide)).to, ?_⟩
  exact fun _ h => absurd h List.not_mem_nil
theorem sn_tX11_saying_1 : ∀ q ∈ tX11_saying_1, am_Snd am_P0 RX11 cX11_saying 5 (Option.some FieldType.int) "saying" q.1 q.2 := by
  unfold tX11_saying_1
  refine List.forall_mem_cons.mpr ⟨(s_iconst (am_dp pw_X11_saying_128 dd_X11_saying_128a.2.2.2.2.2.1) (by decide)).to, ?_⟩
  refine List.forall_mem_cons.mpr ⟨s_iret (am_dp pw_X11_saying_128 dd_X11_saying_128a.2.2.2.2.2.2.1) rfl, ?_⟩
  refine List.forall_mem_cons.mpr ⟨(s_iconst (am_dp pw_X11_saying_128 dd_X11_saying_128a.2.2.2.2.2.2.2) (by decide)).to, ?_⟩
  refine List.forall_mem_cons.mpr ⟨s_iret (am_dp pw_X11_saying_128 dd_X11_saying_128b) rfl, ?_⟩
  exact fun _ h => absurd h List.not_mem_nil
theorem sn_tX11_saying : ∀ q ∈ tX11_saying, am_Snd am_P0 RX11 cX11_saying 5 (Option.some FieldType.int) "saying" q.1 q.2 := by
  unfold tX11_saying
  exact List.forall_mem_append.mpr ⟨sn_tX11_saying_0, sn_tX11_saying_1⟩
