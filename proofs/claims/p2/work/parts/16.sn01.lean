/-! the machine follows each instruction (by program: gen_prog.py) -/
theorem sn_tX2_readSum : ∀ q ∈ tX2_readSum, am_Snd am_P0 RX2 cX2_readSum 4 (Option.none : Option FieldType) "readSum" q.1 q.2 := by
  unfold tX2_readSum
  refine List.forall_mem_cons.mpr ⟨(s_aloadn (am_dp pw_X2_readSum_0 dd_X2_readSum_0a.1) rfl).to, ?_⟩
  refine List.forall_mem_cons.mpr ⟨(s_iloadn (am_dp pw_X2_readSum_0 dd_X2_readSum_0a.2.1) rfl).to, ?_⟩
  refine List.forall_mem_cons.mpr ⟨zw_cv27 (am_dp pw_X2_readSum_0 dd_X2_readSum_0a.2.2.1) wd715, ?_⟩
  refine List.forall_mem_cons.mpr ⟨(s_iconst (am_dp pw_X2_readSum_0 dd_X2_readSum_0a.2.2.2.1) (by decide)).to, ?_⟩
  refine List.forall_mem_cons.mpr ⟨(s_istoren (am_dp pw_X2_readSum_0 dd_X2_readSum_0a.2.2.2.2.1) rfl (by decide)).to, ?_⟩
  refine List.forall_mem_cons.mpr ⟨(s_iloadn (am_dp pw_X2_readSum_0 dd_X2_readSum_0a.2.2.2.2.2.1) rfl).to, ?_⟩
  refine List.forall_mem_cons.mpr ⟨(s_sipush (am_dp pw_X2_readSum_0 dd_X2_readSum_0a.2.2.2.2.2.2.1) (by decide)).to, ?_⟩
  refine List.forall_mem_cons.mpr ⟨(s_icmp_ge (am_dp pw_X2_readSum_0 dd_X2_readSum_0a.2.2.2.2.2.2.2) (by decide)).to, ?_⟩
  refine List.forall_mem_cons.mpr ⟨(s_aloadn (am_dp pw_X2_readSum_0 dd_X2_readSum_0b.1) rfl).to, ?_⟩
  refine List.forall_mem_cons.mpr ⟨(s_get (ci := 2) (k := 0) (am_dp pw_X2_readSum_0 dd_X2_readSum_0b.2.1) rfl (by decide) wd467 inX2 rfl).to, ?_⟩
  refine List.forall_mem_cons.mpr ⟨(s_bipush (am_dp pw_X2_readSum_0 dd_X2_readSum_0b.2.2.1) (by decide)).to, ?_⟩
  refine List.forall_mem_cons.mpr ⟨zw_cv40 (am_dp pw_X2_readSum_0 dd_X2_readSum_0b.2.2.2.1) wd731, ?_⟩
  refine List.forall_mem_cons.mpr ⟨(s_if_ne (am_dp pw_X2_readSum_0 dd_X2_readSum_0b.2.2.2.2.1) (by decide)).to, ?_⟩
  refine List.forall_mem_cons.mpr ⟨(s_aloadn (am_dp pw_X2_readSum_0 dd_X2_readSum_0b.2.2.2.2.2.1) rfl).to, ?_⟩
  refine List.forall_mem_cons.mpr ⟨(s_get (ci := 2) (k := 0) (am_dp pw_X2_readSum_0 dd_X2_readSum_0b.2.2.2.2.2.2.1) rfl (by decide) wd467 inX2 rfl).to, ?_⟩
  refine List.forall_mem_cons.mpr ⟨(s_bipush (am_dp pw_X2_readSum_0 dd_X2_readSum_0b.2.2.2.2.2.2.2) (by decide)).to, ?_⟩
  refine List.forall_mem_cons.mpr ⟨zw_cv40 (am_dp pw_X2_readSum_32 dd_X2_readSum_32a.1) wd731, ?_⟩
  refine List.forall_mem_cons.mpr ⟨(s_if_eq (am_dp pw_X2_readSum_32 dd_X2_readSum_32a.2.1) (by decide)).to, ?_⟩
  refine List.forall_mem_cons.mpr ⟨(s_aloadn (am_dp pw_X2_readSum_32 dd_X2_readSum_32a.2.2.1) rfl).to, ?_⟩
  refine List.forall_mem_cons.mpr ⟨(s_get (ci := 2) (k := 0) (am_dp pw_X2_readSum_32 dd_X2_readSum_32a.2.2.2.1) rfl (by decide) wd467 inX2 rfl).to, ?_⟩
  refine List.forall_mem_cons.mpr ⟨(s_bipush (am_dp pw_X2_readSum_32 dd_X2_readSum_32a.2.2.2.2.1) (by decide)).to, ?_⟩
  refine List.forall_mem_cons.mpr ⟨zw_cv40 (am_dp pw_X2_readSum_32 dd_X2_readSum_32a.2.2.2.2.2.1) wd731, ?_⟩
  refine List.forall_mem_cons.mpr ⟨(s_if_eq (am_dp pw_X2_readSum_32 dd_X2_readSum_32a.2.2.2.2.2.2.1) (by decide)).to, ?_⟩
  refine List.forall_mem_cons.mpr ⟨(s_bipush (am_dp pw_X2_readSum_32 dd_X2_readSum_32a.2.2.2.2.2.2.2) (by decide)).to, ?_⟩
  refine List.forall_mem_cons.mpr ⟨(s_goto (am_dp pw_X2_readSum_32 dd_X2_readSum_32b.1) (by decide)).to, ?_⟩
  refine List.forall_mem_cons.mpr ⟨(s_bipush (am_dp pw_X2_readSum_32 dd_X2_readSum_32b.2.1) (by decide)).to, ?_⟩
  refine List.forall_mem_cons.mpr ⟨(s_istoren (am_dp pw_X2_readSum_32 dd_X2_readSum_32b.2.2.1) rfl (by decide)).to, ?_⟩
  refine List.forall_mem_cons.mpr ⟨(s_aloadn (am_dp pw_X2_readSum_32 dd_X2_readSum_32b.2.2.2.1) rfl).to, ?_⟩
  refine List.forall_mem_cons.mpr ⟨(s_get (ci := 2) (k := 0) (am_dp pw_X2_readSum_32 dd_X2_readSum_32b.2.2.2.2.1) rfl (by decide) wd467 inX2 rfl).to, ?_⟩
  refine List.forall_mem_cons.mpr ⟨zw_cv35 (am_dp pw_X2_readSum_32 dd_X2_readSum_32b.2.2.2.2.2) wd689, ?_⟩
  refine List.forall_mem_cons.mpr ⟨(s_aloadn (am_dp pw_X2_readSum_64 dd_X2_readSum_64a.1) rfl).to, ?_⟩
  refine List.forall_mem_cons.mpr ⟨(s_iloadn (am_dp pw_X2_readSum_64 dd_X2_readSum_64a.2.1) rfl).to, ?_⟩
  refine List.forall_mem_cons.mpr ⟨zw_cv27 (am_dp pw_X2_readSum_64 dd_X2_readSum_64a.2.2.1) wd715, ?_⟩
  refine List.forall_mem_cons.mpr ⟨(s_aloadn (am_dp pw_X2_readSum_64 dd_X2_readSum_64a.2.2.2.1) rfl).to, ?_⟩
  refine List.forall_mem_cons.mpr ⟨(s_get (ci := 2) (k := 1) (am_dp pw_X2_readSum_64 dd_X2_readSum_64a.2.2.2.2.1) rfl (by decide) wd469 inX2 rfl).to, ?_⟩
  refine List.forall_mem_cons.mpr ⟨(s_get (ci := 5) (k := 6) (am_dp pw_X2_readSum_64 dd_X2_readSum_64a.2.2.2.2.2.1) rfl (by decide) wd324 inX5 rfl).to, ?_⟩
  refine List.forall_mem_cons.mpr ⟨(s_iloadn (am_dp pw_X2_readSum_64 dd_X2_readSum_64a.2.2.2.2.2.2.1) rfl).to, ?_⟩
  refine List.forall_mem_cons.mpr ⟨zw_cv1 (am_dp pw_X2_readSum_64 dd_X2_readSum_64a.2.2.2.2.2.2.2) wd727, ?_⟩
  refine List.forall_mem_cons.mpr ⟨(s_iinc (am_dp pw_X2_readSum_64 dd_X2_readSum_64b.1) (by decide) (by decide)).to, ?_⟩
  refine List.forall_mem_cons.mpr ⟨(s_goto (am_dp pw_X2_readSum_64 dd_X2_readSum_64b.2.1) (by decide)).to, ?_⟩
  refine List.forall_mem_cons.mpr ⟨s_vret (am_dp pw_X2_readSum_64 dd_X2_readSum_64b.2.2) rfl, ?_⟩
  exact fun _ h => absurd h List.not_mem_nil
theorem sn_tX2_readProduct : ∀ q ∈ tX2_readProduct, am_Snd am_P0 RX2 cX2_readProduct 4 (Option.none : Option FieldType) "readProduct" q.1 q.2 := by
  unfold tX2_readProduct
  refine List.forall_mem_cons.mpr ⟨(s_aloadn (am_dp pw_X2_readProduct_0 dd_X2_readProduct_0a.1) rfl).to, ?_⟩
  refine List.forall_mem_cons.mpr ⟨(s_iloadn (am_dp pw_X2_readProduct_0 dd_X2_readProduct_0a.2.1) rfl).to, ?_⟩
  refine List.forall_mem_cons.mpr ⟨zw_cv29 (am_dp pw_X2_readProduct_0 dd_X2_readProduct_0a.2.2.1) wd719, ?_⟩
  refine List.forall_mem_cons.mpr ⟨(s_iconst (am_dp pw_X2_readProduct_0 dd_X2_readProduct_0a.2.2.2.1) (by decide)).to, ?_⟩
  refine List.forall_mem_cons.mpr ⟨(s_istoren (am_dp pw_X2_readProduct_0 dd_X2_readProduct_0a.2.2.2.2.1) rfl (by decide)).to, ?_⟩
  refine List.forall_mem_cons.mpr ⟨(s_iloadn (am_dp pw_X2_readProduct_0 dd_X2_readProduct_0a.2.2.2.2.2.1) rfl).to, ?_⟩
  refine List.forall_mem_cons.mpr ⟨(s_sipush (am_dp pw_X2_readProduct_0 dd_X2_readProduct_0a.2.2.2.2.2.2.1) (by decide)).to, ?_⟩
  refine List.forall_mem_cons.mpr ⟨(s_icmp_ge (am_dp pw_X2_readProduct_0 dd_X2_readProduct_0a.2.2.2.2.2.2.2) (by decide)).to, ?_⟩
  refine List.forall_mem_cons.mpr ⟨(s_aloadn (am_dp pw_X2_readProduct_0 dd_X2_readProduct_0b.1) rfl).to, ?_⟩
  refine List.forall_mem_cons.mpr ⟨zw_cv28 (am_dp pw_X2_readProduct_0 dd_X2_readProduct_0b.2.1) wd748, ?_⟩
  refine List.forall_mem_cons.mpr ⟨(s_if_eq (am_dp pw_X2_readProduct_0 dd_X2_readProduct_0b.2.2.1) (by decide)).to, ?_⟩
  refine List.forall_mem_cons.mpr ⟨(s_aloadn (am_dp pw_X2_readProduct_0 dd_X2_readProduct_0b.2.2.2.1) rfl).to, ?_⟩
  refine List.forall_mem_cons.mpr ⟨zw_cv28 (am_dp pw_X2_readProduct_0 dd_X2_readProduct_0b.2.2.2.2.1) wd748, ?_⟩
  refine List.forall_mem_cons.mpr ⟨(s_istoren (am_dp pw_X2_readProduct_0 dd_X2_readProduct_0b.2.2.2.2.2.1) rfl (by decide)).to, ?_⟩
  refine List.forall_mem_cons.mpr ⟨(s_aloadn (am_dp pw_X2_readProduct_0 dd_X2_readProduct_0b.2.2.2.2.2.2.1) rfl).to, ?_⟩
  refine List.forall_mem_cons.mpr ⟨(s_get (ci := 2) (k := 0) (am_dp pw_X2_readProduct_0 dd_X2_readProduct_0b.2.2.2.2.2.2.2) rfl (by decide) wd467 inX2 rfl).to, ?_⟩
  refine List.forall_mem_cons.mpr ⟨zw_cv35 (am_dp pw_X2_readProduct_0 dd_X2_readProduct_0c) wd689, ?_⟩
  refine List.forall_mem_cons.mpr ⟨(s_aloadn (am_dp pw_X2_readProduct_32 dd_X2_readProduct_32a.1) rfl).to, ?_⟩
  refine List.forall_mem_cons.mpr ⟨(s_iloadn (am_dp pw_X2_readProduct_32 dd_X2_readProduct_32a.2.1) rfl).to, ?_⟩
  refine List.forall_mem_cons.mpr ⟨zw_cv29 (am_dp pw_X2_readProduct_32 dd_X2_readProduct_32a.2.2.1) wd719, ?_⟩
  refine List.forall_mem_cons.mpr ⟨(s_aloadn (am_dp pw_X2_readProduct_32 dd_X2_readProduct_32a.2.2.2.1) rfl).to, ?_⟩
  refine List.forall_mem_cons.mpr ⟨(s_get (ci := 2) (k := 1) (am_dp pw_X2_readProduct_32 dd_X2_readProduct_32a.2.2.2.2.1) rfl (by decide) wd469 inX2 rfl).to, ?_⟩
  refine List.forall_mem_cons.mpr ⟨(s_get (ci := 5) (k := 6) (am_dp pw_X2_readProduct_32 dd_X2_readProduct_32a.2.2.2.2.2.1) rfl (by decide) wd324 inX5 rfl).to, ?_⟩
  refine List.forall_mem_cons.mpr ⟨(s_iloadn (am_dp pw_X2_readProduct_32 dd_X2_readProduct_32a.2.2.2.2.2.2.1) rfl).to, ?_⟩
  refine List.forall_mem_cons.mpr ⟨zw_cv1 (am_dp pw_X2_readProduct_32 dd_X2_readProduct_32a.2.2.2.2.2.2.2) wd727, ?_⟩
  refine List.forall_mem_cons.mpr ⟨(s_iinc (am_dp pw_X2_readProduct_32 dd_X2_readProduct_32b.1) (by decide) (by decide)).to, ?_⟩
  refine List.forall_mem_cons.mpr ⟨(s_goto (am_dp pw_X2_readProduct_32 dd_X2_readProduct_32b.2.1) (by decide)).to, ?_⟩
  refine List.forall_mem_cons.mpr ⟨s_vret (am_dp pw_X2_readProduct_32 dd_X2_readProduct_32b.2.2) rfl, ?_⟩
  exact fun _ h => absurd h List.not_mem_nil
theorem sn_tX2_timesSign : ∀ q ∈ tX2_timesSign, am_Snd am_P0 RX2 cX2_timesSign 1 (Option.some FieldType.int) "timesSign" q.1 q.2 := by
  unfold tX2_timesSign
  refine List.forall_mem_cons.mpr ⟨(s_aloadn (am_dp pw_X2_timesSign_0 dd_X2_timesSign_0a.1) rfl).to, ?_⟩
  refine List.forall_mem_cons.mpr ⟨(s_get (ci := 2) (k := 0) (am_dp pw_X2_timesSign_0 dd_X2_timesSign_0a.2.1) rfl (by decide) wd467 inX2 rfl).to, ?_⟩
  refine List.forall_mem_cons.mpr ⟨(s_bipush (am_dp pw_X2_timesSign_0 dd_X2_timesSign_0a.2.2.1) (by decide)).to, ?_⟩
  refine List.forall_mem_cons.mpr ⟨zw_cv40 (am_dp pw_X2_timesSign_0 dd_X2_timesSign_0a.2.2.2.1) wd731, ?_⟩
  refine List.forall_mem_cons.mpr ⟨(s_if_eq (am_dp pw_X2_timesSign_0 dd_X2_timesSign_0a.2.2.2.2.1) (by decide)).to, ?_⟩
  refine List.forall_mem_cons.mpr ⟨(s_bipush (am_dp pw_X2_timesSign_0 dd_X2_timesSign_0a.2.2.2.2.2.1) (by decide)).to, ?_⟩
  refine List.forall_mem_cons.mpr ⟨s_iret (am_dp pw_X2_timesSign_0 dd_X2_timesSign_0a.2.2.2.2.2.2.1) rfl, ?_⟩
  refine List.forall_mem_cons.mpr ⟨(s_aloadn (am_dp pw_X2_timesSign_0 dd_X2_timesSign_0a.2.2.2.2.2.2.2) rfl).to, ?_⟩
  refine List.forall_mem_cons.mpr ⟨(s_get (ci := 2) (k := 0) (am_dp pw_X2_timesSign_0 dd_X2_timesSign_0b.1) rfl (by decide) wd467 inX2 rfl).to, ?_⟩
  refine List.forall_mem_cons.mpr ⟨(s_bipush (am_dp pw_X2_timesSign_0 dd_X2_timesSign_0b.2.1) (by decide)).to, ?_⟩
  refine List.forall_mem_cons.mpr ⟨zw_cv40 (am_dp pw_X2_timesSign_0 dd_X2_timesSign_0b.2.2.1) wd731, ?_⟩
  refine List.forall_mem_cons.mpr ⟨(s_if_eq (am_dp pw_X2_timesSign_0 dd_X2_timesSign_0b.2.2.2.1) (by decide)).to, ?_⟩
  refine List.forall_mem_cons.mpr ⟨(s_bipush (am_dp pw_X2_timesSign_0 dd_X2_timesSign_0b.2.2.2.2.1) (by decide)).to, ?_⟩
  refine List.forall_mem_cons.mpr ⟨s_iret (am_dp pw_X2_timesSign_0 dd_X2_timesSign_0b.2.2.2.2.2.1) rfl, ?_⟩
  refine List.forall_mem_cons.mpr ⟨(s_aloadn (am_dp pw_X2_timesSign_0 dd_X2_timesSign_0b.2.2.2.2.2.2.1) rfl).to, ?_⟩
  refine List.forall_mem_cons.mpr ⟨(s_get (ci := 2) (k := 0) (am_dp pw_X2_timesSign_0 dd_X2_timesSign_0b.2.2.2.2.2.2.2) rfl (by decide) wd467 inX2 rfl).to, ?_⟩
  refine List.forall_mem_cons.mpr ⟨(s_bipush (am_dp pw_X2_timesSign_32 dd_X2_timesSign_32a.1) (by decide)).to, ?_⟩
  refine List.forall_mem_cons.mpr ⟨zw_cv40 (am_dp pw_X2_timesSign_32 dd_X2_timesSign_32a.2.1) wd731, ?_⟩
  refine List.forall_mem_cons.mpr ⟨(s_if_eq (am_dp pw_X2_timesSign_32 dd_X2_timesSign_32a.2.2.1) (by decide)).to, ?_⟩
  refine List.forall_mem_cons.mpr ⟨(s_bipush (am_dp pw_X2_timesSign_32 dd_X2_timesSign_32a.2.2.2.1) (by decide)).to, ?_⟩
  refine List.forall_mem_cons.mpr ⟨(s_goto (am_dp pw_X2_timesSign_32 dd_X2_timesSign_32a.2.2.2.2.1) (by decide)).to, ?_⟩
  refine List.forall_mem_cons.mpr ⟨(s_iconst (am_dp pw_X2_timesSign_32 dd_X2_timesSign_32a.2.2.2.2.2.1) (by decide)).to, ?_⟩
  refine List.forall_mem_cons.mpr ⟨s_iret (am_dp pw_X2_timesSign_32 dd_X2_timesSign_32a.2.2.2.2.2.2) rfl, ?_⟩
  exact fun _ h => absurd h List.not_mem_nil
theorem sn_tX2_readPart_0 : ∀ q ∈ tX2_readPart_0, am_Snd am_P0 RX2 cX2_readPart 2 (Option.none : Option FieldType) "readPart" q.1 q.2 := by
  unfold tX2_readPart_0
  refine List.forall_mem_cons.mpr ⟨(s_aloadn (am_dp pw_X2_readPart_0 dd_X2_readPart_0a.1) rfl).to, ?_⟩
  refine List.forall_mem_cons.mpr ⟨(s_get (ci := 2) (k := 0) (am_dp pw_X2_readPart_0 dd_X2_readPart_0a.2.1) rfl (by decide) wd467 inX2 rfl).to, ?_⟩
  refine List.forall_mem_cons.mpr ⟨(s_get (ci := 3) (k := 4) (am_dp pw_X2_readPart_0 dd_X2_readPart_0a.2.2.1) rfl (by decide) wd434 inX3 rfl).to, ?_⟩
  refine List.forall_mem_cons.mpr ⟨(s_iconst (am_dp pw_X2_readPart_0 dd_X2_readPart_0a.2.2.2.1) (by decide)).to, ?_⟩
  refine List.forall_mem_cons.mpr ⟨(s_icmp_ne (am_dp pw_X2_readPart_0 dd_X2_readPart_0a.2.2.2.2.1) (by decide)).to, ?_⟩
  refine List.forall_mem_cons.mpr ⟨(s_aloadn (am_dp pw_X2_readPart_0 dd_X2_readPart_0a.2.2.2.2.2.1) rfl).to, ?_⟩
  refine List.forall_mem_cons.mpr ⟨(s_aloadn (am_dp pw_X2_readPart_0 dd_X2_readPart_0a.2.2.2.2.2.2.1) rfl).to, ?_⟩
  refine List.forall_mem_cons.mpr ⟨(s_get (ci := 2) (k := 0) (am_dp pw_X2_readPart_0 dd_X2_readPart_0a.2.2.2.2.2.2.2) rfl (by decide) wd467 inX2 rfl).to, ?_⟩
  refine List.forall_mem_cons.mpr ⟨(s_get (ci := 3) (k := 5) (am_dp pw_X2_readPart_0 dd_X2_readPart_0b.1) rfl (by decide) wd436 inX3 rfl).to, ?_⟩
  refine List.forall_mem_cons.mpr ⟨zw_cv30 (am_dp pw_X2_readPart_0 dd_X2_readPart_0b.2.1) wd723, ?_⟩
  refine List.forall_mem_cons.mpr ⟨s_vret (am_dp pw_X2_readPart_0 dd_X2_readPart_0b.2.2.1) rfl, ?_⟩
  refine List.forall_mem_cons.mpr ⟨(s_aloadn (am_dp pw_X2_readPart_0 dd_X2_readPart_0b.2.2.2.1) rfl).to, ?_⟩
  refine List.forall_mem_cons.mpr ⟨(s_get (ci := 2) (k := 0) (am_dp pw_X2_readPart_0 dd_X2_readPart_0b.2.2.2.2.1) rfl (by decide) wd467 inX2 rfl).to, ?_⟩
  refine List.forall_mem_cons.mpr ⟨(s_bipush (am_dp pw_X2_readPart_0 dd_X2_readPart_0b.2.2.2.2.2.1) (by decide)).to, ?_⟩
  refine List.forall_mem_cons.mpr ⟨zw_cv40 (am_dp pw_X2_readPart_0 dd_X2_readPart_0b.2.2.2.2.2.2) wd731, ?_⟩
  refine List.forall_mem_cons.mpr ⟨(s_if_eq (am_dp pw_X2_readPart_32 dd_X2_readPart_32a.1) (by decide)).to, ?_⟩
  refine List.forall_mem_cons.mpr ⟨(s_aloadn (am_dp pw_X2_readPart_32 dd_X2_readPart_32a.2.1) rfl).to, ?_⟩
  refine List.forall_mem_cons.mpr ⟨(s_bipush (am_dp pw_X2_readPart_32 dd_X2_readPart_32a.2.2.1) (by decide)).to, ?_⟩
  refine List.forall_mem_cons.mpr ⟨(s_iloadn (am_dp pw_X2_readPart_32 dd_X2_readPart_32a.2.2.2.1) rfl).to, ?_⟩
  refine List.forall_mem_cons.mpr ⟨zw_cv32 (am_dp pw_X2_readPart_32 dd_X2_readPart_32a.2.2.2.2.1) wd735, ?_⟩
  refine List.forall_mem_cons.mpr ⟨(s_if_eq (am_dp pw_X2_readPart_32 dd_X2_readPart_32a.2.2.2.2.2.1) (by decide)).to, ?_⟩
  refine List.forall_mem_cons.mpr ⟨(s_aloadn (am_dp pw_X2_readPart_32 dd_X2_readPart_32a.2.2.2.2.2.2.1) rfl).to, ?_⟩
  refine List.forall_mem_cons.mpr ⟨(s_iloadn (am_dp pw_X2_readPart_32 dd_X2_readPart_32a.2.2.2.2.2.2.2) rfl).to, ?_⟩
  refine List.forall_mem_cons.mpr ⟨(s_iconst (am_dp pw_X2_readPart_32 dd_X2_readPart_32b.1) (by decide)).to, ?_⟩
  refine List.forall_mem_cons.mpr ⟨(s_iadd (am_dp pw_X2_readPart_32 dd_X2_readPart_32b.2.1)).to, ?_⟩
  refine List.forall_mem_cons.mpr ⟨zw_cv26 (am_dp pw_X2_readPart_32 dd_X2_readPart_32b.2.2.1) wd711, ?_⟩
  refine List.forall_mem_cons.mpr ⟨(s_aloadn (am_dp pw_X2_readPart_32 dd_X2_readPart_32b.2.2.2.1) rfl).to, ?_⟩
  refine List.forall_mem_cons.mpr ⟨(s_get (ci := 2) (k := 0) (am_dp pw_X2_readPart_32 dd_X2_readPart_32b.2.2.2.2.1) rfl (by decide) wd467 inX2 rfl).to, ?_⟩
  refine List.forall_mem_cons.mpr ⟨(s_bipush (am_dp pw_X2_readPart_32 dd_X2_readPart_32b.2.2.2.2.2.1) (by decide)).to, ?_⟩
  refine List.forall_mem_cons.mpr ⟨zw_cv41 (am_dp pw_X2_readPart_32 dd_X2_readPart_32b.2.2.2.2.2.2.1) wd739, ?_⟩
  refine List.forall_mem_cons.mpr ⟨s_vret (am_dp pw_X2_readPart_32 dd_X2_readPart_32b.2.2.2.2.2.2.2) rfl, ?_⟩
  refine List.forall_mem_cons.mpr ⟨(s_aloadn (am_dp pw_X2_readPart_32 dd_X2_readPart_32c.1) rfl).to, ?_⟩
  refine List.forall_mem_cons.mpr ⟨(s_get (ci := 2) (k := 0) (am_dp pw_X2_readPart_32 dd_X2_readPart_32c.2) rfl (by decide) wd467 inX2 rfl).to, ?_⟩
  refine List.forall_mem_cons.mpr ⟨(s_get (ci := 3) (k := 6) (am_dp pw_X2_readPart_64 dd_X2_readPart_64a) rfl (by decide) wd437 inX3 rfl).to, ?_⟩
  refine List.forall_mem_cons.mpr ⟨(s_look (by decide +kernel : decode cX2_readPart 69 = .ok (.lookupswitch 114 #[(1, 85), (16, 76), (23, 59), (24, 67), (25, 94), (26, 104)], 59)) (by decide) (by decide) (by decide)).to, ?_⟩
  refine List.forall_mem_cons.mpr ⟨(s_aloadn (am_dp pw_X2_readPart_128 dd_X2_readPart_128a.1) rfl).to, ?_⟩
  refine List.forall_mem_cons.mpr ⟨(s_iconst (am_dp pw_X2_readPart_128 dd_X2_readPart_128a.2.1) (by decide)).to, ?_⟩
  refine List.forall_mem_cons.mpr ⟨zw_cv30 (am_dp pw_X2_readPart_128 dd_X2_readPart_128a.2.2.1) wd723, ?_⟩
  refine List.forall_mem_cons.mpr ⟨(s_goto (am_dp pw_X2_readPart_128 dd_X2_readPart_128a.2.2.2.1) (by decide)).to, ?_⟩
  refine List.forall_mem_cons.mpr ⟨(s_aloadn (am_dp pw_X2_readPart_128 dd_X2_readPart_128a.2.2.2.2.1) rfl).to, ?_⟩
  refine List.forall_mem_cons.mpr ⟨(s_bipush (am_dp pw_X2_readPart_128 dd_X2_readPart_128a.2.2.2.2.2.1) (by decide)).to, ?_⟩
  refine List.forall_mem_cons.mpr ⟨zw_cv30 (am_dp pw_X2_readPart_128 dd_X2_readPart_128a.2.2.2.2.2.2.1) wd723, ?_⟩
  refine List.forall_mem_cons.mpr ⟨(s_goto (am_dp pw_X2_readPart_128 dd_X2_readPart_128a.2.2.2.2.2.2.2) (by decide)).to, ?_⟩
  refine List.forall_mem_cons.mpr ⟨(s_aloadn (am_dp pw_X2_readPart_128 dd_X2_readPart_128b.1) rfl).to, ?_⟩
  refine List.forall_mem_cons.mpr ⟨(s_bipush (am_dp pw_X2_readPart_128 dd_X2_readPart_128b.2.1) (by decide)).to, ?_⟩
  refine List.forall_mem_cons.mpr ⟨zw_cv30 (am_dp pw_X2_readPart_128 dd_X2_readPart_128b.2.2.1) wd723, ?_⟩
  refine List.forall_mem_cons.mpr ⟨(s_goto (am_dp pw_X2_readPart_128 dd_X2_readPart_128b.2.2.2.1) (by decide)).to, ?_⟩
  refine List.forall_mem_cons.mpr ⟨(s_aloadn (am_dp pw_X2_readPart_128 dd_X2_readPart_128b.2.2.2.2.1) rfl).to, ?_⟩
  refine List.forall_mem_cons.mpr ⟨(s_bipush (am_dp pw_X2_readPart_128 dd_X2_readPart_128b.2.2.2.2.2.1) (by decide)).to, ?_⟩
  refine List.forall_mem_cons.mpr ⟨zw_cv30 (am_dp pw_X2_readPart_128 dd_X2_readPart_128b.2.2.2.2.2.2) wd723, ?_⟩
  refine List.forall_mem_cons.mpr ⟨(s_goto (am_dp pw_X2_readPart_160 dd_X2_readPart_160a.1) (by decide)).to, ?_⟩
  refine List.forall_mem_cons.mpr ⟨(s_aloadn (am_dp pw_X2_readPart_160 dd_X2_readPart_160a.2.1) rfl).to, ?_⟩
  refine List.forall_mem_cons.mpr ⟨(s_bipush (am_dp pw_X2_readPart_160 dd_X2_readPart_160a.2.2.1) (by decide)).to, ?_⟩
  refine List.forall_mem_cons.mpr ⟨(s_iloadn (am_dp pw_X2_readPart_160 dd_X2_readPart_160a.2.2.2.1) rfl).to, ?_⟩
  refine List.forall_mem_cons.mpr ⟨zw_cv31 (am_dp pw_X2_readPart_160 dd_X2_readPart_160a.2.2.2.2.1) wd744, ?_⟩
  refine List.forall_mem_cons.mpr ⟨(s_goto (am_dp pw_X2_readPart_160 dd_X2_readPart_160a.2.2.2.2.2.1) (by decide)).to, ?_⟩
  refine List.forall_mem_cons.mpr ⟨(s_aloadn (am_dp pw_X2_readPart_160 dd_X2_readPart_160a.2.2.2.2.2.2.1) rfl).to, ?_⟩
  refine List.forall_mem_cons.mpr ⟨(s_bipush (am_dp pw_X2_readPart_160 dd_X2_readPart_160a.2.2.2.2.2.2.2) (by decide)).to, ?_⟩
  refine List.forall_mem_cons.mpr ⟨(s_iloadn (am_dp pw_X2_readPart_160 dd_X2_readPart_160b.1) rfl).to, ?_⟩
  refine List.forall_mem_cons.mpr ⟨zw_cv31 (am_dp pw_X2_readPart_160 dd_X2_readPart_160b.2.1) wd744, ?_⟩
  exact fun _ h => absurd h List.not_mem_nil
theorem sn_tX2_readPart_1 : ∀ q ∈ tX2_readPart_1, am_Snd am_P0 RX2 cX2_readPart 2 (Option.none : Option FieldType) "readPart" q.1 q.2 := by
  unfold tX2_readPart_1
  refine List.forall_mem_cons.mpr ⟨(s_goto (am_dp pw_X2_readPart_160 dd_X2_readPart_160b.2.2.1) (by decide)).to, ?_⟩
  refine List.forall_mem_cons.mpr ⟨(s_aloadn (am_dp pw_X2_readPart_160 dd_X2_readPart_160b.2.2.2.1) rfl).to, ?_⟩
  refine List.forall_mem_cons.mpr ⟨(s_get (ci := 2) (k := 0) (am_dp pw_X2_readPart_160 dd_X2_readPart_160b.2.2.2.2.1) rfl (by decide) wd467 inX2 rfl).to, ?_⟩
  refine List.forall_mem_cons.mpr ⟨(s_iconst (am_dp pw_X2_readPart_160 dd_X2_readPart_160b.2.2.2.2.2.1) (by decide)).to, ?_⟩
  refine List.forall_mem_cons.mpr ⟨zw_cv39 (am_dp pw_X2_readPart_160 dd_X2_readPart_160b.2.2.2.2.2.2.1) wd681, ?_⟩
  refine List.forall_mem_cons.mpr ⟨s_vret (am_dp pw_X2_readPart_160 dd_X2_readPart_160b.2.2.2.2.2.2.2) rfl, ?_⟩
  exact fun _ h => absurd h List.not_mem_nil
theorem sn_tX2_readPart : ∀ q ∈ tX2_readPart, am_Snd am_P0 RX2 cX2_readPart 2 (Option.none : Option FieldType) "readPart" q.1 q.2 := by
  unfold tX2_readPart
  exact List.forall_mem_append.mpr ⟨sn_tX2_readPart_0, sn_tX2_readPart_1⟩
theorem sn_tX2_readLeaf : ∀ q ∈ tX2_readLeaf, am_Snd am_P0 RX2 cX2_readLeaf 2 (Option.none : Option FieldType) "readLeaf" q.1 q.2 := by
  unfold tX2_readLeaf
  refine List.forall_mem_cons.mpr ⟨(s_aloadn (am_dp pw_X2_readLeaf_0 dd_X2_readLeaf_0a.1) rfl).to, ?_⟩
  refine List.forall_mem_cons.mpr ⟨(s_get (ci := 2) (k := 1) (am_dp pw_X2_readLeaf_0 dd_X2_readLeaf_0a.2.1) rfl (by decide) wd469 inX2 rfl).to, ?_⟩
  refine List.forall_mem_cons.mpr ⟨(s_get (ci := 5) (k := 6) (am_dp pw_X2_readLeaf_0 dd_X2_readLeaf_0a.2.2.1) rfl (by decide) wd324 inX5 rfl).to, ?_⟩
  refine List.forall_mem_cons.mpr ⟨(s_iloadn (am_dp pw_X2_readLeaf_0 dd_X2_readLeaf_0a.2.2.2.1) rfl).to, ?_⟩
  refine List.forall_mem_cons.mpr ⟨zw_cv1 (am_dp pw_X2_readLeaf_0 dd_X2_readLeaf_0a.2.2.2.2.1) wd727, ?_⟩
  refine List.forall_mem_cons.mpr ⟨(s_aloadn (am_dp pw_X2_readLeaf_0 dd_X2_readLeaf_0a.2.2.2.2.2.1) rfl).to, ?_⟩
  refine List.forall_mem_cons.mpr ⟨(s_get (ci := 2) (k := 0) (am_dp pw_X2_readLeaf_0 dd_X2_readLeaf_0a.2.2.2.2.2.2.1) rfl (by decide) wd467 inX2 rfl).to, ?_⟩
  refine List.forall_mem_cons.mpr ⟨zw_cv35 (am_dp pw_X2_readLeaf_0 dd_X2_readLeaf_0a.2.2.2.2.2.2.2) wd689, ?_⟩
  refine List.forall_mem_cons.mpr ⟨s_vret (am_dp pw_X2_readLeaf_0 dd_X2_readLeaf_0b) rfl, ?_⟩
  exact fun _ h => absurd h List.not_mem_nil
theorem sn_tX2_readChoice : ∀ q ∈ tX2_readChoice, am_Snd am_P0 RX2 cX2_readChoice 3 (Option.none : Option FieldType) "readChoice" q.1 q.2 := by
  unfold tX2_readChoice
  refine List.forall_mem_cons.mpr ⟨(s_aloadn (am_dp pw_X2_readChoice_0 dd_X2_readChoice_0a.1) rfl).to, ?_⟩
  refine List.forall_mem_cons.mpr ⟨(s_get (ci := 2) (k := 0) (am_dp pw_X2_readChoice_0 dd_X2_readChoice_0a.2.1) rfl (by decide) wd467 inX2 rfl).to, ?_⟩
  refine List.forall_mem_cons.mpr ⟨zw_cv35 (am_dp pw_X2_readChoice_0 dd_X2_readChoice_0a.2.2.1) wd689, ?_⟩
  refine List.forall_mem_cons.mpr ⟨(s_aloadn (am_dp pw_X2_readChoice_0 dd_X2_readChoice_0a.2.2.2.1) rfl).to, ?_⟩
  refine List.forall_mem_cons.mpr ⟨(s_bipush (am_dp pw_X2_readChoice_0 dd_X2_readChoice_0a.2.2.2.2.1) (by decide)).to, ?_⟩
  refine List.forall_mem_cons.mpr ⟨(s_iloadn (am_dp pw_X2_readChoice_0 dd_X2_readChoice_0a.2.2.2.2.2.1) rfl).to, ?_⟩
  refine List.forall_mem_cons.mpr ⟨zw_cv32 (am_dp pw_X2_readChoice_0 dd_X2_readChoice_0a.2.2.2.2.2.2.1) wd735, ?_⟩
  refine List.forall_mem_cons.mpr ⟨(s_if_ne (am_dp pw_X2_readChoice_0 dd_X2_readChoice_0a.2.2.2.2.2.2.2) (by decide)).to, ?_⟩
  refine List.forall_mem_cons.mpr ⟨s_vret (am_dp pw_X2_readChoice_0 dd_X2_readChoice_0b.1) rfl, ?_⟩
  refine List.forall_mem_cons.mpr ⟨(s_aloadn (am_dp pw_X2_readChoice_0 dd_X2_readChoice_0b.2.1) rfl).to, ?_⟩
  refine List.forall_mem_cons.mpr ⟨(s_iloadn (am_dp pw_X2_readChoice_0 dd_X2_readChoice_0b.2.2.1) rfl).to, ?_⟩
  refine List.forall_mem_cons.mpr ⟨(s_iconst (am_dp pw_X2_readChoice_0 dd_X2_readChoice_0b.2.2.2.1) (by decide)).to, ?_⟩
  refine List.forall_mem_cons.mpr ⟨(s_iadd (am_dp pw_X2_readChoice_0 dd_X2_readChoice_0b.2.2.2.2.1)).to, ?_⟩
  refine List.forall_mem_cons.mpr ⟨zw_cv26 (am_dp pw_X2_readChoice_0 dd_X2_readChoice_0b.2.2.2.2.2.1) wd711, ?_⟩
  refine List.forall_mem_cons.mpr ⟨(s_aloadn (am_dp pw_X2_readChoice_0 dd_X2_readChoice_0b.2.2.2.2.2.2.1) rfl).to, ?_⟩
  refine List.forall_mem_cons.mpr ⟨(s_get (ci := 2) (k := 0) (am_dp pw_X2_readChoice_0 dd_X2_readChoice_0b.2.2.2.2.2.2.2) rfl (by decide) wd467 inX2 rfl).to, ?_⟩
  refine List.forall_mem_cons.mpr ⟨(s_bipush (am_dp pw_X2_readChoice_0 dd_X2_readChoice_0c.1) (by decide)).to, ?_⟩
  refine List.forall_mem_cons.mpr ⟨zw_cv41 (am_dp pw_X2_readChoice_0 dd_X2_readChoice_0c.2) wd739, ?_⟩
  refine List.forall_mem_cons.mpr ⟨(s_aloadn (am_dp pw_X2_readChoice_32 dd_X2_readChoice_32a.1) rfl).to, ?_⟩
  refine List.forall_mem_cons.mpr ⟨(s_iloadn (am_dp pw_X2_readChoice_32 dd_X2_readChoice_32a.2.1) rfl).to, ?_⟩
  refine List.forall_mem_cons.mpr ⟨(s_iconst (am_dp pw_X2_readChoice_32 dd_X2_readChoice_32a.2.2.1) (by decide)).to, ?_⟩
  refine List.forall_mem_cons.mpr ⟨(s_iadd (am_dp pw_X2_readChoice_32 dd_X2_readChoice_32a.2.2.2.1)).to, ?_⟩
  refine List.forall_mem_cons.mpr ⟨zw_cv26 (am_dp pw_X2_readChoice_32 dd_X2_readChoice_32a.2.2.2.2.1) wd711, ?_⟩
  refine List.forall_mem_cons.mpr ⟨(s_aloadn (am_dp pw_X2_readChoice_32 dd_X2_readChoice_32a.2.2.2.2.2.1) rfl).to, ?_⟩
  refine List.forall_mem_cons.mpr ⟨(s_get (ci := 2) (k := 0) (am_dp pw_X2_readChoice_32 dd_X2_readChoice_32a.2.2.2.2.2.2.1) rfl (by decide) wd467 inX2 rfl).to, ?_⟩
  refine List.forall_mem_cons.mpr ⟨(s_bipush (am_dp pw_X2_readChoice_32 dd_X2_readChoice_32a.2.2.2.2.2.2.2) (by decide)).to, ?_⟩
  refine List.forall_mem_cons.mpr ⟨zw_cv41 (am_dp pw_X2_readChoice_32 dd_X2_readChoice_32b.1) wd739, ?_⟩
  refine List.forall_mem_cons.mpr ⟨(s_aloadn (am_dp pw_X2_readChoice_32 dd_X2_readChoice_32b.2.1) rfl).to, ?_⟩
  refine List.forall_mem_cons.mpr ⟨(s_get (ci := 2) (k := 1) (am_dp pw_X2_readChoice_32 dd_X2_readChoice_32b.2.2.1) rfl (by decide) wd469 inX2 rfl).to, ?_⟩
  refine List.forall_mem_cons.mpr ⟨(s_get (ci := 5) (k := 6) (am_dp pw_X2_readChoice_32 dd_X2_readChoice_32b.2.2.2.1) rfl (by decide) wd324 inX5 rfl).to, ?_⟩
  refine List.forall_mem_cons.mpr ⟨(s_iloadn (am_dp pw_X2_readChoice_32 dd_X2_readChoice_32b.2.2.2.2.1) rfl).to, ?_⟩
  refine List.forall_mem_cons.mpr ⟨zw_cv1 (am_dp pw_X2_readChoice_32 dd_X2_readChoice_32b.2.2.2.2.2.1) wd727, ?_⟩
  refine List.forall_mem_cons.mpr ⟨s_vret (am_dp pw_X2_readChoice_32 dd_X2_readChoice_32b.2.2.2.2.2.2) rfl, ?_⟩
  exact fun _ h => absurd h List.not_mem_nil
theorem sn_tX2_takeOpening : ∀ q ∈ tX2_takeOpening, am_Snd am_P0 RX2 cX2_takeOpening 3 (Option.some FieldType.boolean) "takeOpening" q.1 q.2 := by
  unfold tX2_takeOpening
  refine List.forall_mem_cons.mpr ⟨(s_aloadn (am_dp pw_X2_takeOpening_0 dd_X2_takeOpening_0a.1) rfl).to, ?_⟩
  refine List.forall_mem_cons.mpr ⟨(s_get (ci := 2) (k := 0) (am_dp pw_X2_takeOpening_0 dd_X2_takeOpening_0a.2.1) rfl (by decide) wd467 inX2 rfl).to, ?_⟩
  refine List.forall_mem_cons.mpr ⟨(s_iloadn (am_dp pw_X2_takeOpening_0 dd_X2_takeOpening_0a.2.2.1) rfl).to, ?_⟩
  refine List.forall_mem_cons.mpr ⟨zw_cv40 (am_dp pw_X2_takeOpening_0 dd_X2_takeOpening_0a.2.2.2.1) wd731, ?_⟩
  refine List.forall_mem_cons.mpr ⟨(s_if_ne (am_dp pw_X2_takeOpening_0 dd_X2_takeOpening_0a.2.2.2.2.1) (by decide)).to, ?_⟩
  refine List.forall_mem_cons.mpr ⟨(s_aloadn (am_dp pw_X2_takeOpening_0 dd_X2_takeOpening_0a.2.2.2.2.2.1) rfl).to, ?_⟩
  refine List.forall_mem_cons.mpr ⟨(s_get (ci := 2) (k := 0) (am_dp pw_X2_takeOpening_0 dd_X2_takeOpening_0a.2.2.2.2.2.2.1) rfl (by decide) wd467 inX2 rfl).to, ?_⟩
  refine List.forall_mem_cons.mpr ⟨(s_iconst (am_dp pw_X2_takeOpening_0 dd_X2_takeOpening_0a.2.2.2.2.2.2.2) (by decide)).to, ?_⟩
  refine List.forall_mem_cons.mpr ⟨zw_cv39 (am_dp pw_X2_takeOpening_0 dd_X2_takeOpening_0b.1) wd681, ?_⟩
  refine List.forall_mem_cons.mpr ⟨(s_iconst (am_dp pw_X2_takeOpening_0 dd_X2_takeOpening_0b.2.1) (by decide)).to, ?_⟩
  refine List.forall_mem_cons.mpr ⟨s_zret (am_dp pw_X2_takeOpening_0 dd_X2_takeOpening_0b.2.2.1) rfl, ?_⟩
  refine List.forall_mem_cons.mpr ⟨(s_iloadn (am_dp pw_X2_takeOpening_0 dd_X2_takeOpening_0b.2.2.2.1) rfl).to, ?_⟩
  refine List.forall_mem_cons.mpr ⟨(s_bipush (am_dp pw_X2_takeOpening_0 dd_X2_takeOpening_0b.2.2.2.2.1) (by decide)).to, ?_⟩
  refine List.forall_mem_cons.mpr ⟨(s_icmp_lt (am_dp pw_X2_takeOpening_0 dd_X2_takeOpening_0b.2.2.2.2.2.1) (by decide)).to, ?_⟩
  refine List.forall_mem_cons.mpr ⟨(s_aloadn (am_dp pw_X2_takeOpening_0 dd_X2_takeOpening_0b.2.2.2.2.2.2.1) rfl).to, ?_⟩
  refine List.forall_mem_cons.mpr ⟨(s_get (ci := 2) (k := 0) (am_dp pw_X2_takeOpening_0 dd_X2_takeOpening_0b.2.2.2.2.2.2.2) rfl (by decide) wd467 inX2 rfl).to, ?_⟩
  refine List.forall_mem_cons.mpr ⟨(s_iconst (am_dp pw_X2_takeOpening_0 dd_X2_takeOpening_0c) (by decide)).to, ?_⟩
  refine List.forall_mem_cons.mpr ⟨zw_cv39 (am_dp pw_X2_takeOpening_32 dd_X2_takeOpening_32a.1) wd681, ?_⟩
  refine List.forall_mem_cons.mpr ⟨(s_iconst (am_dp pw_X2_takeOpening_32 dd_X2_takeOpening_32a.2.1) (by decide)).to, ?_⟩
  refine List.forall_mem_cons.mpr ⟨s_zret (am_dp pw_X2_takeOpening_32 dd_X2_takeOpening_32a.2.2.1) rfl, ?_⟩
  refine List.forall_mem_cons.mpr ⟨(s_aloadn (am_dp pw_X2_takeOpening_32 dd_X2_takeOpening_32a.2.2.2.1) rfl).to, ?_⟩
  refine List.forall_mem_cons.mpr ⟨(s_get (ci := 2) (k := 0) (am_dp pw_X2_takeOpening_32 dd_X2_takeOpening_32a.2.2.2.2.1) rfl (by decide) wd467 inX2 rfl).to, ?_⟩
  refine List.forall_mem_cons.mpr ⟨zw_cv35 (am_dp pw_X2_takeOpening_32 dd_X2_takeOpening_32a.2.2.2.2.2.1) wd689, ?_⟩
  refine List.forall_mem_cons.mpr ⟨(s_iconst (am_dp pw_X2_takeOpening_32 dd_X2_takeOpening_32a.2.2.2.2.2.2.1) (by decide)).to, ?_⟩
  refine List.forall_mem_cons.mpr ⟨s_zret (am_dp pw_X2_takeOpening_32 dd_X2_takeOpening_32a.2.2.2.2.2.2.2) rfl, ?_⟩
  exact fun _ h => absurd h List.not_mem_nil
theorem sn_tX3_init : ∀ q ∈ tX3_init, am_Snd am_P0 RX3 cX3_init 4 (Option.none : Option FieldType) "<init>" q.1 q.2 := by
  unfold tX3_init
  refine List.forall_mem_cons.mpr ⟨(s_aloadn (am_dp pw_X3_init_0 dd_X3_init_0a.1) rfl).to, ?_⟩
  refine List.forall_mem_cons.mpr ⟨(s_obj (am_dp pw_X3_init_0 dd_X3_init_0a.2.1) wd378 wd160 wd161).to, ?_⟩
  refine List.forall_mem_cons.mpr ⟨(s_aloadn (am_dp pw_X3_init_0 dd_X3_init_0a.2.2.1) rfl).to, ?_⟩
  refine List.forall_mem_cons.mpr ⟨(s_bipush (am_dp pw_X3_init_0 dd_X3_init_0a.2.2.2.1) (by decide)).to, ?_⟩
  refine List.forall_mem_cons.mpr ⟨(s_newa (kd := 0) (ty := .int) (am_dp pw_X3_init_0 dd_X3_init_0a.2.2.2.2.1) rfl rfl wd195 (by decide) (by decide) (fun _ _ h => h)).to, ?_⟩
  refine List.forall_mem_cons.mpr ⟨(s_putF (ci := 3) (k := 0) (am_dp pw_X3_init_0 dd_X3_init_0a.2.2.2.2.2.1) rfl (by decide) wd428 inX3 tyX3_ok nmX3 rfl rfl rfl rfl).to, ?_⟩
  refine List.forall_mem_cons.mpr ⟨(s_aloadn (am_dp pw_X3_init_0 dd_X3_init_0a.2.2.2.2.2.2.1) rfl).to, ?_⟩
  refine List.forall_mem_cons.mpr ⟨(s_iconst (am_dp pw_X3_init_0 dd_X3_init_0a.2.2.2.2.2.2.2) (by decide)).to, ?_⟩
  refine List.forall_mem_cons.mpr ⟨(s_newa (kd := 0) (ty := .int) (am_dp pw_X3_init_0 dd_X3_init_0b.1) rfl rfl wd195 (by decide) (by decide) (fun _ _ h => h)).to, ?_⟩
  refine List.forall_mem_cons.mpr ⟨(s_put (ci := 3) (k := 1) (am_dp pw_X3_init_0 dd_X3_init_0b.2.1) rfl (by decide) wd429 inX3 tyX3_ok nmX3 rfl rfl).to, ?_⟩
  refine List.forall_mem_cons.mpr ⟨(s_iconst (am_dp pw_X3_init_0 dd_X3_init_0b.2.2.1) (by decide)).to, ?_⟩
  refine List.forall_mem_cons.mpr ⟨(s_istoren (am_dp pw_X3_init_0 dd_X3_init_0b.2.2.2.1) rfl (by decide)).to, ?_⟩
  refine List.forall_mem_cons.mpr ⟨(s_iconst (am_dp pw_X3_init_0 dd_X3_init_0b.2.2.2.2.1) (by decide)).to, ?_⟩
  refine List.forall_mem_cons.mpr ⟨(s_istoren (am_dp pw_X3_init_0 dd_X3_init_0b.2.2.2.2.2.1) rfl (by decide)).to, ?_⟩
  refine List.forall_mem_cons.mpr ⟨(s_iconst (am_dp pw_X3_init_0 dd_X3_init_0b.2.2.2.2.2.2.1) (by decide)).to, ?_⟩
  refine List.forall_mem_cons.mpr ⟨(s_istoren (am_dp pw_X3_init_0 dd_X3_init_0b.2.2.2.2.2.2.2) rfl (by decide)).to, ?_⟩
  refine List.forall_mem_cons.mpr ⟨(s_iloadn (am_dp pw_X3_init_0 dd_X3_init_0c.1) rfl).to, ?_⟩
  refine List.forall_mem_cons.mpr ⟨(s_ldS (am_dp pw_X3_init_0 dd_X3_init_0c.2.1) rfl).to, ?_⟩
  refine List.forall_mem_cons.mpr ⟨z_cvS (am_dp pw_X3_init_0 dd_X3_init_0c.2.2.1) mt311 wd380 (by decide), ?_⟩
  refine List.forall_mem_cons.mpr ⟨(s_icmp_ge (am_dp pw_X3_init_0 dd_X3_init_0c.2.2.2) (by decide)).to, ?_⟩
  refine List.forall_mem_cons.mpr ⟨(s_iloadn (am_dp pw_X3_init_32 dd_X3_init_32a.1) rfl).to, ?_⟩
  refine List.forall_mem_cons.mpr ⟨(s_bipush (am_dp pw_X3_init_32 dd_X3_init_32a.2.1) (by decide)).to, ?_⟩
  refine List.forall_mem_cons.mpr ⟨(s_icmp_ge (am_dp pw_X3_init_32 dd_X3_init_32a.2.2.1) (by decide)).to, ?_⟩
  refine List.forall_mem_cons.mpr ⟨(s_ldS (am_dp pw_X3_init_32 dd_X3_init_32a.2.2.2.1) rfl).to, ?_⟩
  refine List.forall_mem_cons.mpr ⟨(s_iloadn (am_dp pw_X3_init_32 dd_X3_init_32a.2.2.2.2.1) rfl).to, ?_⟩
  refine List.forall_mem_cons.mpr ⟨z_cvS (am_dp pw_X3_init_32 dd_X3_init_32a.2.2.2.2.2.1) mt312 wd390 (by decide), ?_⟩
  refine List.forall_mem_cons.mpr ⟨(s_bipush (am_dp pw_X3_init_32 dd_X3_init_32a.2.2.2.2.2.2.1) (by decide)).to, ?_⟩
  refine List.forall_mem_cons.mpr ⟨(s_icmp_ne (am_dp pw_X3_init_32 dd_X3_init_32a.2.2.2.2.2.2.2) (by decide)).to, ?_⟩
  refine List.forall_mem_cons.mpr ⟨(s_iinc (am_dp pw_X3_init_32 dd_X3_init_32b.1) (by decide) (by decide)).to, ?_⟩
  refine List.forall_mem_cons.mpr ⟨(s_iconst (am_dp pw_X3_init_32 dd_X3_init_32b.2.1) (by decide)).to, ?_⟩
  refine List.forall_mem_cons.mpr ⟨(s_istoren (am_dp pw_X3_init_32 dd_X3_init_32b.2.2.1) rfl (by decide)).to, ?_⟩
  refine List.forall_mem_cons.mpr ⟨(s_goto (am_dp pw_X3_init_32 dd_X3_init_32b.2.2.2.1) (by decide)).to, ?_⟩
  refine List.forall_mem_cons.mpr ⟨(s_aloadn (am_dp pw_X3_init_32 dd_X3_init_32b.2.2.2.2.1) rfl).to, ?_⟩
  refine List.forall_mem_cons.mpr ⟨(s_get (ci := 3) (k := 0) (am_dp pw_X3_init_32 dd_X3_init_32b.2.2.2.2.2.1) rfl (by decide) wd428 inX3 rfl).to, ?_⟩
  refine List.forall_mem_cons.mpr ⟨(s_iloadn (am_dp pw_X3_init_32 dd_X3_init_32b.2.2.2.2.2.2) rfl).to, ?_⟩
  refine List.forall_mem_cons.mpr ⟨(s_dup2 (am_dp pw_X3_init_64 dd_X3_init_64a.1)).to, ?_⟩
  refine List.forall_mem_cons.mpr ⟨(s_iald (am_dp pw_X3_init_64 dd_X3_init_64a.2.1)).to, ?_⟩
  refine List.forall_mem_cons.mpr ⟨(s_ldS (am_dp pw_X3_init_64 dd_X3_init_64a.2.2.1) rfl).to, ?_⟩
  refine List.forall_mem_cons.mpr ⟨(s_iloadn (am_dp pw_X3_init_64 dd_X3_init_64a.2.2.2.1) rfl).to, ?_⟩
  refine List.forall_mem_cons.mpr ⟨z_cvS (am_dp pw_X3_init_64 dd_X3_init_64a.2.2.2.2.1) mt312 wd390 (by decide), ?_⟩
  refine List.forall_mem_cons.mpr ⟨(s_bipush (am_dp pw_X3_init_64 dd_X3_init_64a.2.2.2.2.2.1) (by decide)).to, ?_⟩
  refine List.forall_mem_cons.mpr ⟨(s_isub (am_dp pw_X3_init_64 dd_X3_init_64a.2.2.2.2.2.2.1)).to, ?_⟩
  refine List.forall_mem_cons.mpr ⟨(s_iconst (am_dp pw_X3_init_64 dd_X3_init_64a.2.2.2.2.2.2.2) (by decide)).to, ?_⟩
  refine List.forall_mem_cons.mpr ⟨(s_iloadn (am_dp pw_X3_init_64 dd_X3_init_64b.1) rfl).to, ?_⟩
  refine List.forall_mem_cons.mpr ⟨(s_imul (am_dp pw_X3_init_64 dd_X3_init_64b.2.1)).to, ?_⟩
  refine List.forall_mem_cons.mpr ⟨(s_ishl (am_dp pw_X3_init_64 dd_X3_init_64b.2.2.1)).to, ?_⟩
  refine List.forall_mem_cons.mpr ⟨(s_ior (am_dp pw_X3_init_64 dd_X3_init_64b.2.2.2.1)).to, ?_⟩
  refine List.forall_mem_cons.mpr ⟨(s_iast (am_dp pw_X3_init_64 dd_X3_init_64b.2.2.2.2.1)).to, ?_⟩
  refine List.forall_mem_cons.mpr ⟨(s_iinc (am_dp pw_X3_init_64 dd_X3_init_64b.2.2.2.2.2.1) (by decide) (by decide)).to, ?_⟩
  refine List.forall_mem_cons.mpr ⟨(s_iinc (am_dp pw_X3_init_64 dd_X3_init_64b.2.2.2.2.2.2.1) (by decide) (by decide)).to, ?_⟩
  refine List.forall_mem_cons.mpr ⟨(s_goto (am_dp pw_X3_init_64 dd_X3_init_64b.2.2.2.2.2.2.2) (by decide)).to, ?_⟩
  refine List.forall_mem_cons.mpr ⟨s_vret (am_dp pw_X3_init_64 dd_X3_init_64c) rfl, ?_⟩
  exact fun _ h => absurd h List.not_mem_nil
theorem sn_tX3_open : ∀ q ∈ tX3_open, am_Snd am_P0 RX3 cX3_open 3 (Option.none : Option FieldType) "open" q.1 q.2 := by
  unfold tX3_open
  refine List.forall_mem_cons.mpr ⟨(s_aloadn (am_dp pw_X3_open_0 dd_X3_open_0a.1) rfl).to, ?_⟩
  refine List.forall_mem_cons.mpr ⟨(s_aloadn (am_dp pw_X3_open_0 dd_X3_open_0a.2.1) rfl).to, ?_⟩
  refine List.forall_mem_cons.mpr ⟨(s_put (ci := 3) (k := 1) (am_dp pw_X3_open_0 dd_X3_open_0a.2.2.1) rfl (by decide) wd429 inX3 tyX3_ok nmX3 rfl rfl).to, ?_⟩
  refine List.forall_mem_cons.mpr ⟨(s_aloadn (am_dp pw_X3_open_0 dd_X3_open_0a.2.2.2.1) rfl).to, ?_⟩
  refine List.forall_mem_cons.mpr ⟨(s_iloadn (am_dp pw_X3_open_0 dd_X3_open_0a.2.2.2.2.1) rfl).to, ?_⟩
  refine List.forall_mem_cons.mpr ⟨(s_aloadn (am_dp pw_X3_open_0 dd_X3_open_0a.2.2.2.2.2.1) rfl).to, ?_⟩
  refine List.forall_mem_cons.mpr ⟨(s_len (am_dp pw_X3_open_0 dd_X3_open_0a.2.2.2.2.2.2.1)).to, ?_⟩
  refine List.forall_mem_cons.mpr ⟨zw_cs309 (am_dp pw_X3_open_0 dd_X3_open_0a.2.2.2.2.2.2.2) wd659, ?_⟩
  refine List.forall_mem_cons.mpr ⟨(s_put (ci := 3) (k := 2) (am_dp pw_X3_open_0 dd_X3_open_0b.1) rfl (by decide) wd430 inX3 tyX3_ok nmX3 rfl rfl).to, ?_⟩
  refine List.forall_mem_cons.mpr ⟨(s_aloadn (am_dp pw_X3_open_0 dd_X3_open_0b.2.1) rfl).to, ?_⟩
  refine List.forall_mem_cons.mpr ⟨(s_iconst (am_dp pw_X3_open_0 dd_X3_open_0b.2.2.1) (by decide)).to, ?_⟩
  refine List.forall_mem_cons.mpr ⟨(s_put (ci := 3) (k := 3) (am_dp pw_X3_open_0 dd_X3_open_0b.2.2.2.1) rfl (by decide) wd431 inX3 tyX3_ok nmX3 rfl rfl).to, ?_⟩
  refine List.forall_mem_cons.mpr ⟨(s_aloadn (am_dp pw_X3_open_0 dd_X3_open_0b.2.2.2.2.1) rfl).to, ?_⟩
  refine List.forall_mem_cons.mpr ⟨(s_iconst (am_dp pw_X3_open_0 dd_X3_open_0b.2.2.2.2.2.1) (by decide)).to, ?_⟩
  refine List.forall_mem_cons.mpr ⟨(s_put (ci := 3) (k := 8) (am_dp pw_X3_open_0 dd_X3_open_0b.2.2.2.2.2.2.1) rfl (by decide) wd440 inX3 tyX3_ok nmX3 rfl rfl).to, ?_⟩
  refine List.forall_mem_cons.mpr ⟨(s_aloadn (am_dp pw_X3_open_0 dd_X3_open_0b.2.2.2.2.2.2.2) rfl).to, ?_⟩
  refine List.forall_mem_cons.mpr ⟨(s_iconst (am_dp pw_X3_open_0 dd_X3_open_0c.1) (by decide)).to, ?_⟩
  refine List.forall_mem_cons.mpr ⟨(s_put (ci := 3) (k := 9) (am_dp pw_X3_open_0 dd_X3_open_0c.2.1) rfl (by decide) wd443 inX3 tyX3_ok nmX3 rfl rfl).to, ?_⟩
  refine List.forall_mem_cons.mpr ⟨(s_aloadn (am_dp pw_X3_open_0 dd_X3_open_0c.2.2.1) rfl).to, ?_⟩
  refine List.forall_mem_cons.mpr ⟨(s_iconst (am_dp pw_X3_open_0 dd_X3_open_0c.2.2.2) (by decide)).to, ?_⟩
  refine List.forall_mem_cons.mpr ⟨(s_put (ci := 3) (k := 4) (am_dp pw_X3_open_32 dd_X3_open_32a.1) rfl (by decide) wd432 inX3 tyX3_ok nmX3 rfl rfl).to, ?_⟩
  refine List.forall_mem_cons.mpr ⟨(s_aloadn (am_dp pw_X3_open_32 dd_X3_open_32a.2.1) rfl).to, ?_⟩
  refine List.forall_mem_cons.mpr ⟨zw_cv35 (am_dp pw_X3_open_32 dd_X3_open_32a.2.2.1) wd662, ?_⟩
  refine List.forall_mem_cons.mpr ⟨s_vret (am_dp pw_X3_open_32 dd_X3_open_32a.2.2.2) rfl, ?_⟩
  exact fun _ h => absurd h List.not_mem_nil
theorem sn_tX3_step_0 : ∀ q ∈ tX3_step_0, am_Snd am_P0 RX3 cX3_step 3 (Option.none : Option FieldType) "step" q.1 q.2 := by
  unfold tX3_step_0
  refine List.forall_mem_cons.mpr ⟨(s_aloadn (am_dp pw_X3_step_0 dd_X3_step_0a.1) rfl).to, ?_⟩
  refine List.forall_mem_cons.mpr ⟨(s_get (ci := 3) (k := 8) (am_dp pw_X3_step_0 dd_X3_step_0a.2.1) rfl (by decide) wd440 inX3 rfl).to, ?_⟩
  refine List.forall_mem_cons.mpr ⟨(s_if_eq (am_dp pw_X3_step_0 dd_X3_step_0a.2.2.1) (by decide)).to, ?_⟩
  refine List.forall_mem_cons.mpr ⟨s_vret (am_dp pw_X3_step_0 dd_X3_step_0a.2.2.2.1) rfl, ?_⟩
  refine List.forall_mem_cons.mpr ⟨(s_aloadn (am_dp pw_X3_step_0 dd_X3_step_0a.2.2.2.2.1) rfl).to, ?_⟩
  refine List.forall_mem_cons.mpr ⟨(s_get (ci := 3) (k := 4) (am_dp pw_X3_step_0 dd_X3_step_0a.2.2.2.2.2.1) rfl (by decide) wd432 inX3 rfl).to, ?_⟩
  refine List.forall_mem_cons.mpr ⟨(s_iconst (am_dp pw_X3_step_0 dd_X3_step_0a.2.2.2.2.2.2.1) (by decide)).to, ?_⟩
  refine List.forall_mem_cons.mpr ⟨(s_icmp_eq (am_dp pw_X3_step_0 dd_X3_step_0a.2.2.2.2.2.2.2) (by decide)).to, ?_⟩
  refine List.forall_mem_cons.mpr ⟨(s_aloadn (am_dp pw_X3_step_0 dd_X3_step_0b.1) rfl).to, ?_⟩
  refine List.forall_mem_cons.mpr ⟨(s_get (ci := 3) (k := 4) (am_dp pw_X3_step_0 dd_X3_step_0b.2.1) rfl (by decide) wd432 inX3 rfl).to, ?_⟩
  refine List.forall_mem_cons.mpr ⟨(s_iconst (am_dp pw_X3_step_0 dd_X3_step_0b.2.2.1) (by decide)).to, ?_⟩
  refine List.forall_mem_cons.mpr ⟨(s_icmp_ne (am_dp pw_X3_step_0 dd_X3_step_0b.2.2.2.1) (by decide)).to, ?_⟩
  refine List.forall_mem_cons.mpr ⟨(s_aloadn (am_dp pw_X3_step_0 dd_X3_step_0b.2.2.2.2.1) rfl).to, ?_⟩
  refine List.forall_mem_cons.mpr ⟨(s_get (ci := 3) (k := 3) (am_dp pw_X3_step_0 dd_X3_step_0b.2.2.2.2.2.1) rfl (by decide) wd431 inX3 rfl).to, ?_⟩
  refine List.forall_mem_cons.mpr ⟨(s_goto (am_dp pw_X3_step_0 dd_X3_step_0b.2.2.2.2.2.2.1) (by decide)).to, ?_⟩
  refine List.forall_mem_cons.mpr ⟨(s_iconst (am_dp pw_X3_step_0 dd_X3_step_0b.2.2.2.2.2.2.2) (by decide)).to, ?_⟩
  refine List.forall_mem_cons.mpr ⟨(s_istoren (am_dp pw_X3_step_32 dd_X3_step_32a.1) rfl (by decide)).to, ?_⟩
  refine List.forall_mem_cons.mpr ⟨(s_aloadn (am_dp pw_X3_step_32 dd_X3_step_32a.2.1) rfl).to, ?_⟩
  refine List.forall_mem_cons.mpr ⟨(s_get (ci := 3) (k := 3) (am_dp pw_X3_step_32 dd_X3_step_32a.2.2.1) rfl (by decide) wd431 inX3 rfl).to, ?_⟩
  refine List.forall_mem_cons.mpr ⟨(s_aloadn (am_dp pw_X3_step_32 dd_X3_step_32a.2.2.2.1) rfl).to, ?_⟩
  refine List.forall_mem_cons.mpr ⟨(s_get (ci := 3) (k := 2) (am_dp pw_X3_step_32 dd_X3_step_32a.2.2.2.2.1) rfl (by decide) wd430 inX3 rfl).to, ?_⟩
  refine List.forall_mem_cons.mpr ⟨(s_icmp_ge (am_dp pw_X3_step_32 dd_X3_step_32a.2.2.2.2.2.1) (by decide)).to, ?_⟩
  refine List.forall_mem_cons.mpr ⟨(s_aloadn (am_dp pw_X3_step_32 dd_X3_step_32a.2.2.2.2.2.2.1) rfl).to, ?_⟩
  refine List.forall_mem_cons.mpr ⟨(s_get (ci := 3) (k := 1) (am_dp pw_X3_step_32 dd_X3_step_32a.2.2.2.2.2.2.2) rfl (by decide) wd429 inX3 rfl).to, ?_⟩
  refine List.forall_mem_cons.mpr ⟨(s_aloadn (am_dp pw_X3_step_32 dd_X3_step_32b.1) rfl).to, ?_⟩
  refine List.forall_mem_cons.mpr ⟨(s_get (ci := 3) (k := 3) (am_dp pw_X3_step_32 dd_X3_step_32b.2.1) rfl (by decide) wd431 inX3 rfl).to, ?_⟩
  refine List.forall_mem_cons.mpr ⟨(s_iald (am_dp pw_X3_step_32 dd_X3_step_32b.2.2.1)).to, ?_⟩
  refine List.forall_mem_cons.mpr ⟨(s_bipush (am_dp pw_X3_step_32 dd_X3_step_32b.2.2.2.1) (by decide)).to, ?_⟩
  refine List.forall_mem_cons.mpr ⟨(s_icmp_eq (am_dp pw_X3_step_32 dd_X3_step_32b.2.2.2.2.1) (by decide)).to, ?_⟩
  refine List.forall_mem_cons.mpr ⟨(s_aloadn (am_dp pw_X3_step_32 dd_X3_step_32b.2.2.2.2.2.1) rfl).to, ?_⟩
  refine List.forall_mem_cons.mpr ⟨(s_get (ci := 3) (k := 1) (am_dp pw_X3_step_32 dd_X3_step_32b.2.2.2.2.2.2.1) rfl (by decide) wd429 inX3 rfl).to, ?_⟩
  refine List.forall_mem_cons.mpr ⟨(s_aloadn (am_dp pw_X3_step_32 dd_X3_step_32b.2.2.2.2.2.2.2) rfl).to, ?_⟩
  refine List.forall_mem_cons.mpr ⟨(s_get (ci := 3) (k := 3) (am_dp pw_X3_step_32 dd_X3_step_32c) rfl (by decide) wd431 inX3 rfl).to, ?_⟩
  refine List.forall_mem_cons.mpr ⟨(s_iald (am_dp pw_X3_step_64 dd_X3_step_64a.1)).to, ?_⟩
  refine List.forall_mem_cons.mpr ⟨(s_bipush (am_dp pw_X3_step_64 dd_X3_step_64a.2.1) (by decide)).to, ?_⟩
  refine List.forall_mem_cons.mpr ⟨(s_icmp_ne (am_dp pw_X3_step_64 dd_X3_step_64a.2.2.1) (by decide)).to, ?_⟩
  refine List.forall_mem_cons.mpr ⟨(s_aloadn (am_dp pw_X3_step_64 dd_X3_step_64a.2.2.2.1) rfl).to, ?_⟩
  refine List.forall_mem_cons.mpr ⟨(s_dup (am_dp pw_X3_step_64 dd_X3_step_64a.2.2.2.2.1)).to, ?_⟩
  refine List.forall_mem_cons.mpr ⟨(s_get (ci := 3) (k := 3) (am_dp pw_X3_step_64 dd_X3_step_64a.2.2.2.2.2.1) rfl (by decide) wd431 inX3 rfl).to, ?_⟩
  refine List.forall_mem_cons.mpr ⟨(s_iconst (am_dp pw_X3_step_64 dd_X3_step_64a.2.2.2.2.2.2.1) (by decide)).to, ?_⟩
  refine List.forall_mem_cons.mpr ⟨(s_iadd (am_dp pw_X3_step_64 dd_X3_step_64a.2.2.2.2.2.2.2)).to, ?_⟩
  refine List.forall_mem_cons.mpr ⟨(s_put (ci := 3) (k := 3) (am_dp pw_X3_step_64 dd_X3_step_64b.1) rfl (by decide) wd431 inX3 tyX3_ok nmX3 rfl rfl).to, ?_⟩
  refine List.forall_mem_cons.mpr ⟨(s_goto (am_dp pw_X3_step_64 dd_X3_step_64b.2.1) (by decide)).to, ?_⟩
  refine List.forall_mem_cons.mpr ⟨(s_aloadn (am_dp pw_X3_step_64 dd_X3_step_64b.2.2.1) rfl).to, ?_⟩
  refine List.forall_mem_cons.mpr ⟨(s_aloadn (am_dp pw_X3_step_64 dd_X3_step_64b.2.2.2.1) rfl).to, ?_⟩
  refine List.forall_mem_cons.mpr ⟨(s_get (ci := 3) (k := 3) (am_dp pw_X3_step_64 dd_X3_step_64b.2.2.2.2.1) rfl (by decide) wd431 inX3 rfl).to, ?_⟩
  refine List.forall_mem_cons.mpr ⟨(s_put (ci := 3) (k := 7) (am_dp pw_X3_step_64 dd_X3_step_64b.2.2.2.2.2.1) rfl (by decide) wd439 inX3 tyX3_ok nmX3 rfl rfl).to, ?_⟩
  refine List.forall_mem_cons.mpr ⟨(s_aloadn (am_dp pw_X3_step_64 dd_X3_step_64b.2.2.2.2.2.2.1) rfl).to, ?_⟩
  refine List.forall_mem_cons.mpr ⟨(s_iconst (am_dp pw_X3_step_64 dd_X3_step_64b.2.2.2.2.2.2.2) (by decide)).to, ?_⟩
  refine List.forall_mem_cons.mpr ⟨(s_put (ci := 3) (k := 5) (am_dp pw_X3_step_64 dd_X3_step_64c) rfl (by decide) wd435 inX3 tyX3_ok nmX3 rfl rfl).to, ?_⟩
  refine List.forall_mem_cons.mpr ⟨(s_aloadn (am_dp pw_X3_step_96 dd_X3_step_96a.1) rfl).to, ?_⟩
  refine List.forall_mem_cons.mpr ⟨(s_iconst (am_dp pw_X3_step_96 dd_X3_step_96a.2.1) (by decide)).to, ?_⟩
  refine List.forall_mem_cons.mpr ⟨(s_put (ci := 3) (k := 6) (am_dp pw_X3_step_96 dd_X3_step_96a.2.2.1) rfl (by decide) wd438 inX3 tyX3_ok nmX3 rfl rfl).to, ?_⟩
  refine List.forall_mem_cons.mpr ⟨(s_aloadn (am_dp pw_X3_step_96 dd_X3_step_96a.2.2.2.1) rfl).to, ?_⟩
  refine List.forall_mem_cons.mpr ⟨(s_aloadn (am_dp pw_X3_step_96 dd_X3_step_96a.2.2.2.2.1) rfl).to, ?_⟩
  refine List.forall_mem_cons.mpr ⟨(s_get (ci := 3) (k := 3) (am_dp pw_X3_step_96 dd_X3_step_96a.2.2.2.2.2.1) rfl (by decide) wd431 inX3 rfl).to, ?_⟩
  refine List.forall_mem_cons.mpr ⟨(s_aloadn (am_dp pw_X3_step_96 dd_X3_step_96a.2.2.2.2.2.2.1) rfl).to, ?_⟩
  refine List.forall_mem_cons.mpr ⟨(s_get (ci := 3) (k := 2) (am_dp pw_X3_step_96 dd_X3_step_96a.2.2.2.2.2.2.2) rfl (by decide) wd430 inX3 rfl).to, ?_⟩
  refine List.forall_mem_cons.mpr ⟨(s_icmp_ge (am_dp pw_X3_step_96 dd_X3_step_96b.1) (by decide)).to, ?_⟩
  refine List.forall_mem_cons.mpr ⟨(s_aloadn (am_dp pw_X3_step_96 dd_X3_step_96b.2.1) rfl).to, ?_⟩
  exact fun _ h => absurd h List.not_mem_nil
theorem sn_tX3_step_1 : ∀ q ∈ tX3_step_1, am_Snd am_P0 RX3 cX3_step 3 (Option.none : Option FieldType) "step" q.1 q.2 := by
  unfold tX3_step_1
  refine List.forall_mem_cons.mpr ⟨(s_get (ci := 3) (k := 1) (am_dp pw_X3_step_96 dd_X3_step_96b.2.2.1) rfl (by decide) wd429 inX3 rfl).to, ?_⟩
  refine List.forall_mem_cons.mpr ⟨(s_aloadn (am_dp pw_X3_step_96 dd_X3_step_96b.2.2.2.1) rfl).to, ?_⟩
  refine List.forall_mem_cons.mpr ⟨(s_get (ci := 3) (k := 3) (am_dp pw_X3_step_96 dd_X3_step_96b.2.2.2.2.1) rfl (by decide) wd431 inX3 rfl).to, ?_⟩
  refine List.forall_mem_cons.mpr ⟨(s_iald (am_dp pw_X3_step_96 dd_X3_step_96b.2.2.2.2.2.1)).to, ?_⟩
  refine List.forall_mem_cons.mpr ⟨zw_cs37 (am_dp pw_X3_step_96 dd_X3_step_96b.2.2.2.2.2.2.1) wd666, ?_⟩
  refine List.forall_mem_cons.mpr ⟨(s_goto (am_dp pw_X3_step_96 dd_X3_step_96b.2.2.2.2.2.2.2) (by decide)).to, ?_⟩
  refine List.forall_mem_cons.mpr ⟨(s_iconst (am_dp pw_X3_step_128 dd_X3_step_128a.1) (by decide)).to, ?_⟩
  refine List.forall_mem_cons.mpr ⟨(s_put (ci := 3) (k := 4) (am_dp pw_X3_step_128 dd_X3_step_128a.2.1) rfl (by decide) wd432 inX3 tyX3_ok nmX3 rfl rfl).to, ?_⟩
  refine List.forall_mem_cons.mpr ⟨(s_aloadn (am_dp pw_X3_step_128 dd_X3_step_128a.2.2.1) rfl).to, ?_⟩
  refine List.forall_mem_cons.mpr ⟨(s_get (ci := 3) (k := 4) (am_dp pw_X3_step_128 dd_X3_step_128a.2.2.2.1) rfl (by decide) wd432 inX3 rfl).to, ?_⟩
  refine List.forall_mem_cons.mpr ⟨(s_if_ne (am_dp pw_X3_step_128 dd_X3_step_128a.2.2.2.2.1) (by decide)).to, ?_⟩
  refine List.forall_mem_cons.mpr ⟨s_vret (am_dp pw_X3_step_128 dd_X3_step_128a.2.2.2.2.2.1) rfl, ?_⟩
  refine List.forall_mem_cons.mpr ⟨(s_aloadn (am_dp pw_X3_step_128 dd_X3_step_128a.2.2.2.2.2.2.1) rfl).to, ?_⟩
  refine List.forall_mem_cons.mpr ⟨(s_get (ci := 3) (k := 4) (am_dp pw_X3_step_128 dd_X3_step_128a.2.2.2.2.2.2.2) rfl (by decide) wd432 inX3 rfl).to, ?_⟩
  refine List.forall_mem_cons.mpr ⟨(s_iconst (am_dp pw_X3_step_128 dd_X3_step_128b.1) (by decide)).to, ?_⟩
  refine List.forall_mem_cons.mpr ⟨(s_icmp_ne (am_dp pw_X3_step_128 dd_X3_step_128b.2.1) (by decide)).to, ?_⟩
  refine List.forall_mem_cons.mpr ⟨(s_aloadn (am_dp pw_X3_step_128 dd_X3_step_128b.2.2.1) rfl).to, ?_⟩
  refine List.forall_mem_cons.mpr ⟨(s_aloadn (am_dp pw_X3_step_128 dd_X3_step_128b.2.2.2.1) rfl).to, ?_⟩
  refine List.forall_mem_cons.mpr ⟨(s_get (ci := 3) (k := 1) (am_dp pw_X3_step_128 dd_X3_step_128b.2.2.2.2.1) rfl (by decide) wd429 inX3 rfl).to, ?_⟩
  refine List.forall_mem_cons.mpr ⟨(s_aloadn (am_dp pw_X3_step_128 dd_X3_step_128b.2.2.2.2.2.1) rfl).to, ?_⟩
  refine List.forall_mem_cons.mpr ⟨(s_get (ci := 3) (k := 3) (am_dp pw_X3_step_128 dd_X3_step_128b.2.2.2.2.2.2.1) rfl (by decide) wd431 inX3 rfl).to, ?_⟩
  refine List.forall_mem_cons.mpr ⟨(s_iald (am_dp pw_X3_step_128 dd_X3_step_128b.2.2.2.2.2.2.2)).to, ?_⟩
  refine List.forall_mem_cons.mpr ⟨(s_put (ci := 3) (k := 5) (am_dp pw_X3_step_160 dd_X3_step_160a.1) rfl (by decide) wd435 inX3 tyX3_ok nmX3 rfl rfl).to, ?_⟩
  refine List.forall_mem_cons.mpr ⟨(s_aloadn (am_dp pw_X3_step_160 dd_X3_step_160a.2.1) rfl).to, ?_⟩
  refine List.forall_mem_cons.mpr ⟨(s_dup (am_dp pw_X3_step_160 dd_X3_step_160a.2.2.1)).to, ?_⟩
  refine List.forall_mem_cons.mpr ⟨(s_get (ci := 3) (k := 3) (am_dp pw_X3_step_160 dd_X3_step_160a.2.2.2.1) rfl (by decide) wd431 inX3 rfl).to, ?_⟩
  refine List.forall_mem_cons.mpr ⟨(s_iconst (am_dp pw_X3_step_160 dd_X3_step_160a.2.2.2.2.1) (by decide)).to, ?_⟩
  refine List.forall_mem_cons.mpr ⟨(s_iadd (am_dp pw_X3_step_160 dd_X3_step_160a.2.2.2.2.2.1)).to, ?_⟩
  refine List.forall_mem_cons.mpr ⟨(s_put (ci := 3) (k := 3) (am_dp pw_X3_step_160 dd_X3_step_160a.2.2.2.2.2.2.1) rfl (by decide) wd431 inX3 tyX3_ok nmX3 rfl rfl).to, ?_⟩
  refine List.forall_mem_cons.mpr ⟨s_vret (am_dp pw_X3_step_160 dd_X3_step_160a.2.2.2.2.2.2.2) rfl, ?_⟩
  refine List.forall_mem_cons.mpr ⟨(s_aloadn (am_dp pw_X3_step_160 dd_X3_step_160b.1) rfl).to, ?_⟩
  refine List.forall_mem_cons.mpr ⟨(s_get (ci := 3) (k := 4) (am_dp pw_X3_step_160 dd_X3_step_160b.2.1) rfl (by decide) wd432 inX3 rfl).to, ?_⟩
  refine List.forall_mem_cons.mpr ⟨(s_iconst (am_dp pw_X3_step_160 dd_X3_step_160b.2.2.1) (by decide)).to, ?_⟩
  refine List.forall_mem_cons.mpr ⟨(s_icmp_ne (am_dp pw_X3_step_160 dd_X3_step_160b.2.2.2.1) (by decide)).to, ?_⟩
  refine List.forall_mem_cons.mpr ⟨(s_bipush (am_dp pw_X3_step_160 dd_X3_step_160b.2.2.2.2.1) (by decide)).to, ?_⟩
  refine List.forall_mem_cons.mpr ⟨(s_goto (am_dp pw_X3_step_160 dd_X3_step_160b.2.2.2.2.2.1) (by decide)).to, ?_⟩
  refine List.forall_mem_cons.mpr ⟨(s_iconst (am_dp pw_X3_step_160 dd_X3_step_160b.2.2.2.2.2.2.1) (by decide)).to, ?_⟩
  refine List.forall_mem_cons.mpr ⟨(s_istoren (am_dp pw_X3_step_160 dd_X3_step_160b.2.2.2.2.2.2.2) rfl (by decide)).to, ?_⟩
  refine List.forall_mem_cons.mpr ⟨(s_aloadn (am_dp pw_X3_step_160 dd_X3_step_160c.1) rfl).to, ?_⟩
  refine List.forall_mem_cons.mpr ⟨(s_get (ci := 3) (k := 3) (am_dp pw_X3_step_160 dd_X3_step_160c.2) rfl (by decide) wd431 inX3 rfl).to, ?_⟩
  refine List.forall_mem_cons.mpr ⟨(s_aloadn (am_dp pw_X3_step_192 dd_X3_step_192a.1) rfl).to, ?_⟩
  refine List.forall_mem_cons.mpr ⟨(s_get (ci := 3) (k := 2) (am_dp pw_X3_step_192 dd_X3_step_192a.2.1) rfl (by decide) wd430 inX3 rfl).to, ?_⟩
  refine List.forall_mem_cons.mpr ⟨(s_icmp_ge (am_dp pw_X3_step_192 dd_X3_step_192a.2.2.1) (by decide)).to, ?_⟩
  refine List.forall_mem_cons.mpr ⟨(s_aloadn (am_dp pw_X3_step_192 dd_X3_step_192a.2.2.2.1) rfl).to, ?_⟩
  refine List.forall_mem_cons.mpr ⟨(s_get (ci := 3) (k := 1) (am_dp pw_X3_step_192 dd_X3_step_192a.2.2.2.2.1) rfl (by decide) wd429 inX3 rfl).to, ?_⟩
  refine List.forall_mem_cons.mpr ⟨(s_aloadn (am_dp pw_X3_step_192 dd_X3_step_192a.2.2.2.2.2.1) rfl).to, ?_⟩
  refine List.forall_mem_cons.mpr ⟨(s_get (ci := 3) (k := 3) (am_dp pw_X3_step_192 dd_X3_step_192a.2.2.2.2.2.2.1) rfl (by decide) wd431 inX3 rfl).to, ?_⟩
  refine List.forall_mem_cons.mpr ⟨(s_iald (am_dp pw_X3_step_192 dd_X3_step_192a.2.2.2.2.2.2.2)).to, ?_⟩
  refine List.forall_mem_cons.mpr ⟨zw_cs37 (am_dp pw_X3_step_192 dd_X3_step_192b.1) wd666, ?_⟩
  refine List.forall_mem_cons.mpr ⟨(s_aloadn (am_dp pw_X3_step_192 dd_X3_step_192b.2.1) rfl).to, ?_⟩
  refine List.forall_mem_cons.mpr ⟨(s_get (ci := 3) (k := 4) (am_dp pw_X3_step_192 dd_X3_step_192b.2.2.1) rfl (by decide) wd432 inX3 rfl).to, ?_⟩
  refine List.forall_mem_cons.mpr ⟨(s_icmp_ne (am_dp pw_X3_step_192 dd_X3_step_192b.2.2.2.1) (by decide)).to, ?_⟩
  refine List.forall_mem_cons.mpr ⟨(s_aloadn (am_dp pw_X3_step_192 dd_X3_step_192b.2.2.2.2.1) rfl).to, ?_⟩
  refine List.forall_mem_cons.mpr ⟨(s_get (ci := 3) (k := 3) (am_dp pw_X3_step_192 dd_X3_step_192b.2.2.2.2.2.1) rfl (by decide) wd431 inX3 rfl).to, ?_⟩
  refine List.forall_mem_cons.mpr ⟨(s_aloadn (am_dp pw_X3_step_192 dd_X3_step_192b.2.2.2.2.2.2) rfl).to, ?_⟩
  refine List.forall_mem_cons.mpr ⟨(s_get (ci := 3) (k := 7) (am_dp pw_X3_step_224 dd_X3_step_224a.1) rfl (by decide) wd439 inX3 rfl).to, ?_⟩
  refine List.forall_mem_cons.mpr ⟨(s_isub (am_dp pw_X3_step_224 dd_X3_step_224a.2.1)).to, ?_⟩
  refine List.forall_mem_cons.mpr ⟨(s_iloadn (am_dp pw_X3_step_224 dd_X3_step_224a.2.2.1) rfl).to, ?_⟩
  refine List.forall_mem_cons.mpr ⟨(s_icmp_lt (am_dp pw_X3_step_224 dd_X3_step_224a.2.2.2.1) (by decide)).to, ?_⟩
  refine List.forall_mem_cons.mpr ⟨(s_aloadn (am_dp pw_X3_step_224 dd_X3_step_224a.2.2.2.2.1) rfl).to, ?_⟩
  exact fun _ h => absurd h List.not_mem_nil
theorem sn_tX3_step_2 : ∀ q ∈ tX3_step_2, am_Snd am_P0 RX3 cX3_step 3 (Option.none : Option FieldType) "step" q.1 q.2 := by
  unfold tX3_step_2
  refine List.forall_mem_cons.mpr ⟨(s_iconst (am_dp pw_X3_step_224 dd_X3_step_224a.2.2.2.2.2.1) (by decide)).to, ?_⟩
  refine List.forall_mem_cons.mpr ⟨(s_aloadn (am_dp pw_X3_step_224 dd_X3_step_224a.2.2.2.2.2.2.1) rfl).to, ?_⟩
  refine List.forall_mem_cons.mpr ⟨(s_get (ci := 3) (k := 3) (am_dp pw_X3_step_224 dd_X3_step_224a.2.2.2.2.2.2.2) rfl (by decide) wd431 inX3 rfl).to, ?_⟩
  refine List.forall_mem_cons.mpr ⟨zw_cv38 (am_dp pw_X3_step_224 dd_X3_step_224b.1) wd669, ?_⟩
  refine List.forall_mem_cons.mpr ⟨s_vret (am_dp pw_X3_step_224 dd_X3_step_224b.2.1) rfl, ?_⟩
  refine List.forall_mem_cons.mpr ⟨(s_aloadn (am_dp pw_X3_step_224 dd_X3_step_224b.2.2.1) rfl).to, ?_⟩
  refine List.forall_mem_cons.mpr ⟨(s_aloadn (am_dp pw_X3_step_224 dd_X3_step_224b.2.2.2.1) rfl).to, ?_⟩
  refine List.forall_mem_cons.mpr ⟨(s_get (ci := 3) (k := 4) (am_dp pw_X3_step_224 dd_X3_step_224b.2.2.2.2.1) rfl (by decide) wd432 inX3 rfl).to, ?_⟩
  refine List.forall_mem_cons.mpr ⟨(s_iconst (am_dp pw_X3_step_224 dd_X3_step_224b.2.2.2.2.2.1) (by decide)).to, ?_⟩
  refine List.forall_mem_cons.mpr ⟨(s_icmp_ne (am_dp pw_X3_step_224 dd_X3_step_224b.2.2.2.2.2.2.1) (by decide)).to, ?_⟩
  refine List.forall_mem_cons.mpr ⟨(s_aloadn (am_dp pw_X3_step_224 dd_X3_step_224b.2.2.2.2.2.2.2) rfl).to, ?_⟩
  refine List.forall_mem_cons.mpr ⟨(s_get (ci := 3) (k := 5) (am_dp pw_X3_step_224 dd_X3_step_224c.1) rfl (by decide) wd435 inX3 rfl).to, ?_⟩
  refine List.forall_mem_cons.mpr ⟨(s_bipush (am_dp pw_X3_step_224 dd_X3_step_224c.2) (by decide)).to, ?_⟩
  refine List.forall_mem_cons.mpr ⟨(s_imul (am_dp pw_X3_step_256 dd_X3_step_256a.1)).to, ?_⟩
  refine List.forall_mem_cons.mpr ⟨(s_aloadn (am_dp pw_X3_step_256 dd_X3_step_256a.2.1) rfl).to, ?_⟩
  refine List.forall_mem_cons.mpr ⟨(s_get (ci := 3) (k := 1) (am_dp pw_X3_step_256 dd_X3_step_256a.2.2.1) rfl (by decide) wd429 inX3 rfl).to, ?_⟩
  refine List.forall_mem_cons.mpr ⟨(s_aloadn (am_dp pw_X3_step_256 dd_X3_step_256a.2.2.2.1) rfl).to, ?_⟩
  refine List.forall_mem_cons.mpr ⟨(s_get (ci := 3) (k := 3) (am_dp pw_X3_step_256 dd_X3_step_256a.2.2.2.2.1) rfl (by decide) wd431 inX3 rfl).to, ?_⟩
  refine List.forall_mem_cons.mpr ⟨(s_iald (am_dp pw_X3_step_256 dd_X3_step_256a.2.2.2.2.2.1)).to, ?_⟩
  refine List.forall_mem_cons.mpr ⟨(s_iadd (am_dp pw_X3_step_256 dd_X3_step_256a.2.2.2.2.2.2.1)).to, ?_⟩
  refine List.forall_mem_cons.mpr ⟨(s_bipush (am_dp pw_X3_step_256 dd_X3_step_256a.2.2.2.2.2.2.2) (by decide)).to, ?_⟩
  refine List.forall_mem_cons.mpr ⟨(s_isub (am_dp pw_X3_step_256 dd_X3_step_256b.1)).to, ?_⟩
  refine List.forall_mem_cons.mpr ⟨(s_goto (am_dp pw_X3_step_256 dd_X3_step_256b.2.1) (by decide)).to, ?_⟩
  refine List.forall_mem_cons.mpr ⟨(s_aloadn (am_dp pw_X3_step_256 dd_X3_step_256b.2.2.1) rfl).to, ?_⟩
  refine List.forall_mem_cons.mpr ⟨(s_get (ci := 3) (k := 5) (am_dp pw_X3_step_256 dd_X3_step_256b.2.2.2.1) rfl (by decide) wd435 inX3 rfl).to, ?_⟩
  refine List.forall_mem_cons.mpr ⟨(s_aloadn (am_dp pw_X3_step_256 dd_X3_step_256b.2.2.2.2.1) rfl).to, ?_⟩
  refine List.forall_mem_cons.mpr ⟨(s_get (ci := 3) (k := 1) (am_dp pw_X3_step_256 dd_X3_step_256b.2.2.2.2.2.1) rfl (by decide) wd429 inX3 rfl).to, ?_⟩
  refine List.forall_mem_cons.mpr ⟨(s_aloadn (am_dp pw_X3_step_256 dd_X3_step_256b.2.2.2.2.2.2.1) rfl).to, ?_⟩
  refine List.forall_mem_cons.mpr ⟨(s_get (ci := 3) (k := 3) (am_dp pw_X3_step_256 dd_X3_step_256b.2.2.2.2.2.2.2) rfl (by decide) wd431 inX3 rfl).to, ?_⟩
  refine List.forall_mem_cons.mpr ⟨(s_iald (am_dp pw_X3_step_256 dd_X3_step_256c.1)).to, ?_⟩
  refine List.forall_mem_cons.mpr ⟨(s_bipush (am_dp pw_X3_step_256 dd_X3_step_256c.2) (by decide)).to, ?_⟩
  refine List.forall_mem_cons.mpr ⟨(s_isub (am_dp pw_X3_step_288 dd_X3_step_288a.1)).to, ?_⟩
  refine List.forall_mem_cons.mpr ⟨(s_iconst (am_dp pw_X3_step_288 dd_X3_step_288a.2.1) (by decide)).to, ?_⟩
  refine List.forall_mem_cons.mpr ⟨(s_aloadn (am_dp pw_X3_step_288 dd_X3_step_288a.2.2.1) rfl).to, ?_⟩
  refine List.forall_mem_cons.mpr ⟨(s_get (ci := 3) (k := 3) (am_dp pw_X3_step_288 dd_X3_step_288a.2.2.2.1) rfl (by decide) wd431 inX3 rfl).to, ?_⟩
  refine List.forall_mem_cons.mpr ⟨(s_aloadn (am_dp pw_X3_step_288 dd_X3_step_288a.2.2.2.2.1) rfl).to, ?_⟩
  refine List.forall_mem_cons.mpr ⟨(s_get (ci := 3) (k := 7) (am_dp pw_X3_step_288 dd_X3_step_288a.2.2.2.2.2.1) rfl (by decide) wd439 inX3 rfl).to, ?_⟩
  refine List.forall_mem_cons.mpr ⟨(s_isub (am_dp pw_X3_step_288 dd_X3_step_288a.2.2.2.2.2.2.1)).to, ?_⟩
  refine List.forall_mem_cons.mpr ⟨(s_imul (am_dp pw_X3_step_288 dd_X3_step_288a.2.2.2.2.2.2.2)).to, ?_⟩
  refine List.forall_mem_cons.mpr ⟨(s_ishl (am_dp pw_X3_step_288 dd_X3_step_288b.1)).to, ?_⟩
  refine List.forall_mem_cons.mpr ⟨(s_ior (am_dp pw_X3_step_288 dd_X3_step_288b.2.1)).to, ?_⟩
  refine List.forall_mem_cons.mpr ⟨(s_put (ci := 3) (k := 5) (am_dp pw_X3_step_288 dd_X3_step_288b.2.2.1) rfl (by decide) wd435 inX3 tyX3_ok nmX3 rfl rfl).to, ?_⟩
  refine List.forall_mem_cons.mpr ⟨(s_aloadn (am_dp pw_X3_step_288 dd_X3_step_288b.2.2.2.1) rfl).to, ?_⟩
  refine List.forall_mem_cons.mpr ⟨(s_dup (am_dp pw_X3_step_288 dd_X3_step_288b.2.2.2.2.1)).to, ?_⟩
  refine List.forall_mem_cons.mpr ⟨(s_get (ci := 3) (k := 3) (am_dp pw_X3_step_288 dd_X3_step_288b.2.2.2.2.2.1) rfl (by decide) wd431 inX3 rfl).to, ?_⟩
  refine List.forall_mem_cons.mpr ⟨(s_iconst (am_dp pw_X3_step_288 dd_X3_step_288b.2.2.2.2.2.2.1) (by decide)).to, ?_⟩
  refine List.forall_mem_cons.mpr ⟨(s_iadd (am_dp pw_X3_step_288 dd_X3_step_288b.2.2.2.2.2.2.2)).to, ?_⟩
  refine List.forall_mem_cons.mpr ⟨(s_put (ci := 3) (k := 3) (am_dp pw_X3_step_288 dd_X3_step_288c.1) rfl (by decide) wd431 inX3 tyX3_ok nmX3 rfl rfl).to, ?_⟩
  refine List.forall_mem_cons.mpr ⟨(s_goto (am_dp pw_X3_step_288 dd_X3_step_288c.2.1) (by decide)).to, ?_⟩
  refine List.forall_mem_cons.mpr ⟨(s_aloadn (am_dp pw_X3_step_288 dd_X3_step_288c.2.2) rfl).to, ?_⟩
  refine List.forall_mem_cons.mpr ⟨(s_get (ci := 3) (k := 7) (am_dp pw_X3_step_320 dd_X3_step_320a.1) rfl (by decide) wd439 inX3 rfl).to, ?_⟩
  refine List.forall_mem_cons.mpr ⟨(s_iloadn (am_dp pw_X3_step_320 dd_X3_step_320a.2.1) rfl).to, ?_⟩
  refine List.forall_mem_cons.mpr ⟨(s_icmp_ne (am_dp pw_X3_step_320 dd_X3_step_320a.2.2.1) (by decide)).to, ?_⟩
  refine List.forall_mem_cons.mpr ⟨(s_aloadn (am_dp pw_X3_step_320 dd_X3_step_320a.2.2.2.1) rfl).to, ?_⟩
  refine List.forall_mem_cons.mpr ⟨(s_iconst (am_dp pw_X3_step_320 dd_X3_step_320a.2.2.2.2.1) (by decide)).to, ?_⟩
  refine List.forall_mem_cons.mpr ⟨(s_aloadn (am_dp pw_X3_step_320 dd_X3_step_320a.2.2.2.2.2.1) rfl).to, ?_⟩
  refine List.forall_mem_cons.mpr ⟨(s_get (ci := 3) (k := 7) (am_dp pw_X3_step_320 dd_X3_step_320a.2.2.2.2.2.2.1) rfl (by decide) wd439 inX3 rfl).to, ?_⟩
  refine List.forall_mem_cons.mpr ⟨zw_cv38 (am_dp pw_X3_step_320 dd_X3_step_320a.2.2.2.2.2.2.2) wd669, ?_⟩
  refine List.forall_mem_cons.mpr ⟨s_vret (am_dp pw_X3_step_320 dd_X3_step_320b.1) rfl, ?_⟩
  refine List.forall_mem_cons.mpr ⟨(s_aloadn (am_dp pw_X3_step_320 dd_X3_step_320b.2.1) rfl).to, ?_⟩
  exact fun _ h => absurd h List.not_mem_nil
theorem sn_tX3_step_3 : ∀ q ∈ tX3_step_3, am_Snd am_P0 RX3 cX3_step 3 (Option.none : Option FieldType) "step" q.1 q.2 := by
  unfold tX3_step_3
  refine List.forall_mem_cons.mpr ⟨(s_aloadn (am_dp pw_X3_step_320 dd_X3_step_320b.2.2.1) rfl).to, ?_⟩
  refine List.forall_mem_cons.mpr ⟨(s_get (ci := 3) (k := 4) (am_dp pw_X3_step_320 dd_X3_step_320b.2.2.2.1) rfl (by decide) wd432 inX3 rfl).to, ?_⟩
  refine List.forall_mem_cons.mpr ⟨(s_iconst (am_dp pw_X3_step_320 dd_X3_step_320b.2.2.2.2.1) (by decide)).to, ?_⟩
  refine List.forall_mem_cons.mpr ⟨(s_icmp_ne (am_dp pw_X3_step_320 dd_X3_step_320b.2.2.2.2.2.1) (by decide)).to, ?_⟩
  refine List.forall_mem_cons.mpr ⟨(s_aloadn (am_dp pw_X3_step_320 dd_X3_step_320b.2.2.2.2.2.2.1) rfl).to, ?_⟩
  refine List.forall_mem_cons.mpr ⟨(s_aloadn (am_dp pw_X3_step_320 dd_X3_step_320b.2.2.2.2.2.2.2) rfl).to, ?_⟩
  refine List.forall_mem_cons.mpr ⟨(s_get (ci := 3) (k := 5) (am_dp pw_X3_step_320 dd_X3_step_320c.1) rfl (by decide) wd435 inX3 rfl).to, ?_⟩
  refine List.forall_mem_cons.mpr ⟨zw_cv36 (am_dp pw_X3_step_320 dd_X3_step_320c.2) wd673, ?_⟩
  refine List.forall_mem_cons.mpr ⟨(s_goto (am_dp pw_X3_step_352 dd_X3_step_352a.1) (by decide)).to, ?_⟩
  refine List.forall_mem_cons.mpr ⟨(s_iconst (am_dp pw_X3_step_352 dd_X3_step_352a.2.1) (by decide)).to, ?_⟩
  refine List.forall_mem_cons.mpr ⟨(s_put (ci := 3) (k := 6) (am_dp pw_X3_step_352 dd_X3_step_352a.2.2.1) rfl (by decide) wd438 inX3 tyX3_ok nmX3 rfl rfl).to, ?_⟩
  refine List.forall_mem_cons.mpr ⟨s_vret (am_dp pw_X3_step_352 dd_X3_step_352a.2.2.2) rfl, ?_⟩
  exact fun _ h => absurd h List.not_mem_nil
theorem sn_tX3_step : ∀ q ∈ tX3_step, am_Snd am_P0 RX3 cX3_step 3 (Option.none : Option FieldType) "step" q.1 q.2 := by
  unfold tX3_step
  exact List.forall_mem_append.mpr ⟨List.forall_mem_append.mpr ⟨List.forall_mem_append.mpr ⟨sn_tX3_step_0, sn_tX3_step_1⟩, sn_tX3_step_2⟩, sn_tX3_step_3⟩
theorem sn_tX3_ownWord : ∀ q ∈ tX3_ownWord, am_Snd am_P0 RX3 cX3_ownWord 3 (Option.some FieldType.int) "ownWord" q.1 q.2 := by
  unfold tX3_ownWord
  refine List.forall_mem_cons.mpr ⟨(s_iconst (am_dp pw_X3_ownWord_0 dd_X3_ownWord_0a.1) (by decide)).to, ?_⟩
  refine List.forall_mem_cons.mpr ⟨(s_istoren (am_dp pw_X3_ownWord_0 dd_X3_ownWord_0a.2.1) rfl (by decide)).to, ?_⟩
  refine List.forall_mem_cons.mpr ⟨(s_iloadn (am_dp pw_X3_ownWord_0 dd_X3_ownWord_0a.2.2.1) rfl).to, ?_⟩
  refine List.forall_mem_cons.mpr ⟨(s_bipush (am_dp pw_X3_ownWord_0 dd_X3_ownWord_0a.2.2.2.1) (by decide)).to, ?_⟩
  refine List.forall_mem_cons.mpr ⟨(s_icmp_ge (am_dp pw_X3_ownWord_0 dd_X3_ownWord_0a.2.2.2.2.1) (by decide)).to, ?_⟩
  refine List.forall_mem_cons.mpr ⟨(s_aloadn (am_dp pw_X3_ownWord_0 dd_X3_ownWord_0a.2.2.2.2.2.1) rfl).to, ?_⟩
  refine List.forall_mem_cons.mpr ⟨(s_get (ci := 3) (k := 0) (am_dp pw_X3_ownWord_0 dd_X3_ownWord_0a.2.2.2.2.2.2.1) rfl (by decide) wd428 inX3 rfl).to, ?_⟩
  refine List.forall_mem_cons.mpr ⟨(s_iloadn (am_dp pw_X3_ownWord_0 dd_X3_ownWord_0a.2.2.2.2.2.2.2) rfl).to, ?_⟩
  refine List.forall_mem_cons.mpr ⟨(s_iald (am_dp pw_X3_ownWord_0 dd_X3_ownWord_0b.1)).to, ?_⟩
  refine List.forall_mem_cons.mpr ⟨(s_iloadn (am_dp pw_X3_ownWord_0 dd_X3_ownWord_0b.2.1) rfl).to, ?_⟩
  refine List.forall_mem_cons.mpr ⟨(s_icmp_ne (am_dp pw_X3_ownWord_0 dd_X3_ownWord_0b.2.2.1) (by decide)).to, ?_⟩
  refine List.forall_mem_cons.mpr ⟨(s_iloadn (am_dp pw_X3_ownWord_0 dd_X3_ownWord_0b.2.2.2.1) rfl).to, ?_⟩
  refine List.forall_mem_cons.mpr ⟨s_iret (am_dp pw_X3_ownWord_0 dd_X3_ownWord_0b.2.2.2.2.1) rfl, ?_⟩
  refine List.forall_mem_cons.mpr ⟨(s_iinc (am_dp pw_X3_ownWord_0 dd_X3_ownWord_0b.2.2.2.2.2.1) (by decide) (by decide)).to, ?_⟩
  refine List.forall_mem_cons.mpr ⟨(s_goto (am_dp pw_X3_ownWord_0 dd_X3_ownWord_0b.2.2.2.2.2.2.1) (by decide)).to, ?_⟩
  refine List.forall_mem_cons.mpr ⟨(s_iconst (am_dp pw_X3_ownWord_0 dd_X3_ownWord_0b.2.2.2.2.2.2.2) (by decide)).to, ?_⟩
  refine List.forall_mem_cons.mpr ⟨s_iret (am_dp pw_X3_ownWord_0 dd_X3_ownWord_0c) rfl, ?_⟩
  exact fun _ h => absurd h List.not_mem_nil
theorem sn_tX3_kindOf : ∀ q ∈ tX3_kindOf, am_Snd am_P0 RX3 cX3_kindOf 1 (Option.some FieldType.int) "kindOf" q.1 q.2 := by
  unfold tX3_kindOf
  refine List.forall_mem_cons.mpr ⟨(s_iloadn (am_dp pw_X3_kindOf_0 dd_X3_kindOf_0a.1) rfl).to, ?_⟩
  refine List.forall_mem_cons.mpr ⟨(s_bipush (am_dp pw_X3_kindOf_0 dd_X3_kindOf_0a.2.1) (by decide)).to, ?_⟩
  refine List.forall_mem_cons.mpr ⟨(s_icmp_lt (am_dp pw_X3_kindOf_0 dd_X3_kindOf_0a.2.2.1) (by decide)).to, ?_⟩
  refine List.forall_mem_cons.mpr ⟨(s_iloadn (am_dp pw_X3_kindOf_0 dd_X3_kindOf_0a.2.2.2.1) rfl).to, ?_⟩
  refine List.forall_mem_cons.mpr ⟨(s_bipush (am_dp pw_X3_kindOf_0 dd_X3_kindOf_0a.2.2.2.2.1) (by decide)).to, ?_⟩
  refine List.forall_mem_cons.mpr ⟨(s_icmp_gt (am_dp pw_X3_kindOf_0 dd_X3_kindOf_0a.2.2.2.2.2.1) (by decide)).to, ?_⟩
  refine List.forall_mem_cons.mpr ⟨(s_iconst (am_dp pw_X3_kindOf_0 dd_X3_kindOf_0a.2.2.2.2.2.2.1) (by decide)).to, ?_⟩
  refine List.forall_mem_cons.mpr ⟨s_iret (am_dp pw_X3_kindOf_0 dd_X3_kindOf_0a.2.2.2.2.2.2.2) rfl, ?_⟩
  refine List.forall_mem_cons.mpr ⟨(s_iloadn (am_dp pw_X3_kindOf_0 dd_X3_kindOf_0b.1) rfl).to, ?_⟩
  refine List.forall_mem_cons.mpr ⟨(s_bipush (am_dp pw_X3_kindOf_0 dd_X3_kindOf_0b.2.1) (by decide)).to, ?_⟩
  refine List.forall_mem_cons.mpr ⟨(s_icmp_lt (am_dp pw_X3_kindOf_0 dd_X3_kindOf_0b.2.2.1) (by decide)).to, ?_⟩
  refine List.forall_mem_cons.mpr ⟨(s_iloadn (am_dp pw_X3_kindOf_0 dd_X3_kindOf_0b.2.2.2.1) rfl).to, ?_⟩
  refine List.forall_mem_cons.mpr ⟨(s_bipush (am_dp pw_X3_kindOf_0 dd_X3_kindOf_0b.2.2.2.2.1) (by decide)).to, ?_⟩
  refine List.forall_mem_cons.mpr ⟨(s_icmp_gt (am_dp pw_X3_kindOf_0 dd_X3_kindOf_0b.2.2.2.2.2.1) (by decide)).to, ?_⟩
  refine List.forall_mem_cons.mpr ⟨(s_iconst (am_dp pw_X3_kindOf_0 dd_X3_kindOf_0b.2.2.2.2.2.2.1) (by decide)).to, ?_⟩
  refine List.forall_mem_cons.mpr ⟨(s_goto (am_dp pw_X3_kindOf_0 dd_X3_kindOf_0b.2.2.2.2.2.2.2) (by decide)).to, ?_⟩
  refine List.forall_mem_cons.mpr ⟨(s_iconst (am_dp pw_X3_kindOf_0 dd_X3_kindOf_0c.1) (by decide)).to, ?_⟩
  refine List.forall_mem_cons.mpr ⟨s_iret (am_dp pw_X3_kindOf_0 dd_X3_kindOf_0c.2) rfl, ?_⟩
  exact fun _ h => absurd h List.not_mem_nil
theorem sn_tX3_refuseAt : ∀ q ∈ tX3_refuseAt, am_Snd am_P0 RX3 cX3_refuseAt 3 (Option.none : Option FieldType) "refuseAt" q.1 q.2 := by
  unfold tX3_refuseAt
  refine List.forall_mem_cons.mpr ⟨(s_aloadn (am_dp pw_X3_refuseAt_0 dd_X3_refuseAt_0a.1) rfl).to, ?_⟩
  refine List.forall_mem_cons.mpr ⟨(s_get (ci := 3) (k := 8) (am_dp pw_X3_refuseAt_0 dd_X3_refuseAt_0a.2.1) rfl (by decide) wd440 inX3 rfl).to, ?_⟩
  refine List.forall_mem_cons.mpr ⟨(s_if_ne (am_dp pw_X3_refuseAt_0 dd_X3_refuseAt_0a.2.2.1) (by decide)).to, ?_⟩
  refine List.forall_mem_cons.mpr ⟨(s_aloadn (am_dp pw_X3_refuseAt_0 dd_X3_refuseAt_0a.2.2.2.1) rfl).to, ?_⟩
  refine List.forall_mem_cons.mpr ⟨(s_iloadn (am_dp pw_X3_refuseAt_0 dd_X3_refuseAt_0a.2.2.2.2.1) rfl).to, ?_⟩
  refine List.forall_mem_cons.mpr ⟨(s_put (ci := 3) (k := 8) (am_dp pw_X3_refuseAt_0 dd_X3_refuseAt_0a.2.2.2.2.2.1) rfl (by decide) wd440 inX3 tyX3_ok nmX3 rfl rfl).to, ?_⟩
  refine List.forall_mem_cons.mpr ⟨(s_aloadn (am_dp pw_X3_refuseAt_0 dd_X3_refuseAt_0a.2.2.2.2.2.2.1) rfl).to, ?_⟩
  refine List.forall_mem_cons.mpr ⟨(s_iloadn (am_dp pw_X3_refuseAt_0 dd_X3_refuseAt_0a.2.2.2.2.2.2.2) rfl).to, ?_⟩
  refine List.forall_mem_cons.mpr ⟨(s_put (ci := 3) (k := 9) (am_dp pw_X3_refuseAt_0 dd_X3_refuseAt_0b.1) rfl (by decide) wd443 inX3 tyX3_ok nmX3 rfl rfl).to, ?_⟩
  refine List.forall_mem_cons.mpr ⟨(s_aloadn (am_dp pw_X3_refuseAt_0 dd_X3_refuseAt_0b.2.1) rfl).to, ?_⟩
  refine List.forall_mem_cons.mpr ⟨(s_iconst (am_dp pw_X3_refuseAt_0 dd_X3_refuseAt_0b.2.2.1) (by decide)).to, ?_⟩
  refine List.forall_mem_cons.mpr ⟨(s_put (ci := 3) (k := 4) (am_dp pw_X3_refuseAt_0 dd_X3_refuseAt_0b.2.2.2.1) rfl (by decide) wd432 inX3 tyX3_ok nmX3 rfl rfl).to, ?_⟩
  refine List.forall_mem_cons.mpr ⟨(s_aloadn (am_dp pw_X3_refuseAt_0 dd_X3_refuseAt_0b.2.2.2.2.1) rfl).to, ?_⟩
  refine List.forall_mem_cons.mpr ⟨(s_iconst (am_dp pw_X3_refuseAt_0 dd_X3_refuseAt_0b.2.2.2.2.2.1) (by decide)).to, ?_⟩
  refine List.forall_mem_cons.mpr ⟨(s_put (ci := 3) (k := 6) (am_dp pw_X3_refuseAt_0 dd_X3_refuseAt_0b.2.2.2.2.2.2.1) rfl (by decide) wd438 inX3 tyX3_ok nmX3 rfl rfl).to, ?_⟩
  refine List.forall_mem_cons.mpr ⟨s_vret (am_dp pw_X3_refuseAt_0 dd_X3_refuseAt_0b.2.2.2.2.2.2.2) rfl, ?_⟩
  exact fun _ h => absurd h List.not_mem_nil
theorem sn_tX3_refuse : ∀ q ∈ tX3_refuse, am_Snd am_P0 RX3 cX3_refuse 2 (Option.none : Option FieldType) "refuse" q.1 q.2 := by
  unfold tX3_refuse
  refine List.forall_mem_cons.mpr ⟨(s_aloadn (am_dp pw_X3_refuse_0 dd_X3_refuse_0a.1) rfl).to, ?_⟩
  refine List.forall_mem_cons.mpr ⟨(s_iloadn (am_dp pw_X3_refuse_0 dd_X3_refuse_0a.2.1) rfl).to, ?_⟩
  refine List.forall_mem_cons.mpr ⟨(s_aloadn (am_dp pw_X3_refuse_0 dd_X3_refuse_0a.2.2.1) rfl).to, ?_⟩
  refine List.forall_mem_cons.mpr ⟨(s_get (ci := 3) (k := 7) (am_dp pw_X3_refuse_0 dd_X3_refuse_0a.2.2.2.1) rfl (by decide) wd439 inX3 rfl).to, ?_⟩
  refine List.forall_mem_cons.mpr ⟨zw_cv38 (am_dp pw_X3_refuse_0 dd_X3_refuse_0a.2.2.2.2.1) wd669, ?_⟩
  refine List.forall_mem_cons.mpr ⟨s_vret (am_dp pw_X3_refuse_0 dd_X3_refuse_0a.2.2.2.2.2) rfl, ?_⟩
  exact fun _ h => absurd h List.not_mem_nil
theorem sn_tX3_isSign : ∀ q ∈ tX3_isSign, am_Snd am_P0 RX3 cX3_isSign 2 (Option.some FieldType.boolean) "isSign" q.1 q.2 := by
  unfold tX3_isSign
  refine List.forall_mem_cons.mpr ⟨(s_aloadn (am_dp pw_X3_isSign_0 dd_X3_isSign_0a.1) rfl).to, ?_⟩
  refine List.forall_mem_cons.mpr ⟨(s_get (ci := 3) (k := 4) (am_dp pw_X3_isSign_0 dd_X3_isSign_0a.2.1) rfl (by decide) wd432 inX3 rfl).to, ?_⟩
  refine List.forall_mem_cons.mpr ⟨(s_iconst (am_dp pw_X3_isSign_0 dd_X3_isSign_0a.2.2.1) (by decide)).to, ?_⟩
  refine List.forall_mem_cons.mpr ⟨(s_icmp_ne (am_dp pw_X3_isSign_0 dd_X3_isSign_0a.2.2.2.1) (by decide)).to, ?_⟩
  refine List.forall_mem_cons.mpr ⟨(s_aloadn (am_dp pw_X3_isSign_0 dd_X3_isSign_0a.2.2.2.2.1) rfl).to, ?_⟩
  refine List.forall_mem_cons.mpr ⟨(s_get (ci := 3) (k := 5) (am_dp pw_X3_isSign_0 dd_X3_isSign_0a.2.2.2.2.2.1) rfl (by decide) wd435 inX3 rfl).to, ?_⟩
  refine List.forall_mem_cons.mpr ⟨(s_iloadn (am_dp pw_X3_isSign_0 dd_X3_isSign_0a.2.2.2.2.2.2.1) rfl).to, ?_⟩
  refine List.forall_mem_cons.mpr ⟨(s_icmp_ne (am_dp pw_X3_isSign_0 dd_X3_isSign_0a.2.2.2.2.2.2.2) (by decide)).to, ?_⟩
  refine List.forall_mem_cons.mpr ⟨(s_iconst (am_dp pw_X3_isSign_0 dd_X3_isSign_0b.1) (by decide)).to, ?_⟩
  refine List.forall_mem_cons.mpr ⟨(s_goto (am_dp pw_X3_isSign_0 dd_X3_isSign_0b.2.1) (by decide)).to, ?_⟩
  refine List.forall_mem_cons.mpr ⟨(s_iconst (am_dp pw_X3_isSign_0 dd_X3_isSign_0b.2.2.1) (by decide)).to, ?_⟩
  refine List.forall_mem_cons.mpr ⟨s_zret (am_dp pw_X3_isSign_0 dd_X3_isSign_0b.2.2.2) rfl, ?_⟩
  exact fun _ h => absurd h List.not_mem_nil
theorem sn_tX3_takeSign : ∀ q ∈ tX3_takeSign, am_Snd am_P0 RX3 cX3_takeSign 2 (Option.none : Option FieldType) "takeSign" q.1 q.2 := by
  unfold tX3_takeSign
  refine List.forall_mem_cons.mpr ⟨(s_aloadn (am_dp pw_X3_takeSign_0 dd_X3_takeSign_0a.1) rfl).to, ?_⟩
  refine List.forall_mem_cons.mpr ⟨(s_iloadn (am_dp pw_X3_takeSign_0 dd_X3_takeSign_0a.2.1) rfl).to, ?_⟩
  refine List.forall_mem_cons.mpr ⟨zw_cv40 (am_dp pw_X3_takeSign_0 dd_X3_takeSign_0a.2.2.1) wd743, ?_⟩
  refine List.forall_mem_cons.mpr ⟨(s_if_eq (am_dp pw_X3_takeSign_0 dd_X3_takeSign_0a.2.2.2.1) (by decide)).to, ?_⟩
  refine List.forall_mem_cons.mpr ⟨(s_aloadn (am_dp pw_X3_takeSign_0 dd_X3_takeSign_0a.2.2.2.2.1) rfl).to, ?_⟩
  refine List.forall_mem_cons.mpr ⟨zw_cv35 (am_dp pw_X3_takeSign_0 dd_X3_takeSign_0a.2.2.2.2.2.1) wd662, ?_⟩
  refine List.forall_mem_cons.mpr ⟨(s_goto (am_dp pw_X3_takeSign_0 dd_X3_takeSign_0a.2.2.2.2.2.2.1) (by decide)).to, ?_⟩
  refine List.forall_mem_cons.mpr ⟨(s_aloadn (am_dp pw_X3_takeSign_0 dd_X3_takeSign_0a.2.2.2.2.2.2.2) rfl).to, ?_⟩
  refine List.forall_mem_cons.mpr ⟨(s_iconst (am_dp pw_X3_takeSign_0 dd_X3_takeSign_0b.1) (by decide)).to, ?_⟩
  refine List.forall_mem_cons.mpr ⟨zw_cv39 (am_dp pw_X3_takeSign_0 dd_X3_takeSign_0b.2.1) wd698, ?_⟩
  refine List.forall_mem_cons.mpr ⟨s_vret (am_dp pw_X3_takeSign_0 dd_X3_takeSign_0b.2.2) rfl, ?_⟩
  exact fun _ h => absurd h List.not_mem_nil
theorem sn_tX3_takeWord : ∀ q ∈ tX3_takeWord, am_Snd am_P0 RX3 cX3_takeWord 2 (Option.none : Option FieldType) "takeWord" q.1 q.2 := by
  unfold tX3_takeWord
  refine List.forall_mem_cons.mpr ⟨(s_aloadn (am_dp pw_X3_takeWord_0 dd_X3_takeWord_0a.1) rfl).to, ?_⟩
  refine List.forall_mem_cons.mpr ⟨(s_get (ci := 3) (k := 6) (am_dp pw_X3_takeWord_0 dd_X3_takeWord_0a.2.1) rfl (by decide) wd438 inX3 rfl).to, ?_⟩
  refine List.forall_mem_cons.mpr ⟨(s_iloadn (am_dp pw_X3_takeWord_0 dd_X3_takeWord_0a.2.2.1) rfl).to, ?_⟩
  refine List.forall_mem_cons.mpr ⟨(s_icmp_ne (am_dp pw_X3_takeWord_0 dd_X3_takeWord_0a.2.2.2.1) (by decide)).to, ?_⟩
  refine List.forall_mem_cons.mpr ⟨(s_aloadn (am_dp pw_X3_takeWord_0 dd_X3_takeWord_0a.2.2.2.2.1) rfl).to, ?_⟩
  refine List.forall_mem_cons.mpr ⟨zw_cv35 (am_dp pw_X3_takeWord_0 dd_X3_takeWord_0a.2.2.2.2.2.1) wd662, ?_⟩
  refine List.forall_mem_cons.mpr ⟨(s_goto (am_dp pw_X3_takeWord_0 dd_X3_takeWord_0a.2.2.2.2.2.2.1) (by decide)).to, ?_⟩
  refine List.forall_mem_cons.mpr ⟨(s_aloadn (am_dp pw_X3_takeWord_0 dd_X3_takeWord_0a.2.2.2.2.2.2.2) rfl).to, ?_⟩
  refine List.forall_mem_cons.mpr ⟨(s_iconst (am_dp pw_X3_takeWord_0 dd_X3_takeWord_0b.1) (by decide)).to, ?_⟩
  refine List.forall_mem_cons.mpr ⟨zw_cv39 (am_dp pw_X3_takeWord_0 dd_X3_takeWord_0b.2.1) wd698, ?_⟩
  refine List.forall_mem_cons.mpr ⟨s_vret (am_dp pw_X3_takeWord_0 dd_X3_takeWord_0b.2.2) rfl, ?_⟩
  exact fun _ h => absurd h List.not_mem_nil
theorem sn_tX3_checkNumber : ∀ q ∈ tX3_checkNumber, am_Snd am_P0 RX3 cX3_checkNumber 3 (Option.some FieldType.boolean) "checkNumber" q.1 q.2 := by
  unfold tX3_checkNumber
  refine List.forall_mem_cons.mpr ⟨(s_aloadn (am_dp pw_X3_checkNumber_0 dd_X3_checkNumber_0a.1) rfl).to, ?_⟩
  refine List.forall_mem_cons.mpr ⟨(s_get (ci := 3) (k := 4) (am_dp pw_X3_checkNumber_0 dd_X3_checkNumber_0a.2.1) rfl (by decide) wd432 inX3 rfl).to, ?_⟩
  refine List.forall_mem_cons.mpr ⟨(s_iconst (am_dp pw_X3_checkNumber_0 dd_X3_checkNumber_0a.2.2.1) (by decide)).to, ?_⟩
  refine List.forall_mem_cons.mpr ⟨(s_icmp_eq (am_dp pw_X3_checkNumber_0 dd_X3_checkNumber_0a.2.2.2.1) (by decide)).to, ?_⟩
  refine List.forall_mem_cons.mpr ⟨(s_aloadn (am_dp pw_X3_checkNumber_0 dd_X3_checkNumber_0a.2.2.2.2.1) rfl).to, ?_⟩
  refine List.forall_mem_cons.mpr ⟨(s_iconst (am_dp pw_X3_checkNumber_0 dd_X3_checkNumber_0a.2.2.2.2.2.1) (by decide)).to, ?_⟩
  refine List.forall_mem_cons.mpr ⟨zw_cv39 (am_dp pw_X3_checkNumber_0 dd_X3_checkNumber_0a.2.2.2.2.2.2.1) wd698, ?_⟩
  refine List.forall_mem_cons.mpr ⟨(s_iconst (am_dp pw_X3_checkNumber_0 dd_X3_checkNumber_0a.2.2.2.2.2.2.2) (by decide)).to, ?_⟩
  refine List.forall_mem_cons.mpr ⟨s_zret (am_dp pw_X3_checkNumber_0 dd_X3_checkNumber_0b.1) rfl, ?_⟩
  refine List.forall_mem_cons.mpr ⟨(s_aloadn (am_dp pw_X3_checkNumber_0 dd_X3_checkNumber_0b.2.1) rfl).to, ?_⟩
  refine List.forall_mem_cons.mpr ⟨(s_get (ci := 3) (k := 5) (am_dp pw_X3_checkNumber_0 dd_X3_checkNumber_0b.2.2.1) rfl (by decide) wd435 inX3 rfl).to, ?_⟩
  refine List.forall_mem_cons.mpr ⟨(s_iloadn (am_dp pw_X3_checkNumber_0 dd_X3_checkNumber_0b.2.2.2.1) rfl).to, ?_⟩
  refine List.forall_mem_cons.mpr ⟨(s_icmp_lt (am_dp pw_X3_checkNumber_0 dd_X3_checkNumber_0b.2.2.2.2.1) (by decide)).to, ?_⟩
  refine List.forall_mem_cons.mpr ⟨(s_aloadn (am_dp pw_X3_checkNumber_0 dd_X3_checkNumber_0b.2.2.2.2.2.1) rfl).to, ?_⟩
  refine List.forall_mem_cons.mpr ⟨(s_get (ci := 3) (k := 5) (am_dp pw_X3_checkNumber_0 dd_X3_checkNumber_0b.2.2.2.2.2.2.1) rfl (by decide) wd435 inX3 rfl).to, ?_⟩
  refine List.forall_mem_cons.mpr ⟨(s_iloadn (am_dp pw_X3_checkNumber_0 dd_X3_checkNumber_0b.2.2.2.2.2.2.2) rfl).to, ?_⟩
  refine List.forall_mem_cons.mpr ⟨(s_icmp_le (am_dp pw_X3_checkNumber_0 dd_X3_checkNumber_0c.1) (by decide)).to, ?_⟩
  refine List.forall_mem_cons.mpr ⟨(s_aloadn (am_dp pw_X3_checkNumber_0 dd_X3_checkNumber_0c.2) rfl).to, ?_⟩
  refine List.forall_mem_cons.mpr ⟨(s_iconst (am_dp pw_X3_checkNumber_32 dd_X3_checkNumber_32a.1) (by decide)).to, ?_⟩
  refine List.forall_mem_cons.mpr ⟨zw_cv39 (am_dp pw_X3_checkNumber_32 dd_X3_checkNumber_32a.2.1) wd698, ?_⟩
  refine List.forall_mem_cons.mpr ⟨(s_iconst (am_dp pw_X3_checkNumber_32 dd_X3_checkNumber_32a.2.2.1) (by decide)).to, ?_⟩
  refine List.forall_mem_cons.mpr ⟨s_zret (am_dp pw_X3_checkNumber_32 dd_X3_checkNumber_32a.2.2.2.1) rfl, ?_⟩
  refine List.forall_mem_cons.mpr ⟨(s_iconst (am_dp pw_X3_checkNumber_32 dd_X3_checkNumber_32a.2.2.2.2.1) (by decide)).to, ?_⟩
  refine List.forall_mem_cons.mpr ⟨s_zret (am_dp pw_X3_checkNumber_32 dd_X3_checkNumber_32a.2.2.2.2.2) rfl, ?_⟩
  exact fun _ h => absurd h List.not_mem_nil
theorem sn_tX3_takeNumber : ∀ q ∈ tX3_takeNumber, am_Snd am_P0 RX3 cX3_takeNumber 4 (Option.some FieldType.int) "takeNumber" q.1 q.2 := by
  unfold tX3_takeNumber
  refine List.forall_mem_cons.mpr ⟨(s_aloadn (am_dp pw_X3_takeNumber_0 dd_X3_takeNumber_0a.1) rfl).to, ?_⟩
  refine List.forall_mem_cons.mpr ⟨(s_iloadn (am_dp pw_X3_takeNumber_0 dd_X3_takeNumber_0a.2.1) rfl).to, ?_⟩
  refine List.forall_mem_cons.mpr ⟨(s_iloadn (am_dp pw_X3_takeNumber_0 dd_X3_takeNumber_0a.2.2.1) rfl).to, ?_⟩
  refine List.forall_mem_cons.mpr ⟨zw_cv43 (am_dp pw_X3_takeNumber_0 dd_X3_takeNumber_0a.2.2.2.1) wd694, ?_⟩
  refine List.forall_mem_cons.mpr ⟨(s_if_ne (am_dp pw_X3_takeNumber_0 dd_X3_takeNumber_0a.2.2.2.2.1) (by decide)).to, ?_⟩
  refine List.forall_mem_cons.mpr ⟨(s_iloadn (am_dp pw_X3_takeNumber_0 dd_X3_takeNumber_0a.2.2.2.2.2.1) rfl).to, ?_⟩
  refine List.forall_mem_cons.mpr ⟨s_iret (am_dp pw_X3_takeNumber_0 dd_X3_takeNumber_0a.2.2.2.2.2.2.1) rfl, ?_⟩
  refine List.forall_mem_cons.mpr ⟨(s_aloadn (am_dp pw_X3_takeNumber_0 dd_X3_takeNumber_0a.2.2.2.2.2.2.2) rfl).to, ?_⟩
  refine List.forall_mem_cons.mpr ⟨(s_get (ci := 3) (k := 5) (am_dp pw_X3_takeNumber_0 dd_X3_takeNumber_0b.1) rfl (by decide) wd435 inX3 rfl).to, ?_⟩
  refine List.forall_mem_cons.mpr ⟨(s_istoren (am_dp pw_X3_takeNumber_0 dd_X3_takeNumber_0b.2.1) rfl (by decide)).to, ?_⟩
  refine List.forall_mem_cons.mpr ⟨(s_aloadn (am_dp pw_X3_takeNumber_0 dd_X3_takeNumber_0b.2.2.1) rfl).to, ?_⟩
  refine List.forall_mem_cons.mpr ⟨zw_cv35 (am_dp pw_X3_takeNumber_0 dd_X3_takeNumber_0b.2.2.2.1) wd662, ?_⟩
  refine List.forall_mem_cons.mpr ⟨(s_iloadn (am_dp pw_X3_takeNumber_0 dd_X3_takeNumber_0b.2.2.2.2.1) rfl).to, ?_⟩
  refine List.forall_mem_cons.mpr ⟨s_iret (am_dp pw_X3_takeNumber_0 dd_X3_takeNumber_0b.2.2.2.2.2) rfl, ?_⟩
  exact fun _ h => absurd h List.not_mem_nil
theorem sn_tX3_checkName : ∀ q ∈ tX3_checkName, am_Snd am_P0 RX3 cX3_checkName 1 (Option.some FieldType.boolean) "checkName" q.1 q.2 := by
  unfold tX3_checkName
  refine List.forall_mem_cons.mpr ⟨(s_aloadn (am_dp pw_X3_checkName_0 dd_X3_checkName_0a.1) rfl).to, ?_⟩
  refine List.forall_mem_cons.mpr ⟨(s_get (ci := 3) (k := 4) (am_dp pw_X3_checkName_0 dd_X3_checkName_0a.2.1) rfl (by decide) wd432 inX3 rfl).to, ?_⟩
  refine List.forall_mem_cons.mpr ⟨(s_iconst (am_dp pw_X3_checkName_0 dd_X3_checkName_0a.2.2.1) (by decide)).to, ?_⟩
  refine List.forall_mem_cons.mpr ⟨(s_icmp_ne (am_dp pw_X3_checkName_0 dd_X3_checkName_0a.2.2.2.1) (by decide)).to, ?_⟩
  refine List.forall_mem_cons.mpr ⟨(s_aloadn (am_dp pw_X3_checkName_0 dd_X3_checkName_0a.2.2.2.2.1) rfl).to, ?_⟩
  refine List.forall_mem_cons.mpr ⟨(s_get (ci := 3) (k := 6) (am_dp pw_X3_checkName_0 dd_X3_checkName_0a.2.2.2.2.2.1) rfl (by decide) wd438 inX3 rfl).to, ?_⟩
  refine List.forall_mem_cons.mpr ⟨(s_iconst (am_dp pw_X3_checkName_0 dd_X3_checkName_0a.2.2.2.2.2.2.1) (by decide)).to, ?_⟩
  refine List.forall_mem_cons.mpr ⟨(s_icmp_eq (am_dp pw_X3_checkName_0 dd_X3_checkName_0a.2.2.2.2.2.2.2) (by decide)).to, ?_⟩
  refine List.forall_mem_cons.mpr ⟨(s_aloadn (am_dp pw_X3_checkName_0 dd_X3_checkName_0b.1) rfl).to, ?_⟩
  refine List.forall_mem_cons.mpr ⟨(s_iconst (am_dp pw_X3_checkName_0 dd_X3_checkName_0b.2.1) (by decide)).to, ?_⟩
  refine List.forall_mem_cons.mpr ⟨zw_cv39 (am_dp pw_X3_checkName_0 dd_X3_checkName_0b.2.2.1) wd698, ?_⟩
  refine List.forall_mem_cons.mpr ⟨(s_iconst (am_dp pw_X3_checkName_0 dd_X3_checkName_0b.2.2.2.1) (by decide)).to, ?_⟩
  refine List.forall_mem_cons.mpr ⟨s_zret (am_dp pw_X3_checkName_0 dd_X3_checkName_0b.2.2.2.2.1) rfl, ?_⟩
  refine List.forall_mem_cons.mpr ⟨(s_iconst (am_dp pw_X3_checkName_0 dd_X3_checkName_0b.2.2.2.2.2.1) (by decide)).to, ?_⟩
  refine List.forall_mem_cons.mpr ⟨s_zret (am_dp pw_X3_checkName_0 dd_X3_checkName_0b.2.2.2.2.2.2) rfl, ?_⟩
  exact fun _ h => absurd h List.not_mem_nil
theorem sn_tX4_init : ∀ q ∈ tX4_init, am_Snd am_P0 RX4 cX4_init 2 (Option.none : Option FieldType) "<init>" q.1 q.2 := by
  unfold tX4_init
  refine List.forall_mem_cons.mpr ⟨(s_aloadn (am_dp pw_X4_init_0 dd_X4_init_0a.1) rfl).to, ?_⟩
  refine List.forall_mem_cons.mpr ⟨(s_obj (am_dp pw_X4_init_0 dd_X4_init_0a.2.1) wd219 wd160 wd161).to, ?_⟩
  refine List.forall_mem_cons.mpr ⟨(s_aloadn (am_dp pw_X4_init_0 dd_X4_init_0a.2.2.1) rfl).to, ?_⟩
  refine List.forall_mem_cons.mpr ⟨(s_iloadn (am_dp pw_X4_init_0 dd_X4_init_0a.2.2.2.1) rfl).to, ?_⟩
  refine List.forall_mem_cons.mpr ⟨(s_newa (kd := 0) (ty := .int) (am_dp pw_X4_init_0 dd_X4_init_0a.2.2.2.2.1) rfl rfl wd195 (by decide) (by decide) (fun _ _ h => h)).to, ?_⟩
  refine List.forall_mem_cons.mpr ⟨(s_putF (ci := 4) (k := 1) (am_dp pw_X4_init_0 dd_X4_init_0a.2.2.2.2.2.1) rfl (by decide) wd222 inX4 tyX4_ok nmX4 rfl rfl rfl rfl).to, ?_⟩
  refine List.forall_mem_cons.mpr ⟨(s_aloadn (am_dp pw_X4_init_0 dd_X4_init_0a.2.2.2.2.2.2.1) rfl).to, ?_⟩
  refine List.forall_mem_cons.mpr ⟨(s_iloadn (am_dp pw_X4_init_0 dd_X4_init_0a.2.2.2.2.2.2.2) rfl).to, ?_⟩
  refine List.forall_mem_cons.mpr ⟨(s_newa (kd := 0) (ty := .int) (am_dp pw_X4_init_0 dd_X4_init_0b.1) rfl rfl wd195 (by decide) (by decide) (fun _ _ h => h)).to, ?_⟩
  refine List.forall_mem_cons.mpr ⟨(s_putF (ci := 4) (k := 2) (am_dp pw_X4_init_0 dd_X4_init_0b.2.1) rfl (by decide) wd223 inX4 tyX4_ok nmX4 rfl rfl rfl rfl).to, ?_⟩
  refine List.forall_mem_cons.mpr ⟨(s_aloadn (am_dp pw_X4_init_0 dd_X4_init_0b.2.2.1) rfl).to, ?_⟩
  refine List.forall_mem_cons.mpr ⟨(s_iloadn (am_dp pw_X4_init_0 dd_X4_init_0b.2.2.2.1) rfl).to, ?_⟩
  refine List.forall_mem_cons.mpr ⟨(s_newa (kd := 0) (ty := .int) (am_dp pw_X4_init_0 dd_X4_init_0b.2.2.2.2.1) rfl rfl wd195 (by decide) (by decide) (fun _ _ h => h)).to, ?_⟩
  refine List.forall_mem_cons.mpr ⟨(s_putF (ci := 4) (k := 3) (am_dp pw_X4_init_0 dd_X4_init_0b.2.2.2.2.2.1) rfl (by decide) wd224 inX4 tyX4_ok nmX4 rfl rfl rfl rfl).to, ?_⟩
  refine List.forall_mem_cons.mpr ⟨s_vret (am_dp pw_X4_init_0 dd_X4_init_0b.2.2.2.2.2.2) rfl, ?_⟩
  exact fun _ h => absurd h List.not_mem_nil
theorem sn_tX4_isFull : ∀ q ∈ tX4_isFull, am_Snd am_P0 RX4 cX4_isFull 1 (Option.some FieldType.boolean) "isFull" q.1 q.2 := by
  unfold tX4_isFull
  refine List.forall_mem_cons.mpr ⟨(s_aloadn (am_dp pw_X4_isFull_0 dd_X4_isFull_0a.1) rfl).to, ?_⟩
  refine List.forall_mem_cons.mpr ⟨(s_get (ci := 4) (k := 0) (am_dp pw_X4_isFull_0 dd_X4_isFull_0a.2.1) rfl (by decide) wd220 inX4 rfl).to, ?_⟩
  refine List.forall_mem_cons.mpr ⟨(s_aloadn (am_dp pw_X4_isFull_0 dd_X4_isFull_0a.2.2.1) rfl).to, ?_⟩
  refine List.forall_mem_cons.mpr ⟨(s_get (ci := 4) (k := 1) (am_dp pw_X4_isFull_0 dd_X4_isFull_0a.2.2.2.1) rfl (by decide) wd222 inX4 rfl).to, ?_⟩
  refine List.forall_mem_cons.mpr ⟨(s_len (am_dp pw_X4_isFull_0 dd_X4_isFull_0a.2.2.2.2.1)).to, ?_⟩
  refine List.forall_mem_cons.mpr ⟨(s_icmp_lt (am_dp pw_X4_isFull_0 dd_X4_isFull_0a.2.2.2.2.2.1) (by decide)).to, ?_⟩
  refine List.forall_mem_cons.mpr ⟨(s_iconst (am_dp pw_X4_isFull_0 dd_X4_isFull_0a.2.2.2.2.2.2.1) (by decide)).to, ?_⟩
  refine List.forall_mem_cons.mpr ⟨(s_goto (am_dp pw_X4_isFull_0 dd_X4_isFull_0a.2.2.2.2.2.2.2) (by decide)).to, ?_⟩
  refine List.forall_mem_cons.mpr ⟨(s_iconst (am_dp pw_X4_isFull_0 dd_X4_isFull_0b.1) (by decide)).to, ?_⟩
  refine List.forall_mem_cons.mpr ⟨s_zret (am_dp pw_X4_isFull_0 dd_X4_isFull_0b.2) rfl, ?_⟩
  exact fun _ h => absurd h List.not_mem_nil
theorem sn_tX4_append : ∀ q ∈ tX4_append, am_Snd am_P0 RX4 cX4_append 4 (Option.none : Option FieldType) "append" q.1 q.2 := by
  unfold tX4_append
  refine List.forall_mem_cons.mpr ⟨(s_aloadn (am_dp pw_X4_append_0 dd_X4_append_0a.1) rfl).to, ?_⟩
  refine List.forall_mem_cons.mpr ⟨zw_cv47 (am_dp pw_X4_append_0 dd_X4_append_0a.2.1) wd776, ?_⟩
  refine List.forall_mem_cons.mpr ⟨(s_if_ne (am_dp pw_X4_append_0 dd_X4_append_0a.2.2.1) (by decide)).to, ?_⟩
  refine List.forall_mem_cons.mpr ⟨(s_aloadn (am_dp pw_X4_append_0 dd_X4_append_0a.2.2.2.1) rfl).to, ?_⟩
  refine List.forall_mem_cons.mpr ⟨(s_get (ci := 4) (k := 1) (am_dp pw_X4_append_0 dd_X4_append_0a.2.2.2.2.1) rfl (by decide) wd222 inX4 rfl).to, ?_⟩
  refine List.forall_mem_cons.mpr ⟨(s_aloadn (am_dp pw_X4_append_0 dd_X4_append_0a.2.2.2.2.2.1) rfl).to, ?_⟩
  refine List.forall_mem_cons.mpr ⟨(s_get (ci := 4) (k := 0) (am_dp pw_X4_append_0 dd_X4_append_0a.2.2.2.2.2.2.1) rfl (by decide) wd220 inX4 rfl).to, ?_⟩
  refine List.forall_mem_cons.mpr ⟨(s_iloadn (am_dp pw_X4_append_0 dd_X4_append_0a.2.2.2.2.2.2.2) rfl).to, ?_⟩
  refine List.forall_mem_cons.mpr ⟨(s_iast (am_dp pw_X4_append_0 dd_X4_append_0b.1)).to, ?_⟩
  refine List.forall_mem_cons.mpr ⟨(s_aloadn (am_dp pw_X4_append_0 dd_X4_append_0b.2.1) rfl).to, ?_⟩
  refine List.forall_mem_cons.mpr ⟨(s_get (ci := 4) (k := 2) (am_dp pw_X4_append_0 dd_X4_append_0b.2.2.1) rfl (by decide) wd223 inX4 rfl).to, ?_⟩
  refine List.forall_mem_cons.mpr ⟨(s_aloadn (am_dp pw_X4_append_0 dd_X4_append_0b.2.2.2.1) rfl).to, ?_⟩
  refine List.forall_mem_cons.mpr ⟨(s_get (ci := 4) (k := 0) (am_dp pw_X4_append_0 dd_X4_append_0b.2.2.2.2.1) rfl (by decide) wd220 inX4 rfl).to, ?_⟩
  refine List.forall_mem_cons.mpr ⟨(s_iloadn (am_dp pw_X4_append_0 dd_X4_append_0b.2.2.2.2.2.1) rfl).to, ?_⟩
  refine List.forall_mem_cons.mpr ⟨(s_iast (am_dp pw_X4_append_0 dd_X4_append_0b.2.2.2.2.2.2.1)).to, ?_⟩
  refine List.forall_mem_cons.mpr ⟨(s_aloadn (am_dp pw_X4_append_0 dd_X4_append_0b.2.2.2.2.2.2.2) rfl).to, ?_⟩
  refine List.forall_mem_cons.mpr ⟨(s_get (ci := 4) (k := 3) (am_dp pw_X4_append_0 dd_X4_append_0c.1) rfl (by decide) wd224 inX4 rfl).to, ?_⟩
  refine List.forall_mem_cons.mpr ⟨(s_aloadn (am_dp pw_X4_append_0 dd_X4_append_0c.2) rfl).to, ?_⟩
  refine List.forall_mem_cons.mpr ⟨(s_get (ci := 4) (k := 0) (am_dp pw_X4_append_32 dd_X4_append_32a.1) rfl (by decide) wd220 inX4 rfl).to, ?_⟩
  refine List.forall_mem_cons.mpr ⟨(s_iloadn (am_dp pw_X4_append_32 dd_X4_append_32a.2.1) rfl).to, ?_⟩
  refine List.forall_mem_cons.mpr ⟨(s_iast (am_dp pw_X4_append_32 dd_X4_append_32a.2.2.1)).to, ?_⟩
  refine List.forall_mem_cons.mpr ⟨(s_aloadn (am_dp pw_X4_append_32 dd_X4_append_32a.2.2.2.1) rfl).to, ?_⟩
  refine List.forall_mem_cons.mpr ⟨(s_dup (am_dp pw_X4_append_32 dd_X4_append_32a.2.2.2.2.1)).to, ?_⟩
  refine List.forall_mem_cons.mpr ⟨(s_get (ci := 4) (k := 0) (am_dp pw_X4_append_32 dd_X4_append_32a.2.2.2.2.2.1) rfl (by decide) wd220 inX4 rfl).to, ?_⟩
  refine List.forall_mem_cons.mpr ⟨(s_iconst (am_dp pw_X4_append_32 dd_X4_append_32a.2.2.2.2.2.2.1) (by decide)).to, ?_⟩
  refine List.forall_mem_cons.mpr ⟨(s_iadd (am_dp pw_X4_append_32 dd_X4_append_32a.2.2.2.2.2.2.2)).to, ?_⟩
  refine List.forall_mem_cons.mpr ⟨(s_put (ci := 4) (k := 0) (am_dp pw_X4_append_32 dd_X4_append_32b.1) rfl (by decide) wd220 inX4 tyX4_ok nmX4 rfl rfl).to, ?_⟩
  refine List.forall_mem_cons.mpr ⟨s_vret (am_dp pw_X4_append_32 dd_X4_append_32b.2) rfl, ?_⟩
  exact fun _ h => absurd h List.not_mem_nil
theorem sn_tX4_firstHolding : ∀ q ∈ tX4_firstHolding, am_Snd am_P0 RX4 cX4_firstHolding 6 (Option.some FieldType.int) "firstHolding" q.1 q.2 := by
  unfold tX4_firstHolding
  refine List.forall_mem_cons.mpr ⟨(s_iconst (am_dp pw_X4_firstHolding_0 dd_X4_firstHolding_0a.1) (by decide)).to, ?_⟩
  refine List.forall_mem_cons.mpr ⟨(s_istore (am_dp pw_X4_firstHolding_0 dd_X4_firstHolding_0a.2.1) (by decide)).to, ?_⟩
  refine List.forall_mem_cons.mpr ⟨(s_iload (am_dp pw_X4_firstHolding_0 dd_X4_firstHolding_0a.2.2.1)).to, ?_⟩
  refine List.forall_mem_cons.mpr ⟨(s_aloadn (am_dp pw_X4_firstHolding_0 dd_X4_firstHolding_0a.2.2.2.1) rfl).to, ?_⟩
  refine List.forall_mem_cons.mpr ⟨(s_get (ci := 4) (k := 0) (am_dp pw_X4_firstHolding_0 dd_X4_firstHolding_0a.2.2.2.2.1) rfl (by decide) wd220 inX4 rfl).to, ?_⟩
  refine List.forall_mem_cons.mpr ⟨(s_icmp_ge (am_dp pw_X4_firstHolding_0 dd_X4_firstHolding_0a.2.2.2.2.2.1) (by decide)).to, ?_⟩
  refine List.forall_mem_cons.mpr ⟨(s_aloadn (am_dp pw_X4_firstHolding_0 dd_X4_firstHolding_0a.2.2.2.2.2.2.1) rfl).to, ?_⟩
  refine List.forall_mem_cons.mpr ⟨(s_aloadn (am_dp pw_X4_firstHolding_0 dd_X4_firstHolding_0a.2.2.2.2.2.2.2) rfl).to, ?_⟩
  refine List.forall_mem_cons.mpr ⟨(s_get (ci := 4) (k := 2) (am_dp pw_X4_firstHolding_0 dd_X4_firstHolding_0b.1) rfl (by decide) wd223 inX4 rfl).to, ?_⟩
  refine List.forall_mem_cons.mpr ⟨(s_iload (am_dp pw_X4_firstHolding_0 dd_X4_firstHolding_0b.2.1)).to, ?_⟩
  refine List.forall_mem_cons.mpr ⟨(s_iald (am_dp pw_X4_firstHolding_0 dd_X4_firstHolding_0b.2.2.1)).to, ?_⟩
  refine List.forall_mem_cons.mpr ⟨(s_aloadn (am_dp pw_X4_firstHolding_0 dd_X4_firstHolding_0b.2.2.2.1) rfl).to, ?_⟩
  refine List.forall_mem_cons.mpr ⟨(s_get (ci := 4) (k := 3) (am_dp pw_X4_firstHolding_0 dd_X4_firstHolding_0b.2.2.2.2.1) rfl (by decide) wd224 inX4 rfl).to, ?_⟩
  refine List.forall_mem_cons.mpr ⟨(s_iload (am_dp pw_X4_firstHolding_0 dd_X4_firstHolding_0b.2.2.2.2.2.1)).to, ?_⟩
  refine List.forall_mem_cons.mpr ⟨(s_iald (am_dp pw_X4_firstHolding_0 dd_X4_firstHolding_0b.2.2.2.2.2.2.1)).to, ?_⟩
  refine List.forall_mem_cons.mpr ⟨(s_iloadn (am_dp pw_X4_firstHolding_0 dd_X4_firstHolding_0b.2.2.2.2.2.2.2) rfl).to, ?_⟩
  refine List.forall_mem_cons.mpr ⟨(s_iloadn (am_dp pw_X4_firstHolding_0 dd_X4_firstHolding_0c.1) rfl).to, ?_⟩
  refine List.forall_mem_cons.mpr ⟨(s_iload (am_dp pw_X4_firstHolding_0 dd_X4_firstHolding_0c.2.1)).to, ?_⟩
  refine List.forall_mem_cons.mpr ⟨zw_cv2 (am_dp pw_X4_firstHolding_0 dd_X4_firstHolding_0c.2.2) wd861, ?_⟩
  refine List.forall_mem_cons.mpr ⟨(s_if_eq (am_dp pw_X4_firstHolding_32 dd_X4_firstHolding_32a.1) (by decide)).to, ?_⟩
  refine List.forall_mem_cons.mpr ⟨(s_iload (am_dp pw_X4_firstHolding_32 dd_X4_firstHolding_32a.2.1)).to, ?_⟩
  refine List.forall_mem_cons.mpr ⟨s_iret (am_dp pw_X4_firstHolding_32 dd_X4_firstHolding_32a.2.2.1) rfl, ?_⟩
  refine List.forall_mem_cons.mpr ⟨(s_iinc (am_dp pw_X4_firstHolding_32 dd_X4_firstHolding_32a.2.2.2.1) (by decide) (by decide)).to, ?_⟩
  refine List.forall_mem_cons.mpr ⟨(s_goto (am_dp pw_X4_firstHolding_32 dd_X4_firstHolding_32a.2.2.2.2.1) (by decide)).to, ?_⟩
  refine List.forall_mem_cons.mpr ⟨(s_iconst (am_dp pw_X4_firstHolding_32 dd_X4_firstHolding_32a.2.2.2.2.2.1) (by decide)).to, ?_⟩
  refine List.forall_mem_cons.mpr ⟨s_iret (am_dp pw_X4_firstHolding_32 dd_X4_firstHolding_32a.2.2.2.2.2.2) rfl, ?_⟩
  exact fun _ h => absurd h List.not_mem_nil
theorem sn_tX4_firstSum : ∀ q ∈ tX4_firstSum, am_Snd am_P0 RX4 cX4_firstSum 6 (Option.some FieldType.int) "firstSum" q.1 q.2 := by
  unfold tX4_firstSum
  refine List.forall_mem_cons.mpr ⟨(s_aloadn (am_dp pw_X4_firstSum_0 dd_X4_firstSum_0a.1) rfl).to, ?_⟩
  refine List.forall_mem_cons.mpr ⟨(s_aloadn (am_dp pw_X4_firstSum_0 dd_X4_firstSum_0a.2.1) rfl).to, ?_⟩
  refine List.forall_mem_cons.mpr ⟨(s_iloadn (am_dp pw_X4_firstSum_0 dd_X4_firstSum_0a.2.2.1) rfl).to, ?_⟩
  refine List.forall_mem_cons.mpr ⟨(s_iconst (am_dp pw_X4_firstSum_0 dd_X4_firstSum_0a.2.2.2.1) (by decide)).to, ?_⟩
  refine List.forall_mem_cons.mpr ⟨(s_iloadn (am_dp pw_X4_firstSum_0 dd_X4_firstSum_0a.2.2.2.2.1) rfl).to, ?_⟩
  refine List.forall_mem_cons.mpr ⟨zw_cv49 (am_dp pw_X4_firstSum_0 dd_X4_firstSum_0a.2.2.2.2.2.1) wd857, ?_⟩
  refine List.forall_mem_cons.mpr ⟨(s_istore (am_dp pw_X4_firstSum_0 dd_X4_firstSum_0a.2.2.2.2.2.2.1) (by decide)).to, ?_⟩
  refine List.forall_mem_cons.mpr ⟨(s_iload (am_dp pw_X4_firstSum_0 dd_X4_firstSum_0a.2.2.2.2.2.2.2)).to, ?_⟩
  refine List.forall_mem_cons.mpr ⟨(s_iconst (am_dp pw_X4_firstSum_0 dd_X4_firstSum_0b.1) (by decide)).to, ?_⟩
  refine List.forall_mem_cons.mpr ⟨(s_icmp_ne (am_dp pw_X4_firstSum_0 dd_X4_firstSum_0b.2.1) (by decide)).to, ?_⟩
  refine List.forall_mem_cons.mpr ⟨(s_iconst (am_dp pw_X4_firstSum_0 dd_X4_firstSum_0b.2.2.1) (by decide)).to, ?_⟩
  refine List.forall_mem_cons.mpr ⟨s_iret (am_dp pw_X4_firstSum_0 dd_X4_firstSum_0b.2.2.2.1) rfl, ?_⟩
  refine List.forall_mem_cons.mpr ⟨(s_aloadn (am_dp pw_X4_firstSum_0 dd_X4_firstSum_0b.2.2.2.2.1) rfl).to, ?_⟩
  refine List.forall_mem_cons.mpr ⟨(s_aloadn (am_dp pw_X4_firstSum_0 dd_X4_firstSum_0b.2.2.2.2.2.1) rfl).to, ?_⟩
  refine List.forall_mem_cons.mpr ⟨(s_get (ci := 4) (k := 1) (am_dp pw_X4_firstSum_0 dd_X4_firstSum_0b.2.2.2.2.2.2.1) rfl (by decide) wd222 inX4 rfl).to, ?_⟩
  refine List.forall_mem_cons.mpr ⟨(s_iload (am_dp pw_X4_firstSum_0 dd_X4_firstSum_0b.2.2.2.2.2.2.2)).to, ?_⟩
  refine List.forall_mem_cons.mpr ⟨(s_iald (am_dp pw_X4_firstSum_0 dd_X4_firstSum_0c.1)).to, ?_⟩
  refine List.forall_mem_cons.mpr ⟨(s_aloadn (am_dp pw_X4_firstSum_0 dd_X4_firstSum_0c.2.1) rfl).to, ?_⟩
  refine List.forall_mem_cons.mpr ⟨(s_get (ci := 4) (k := 2) (am_dp pw_X4_firstSum_0 dd_X4_firstSum_0c.2.2.1) rfl (by decide) wd223 inX4 rfl).to, ?_⟩
  refine List.forall_mem_cons.mpr ⟨(s_iload (am_dp pw_X4_firstSum_0 dd_X4_firstSum_0c.2.2.2)).to, ?_⟩
  refine List.forall_mem_cons.mpr ⟨(s_iald (am_dp pw_X4_firstSum_32 dd_X4_firstSum_32a.1)).to, ?_⟩
  refine List.forall_mem_cons.mpr ⟨(s_iloadn (am_dp pw_X4_firstSum_32 dd_X4_firstSum_32a.2.1) rfl).to, ?_⟩
  refine List.forall_mem_cons.mpr ⟨(s_iconst (am_dp pw_X4_firstSum_32 dd_X4_firstSum_32a.2.2.1) (by decide)).to, ?_⟩
  refine List.forall_mem_cons.mpr ⟨(s_iloadn (am_dp pw_X4_firstSum_32 dd_X4_firstSum_32a.2.2.2.1) rfl).to, ?_⟩
  refine List.forall_mem_cons.mpr ⟨zw_cv2 (am_dp pw_X4_firstSum_32 dd_X4_firstSum_32a.2.2.2.2.1) wd861, ?_⟩
  refine List.forall_mem_cons.mpr ⟨(s_istore (am_dp pw_X4_firstSum_32 dd_X4_firstSum_32a.2.2.2.2.2.1) (by decide)).to, ?_⟩
  refine List.forall_mem_cons.mpr ⟨(s_iconst (am_dp pw_X4_firstSum_32 dd_X4_firstSum_32a.2.2.2.2.2.2.1) (by decide)).to, ?_⟩
  refine List.forall_mem_cons.mpr ⟨(s_bipush (am_dp pw_X4_firstSum_32 dd_X4_firstSum_32a.2.2.2.2.2.2.2) (by decide)).to, ?_⟩
  refine List.forall_mem_cons.mpr ⟨(s_iload (am_dp pw_X4_firstSum_32 dd_X4_firstSum_32b.1)).to, ?_⟩
  refine List.forall_mem_cons.mpr ⟨zw_cs309 (am_dp pw_X4_firstSum_32 dd_X4_firstSum_32b.2.1) wd885, ?_⟩
  refine List.forall_mem_cons.mpr ⟨zw_cs307 (am_dp pw_X4_firstSum_32 dd_X4_firstSum_32b.2.2.1) wd886, ?_⟩
  refine List.forall_mem_cons.mpr ⟨s_iret (am_dp pw_X4_firstSum_32 dd_X4_firstSum_32b.2.2.2) rfl, ?_⟩
  exact fun _ h => absurd h List.not_mem_nil
theorem sn_tX5_init_0 : ∀ q ∈ tX5_init_0, am_Snd am_P0 RX5 cX5_init 2 (Option.none : Option FieldType) "<init>" q.1 q.2 := by
  unfold tX5_init_0
  refine List.forall_mem_cons.mpr ⟨(s_aloadn (am_dp pw_X5_init_0 dd_X5_init_0a.1) rfl).to, ?_⟩
  refine List.forall_mem_cons.mpr ⟨(s_obj (am_dp pw_X5_init_0 dd_X5_init_0a.2.1) wd167 wd160 wd161).to, ?_⟩
  refine List.forall_mem_cons.mpr ⟨(s_aloadn (am_dp pw_X5_init_0 dd_X5_init_0a.2.2.1) rfl).to, ?_⟩
  refine List.forall_mem_cons.mpr ⟨(s_bipush (am_dp pw_X5_init_0 dd_X5_init_0a.2.2.2.1) (by decide)).to, ?_⟩
  refine List.forall_mem_cons.mpr ⟨(s_put (ci := 5) (k := 2) (am_dp pw_X5_init_0 dd_X5_init_0a.2.2.2.2.1) rfl (by decide) wd311 inX5 tyX5_ok nmX5 rfl rfl).to, ?_⟩
  refine List.forall_mem_cons.mpr ⟨(s_aloadn (am_dp pw_X5_init_0 dd_X5_init_0a.2.2.2.2.2.1) rfl).to, ?_⟩
  refine List.forall_mem_cons.mpr ⟨(s_bipush (am_dp pw_X5_init_0 dd_X5_init_0a.2.2.2.2.2.2.1) (by decide)).to, ?_⟩
  refine List.forall_mem_cons.mpr ⟨(s_newq (kd := 3) (am_dp pw_X5_init_0 dd_X5_init_0a.2.2.2.2.2.2.2) rfl wd168 (fun _ _ h => h.2.2.2.1)).to, ?_⟩
  refine List.forall_mem_cons.mpr ⟨(s_putF (ci := 5) (k := 4) (am_dp pw_X5_init_0 dd_X5_init_0b.1) rfl (by decide) wd317 inX5 tyX5_ok nmX5 rfl rfl rfl rfl).to, ?_⟩
  refine List.forall_mem_cons.mpr ⟨(s_aloadn (am_dp pw_X5_init_0 dd_X5_init_0b.2.1) rfl).to, ?_⟩
  refine List.forall_mem_cons.mpr ⟨(s_new (ci := 7) (am_dp pw_X5_init_0 dd_X5_init_0b.2.2.1) rfl wd170 wd171 wd136 inX7 tyX7_ok (by decide)).to, ?_⟩
  refine List.forall_mem_cons.mpr ⟨(s_dup (am_dp pw_X5_init_0 dd_X5_init_0b.2.2.2.1)).to, ?_⟩
  refine List.forall_mem_cons.mpr ⟨z_cin (ci := 7) (am_dp pw_X5_init_0 dd_X5_init_0b.2.2.2.2.1) mt70 wd172 rfl rfl, ?_⟩
  refine List.forall_mem_cons.mpr ⟨(s_putF (ci := 5) (k := 5) (am_dp pw_X5_init_0 dd_X5_init_0b.2.2.2.2.2.1) rfl (by decide) wd320 inX5 tyX5_ok nmX5 rfl rfl rfl rfl).to, ?_⟩
  refine List.forall_mem_cons.mpr ⟨(s_aloadn (am_dp pw_X5_init_0 dd_X5_init_0b.2.2.2.2.2.2.1) rfl).to, ?_⟩
  refine List.forall_mem_cons.mpr ⟨(s_new (ci := 0) (am_dp pw_X5_init_0 dd_X5_init_0b.2.2.2.2.2.2.2) rfl wd196 wd197 wd137 inX0 tyX0_ok (by decide)).to, ?_⟩
  refine List.forall_mem_cons.mpr ⟨(s_dup (am_dp pw_X5_init_32 dd_X5_init_32a.1)).to, ?_⟩
  refine List.forall_mem_cons.mpr ⟨z_cin (ci := 0) (am_dp pw_X5_init_32 dd_X5_init_32a.2.1) mt0 wd198 rfl rfl, ?_⟩
  refine List.forall_mem_cons.mpr ⟨(s_putF (ci := 5) (k := 6) (am_dp pw_X5_init_32 dd_X5_init_32a.2.2.1) rfl (by decide) wd323 inX5 tyX5_ok nmX5 rfl rfl rfl rfl).to, ?_⟩
  refine List.forall_mem_cons.mpr ⟨(s_aloadn (am_dp pw_X5_init_32 dd_X5_init_32a.2.2.2.1) rfl).to, ?_⟩
  refine List.forall_mem_cons.mpr ⟨(s_new (ci := 4) (am_dp pw_X5_init_32 dd_X5_init_32a.2.2.2.2.1) rfl wd214 wd215 wd138 inX4 tyX4_ok (by decide)).to, ?_⟩
  refine List.forall_mem_cons.mpr ⟨(s_dup (am_dp pw_X5_init_32 dd_X5_init_32a.2.2.2.2.2.1)).to, ?_⟩
  refine List.forall_mem_cons.mpr ⟨(s_bipush (am_dp pw_X5_init_32 dd_X5_init_32a.2.2.2.2.2.2.1) (by decide)).to, ?_⟩
  refine List.forall_mem_cons.mpr ⟨z_ci (ci := 4) (am_dp pw_X5_init_32 dd_X5_init_32a.2.2.2.2.2.2.2) mt46 wd216 rfl rfl, ?_⟩
  refine List.forall_mem_cons.mpr ⟨(s_putF (ci := 5) (k := 7) (am_dp pw_X5_init_32 dd_X5_init_32b.1) rfl (by decide) wd325 inX5 tyX5_ok nmX5 rfl rfl rfl rfl).to, ?_⟩
  refine List.forall_mem_cons.mpr ⟨(s_aloadn (am_dp pw_X5_init_32 dd_X5_init_32b.2.1) rfl).to, ?_⟩
  refine List.forall_mem_cons.mpr ⟨(s_new (ci := 4) (am_dp pw_X5_init_32 dd_X5_init_32b.2.2.1) rfl wd214 wd215 wd138 inX4 tyX4_ok (by decide)).to, ?_⟩
  refine List.forall_mem_cons.mpr ⟨(s_dup (am_dp pw_X5_init_32 dd_X5_init_32b.2.2.2.1)).to, ?_⟩
  refine List.forall_mem_cons.mpr ⟨(s_bipush (am_dp pw_X5_init_32 dd_X5_init_32b.2.2.2.2.1) (by decide)).to, ?_⟩
  refine List.forall_mem_cons.mpr ⟨z_ci (ci := 4) (am_dp pw_X5_init_32 dd_X5_init_32b.2.2.2.2.2) mt46 wd216 rfl rfl, ?_⟩
  refine List.forall_mem_cons.mpr ⟨(s_putF (ci := 5) (k := 8) (am_dp pw_X5_init_64 dd_X5_init_64a.1) rfl (by decide) wd327 inX5 tyX5_ok nmX5 rfl rfl rfl rfl).to, ?_⟩
  refine List.forall_mem_cons.mpr ⟨(s_aloadn (am_dp pw_X5_init_64 dd_X5_init_64a.2.1) rfl).to, ?_⟩
  refine List.forall_mem_cons.mpr ⟨(s_new (ci := 4) (am_dp pw_X5_init_64 dd_X5_init_64a.2.2.1) rfl wd214 wd215 wd138 inX4 tyX4_ok (by decide)).to, ?_⟩
  refine List.forall_mem_cons.mpr ⟨(s_dup (am_dp pw_X5_init_64 dd_X5_init_64a.2.2.2.1)).to, ?_⟩
  refine List.forall_mem_cons.mpr ⟨(s_bipush (am_dp pw_X5_init_64 dd_X5_init_64a.2.2.2.2.1) (by decide)).to, ?_⟩
  refine List.forall_mem_cons.mpr ⟨z_ci (ci := 4) (am_dp pw_X5_init_64 dd_X5_init_64a.2.2.2.2.2.1) mt46 wd216 rfl rfl, ?_⟩
  refine List.forall_mem_cons.mpr ⟨(s_putF (ci := 5) (k := 9) (am_dp pw_X5_init_64 dd_X5_init_64a.2.2.2.2.2.2.1) rfl (by decide) wd329 inX5 tyX5_ok nmX5 rfl rfl rfl rfl).to, ?_⟩
  refine List.forall_mem_cons.mpr ⟨(s_aloadn (am_dp pw_X5_init_64 dd_X5_init_64a.2.2.2.2.2.2.2) rfl).to, ?_⟩
  refine List.forall_mem_cons.mpr ⟨(s_sipush (am_dp pw_X5_init_64 dd_X5_init_64b.1) (by decide)).to, ?_⟩
  refine List.forall_mem_cons.mpr ⟨(s_newa (kd := 0) (ty := .int) (am_dp pw_X5_init_64 dd_X5_init_64b.2.1) rfl rfl wd195 (by decide) (by decide) (fun _ _ h => h)).to, ?_⟩
  refine List.forall_mem_cons.mpr ⟨(s_putF (ci := 5) (k := 10) (am_dp pw_X5_init_64 dd_X5_init_64b.2.2.1) rfl (by decide) wd331 inX5 tyX5_ok nmX5 rfl rfl rfl rfl).to, ?_⟩
  refine List.forall_mem_cons.mpr ⟨(s_aloadn (am_dp pw_X5_init_64 dd_X5_init_64b.2.2.2.1) rfl).to, ?_⟩
  refine List.forall_mem_cons.mpr ⟨(s_sipush (am_dp pw_X5_init_64 dd_X5_init_64b.2.2.2.2.1) (by decide)).to, ?_⟩
  refine List.forall_mem_cons.mpr ⟨(s_newa (kd := 0) (ty := .int) (am_dp pw_X5_init_64 dd_X5_init_64b.2.2.2.2.2.1) rfl rfl wd195 (by decide) (by decide) (fun _ _ h => h)).to, ?_⟩
  refine List.forall_mem_cons.mpr ⟨(s_putF (ci := 5) (k := 11) (am_dp pw_X5_init_64 dd_X5_init_64b.2.2.2.2.2.2) rfl (by decide) wd335 inX5 tyX5_ok nmX5 rfl rfl rfl rfl).to, ?_⟩
  refine List.forall_mem_cons.mpr ⟨(s_aloadn (am_dp pw_X5_init_96 dd_X5_init_96a.1) rfl).to, ?_⟩
  refine List.forall_mem_cons.mpr ⟨(s_sipush (am_dp pw_X5_init_96 dd_X5_init_96a.2.1) (by decide)).to, ?_⟩
  refine List.forall_mem_cons.mpr ⟨(s_newa (kd := 1) (ty := .long) (am_dp pw_X5_init_96 dd_X5_init_96a.2.2.1) rfl rfl wd303 (by decide) (by decide) (fun _ _ h => h)).to, ?_⟩
  refine List.forall_mem_cons.mpr ⟨(s_putF (ci := 5) (k := 12) (am_dp pw_X5_init_96 dd_X5_init_96a.2.2.2.1) rfl (by decide) wd336 inX5 tyX5_ok nmX5 rfl rfl rfl rfl).to, ?_⟩
  refine List.forall_mem_cons.mpr ⟨(s_aloadn (am_dp pw_X5_init_96 dd_X5_init_96a.2.2.2.2.1) rfl).to, ?_⟩
  refine List.forall_mem_cons.mpr ⟨(s_sipush (am_dp pw_X5_init_96 dd_X5_init_96a.2.2.2.2.2.1) (by decide)).to, ?_⟩
  refine List.forall_mem_cons.mpr ⟨(s_newa (kd := 1) (ty := .long) (am_dp pw_X5_init_96 dd_X5_init_96a.2.2.2.2.2.2.1) rfl rfl wd303 (by decide) (by decide) (fun _ _ h => h)).to, ?_⟩
  refine List.forall_mem_cons.mpr ⟨(s_putF (ci := 5) (k := 13) (am_dp pw_X5_init_96 dd_X5_init_96a.2.2.2.2.2.2.2) rfl (by decide) wd337 inX5 tyX5_ok nmX5 rfl rfl rfl rfl).to, ?_⟩
  refine List.forall_mem_cons.mpr ⟨(s_iconst (am_dp pw_X5_init_96 dd_X5_init_96b.1) (by decide)).to, ?_⟩
  refine List.forall_mem_cons.mpr ⟨(s_istoren (am_dp pw_X5_init_96 dd_X5_init_96b.2.1) rfl (by decide)).to, ?_⟩
  refine List.forall_mem_cons.mpr ⟨(s_iloadn (am_dp pw_X5_init_96 dd_X5_init_96b.2.2.1) rfl).to, ?_⟩
  refine List.forall_mem_cons.mpr ⟨(s_bipush (am_dp pw_X5_init_96 dd_X5_init_96b.2.2.2.1) (by decide)).to, ?_⟩
  refine List.forall_mem_cons.mpr ⟨(s_icmp_ge (am_dp pw_X5_init_96 dd_X5_init_96b.2.2.2.2.1) (by decide)).to, ?_⟩
  refine List.forall_mem_cons.mpr ⟨(s_aloadn (am_dp pw_X5_init_96 dd_X5_init_96b.2.2.2.2.2.1) rfl).to, ?_⟩
  refine List.forall_mem_cons.mpr ⟨(s_get (ci := 5) (k := 4) (am_dp pw_X5_init_96 dd_X5_init_96b.2.2.2.2.2.2) rfl (by decide) wd317 inX5 rfl).to, ?_⟩
  exact fun _ h => absurd h List.not_mem_nil
theorem sn_tX5_init_1 : ∀ q ∈ tX5_init_1, am_Snd am_P0 RX5 cX5_init 2 (Option.none : Option FieldType) "<init>" q.1 q.2 := by
  unfold tX5_init_1
  refine List.forall_mem_cons.mpr ⟨(s_iloadn (am_dp pw_X5_init_128 dd_X5_init_128a.1) rfl).to, ?_⟩
  refine List.forall_mem_cons.mpr ⟨(s_new (ci := 6) (am_dp pw_X5_init_128 dd_X5_init_128a.2.1) rfl wd168 wd234 wd139 inX6 tyX6_ok (by decide)).to, ?_⟩
  refine List.forall_mem_cons.mpr ⟨(s_dup (am_dp pw_X5_init_128 dd_X5_init_128a.2.2.1)).to, ?_⟩
  refine List.forall_mem_cons.mpr ⟨z_cin (ci := 6) (am_dp pw_X5_init_128 dd_X5_init_128a.2.2.2.1) mt64 wd235 rfl rfl, ?_⟩
  refine List.forall_mem_cons.mpr ⟨(s_aas (am_dp pw_X5_init_128 dd_X5_init_128a.2.2.2.2.1)).to, ?_⟩
  refine List.forall_mem_cons.mpr ⟨(s_iinc (am_dp pw_X5_init_128 dd_X5_init_128a.2.2.2.2.2.1) (by decide) (by decide)).to, ?_⟩
  refine List.forall_mem_cons.mpr ⟨(s_goto (am_dp pw_X5_init_128 dd_X5_init_128a.2.2.2.2.2.2.1) (by decide)).to, ?_⟩
  refine List.forall_mem_cons.mpr ⟨s_vret (am_dp pw_X5_init_128 dd_X5_init_128a.2.2.2.2.2.2.2) rfl, ?_⟩
  exact fun _ h => absurd h List.not_mem_nil
theorem sn_tX5_init : ∀ q ∈ tX5_init, am_Snd am_P0 RX5 cX5_init 2 (Option.none : Option FieldType) "<init>" q.1 q.2 := by
  unfold tX5_init
  exact List.forall_mem_append.mpr ⟨sn_tX5_init_0, sn_tX5_init_1⟩
theorem sn_tX5_clear : ∀ q ∈ tX5_clear, am_Snd am_P0 RX5 cX5_clear 1 (Option.none : Option FieldType) "clear" q.1 q.2 := by
  unfold tX5_clear
  refine List.forall_mem_cons.mpr ⟨(s_aloadn (am_dp pw_X5_clear_0 dd_X5_clear_0a.1) rfl).to, ?_⟩
  refine List.forall_mem_cons.mpr ⟨(s_iconst (am_dp pw_X5_clear_0 dd_X5_clear_0a.2.1) (by decide)).to, ?_⟩
  refine List.forall_mem_cons.mpr ⟨(s_put (ci := 5) (k := 0) (am_dp pw_X5_clear_0 dd_X5_clear_0a.2.2.1) rfl (by decide) wd305 inX5 tyX5_ok nmX5 rfl rfl).to, ?_⟩
  refine List.forall_mem_cons.mpr ⟨(s_aloadn (am_dp pw_X5_clear_0 dd_X5_clear_0a.2.2.2.1) rfl).to, ?_⟩
  refine List.forall_mem_cons.mpr ⟨(s_iconst (am_dp pw_X5_clear_0 dd_X5_clear_0a.2.2.2.2.1) (by decide)).to, ?_⟩
  refine List.forall_mem_cons.mpr ⟨(s_put (ci := 5) (k := 1) (am_dp pw_X5_clear_0 dd_X5_clear_0a.2.2.2.2.2.1) rfl (by decide) wd308 inX5 tyX5_ok nmX5 rfl rfl).to, ?_⟩
  refine List.forall_mem_cons.mpr ⟨(s_aloadn (am_dp pw_X5_clear_0 dd_X5_clear_0a.2.2.2.2.2.2.1) rfl).to, ?_⟩
  refine List.forall_mem_cons.mpr ⟨(s_bipush (am_dp pw_X5_clear_0 dd_X5_clear_0a.2.2.2.2.2.2.2) (by decide)).to, ?_⟩
  refine List.forall_mem_cons.mpr ⟨(s_put (ci := 5) (k := 2) (am_dp pw_X5_clear_0 dd_X5_clear_0b.1) rfl (by decide) wd311 inX5 tyX5_ok nmX5 rfl rfl).to, ?_⟩
  refine List.forall_mem_cons.mpr ⟨(s_aloadn (am_dp pw_X5_clear_0 dd_X5_clear_0b.2.1) rfl).to, ?_⟩
  refine List.forall_mem_cons.mpr ⟨(s_iconst (am_dp pw_X5_clear_0 dd_X5_clear_0b.2.2.1) (by decide)).to, ?_⟩
  refine List.forall_mem_cons.mpr ⟨(s_put (ci := 5) (k := 3) (am_dp pw_X5_clear_0 dd_X5_clear_0b.2.2.2.1) rfl (by decide) wd314 inX5 tyX5_ok nmX5 rfl rfl).to, ?_⟩
  refine List.forall_mem_cons.mpr ⟨(s_aloadn (am_dp pw_X5_clear_0 dd_X5_clear_0b.2.2.2.2.1) rfl).to, ?_⟩
  refine List.forall_mem_cons.mpr ⟨(s_get (ci := 5) (k := 5) (am_dp pw_X5_clear_0 dd_X5_clear_0b.2.2.2.2.2.1) rfl (by decide) wd320 inX5 rfl).to, ?_⟩
  refine List.forall_mem_cons.mpr ⟨(s_iconst (am_dp pw_X5_clear_0 dd_X5_clear_0b.2.2.2.2.2.2.1) (by decide)).to, ?_⟩
  refine List.forall_mem_cons.mpr ⟨(s_put (ci := 7) (k := 0) (am_dp pw_X5_clear_0 dd_X5_clear_0b.2.2.2.2.2.2.2) rfl (by decide) wd177 inX7 tyX7_ok nmX7 rfl rfl).to, ?_⟩
  refine List.forall_mem_cons.mpr ⟨(s_aloadn (am_dp pw_X5_clear_0 dd_X5_clear_0c.1) rfl).to, ?_⟩
  refine List.forall_mem_cons.mpr ⟨(s_get (ci := 5) (k := 6) (am_dp pw_X5_clear_0 dd_X5_clear_0c.2) rfl (by decide) wd323 inX5 rfl).to, ?_⟩
  refine List.forall_mem_cons.mpr ⟨(s_iconst (am_dp pw_X5_clear_32 dd_X5_clear_32a.1) (by decide)).to, ?_⟩
  refine List.forall_mem_cons.mpr ⟨(s_put (ci := 0) (k := 1) (am_dp pw_X5_clear_32 dd_X5_clear_32a.2.1) rfl (by decide) wd204 inX0 tyX0_ok nmX0 rfl rfl).to, ?_⟩
  refine List.forall_mem_cons.mpr ⟨(s_aloadn (am_dp pw_X5_clear_32 dd_X5_clear_32a.2.2.1) rfl).to, ?_⟩
  refine List.forall_mem_cons.mpr ⟨(s_get (ci := 5) (k := 7) (am_dp pw_X5_clear_32 dd_X5_clear_32a.2.2.2.1) rfl (by decide) wd325 inX5 rfl).to, ?_⟩
  refine List.forall_mem_cons.mpr ⟨(s_iconst (am_dp pw_X5_clear_32 dd_X5_clear_32a.2.2.2.2.1) (by decide)).to, ?_⟩
  refine List.forall_mem_cons.mpr ⟨(s_put (ci := 4) (k := 0) (am_dp pw_X5_clear_32 dd_X5_clear_32a.2.2.2.2.2.1) rfl (by decide) wd221 inX4 tyX4_ok nmX4 rfl rfl).to, ?_⟩
  refine List.forall_mem_cons.mpr ⟨(s_aloadn (am_dp pw_X5_clear_32 dd_X5_clear_32a.2.2.2.2.2.2.1) rfl).to, ?_⟩
  refine List.forall_mem_cons.mpr ⟨(s_get (ci := 5) (k := 8) (am_dp pw_X5_clear_32 dd_X5_clear_32a.2.2.2.2.2.2.2) rfl (by decide) wd327 inX5 rfl).to, ?_⟩
  refine List.forall_mem_cons.mpr ⟨(s_iconst (am_dp pw_X5_clear_32 dd_X5_clear_32b.1) (by decide)).to, ?_⟩
  refine List.forall_mem_cons.mpr ⟨(s_put (ci := 4) (k := 0) (am_dp pw_X5_clear_32 dd_X5_clear_32b.2.1) rfl (by decide) wd221 inX4 tyX4_ok nmX4 rfl rfl).to, ?_⟩
  refine List.forall_mem_cons.mpr ⟨(s_aloadn (am_dp pw_X5_clear_32 dd_X5_clear_32b.2.2.1) rfl).to, ?_⟩
  refine List.forall_mem_cons.mpr ⟨(s_get (ci := 5) (k := 9) (am_dp pw_X5_clear_32 dd_X5_clear_32b.2.2.2.1) rfl (by decide) wd329 inX5 rfl).to, ?_⟩
  refine List.forall_mem_cons.mpr ⟨(s_iconst (am_dp pw_X5_clear_32 dd_X5_clear_32b.2.2.2.2.1) (by decide)).to, ?_⟩
  refine List.forall_mem_cons.mpr ⟨(s_put (ci := 4) (k := 0) (am_dp pw_X5_clear_32 dd_X5_clear_32b.2.2.2.2.2.1) rfl (by decide) wd221 inX4 tyX4_ok nmX4 rfl rfl).to, ?_⟩
  refine List.forall_mem_cons.mpr ⟨s_vret (am_dp pw_X5_clear_32 dd_X5_clear_32b.2.2.2.2.2.2) rfl, ?_⟩
  exact fun _ h => absurd h List.not_mem_nil
theorem sn_tX5_measure : ∀ q ∈ tX5_measure, am_Snd am_P0 RX5 cX5_measure 4 (Option.none : Option FieldType) "measure" q.1 q.2 := by
  unfold tX5_measure
  refine List.forall_mem_cons.mpr ⟨(s_aloadn (am_dp pw_X5_measure_0 dd_X5_measure_0a.1) rfl).to, ?_⟩
  refine List.forall_mem_cons.mpr ⟨(s_get (ci := 5) (k := 10) (am_dp pw_X5_measure_0 dd_X5_measure_0a.2.1) rfl (by decide) wd331 inX5 rfl).to, ?_⟩
  refine List.forall_mem_cons.mpr ⟨(s_iconst (am_dp pw_X5_measure_0 dd_X5_measure_0a.2.2.1) (by decide)).to, ?_⟩
  refine List.forall_mem_cons.mpr ⟨zw_cs324 (am_dp pw_X5_measure_0 dd_X5_measure_0a.2.2.2.1) wd847, ?_⟩
  refine List.forall_mem_cons.mpr ⟨(s_aloadn (am_dp pw_X5_measure_0 dd_X5_measure_0a.2.2.2.2.1) rfl).to, ?_⟩
  refine List.forall_mem_cons.mpr ⟨(s_get (ci := 5) (k := 11) (am_dp pw_X5_measure_0 dd_X5_measure_0a.2.2.2.2.2.1) rfl (by decide) wd335 inX5 rfl).to, ?_⟩
  refine List.forall_mem_cons.mpr ⟨(s_iconst (am_dp pw_X5_measure_0 dd_X5_measure_0a.2.2.2.2.2.2.1) (by decide)).to, ?_⟩
  refine List.forall_mem_cons.mpr ⟨zw_cs324 (am_dp pw_X5_measure_0 dd_X5_measure_0a.2.2.2.2.2.2.2) wd847, ?_⟩
  refine List.forall_mem_cons.mpr ⟨(s_aloadn (am_dp pw_X5_measure_0 dd_X5_measure_0b.1) rfl).to, ?_⟩
  refine List.forall_mem_cons.mpr ⟨(s_get (ci := 5) (k := 12) (am_dp pw_X5_measure_0 dd_X5_measure_0b.2.1) rfl (by decide) wd336 inX5 rfl).to, ?_⟩
  refine List.forall_mem_cons.mpr ⟨(s_lconst (am_dp pw_X5_measure_0 dd_X5_measure_0b.2.2.1) (by decide)).to, ?_⟩
  refine List.forall_mem_cons.mpr ⟨zw_cs322 (am_dp pw_X5_measure_0 dd_X5_measure_0b.2.2.2.1) wd850, ?_⟩
  refine List.forall_mem_cons.mpr ⟨(s_aloadn (am_dp pw_X5_measure_0 dd_X5_measure_0b.2.2.2.2.1) rfl).to, ?_⟩
  refine List.forall_mem_cons.mpr ⟨(s_get (ci := 5) (k := 13) (am_dp pw_X5_measure_0 dd_X5_measure_0b.2.2.2.2.2.1) rfl (by decide) wd337 inX5 rfl).to, ?_⟩
  refine List.forall_mem_cons.mpr ⟨(s_lconst (am_dp pw_X5_measure_0 dd_X5_measure_0b.2.2.2.2.2.2.1) (by decide)).to, ?_⟩
  refine List.forall_mem_cons.mpr ⟨zw_cs322 (am_dp pw_X5_measure_0 dd_X5_measure_0b.2.2.2.2.2.2.2) wd850, ?_⟩
  refine List.forall_mem_cons.mpr ⟨(s_iconst (am_dp pw_X5_measure_32 dd_X5_measure_32a.1) (by decide)).to, ?_⟩
  refine List.forall_mem_cons.mpr ⟨(s_istoren (am_dp pw_X5_measure_32 dd_X5_measure_32a.2.1) rfl (by decide)).to, ?_⟩
  refine List.forall_mem_cons.mpr ⟨(s_iloadn (am_dp pw_X5_measure_32 dd_X5_measure_32a.2.2.1) rfl).to, ?_⟩
  refine List.forall_mem_cons.mpr ⟨(s_aloadn (am_dp pw_X5_measure_32 dd_X5_measure_32a.2.2.2.1) rfl).to, ?_⟩
  refine List.forall_mem_cons.mpr ⟨(s_get (ci := 5) (k := 1) (am_dp pw_X5_measure_32 dd_X5_measure_32a.2.2.2.2.1) rfl (by decide) wd308 inX5 rfl).to, ?_⟩
  refine List.forall_mem_cons.mpr ⟨(s_icmp_ge (am_dp pw_X5_measure_32 dd_X5_measure_32a.2.2.2.2.2.1) (by decide)).to, ?_⟩
  refine List.forall_mem_cons.mpr ⟨(s_iconst (am_dp pw_X5_measure_32 dd_X5_measure_32a.2.2.2.2.2.2.1) (by decide)).to, ?_⟩
  refine List.forall_mem_cons.mpr ⟨(s_istoren (am_dp pw_X5_measure_32 dd_X5_measure_32a.2.2.2.2.2.2.2) rfl (by decide)).to, ?_⟩
  refine List.forall_mem_cons.mpr ⟨(s_iloadn (am_dp pw_X5_measure_32 dd_X5_measure_32b.1) rfl).to, ?_⟩
  refine List.forall_mem_cons.mpr ⟨(s_aloadn (am_dp pw_X5_measure_32 dd_X5_measure_32b.2.1) rfl).to, ?_⟩
  refine List.forall_mem_cons.mpr ⟨(s_get (ci := 5) (k := 0) (am_dp pw_X5_measure_32 dd_X5_measure_32b.2.2.1) rfl (by decide) wd305 inX5 rfl).to, ?_⟩
  refine List.forall_mem_cons.mpr ⟨(s_icmp_ge (am_dp pw_X5_measure_32 dd_X5_measure_32b.2.2.2.1) (by decide)).to, ?_⟩
  refine List.forall_mem_cons.mpr ⟨(s_iloadn (am_dp pw_X5_measure_32 dd_X5_measure_32b.2.2.2.2.1) rfl).to, ?_⟩
  refine List.forall_mem_cons.mpr ⟨(s_bipush (am_dp pw_X5_measure_32 dd_X5_measure_32b.2.2.2.2.2.1) (by decide)).to, ?_⟩
  refine List.forall_mem_cons.mpr ⟨(s_imul (am_dp pw_X5_measure_32 dd_X5_measure_32b.2.2.2.2.2.2.1)).to, ?_⟩
  refine List.forall_mem_cons.mpr ⟨(s_iloadn (am_dp pw_X5_measure_32 dd_X5_measure_32b.2.2.2.2.2.2.2) rfl).to, ?_⟩
  refine List.forall_mem_cons.mpr ⟨(s_iadd (am_dp pw_X5_measure_32 dd_X5_measure_32c.1)).to, ?_⟩
  refine List.forall_mem_cons.mpr ⟨(s_istoren (am_dp pw_X5_measure_32 dd_X5_measure_32c.2.1) rfl (by decide)).to, ?_⟩
  refine List.forall_mem_cons.mpr ⟨(s_aloadn (am_dp pw_X5_measure_32 dd_X5_measure_32c.2.2.1) rfl).to, ?_⟩
  refine List.forall_mem_cons.mpr ⟨(s_get (ci := 5) (k := 10) (am_dp pw_X5_measure_32 dd_X5_measure_32c.2.2.2.1) rfl (by decide) wd331 inX5 rfl).to, ?_⟩
  refine List.forall_mem_cons.mpr ⟨(s_iloadn (am_dp pw_X5_measure_32 dd_X5_measure_32c.2.2.2.2) rfl).to, ?_⟩
  refine List.forall_mem_cons.mpr ⟨(s_aloadn (am_dp pw_X5_measure_64 dd_X5_measure_64a.1) rfl).to, ?_⟩
  refine List.forall_mem_cons.mpr ⟨(s_get (ci := 5) (k := 7) (am_dp pw_X5_measure_64 dd_X5_measure_64a.2.1) rfl (by decide) wd325 inX5 rfl).to, ?_⟩
  refine List.forall_mem_cons.mpr ⟨(s_aloadn (am_dp pw_X5_measure_64 dd_X5_measure_64a.2.2.1) rfl).to, ?_⟩
  refine List.forall_mem_cons.mpr ⟨(s_get (ci := 5) (k := 6) (am_dp pw_X5_measure_64 dd_X5_measure_64a.2.2.2.1) rfl (by decide) wd323 inX5 rfl).to, ?_⟩
  refine List.forall_mem_cons.mpr ⟨(s_iloadn (am_dp pw_X5_measure_64 dd_X5_measure_64a.2.2.2.2.1) rfl).to, ?_⟩
  refine List.forall_mem_cons.mpr ⟨(s_iconst (am_dp pw_X5_measure_64 dd_X5_measure_64a.2.2.2.2.2.1) (by decide)).to, ?_⟩
  refine List.forall_mem_cons.mpr ⟨zw_cv50 (am_dp pw_X5_measure_64 dd_X5_measure_64a.2.2.2.2.2.2.1) wd853, ?_⟩
  refine List.forall_mem_cons.mpr ⟨(s_iast (am_dp pw_X5_measure_64 dd_X5_measure_64a.2.2.2.2.2.2.2)).to, ?_⟩
  refine List.forall_mem_cons.mpr ⟨(s_iinc (am_dp pw_X5_measure_64 dd_X5_measure_64b.1) (by decide) (by decide)).to, ?_⟩
  refine List.forall_mem_cons.mpr ⟨(s_goto (am_dp pw_X5_measure_64 dd_X5_measure_64b.2.1) (by decide)).to, ?_⟩
  refine List.forall_mem_cons.mpr ⟨(s_iinc (am_dp pw_X5_measure_64 dd_X5_measure_64b.2.2.1) (by decide) (by decide)).to, ?_⟩
  refine List.forall_mem_cons.mpr ⟨(s_goto (am_dp pw_X5_measure_64 dd_X5_measure_64b.2.2.2.1) (by decide)).to, ?_⟩
  refine List.forall_mem_cons.mpr ⟨s_vret (am_dp pw_X5_measure_64 dd_X5_measure_64b.2.2.2.2) rfl, ?_⟩
  exact fun _ h => absurd h List.not_mem_nil
theorem sn_tX5_costAt : ∀ q ∈ tX5_costAt, am_Snd am_P0 RX5 cX5_costAt 2 (Option.some FieldType.int) "costAt" q.1 q.2 := by
  unfold tX5_costAt
  refine List.forall_mem_cons.mpr ⟨(s_aloadn (am_dp pw_X5_costAt_0 dd_X5_costAt_0a.1) rfl).to, ?_⟩
  refine List.forall_mem_cons.mpr ⟨(s_get (ci := 5) (k := 11) (am_dp pw_X5_costAt_0 dd_X5_costAt_0a.2.1) rfl (by decide) wd335 inX5 rfl).to, ?_⟩
  refine List.forall_mem_cons.mpr ⟨(s_iloadn (am_dp pw_X5_costAt_0 dd_X5_costAt_0a.2.2.1) rfl).to, ?_⟩
  refine List.forall_mem_cons.mpr ⟨(s_iald (am_dp pw_X5_costAt_0 dd_X5_costAt_0a.2.2.2.1)).to, ?_⟩
  refine List.forall_mem_cons.mpr ⟨(s_iconst (am_dp pw_X5_costAt_0 dd_X5_costAt_0a.2.2.2.2.1) (by decide)).to, ?_⟩
  refine List.forall_mem_cons.mpr ⟨(s_icmp_ne (am_dp pw_X5_costAt_0 dd_X5_costAt_0a.2.2.2.2.2.1) (by decide)).to, ?_⟩
  refine List.forall_mem_cons.mpr ⟨(s_aloadn (am_dp pw_X5_costAt_0 dd_X5_costAt_0a.2.2.2.2.2.2.1) rfl).to, ?_⟩
  refine List.forall_mem_cons.mpr ⟨(s_get (ci := 5) (k := 11) (am_dp pw_X5_costAt_0 dd_X5_costAt_0a.2.2.2.2.2.2.2) rfl (by decide) wd335 inX5 rfl).to, ?_⟩
  refine List.forall_mem_cons.mpr ⟨(s_iloadn (am_dp pw_X5_costAt_0 dd_X5_costAt_0b.1) rfl).to, ?_⟩
  refine List.forall_mem_cons.mpr ⟨(s_aloadn (am_dp pw_X5_costAt_0 dd_X5_costAt_0b.2.1) rfl).to, ?_⟩
  refine List.forall_mem_cons.mpr ⟨(s_get (ci := 5) (k := 8) (am_dp pw_X5_costAt_0 dd_X5_costAt_0b.2.2.1) rfl (by decide) wd327 inX5 rfl).to, ?_⟩
  refine List.forall_mem_cons.mpr ⟨(s_aloadn (am_dp pw_X5_costAt_0 dd_X5_costAt_0b.2.2.2.1) rfl).to, ?_⟩
  refine List.forall_mem_cons.mpr ⟨(s_get (ci := 5) (k := 6) (am_dp pw_X5_costAt_0 dd_X5_costAt_0b.2.2.2.2.1) rfl (by decide) wd323 inX5 rfl).to, ?_⟩
  refine List.forall_mem_cons.mpr ⟨(s_iloadn (am_dp pw_X5_costAt_0 dd_X5_costAt_0b.2.2.2.2.2.1) rfl).to, ?_⟩
  refine List.forall_mem_cons.mpr ⟨(s_aloadn (am_dp pw_X5_costAt_0 dd_X5_costAt_0b.2.2.2.2.2.2.1) rfl).to, ?_⟩
  refine List.forall_mem_cons.mpr ⟨(s_get (ci := 5) (k := 10) (am_dp pw_X5_costAt_0 dd_X5_costAt_0b.2.2.2.2.2.2.2) rfl (by decide) wd331 inX5 rfl).to, ?_⟩
  refine List.forall_mem_cons.mpr ⟨(s_iloadn (am_dp pw_X5_costAt_0 dd_X5_costAt_0c.1) rfl).to, ?_⟩
  refine List.forall_mem_cons.mpr ⟨(s_iald (am_dp pw_X5_costAt_0 dd_X5_costAt_0c.2.1)).to, ?_⟩
  refine List.forall_mem_cons.mpr ⟨zw_cv50 (am_dp pw_X5_costAt_0 dd_X5_costAt_0c.2.2) wd853, ?_⟩
  refine List.forall_mem_cons.mpr ⟨(s_iast (am_dp pw_X5_costAt_32 dd_X5_costAt_32a.1)).to, ?_⟩
  refine List.forall_mem_cons.mpr ⟨(s_aloadn (am_dp pw_X5_costAt_32 dd_X5_costAt_32a.2.1) rfl).to, ?_⟩
  refine List.forall_mem_cons.mpr ⟨(s_get (ci := 5) (k := 11) (am_dp pw_X5_costAt_32 dd_X5_costAt_32a.2.2.1) rfl (by decide) wd335 inX5 rfl).to, ?_⟩
  refine List.forall_mem_cons.mpr ⟨(s_iloadn (am_dp pw_X5_costAt_32 dd_X5_costAt_32a.2.2.2.1) rfl).to, ?_⟩
  refine List.forall_mem_cons.mpr ⟨(s_iald (am_dp pw_X5_costAt_32 dd_X5_costAt_32a.2.2.2.2.1)).to, ?_⟩
  refine List.forall_mem_cons.mpr ⟨s_iret (am_dp pw_X5_costAt_32 dd_X5_costAt_32a.2.2.2.2.2) rfl, ?_⟩
  exact fun _ h => absurd h List.not_mem_nil
theorem sn_tX5_isQuiet_0 : ∀ q ∈ tX5_isQuiet_0, am_Snd am_P0 RX5 cX5_isQuiet 6 (Option.some FieldType.boolean) "isQuiet" q.1 q.2 := by
  unfold tX5_isQuiet_0
  refine List.forall_mem_cons.mpr ⟨(s_iloadn (am_dp pw_X5_isQuiet_0 dd_X5_isQuiet_0a.1) rfl).to, ?_⟩
  refine List.forall_mem_cons.mpr ⟨(s_iconst (am_dp pw_X5_isQuiet_0 dd_X5_isQuiet_0a.2.1) (by decide)).to, ?_⟩
  refine List.forall_mem_cons.mpr ⟨(s_imul (am_dp pw_X5_isQuiet_0 dd_X5_isQuiet_0a.2.2.1)).to, ?_⟩
  refine List.forall_mem_cons.mpr ⟨(s_iloadn (am_dp pw_X5_isQuiet_0 dd_X5_isQuiet_0a.2.2.2.1) rfl).to, ?_⟩
  refine List.forall_mem_cons.mpr ⟨(s_bipush (am_dp pw_X5_isQuiet_0 dd_X5_isQuiet_0a.2.2.2.2.1) (by decide)).to, ?_⟩
  refine List.forall_mem_cons.mpr ⟨(s_ishr (am_dp pw_X5_isQuiet_0 dd_X5_isQuiet_0a.2.2.2.2.2.1)).to, ?_⟩
  refine List.forall_mem_cons.mpr ⟨(s_iadd (am_dp pw_X5_isQuiet_0 dd_X5_isQuiet_0a.2.2.2.2.2.2.1)).to, ?_⟩
  refine List.forall_mem_cons.mpr ⟨(s_istoren (am_dp pw_X5_isQuiet_0 dd_X5_isQuiet_0a.2.2.2.2.2.2.2) rfl (by decide)).to, ?_⟩
  refine List.forall_mem_cons.mpr ⟨(s_lconst (am_dp pw_X5_isQuiet_0 dd_X5_isQuiet_0b.1) (by decide)).to, ?_⟩
  refine List.forall_mem_cons.mpr ⟨(s_iloadn (am_dp pw_X5_isQuiet_0 dd_X5_isQuiet_0b.2.1) rfl).to, ?_⟩
  refine List.forall_mem_cons.mpr ⟨(s_bipush (am_dp pw_X5_isQuiet_0 dd_X5_isQuiet_0b.2.2.1) (by decide)).to, ?_⟩
  refine List.forall_mem_cons.mpr ⟨(s_iand (am_dp pw_X5_isQuiet_0 dd_X5_isQuiet_0b.2.2.2.1)).to, ?_⟩
  refine List.forall_mem_cons.mpr ⟨(s_lshl (am_dp pw_X5_isQuiet_0 dd_X5_isQuiet_0b.2.2.2.2.1)).to, ?_⟩
  refine List.forall_mem_cons.mpr ⟨(s_lstore (am_dp pw_X5_isQuiet_0 dd_X5_isQuiet_0b.2.2.2.2.2.1) (by decide)).to, ?_⟩
  refine List.forall_mem_cons.mpr ⟨(s_aloadn (am_dp pw_X5_isQuiet_0 dd_X5_isQuiet_0b.2.2.2.2.2.2.1) rfl).to, ?_⟩
  refine List.forall_mem_cons.mpr ⟨(s_get (ci := 5) (k := 12) (am_dp pw_X5_isQuiet_0 dd_X5_isQuiet_0b.2.2.2.2.2.2.2) rfl (by decide) wd336 inX5 rfl).to, ?_⟩
  refine List.forall_mem_cons.mpr ⟨(s_iloadn (am_dp pw_X5_isQuiet_0 dd_X5_isQuiet_0c.1) rfl).to, ?_⟩
  refine List.forall_mem_cons.mpr ⟨(s_lald (am_dp pw_X5_isQuiet_0 dd_X5_isQuiet_0c.2.1)).to, ?_⟩
  refine List.forall_mem_cons.mpr ⟨(s_lload (am_dp pw_X5_isQuiet_0 dd_X5_isQuiet_0c.2.2.1)).to, ?_⟩
  refine List.forall_mem_cons.mpr ⟨(s_land (am_dp pw_X5_isQuiet_0 dd_X5_isQuiet_0c.2.2.2.1)).to, ?_⟩
  refine List.forall_mem_cons.mpr ⟨(s_lconst (am_dp pw_X5_isQuiet_0 dd_X5_isQuiet_0c.2.2.2.2.1) (by decide)).to, ?_⟩
  refine List.forall_mem_cons.mpr ⟨(s_lcmp (am_dp pw_X5_isQuiet_0 dd_X5_isQuiet_0c.2.2.2.2.2.1)).to, ?_⟩
  refine List.forall_mem_cons.mpr ⟨(s_if_ne (am_dp pw_X5_isQuiet_0 dd_X5_isQuiet_0c.2.2.2.2.2.2.1) (by decide)).to, ?_⟩
  refine List.forall_mem_cons.mpr ⟨(s_aloadn (am_dp pw_X5_isQuiet_0 dd_X5_isQuiet_0c.2.2.2.2.2.2.2) rfl).to, ?_⟩
  refine List.forall_mem_cons.mpr ⟨(s_get (ci := 5) (k := 12) (am_dp pw_X5_isQuiet_32 dd_X5_isQuiet_32a.1) rfl (by decide) wd336 inX5 rfl).to, ?_⟩
  refine List.forall_mem_cons.mpr ⟨(s_iloadn (am_dp pw_X5_isQuiet_32 dd_X5_isQuiet_32a.2.1) rfl).to, ?_⟩
  refine List.forall_mem_cons.mpr ⟨(s_dup2 (am_dp pw_X5_isQuiet_32 dd_X5_isQuiet_32a.2.2.1)).to, ?_⟩
  refine List.forall_mem_cons.mpr ⟨(s_lald (am_dp pw_X5_isQuiet_32 dd_X5_isQuiet_32a.2.2.2.1)).to, ?_⟩
  refine List.forall_mem_cons.mpr ⟨(s_lload (am_dp pw_X5_isQuiet_32 dd_X5_isQuiet_32a.2.2.2.2.1)).to, ?_⟩
  refine List.forall_mem_cons.mpr ⟨(s_lor (am_dp pw_X5_isQuiet_32 dd_X5_isQuiet_32a.2.2.2.2.2.1)).to, ?_⟩
  refine List.forall_mem_cons.mpr ⟨(s_last (am_dp pw_X5_isQuiet_32 dd_X5_isQuiet_32a.2.2.2.2.2.2.1)).to, ?_⟩
  refine List.forall_mem_cons.mpr ⟨(s_aloadn (am_dp pw_X5_isQuiet_32 dd_X5_isQuiet_32a.2.2.2.2.2.2.2) rfl).to, ?_⟩
  refine List.forall_mem_cons.mpr ⟨(s_get (ci := 5) (k := 9) (am_dp pw_X5_isQuiet_32 dd_X5_isQuiet_32b.1) rfl (by decide) wd329 inX5 rfl).to, ?_⟩
  refine List.forall_mem_cons.mpr ⟨(s_aloadn (am_dp pw_X5_isQuiet_32 dd_X5_isQuiet_32b.2.1) rfl).to, ?_⟩
  refine List.forall_mem_cons.mpr ⟨(s_get (ci := 5) (k := 6) (am_dp pw_X5_isQuiet_32 dd_X5_isQuiet_32b.2.2.1) rfl (by decide) wd323 inX5 rfl).to, ?_⟩
  refine List.forall_mem_cons.mpr ⟨(s_iloadn (am_dp pw_X5_isQuiet_32 dd_X5_isQuiet_32b.2.2.2.1) rfl).to, ?_⟩
  refine List.forall_mem_cons.mpr ⟨(s_iloadn (am_dp pw_X5_isQuiet_32 dd_X5_isQuiet_32b.2.2.2.2.1) rfl).to, ?_⟩
  refine List.forall_mem_cons.mpr ⟨(s_aloadn (am_dp pw_X5_isQuiet_32 dd_X5_isQuiet_32b.2.2.2.2.2.1) rfl).to, ?_⟩
  refine List.forall_mem_cons.mpr ⟨(s_get (ci := 5) (k := 10) (am_dp pw_X5_isQuiet_32 dd_X5_isQuiet_32b.2.2.2.2.2.2.1) rfl (by decide) wd331 inX5 rfl).to, ?_⟩
  refine List.forall_mem_cons.mpr ⟨(s_iloadn (am_dp pw_X5_isQuiet_32 dd_X5_isQuiet_32b.2.2.2.2.2.2.2) rfl).to, ?_⟩
  refine List.forall_mem_cons.mpr ⟨(s_iald (am_dp pw_X5_isQuiet_32 dd_X5_isQuiet_32c.1)).to, ?_⟩
  refine List.forall_mem_cons.mpr ⟨zw_cv49 (am_dp pw_X5_isQuiet_32 dd_X5_isQuiet_32c.2.1) wd1039, ?_⟩
  refine List.forall_mem_cons.mpr ⟨(s_iconst (am_dp pw_X5_isQuiet_32 dd_X5_isQuiet_32c.2.2.1) (by decide)).to, ?_⟩
  refine List.forall_mem_cons.mpr ⟨(s_icmp_eq (am_dp pw_X5_isQuiet_32 dd_X5_isQuiet_32c.2.2.2) (by decide)).to, ?_⟩
  refine List.forall_mem_cons.mpr ⟨(s_aloadn (am_dp pw_X5_isQuiet_64 dd_X5_isQuiet_64a.1) rfl).to, ?_⟩
  refine List.forall_mem_cons.mpr ⟨(s_get (ci := 5) (k := 13) (am_dp pw_X5_isQuiet_64 dd_X5_isQuiet_64a.2.1) rfl (by decide) wd337 inX5 rfl).to, ?_⟩
  refine List.forall_mem_cons.mpr ⟨(s_iloadn (am_dp pw_X5_isQuiet_64 dd_X5_isQuiet_64a.2.2.1) rfl).to, ?_⟩
  refine List.forall_mem_cons.mpr ⟨(s_dup2 (am_dp pw_X5_isQuiet_64 dd_X5_isQuiet_64a.2.2.2.1)).to, ?_⟩
  refine List.forall_mem_cons.mpr ⟨(s_lald (am_dp pw_X5_isQuiet_64 dd_X5_isQuiet_64a.2.2.2.2.1)).to, ?_⟩
  refine List.forall_mem_cons.mpr ⟨(s_lload (am_dp pw_X5_isQuiet_64 dd_X5_isQuiet_64a.2.2.2.2.2.1)).to, ?_⟩
  refine List.forall_mem_cons.mpr ⟨(s_lor (am_dp pw_X5_isQuiet_64 dd_X5_isQuiet_64a.2.2.2.2.2.2.1)).to, ?_⟩
  refine List.forall_mem_cons.mpr ⟨(s_last (am_dp pw_X5_isQuiet_64 dd_X5_isQuiet_64a.2.2.2.2.2.2.2)).to, ?_⟩
  refine List.forall_mem_cons.mpr ⟨(s_aloadn (am_dp pw_X5_isQuiet_64 dd_X5_isQuiet_64b.1) rfl).to, ?_⟩
  refine List.forall_mem_cons.mpr ⟨(s_get (ci := 5) (k := 13) (am_dp pw_X5_isQuiet_64 dd_X5_isQuiet_64b.2.1) rfl (by decide) wd337 inX5 rfl).to, ?_⟩
  refine List.forall_mem_cons.mpr ⟨(s_iloadn (am_dp pw_X5_isQuiet_64 dd_X5_isQuiet_64b.2.2.1) rfl).to, ?_⟩
  refine List.forall_mem_cons.mpr ⟨(s_lald (am_dp pw_X5_isQuiet_64 dd_X5_isQuiet_64b.2.2.2.1)).to, ?_⟩
  refine List.forall_mem_cons.mpr ⟨(s_lload (am_dp pw_X5_isQuiet_64 dd_X5_isQuiet_64b.2.2.2.2.1)).to, ?_⟩
  refine List.forall_mem_cons.mpr ⟨(s_land (am_dp pw_X5_isQuiet_64 dd_X5_isQuiet_64b.2.2.2.2.2.1)).to, ?_⟩
  refine List.forall_mem_cons.mpr ⟨(s_lconst (am_dp pw_X5_isQuiet_64 dd_X5_isQuiet_64b.2.2.2.2.2.2.1) (by decide)).to, ?_⟩
  refine List.forall_mem_cons.mpr ⟨(s_lcmp (am_dp pw_X5_isQuiet_64 dd_X5_isQuiet_64b.2.2.2.2.2.2.2)).to, ?_⟩
  exact fun _ h => absurd h List.not_mem_nil
theorem sn_tX5_isQuiet_1 : ∀ q ∈ tX5_isQuiet_1, am_Snd am_P0 RX5 cX5_isQuiet 6 (Option.some FieldType.boolean) "isQuiet" q.1 q.2 := by
  unfold tX5_isQuiet_1
  refine List.forall_mem_cons.mpr ⟨(s_if_eq (am_dp pw_X5_isQuiet_64 dd_X5_isQuiet_64c.1) (by decide)).to, ?_⟩
  refine List.forall_mem_cons.mpr ⟨(s_iconst (am_dp pw_X5_isQuiet_64 dd_X5_isQuiet_64c.2.1) (by decide)).to, ?_⟩
  refine List.forall_mem_cons.mpr ⟨(s_goto (am_dp pw_X5_isQuiet_64 dd_X5_isQuiet_64c.2.2.1) (by decide)).to, ?_⟩
  refine List.forall_mem_cons.mpr ⟨(s_iconst (am_dp pw_X5_isQuiet_64 dd_X5_isQuiet_64c.2.2.2.1) (by decide)).to, ?_⟩
  refine List.forall_mem_cons.mpr ⟨s_zret (am_dp pw_X5_isQuiet_64 dd_X5_isQuiet_64c.2.2.2.2) rfl, ?_⟩
  exact fun _ h => absurd h List.not_mem_nil
theorem sn_tX5_isQuiet : ∀ q ∈ tX5_isQuiet, am_Snd am_P0 RX5 cX5_isQuiet 6 (Option.some FieldType.boolean) "isQuiet" q.1 q.2 := by
  unfold tX5_isQuiet
  exact List.forall_mem_append.mpr ⟨sn_tX5_isQuiet_0, sn_tX5_isQuiet_1⟩
theorem sn_tX5_placeAt : ∀ q ∈ tX5_placeAt, am_Snd am_P0 RX5 cX5_placeAt 3 (Option.some FieldType.int) "placeAt" q.1 q.2 := by
  unfold tX5_placeAt
  refine List.forall_mem_cons.mpr ⟨(s_iloadn (am_dp pw_X5_placeAt_0 dd_X5_placeAt_0a.1) rfl).to, ?_⟩
  refine List.forall_mem_cons.mpr ⟨(s_if_lt (am_dp pw_X5_placeAt_0 dd_X5_placeAt_0a.2.1) (by decide)).to, ?_⟩
  refine List.forall_mem_cons.mpr ⟨(s_iloadn (am_dp pw_X5_placeAt_0 dd_X5_placeAt_0a.2.2.1) rfl).to, ?_⟩
  refine List.forall_mem_cons.mpr ⟨(s_aloadn (am_dp pw_X5_placeAt_0 dd_X5_placeAt_0a.2.2.2.1) rfl).to, ?_⟩
  refine List.forall_mem_cons.mpr ⟨(s_get (ci := 5) (k := 0) (am_dp pw_X5_placeAt_0 dd_X5_placeAt_0a.2.2.2.2.1) rfl (by decide) wd305 inX5 rfl).to, ?_⟩
  refine List.forall_mem_cons.mpr ⟨(s_icmp_ge (am_dp pw_X5_placeAt_0 dd_X5_placeAt_0a.2.2.2.2.2.1) (by decide)).to, ?_⟩
  refine List.forall_mem_cons.mpr ⟨(s_iloadn (am_dp pw_X5_placeAt_0 dd_X5_placeAt_0a.2.2.2.2.2.2.1) rfl).to, ?_⟩
  refine List.forall_mem_cons.mpr ⟨(s_if_lt (am_dp pw_X5_placeAt_0 dd_X5_placeAt_0a.2.2.2.2.2.2.2) (by decide)).to, ?_⟩
  refine List.forall_mem_cons.mpr ⟨(s_iloadn (am_dp pw_X5_placeAt_0 dd_X5_placeAt_0b.1) rfl).to, ?_⟩
  refine List.forall_mem_cons.mpr ⟨(s_aloadn (am_dp pw_X5_placeAt_0 dd_X5_placeAt_0b.2.1) rfl).to, ?_⟩
  refine List.forall_mem_cons.mpr ⟨(s_get (ci := 5) (k := 1) (am_dp pw_X5_placeAt_0 dd_X5_placeAt_0b.2.2.1) rfl (by decide) wd308 inX5 rfl).to, ?_⟩
  refine List.forall_mem_cons.mpr ⟨(s_icmp_lt (am_dp pw_X5_placeAt_0 dd_X5_placeAt_0b.2.2.2.1) (by decide)).to, ?_⟩
  refine List.forall_mem_cons.mpr ⟨(s_iconst (am_dp pw_X5_placeAt_0 dd_X5_placeAt_0b.2.2.2.2.1) (by decide)).to, ?_⟩
  refine List.forall_mem_cons.mpr ⟨s_iret (am_dp pw_X5_placeAt_0 dd_X5_placeAt_0b.2.2.2.2.2.1) rfl, ?_⟩
  refine List.forall_mem_cons.mpr ⟨(s_iloadn (am_dp pw_X5_placeAt_0 dd_X5_placeAt_0b.2.2.2.2.2.2.1) rfl).to, ?_⟩
  refine List.forall_mem_cons.mpr ⟨(s_bipush (am_dp pw_X5_placeAt_0 dd_X5_placeAt_0b.2.2.2.2.2.2.2) (by decide)).to, ?_⟩
  refine List.forall_mem_cons.mpr ⟨(s_imul (am_dp pw_X5_placeAt_0 dd_X5_placeAt_0c.1)).to, ?_⟩
  refine List.forall_mem_cons.mpr ⟨(s_iloadn (am_dp pw_X5_placeAt_0 dd_X5_placeAt_0c.2.1) rfl).to, ?_⟩
  refine List.forall_mem_cons.mpr ⟨(s_iadd (am_dp pw_X5_placeAt_0 dd_X5_placeAt_0c.2.2)).to, ?_⟩
  refine List.forall_mem_cons.mpr ⟨s_iret (am_dp pw_X5_placeAt_32 dd_X5_placeAt_32a) rfl, ?_⟩
  exact fun _ h => absurd h List.not_mem_nil
theorem sn_tX5_placeOf : ∀ q ∈ tX5_placeOf, am_Snd am_P0 RX5 cX5_placeOf 2 (Option.some FieldType.int) "placeOf" q.1 q.2 := by
  unfold tX5_placeOf
  refine List.forall_mem_cons.mpr ⟨(s_aloadn (am_dp pw_X5_placeOf_0 dd_X5_placeOf_0a.1) rfl).to, ?_⟩
  refine List.forall_mem_cons.mpr ⟨(s_get (ci := 5) (k := 0) (am_dp pw_X5_placeOf_0 dd_X5_placeOf_0a.2.1) rfl (by decide) wd305 inX5 rfl).to, ?_⟩
  refine List.forall_mem_cons.mpr ⟨(s_if_eq (am_dp pw_X5_placeOf_0 dd_X5_placeOf_0a.2.2.1) (by decide)).to, ?_⟩
  refine List.forall_mem_cons.mpr ⟨(s_iloadn (am_dp pw_X5_placeOf_0 dd_X5_placeOf_0a.2.2.2.1) rfl).to, ?_⟩
  refine List.forall_mem_cons.mpr ⟨(s_if_lt (am_dp pw_X5_placeOf_0 dd_X5_placeOf_0a.2.2.2.2.1) (by decide)).to, ?_⟩
  refine List.forall_mem_cons.mpr ⟨(s_iloadn (am_dp pw_X5_placeOf_0 dd_X5_placeOf_0a.2.2.2.2.2.1) rfl).to, ?_⟩
  refine List.forall_mem_cons.mpr ⟨(s_aloadn (am_dp pw_X5_placeOf_0 dd_X5_placeOf_0a.2.2.2.2.2.2.1) rfl).to, ?_⟩
  refine List.forall_mem_cons.mpr ⟨(s_get (ci := 5) (k := 0) (am_dp pw_X5_placeOf_0 dd_X5_placeOf_0a.2.2.2.2.2.2.2) rfl (by decide) wd305 inX5 rfl).to, ?_⟩
  refine List.forall_mem_cons.mpr ⟨(s_aloadn (am_dp pw_X5_placeOf_0 dd_X5_placeOf_0b.1) rfl).to, ?_⟩
  refine List.forall_mem_cons.mpr ⟨(s_get (ci := 5) (k := 1) (am_dp pw_X5_placeOf_0 dd_X5_placeOf_0b.2.1) rfl (by decide) wd308 inX5 rfl).to, ?_⟩
  refine List.forall_mem_cons.mpr ⟨(s_imul (am_dp pw_X5_placeOf_0 dd_X5_placeOf_0b.2.2.1)).to, ?_⟩
  refine List.forall_mem_cons.mpr ⟨(s_icmp_lt (am_dp pw_X5_placeOf_0 dd_X5_placeOf_0b.2.2.2.1) (by decide)).to, ?_⟩
  refine List.forall_mem_cons.mpr ⟨(s_iconst (am_dp pw_X5_placeOf_0 dd_X5_placeOf_0b.2.2.2.2.1) (by decide)).to, ?_⟩
  refine List.forall_mem_cons.mpr ⟨s_iret (am_dp pw_X5_placeOf_0 dd_X5_placeOf_0b.2.2.2.2.2.1) rfl, ?_⟩
  refine List.forall_mem_cons.mpr ⟨(s_iloadn (am_dp pw_X5_placeOf_0 dd_X5_placeOf_0b.2.2.2.2.2.2.1) rfl).to, ?_⟩
  refine List.forall_mem_cons.mpr ⟨(s_aloadn (am_dp pw_X5_placeOf_0 dd_X5_placeOf_0b.2.2.2.2.2.2.2) rfl).to, ?_⟩
  refine List.forall_mem_cons.mpr ⟨(s_get (ci := 5) (k := 0) (am_dp pw_X5_placeOf_0 dd_X5_placeOf_0c.1) rfl (by decide) wd305 inX5 rfl).to, ?_⟩
  refine List.forall_mem_cons.mpr ⟨(s_idiv (am_dp pw_X5_placeOf_0 dd_X5_placeOf_0c.2)).to, ?_⟩
  refine List.forall_mem_cons.mpr ⟨(s_bipush (am_dp pw_X5_placeOf_32 dd_X5_placeOf_32a.1) (by decide)).to, ?_⟩
  refine List.forall_mem_cons.mpr ⟨(s_imul (am_dp pw_X5_placeOf_32 dd_X5_placeOf_32a.2.1)).to, ?_⟩
  refine List.forall_mem_cons.mpr ⟨(s_iloadn (am_dp pw_X5_placeOf_32 dd_X5_placeOf_32a.2.2.1) rfl).to, ?_⟩
  refine List.forall_mem_cons.mpr ⟨(s_aloadn (am_dp pw_X5_placeOf_32 dd_X5_placeOf_32a.2.2.2.1) rfl).to, ?_⟩
  refine List.forall_mem_cons.mpr ⟨(s_get (ci := 5) (k := 0) (am_dp pw_X5_placeOf_32 dd_X5_placeOf_32a.2.2.2.2.1) rfl (by decide) wd305 inX5 rfl).to, ?_⟩
  refine List.forall_mem_cons.mpr ⟨(s_irem (am_dp pw_X5_placeOf_32 dd_X5_placeOf_32a.2.2.2.2.2.1)).to, ?_⟩
  refine List.forall_mem_cons.mpr ⟨(s_iadd (am_dp pw_X5_placeOf_32 dd_X5_placeOf_32a.2.2.2.2.2.2.1)).to, ?_⟩
  refine List.forall_mem_cons.mpr ⟨s_iret (am_dp pw_X5_placeOf_32 dd_X5_placeOf_32a.2.2.2.2.2.2.2) rfl, ?_⟩
  exact fun _ h => absurd h List.not_mem_nil
theorem sn_tX5_numberOf : ∀ q ∈ tX5_numberOf, am_Snd am_P0 RX5 cX5_numberOf 2 (Option.some FieldType.int) "numberOf" q.1 q.2 := by
  unfold tX5_numberOf
  refine List.forall_mem_cons.mpr ⟨(s_iloadn (am_dp pw_X5_numberOf_0 dd_X5_numberOf_0a.1) rfl).to, ?_⟩
  refine List.forall_mem_cons.mpr ⟨(s_bipush (am_dp pw_X5_numberOf_0 dd_X5_numberOf_0a.2.1) (by decide)).to, ?_⟩
  refine List.forall_mem_cons.mpr ⟨(s_idiv (am_dp pw_X5_numberOf_0 dd_X5_numberOf_0a.2.2.1)).to, ?_⟩
  refine List.forall_mem_cons.mpr ⟨(s_aloadn (am_dp pw_X5_numberOf_0 dd_X5_numberOf_0a.2.2.2.1) rfl).to, ?_⟩
  refine List.forall_mem_cons.mpr ⟨(s_get (ci := 5) (k := 0) (am_dp pw_X5_numberOf_0 dd_X5_numberOf_0a.2.2.2.2.1) rfl (by decide) wd305 inX5 rfl).to, ?_⟩
  refine List.forall_mem_cons.mpr ⟨(s_imul (am_dp pw_X5_numberOf_0 dd_X5_numberOf_0a.2.2.2.2.2.1)).to, ?_⟩
  refine List.forall_mem_cons.mpr ⟨(s_iloadn (am_dp pw_X5_numberOf_0 dd_X5_numberOf_0a.2.2.2.2.2.2.1) rfl).to, ?_⟩
  refine List.forall_mem_cons.mpr ⟨(s_bipush (am_dp pw_X5_numberOf_0 dd_X5_numberOf_0a.2.2.2.2.2.2.2) (by decide)).to, ?_⟩
  refine List.forall_mem_cons.mpr ⟨(s_irem (am_dp pw_X5_numberOf_0 dd_X5_numberOf_0b.1)).to, ?_⟩
  refine List.forall_mem_cons.mpr ⟨(s_iadd (am_dp pw_X5_numberOf_0 dd_X5_numberOf_0b.2.1)).to, ?_⟩
  refine List.forall_mem_cons.mpr ⟨s_iret (am_dp pw_X5_numberOf_0 dd_X5_numberOf_0b.2.2) rfl, ?_⟩
  exact fun _ h => absurd h List.not_mem_nil
theorem sn_tX5_countSayings : ∀ q ∈ tX5_countSayings, am_Snd am_P0 RX5 cX5_countSayings 3 (Option.some FieldType.int) "countSayings" q.1 q.2 := by
  unfold tX5_countSayings
  refine List.forall_mem_cons.mpr ⟨(s_iconst (am_dp pw_X5_countSayings_0 dd_X5_countSayings_0a.1) (by decide)).to, ?_⟩
  refine List.forall_mem_cons.mpr ⟨(s_istoren (am_dp pw_X5_countSayings_0 dd_X5_countSayings_0a.2.1) rfl (by decide)).to, ?_⟩
  refine List.forall_mem_cons.mpr ⟨(s_iconst (am_dp pw_X5_countSayings_0 dd_X5_countSayings_0a.2.2.1) (by decide)).to, ?_⟩
  refine List.forall_mem_cons.mpr ⟨(s_istoren (am_dp pw_X5_countSayings_0 dd_X5_countSayings_0a.2.2.2.1) rfl (by decide)).to, ?_⟩
  refine List.forall_mem_cons.mpr ⟨(s_iloadn (am_dp pw_X5_countSayings_0 dd_X5_countSayings_0a.2.2.2.2.1) rfl).to, ?_⟩
  refine List.forall_mem_cons.mpr ⟨(s_aloadn (am_dp pw_X5_countSayings_0 dd_X5_countSayings_0a.2.2.2.2.2.1) rfl).to, ?_⟩
  refine List.forall_mem_cons.mpr ⟨(s_get (ci := 5) (k := 3) (am_dp pw_X5_countSayings_0 dd_X5_countSayings_0a.2.2.2.2.2.2.1) rfl (by decide) wd314 inX5 rfl).to, ?_⟩
  refine List.forall_mem_cons.mpr ⟨(s_icmp_ge (am_dp pw_X5_countSayings_0 dd_X5_countSayings_0a.2.2.2.2.2.2.2) (by decide)).to, ?_⟩
  refine List.forall_mem_cons.mpr ⟨(s_iloadn (am_dp pw_X5_countSayings_0 dd_X5_countSayings_0b.1) rfl).to, ?_⟩
  refine List.forall_mem_cons.mpr ⟨(s_aloadn (am_dp pw_X5_countSayings_0 dd_X5_countSayings_0b.2.1) rfl).to, ?_⟩
  refine List.forall_mem_cons.mpr ⟨(s_get (ci := 5) (k := 4) (am_dp pw_X5_countSayings_0 dd_X5_countSayings_0b.2.2.1) rfl (by decide) wd317 inX5 rfl).to, ?_⟩
  refine List.forall_mem_cons.mpr ⟨(s_iloadn (am_dp pw_X5_countSayings_0 dd_X5_countSayings_0b.2.2.2.1) rfl).to, ?_⟩
  refine List.forall_mem_cons.mpr ⟨(s_aald (am_dp pw_X5_countSayings_0 dd_X5_countSayings_0b.2.2.2.2.1)).to, ?_⟩
  refine List.forall_mem_cons.mpr ⟨(s_get (ci := 6) (k := 5) (am_dp pw_X5_countSayings_0 dd_X5_countSayings_0b.2.2.2.2.2.1) rfl (by decide) wd256 inX6 rfl).to, ?_⟩
  refine List.forall_mem_cons.mpr ⟨(s_iadd (am_dp pw_X5_countSayings_0 dd_X5_countSayings_0b.2.2.2.2.2.2.1)).to, ?_⟩
  refine List.forall_mem_cons.mpr ⟨(s_istoren (am_dp pw_X5_countSayings_0 dd_X5_countSayings_0b.2.2.2.2.2.2.2) rfl (by decide)).to, ?_⟩
  refine List.forall_mem_cons.mpr ⟨(s_iinc (am_dp pw_X5_countSayings_0 dd_X5_countSayings_0c.1) (by decide) (by decide)).to, ?_⟩
  refine List.forall_mem_cons.mpr ⟨(s_goto (am_dp pw_X5_countSayings_0 dd_X5_countSayings_0c.2.1) (by decide)).to, ?_⟩
  refine List.forall_mem_cons.mpr ⟨(s_iloadn (am_dp pw_X5_countSayings_0 dd_X5_countSayings_0c.2.2.1) rfl).to, ?_⟩
  refine List.forall_mem_cons.mpr ⟨s_iret (am_dp pw_X5_countSayings_0 dd_X5_countSayings_0c.2.2.2) rfl, ?_⟩
  exact fun _ h => absurd h List.not_mem_nil
theorem sn_tX5_countSayers : ∀ q ∈ tX5_countSayers, am_Snd am_P0 RX5 cX5_countSayers 3 (Option.some FieldType.int) "countSayers" q.1 q.2 := by
  unfold tX5_countSayers
  refine List.forall_mem_cons.mpr ⟨(s_iconst (am_dp pw_X5_countSayers_0 dd_X5_countSayers_0a.1) (by decide)).to, ?_⟩
  refine List.forall_mem_cons.mpr ⟨(s_istoren (am_dp pw_X5_countSayers_0 dd_X5_countSayers_0a.2.1) rfl (by decide)).to, ?_⟩
  refine List.forall_mem_cons.mpr ⟨(s_iconst (am_dp pw_X5_countSayers_0 dd_X5_countSayers_0a.2.2.1) (by decide)).to, ?_⟩
  refine List.forall_mem_cons.mpr ⟨(s_istoren (am_dp pw_X5_countSayers_0 dd_X5_countSayers_0a.2.2.2.1) rfl (by decide)).to, ?_⟩
  refine List.forall_mem_cons.mpr ⟨(s_iloadn (am_dp pw_X5_countSayers_0 dd_X5_countSayers_0a.2.2.2.2.1) rfl).to, ?_⟩
  refine List.forall_mem_cons.mpr ⟨(s_aloadn (am_dp pw_X5_countSayers_0 dd_X5_countSayers_0a.2.2.2.2.2.1) rfl).to, ?_⟩
  refine List.forall_mem_cons.mpr ⟨(s_get (ci := 5) (k := 3) (am_dp pw_X5_countSayers_0 dd_X5_countSayers_0a.2.2.2.2.2.2.1) rfl (by decide) wd314 inX5 rfl).to, ?_⟩
  refine List.forall_mem_cons.mpr ⟨(s_icmp_ge (am_dp pw_X5_countSayers_0 dd_X5_countSayers_0a.2.2.2.2.2.2.2) (by decide)).to, ?_⟩
  refine List.forall_mem_cons.mpr ⟨(s_iloadn (am_dp pw_X5_countSayers_0 dd_X5_countSayers_0b.1) rfl).to, ?_⟩
  refine List.forall_mem_cons.mpr ⟨(s_aloadn (am_dp pw_X5_countSayers_0 dd_X5_countSayers_0b.2.1) rfl).to, ?_⟩
  refine List.forall_mem_cons.mpr ⟨(s_get (ci := 5) (k := 4) (am_dp pw_X5_countSayers_0 dd_X5_countSayers_0b.2.2.1) rfl (by decide) wd317 inX5 rfl).to, ?_⟩
  refine List.forall_mem_cons.mpr ⟨(s_iloadn (am_dp pw_X5_countSayers_0 dd_X5_countSayers_0b.2.2.2.1) rfl).to, ?_⟩
  refine List.forall_mem_cons.mpr ⟨(s_aald (am_dp pw_X5_countSayers_0 dd_X5_countSayers_0b.2.2.2.2.1)).to, ?_⟩
  refine List.forall_mem_cons.mpr ⟨(s_get (ci := 6) (k := 5) (am_dp pw_X5_countSayers_0 dd_X5_countSayers_0b.2.2.2.2.2.1) rfl (by decide) wd256 inX6 rfl).to, ?_⟩
  refine List.forall_mem_cons.mpr ⟨(s_if_le (am_dp pw_X5_countSayers_0 dd_X5_countSayers_0b.2.2.2.2.2.2.1) (by decide)).to, ?_⟩
  refine List.forall_mem_cons.mpr ⟨(s_iconst (am_dp pw_X5_countSayers_0 dd_X5_countSayers_0b.2.2.2.2.2.2.2) (by decide)).to, ?_⟩
  refine List.forall_mem_cons.mpr ⟨(s_goto (am_dp pw_X5_countSayers_0 dd_X5_countSayers_0c.1) (by decide)).to, ?_⟩
  refine List.forall_mem_cons.mpr ⟨(s_iconst (am_dp pw_X5_countSayers_0 dd_X5_countSayers_0c.2.1) (by decide)).to, ?_⟩
  refine List.forall_mem_cons.mpr ⟨(s_iadd (am_dp pw_X5_countSayers_0 dd_X5_countSayers_0c.2.2.1)).to, ?_⟩
  refine List.forall_mem_cons.mpr ⟨(s_istoren (am_dp pw_X5_countSayers_0 dd_X5_countSayers_0c.2.2.2) rfl (by decide)).to, ?_⟩
  refine List.forall_mem_cons.mpr ⟨(s_iinc (am_dp pw_X5_countSayers_32 dd_X5_countSayers_32a.1) (by decide) (by decide)).to, ?_⟩
  refine List.forall_mem_cons.mpr ⟨(s_goto (am_dp pw_X5_countSayers_32 dd_X5_countSayers_32a.2.1) (by decide)).to, ?_⟩
  refine List.forall_mem_cons.mpr ⟨(s_iloadn (am_dp pw_X5_countSayers_32 dd_X5_countSayers_32a.2.2.1) rfl).to, ?_⟩
  refine List.forall_mem_cons.mpr ⟨s_iret (am_dp pw_X5_countSayers_32 dd_X5_countSayers_32a.2.2.2) rfl, ?_⟩
  exact fun _ h => absurd h List.not_mem_nil
theorem sn_tX5_countBooks : ∀ q ∈ tX5_countBooks, am_Snd am_P0 RX5 cX5_countBooks 3 (Option.some FieldType.int) "countBooks" q.1 q.2 := by
  unfold tX5_countBooks
  refine List.forall_mem_cons.mpr ⟨(s_iconst (am_dp pw_X5_countBooks_0 dd_X5_countBooks_0a.1) (by decide)).to, ?_⟩
  refine List.forall_mem_cons.mpr ⟨(s_istoren (am_dp pw_X5_countBooks_0 dd_X5_countBooks_0a.2.1) rfl (by decide)).to, ?_⟩
  refine List.forall_mem_cons.mpr ⟨(s_iconst (am_dp pw_X5_countBooks_0 dd_X5_countBooks_0a.2.2.1) (by decide)).to, ?_⟩
  refine List.forall_mem_cons.mpr ⟨(s_istoren (am_dp pw_X5_countBooks_0 dd_X5_countBooks_0a.2.2.2.1) rfl (by decide)).to, ?_⟩
  refine List.forall_mem_cons.mpr ⟨(s_iloadn (am_dp pw_X5_countBooks_0 dd_X5_countBooks_0a.2.2.2.2.1) rfl).to, ?_⟩
  refine List.forall_mem_cons.mpr ⟨(s_aloadn (am_dp pw_X5_countBooks_0 dd_X5_countBooks_0a.2.2.2.2.2.1) rfl).to, ?_⟩
  refine List.forall_mem_cons.mpr ⟨(s_get (ci := 5) (k := 3) (am_dp pw_X5_countBooks_0 dd_X5_countBooks_0a.2.2.2.2.2.2.1) rfl (by decide) wd314 inX5 rfl).to, ?_⟩
  refine List.forall_mem_cons.mpr ⟨(s_icmp_ge (am_dp pw_X5_countBooks_0 dd_X5_countBooks_0a.2.2.2.2.2.2.2) (by decide)).to, ?_⟩
  refine List.forall_mem_cons.mpr ⟨(s_iloadn (am_dp pw_X5_countBooks_0 dd_X5_countBooks_0b.1) rfl).to, ?_⟩
  refine List.forall_mem_cons.mpr ⟨(s_aloadn (am_dp pw_X5_countBooks_0 dd_X5_countBooks_0b.2.1) rfl).to, ?_⟩
  refine List.forall_mem_cons.mpr ⟨(s_get (ci := 5) (k := 4) (am_dp pw_X5_countBooks_0 dd_X5_countBooks_0b.2.2.1) rfl (by decide) wd317 inX5 rfl).to, ?_⟩
  refine List.forall_mem_cons.mpr ⟨(s_iloadn (am_dp pw_X5_countBooks_0 dd_X5_countBooks_0b.2.2.2.1) rfl).to, ?_⟩
  refine List.forall_mem_cons.mpr ⟨(s_aald (am_dp pw_X5_countBooks_0 dd_X5_countBooks_0b.2.2.2.2.1)).to, ?_⟩
  refine List.forall_mem_cons.mpr ⟨(s_get (ci := 6) (k := 9) (am_dp pw_X5_countBooks_0 dd_X5_countBooks_0b.2.2.2.2.2.1) rfl (by decide) wd269 inX6 rfl).to, ?_⟩
  refine List.forall_mem_cons.mpr ⟨(s_iadd (am_dp pw_X5_countBooks_0 dd_X5_countBooks_0b.2.2.2.2.2.2.1)).to, ?_⟩
  refine List.forall_mem_cons.mpr ⟨(s_istoren (am_dp pw_X5_countBooks_0 dd_X5_countBooks_0b.2.2.2.2.2.2.2) rfl (by decide)).to, ?_⟩
  refine List.forall_mem_cons.mpr ⟨(s_iinc (am_dp pw_X5_countBooks_0 dd_X5_countBooks_0c.1) (by decide) (by decide)).to, ?_⟩
  refine List.forall_mem_cons.mpr ⟨(s_goto (am_dp pw_X5_countBooks_0 dd_X5_countBooks_0c.2.1) (by decide)).to, ?_⟩
  refine List.forall_mem_cons.mpr ⟨(s_iloadn (am_dp pw_X5_countBooks_0 dd_X5_countBooks_0c.2.2.1) rfl).to, ?_⟩
  refine List.forall_mem_cons.mpr ⟨s_iret (am_dp pw_X5_countBooks_0 dd_X5_countBooks_0c.2.2.2) rfl, ?_⟩
  exact fun _ h => absurd h List.not_mem_nil
theorem sn_tX5_shipNamed : ∀ q ∈ tX5_shipNamed, am_Snd am_P0 RX5 cX5_shipNamed 3 (Option.some FieldType.int) "shipNamed" q.1 q.2 := by
  unfold tX5_shipNamed
  refine List.forall_mem_cons.mpr ⟨(s_iconst (am_dp pw_X5_shipNamed_0 dd_X5_shipNamed_0a.1) (by decide)).to, ?_⟩
  refine List.forall_mem_cons.mpr ⟨(s_istoren (am_dp pw_X5_shipNamed_0 dd_X5_shipNamed_0a.2.1) rfl (by decide)).to, ?_⟩
  refine List.forall_mem_cons.mpr ⟨(s_iloadn (am_dp pw_X5_shipNamed_0 dd_X5_shipNamed_0a.2.2.1) rfl).to, ?_⟩
  refine List.forall_mem_cons.mpr ⟨(s_aloadn (am_dp pw_X5_shipNamed_0 dd_X5_shipNamed_0a.2.2.2.1) rfl).to, ?_⟩
  refine List.forall_mem_cons.mpr ⟨(s_get (ci := 5) (k := 3) (am_dp pw_X5_shipNamed_0 dd_X5_shipNamed_0a.2.2.2.2.1) rfl (by decide) wd314 inX5 rfl).to, ?_⟩
  refine List.forall_mem_cons.mpr ⟨(s_icmp_ge (am_dp pw_X5_shipNamed_0 dd_X5_shipNamed_0a.2.2.2.2.2.1) (by decide)).to, ?_⟩
  refine List.forall_mem_cons.mpr ⟨(s_aloadn (am_dp pw_X5_shipNamed_0 dd_X5_shipNamed_0a.2.2.2.2.2.2.1) rfl).to, ?_⟩
  refine List.forall_mem_cons.mpr ⟨(s_get (ci := 5) (k := 4) (am_dp pw_X5_shipNamed_0 dd_X5_shipNamed_0a.2.2.2.2.2.2.2) rfl (by decide) wd317 inX5 rfl).to, ?_⟩
  refine List.forall_mem_cons.mpr ⟨(s_iloadn (am_dp pw_X5_shipNamed_0 dd_X5_shipNamed_0b.1) rfl).to, ?_⟩
  refine List.forall_mem_cons.mpr ⟨(s_aald (am_dp pw_X5_shipNamed_0 dd_X5_shipNamed_0b.2.1)).to, ?_⟩
  refine List.forall_mem_cons.mpr ⟨(s_get (ci := 6) (k := 0) (am_dp pw_X5_shipNamed_0 dd_X5_shipNamed_0b.2.2.1) rfl (by decide) wd240 inX6 rfl).to, ?_⟩
  refine List.forall_mem_cons.mpr ⟨(s_iloadn (am_dp pw_X5_shipNamed_0 dd_X5_shipNamed_0b.2.2.2.1) rfl).to, ?_⟩
  refine List.forall_mem_cons.mpr ⟨(s_icmp_ne (am_dp pw_X5_shipNamed_0 dd_X5_shipNamed_0b.2.2.2.2.1) (by decide)).to, ?_⟩
  refine List.forall_mem_cons.mpr ⟨(s_iloadn (am_dp pw_X5_shipNamed_0 dd_X5_shipNamed_0b.2.2.2.2.2.1) rfl).to, ?_⟩
  refine List.forall_mem_cons.mpr ⟨s_iret (am_dp pw_X5_shipNamed_0 dd_X5_shipNamed_0b.2.2.2.2.2.2.1) rfl, ?_⟩
  refine List.forall_mem_cons.mpr ⟨(s_iinc (am_dp pw_X5_shipNamed_0 dd_X5_shipNamed_0b.2.2.2.2.2.2.2) (by decide) (by decide)).to, ?_⟩
  refine List.forall_mem_cons.mpr ⟨(s_goto (am_dp pw_X5_shipNamed_0 dd_X5_shipNamed_0c.1) (by decide)).to, ?_⟩
  refine List.forall_mem_cons.mpr ⟨(s_iconst (am_dp pw_X5_shipNamed_0 dd_X5_shipNamed_0c.2) (by decide)).to, ?_⟩
  refine List.forall_mem_cons.mpr ⟨s_iret (am_dp pw_X5_shipNamed_32 dd_X5_shipNamed_32a) rfl, ?_⟩
  exact fun _ h => absurd h List.not_mem_nil
theorem sn_tX5_launch : ∀ q ∈ tX5_launch, am_Snd am_P0 RX5 cX5_launch 7 (Option.none : Option FieldType) "launch" q.1 q.2 := by
  unfold tX5_launch
  refine List.forall_mem_cons.mpr ⟨(s_aloadn (am_dp pw_X5_launch_0 dd_X5_launch_0a.1) rfl).to, ?_⟩
  refine List.forall_mem_cons.mpr ⟨(s_get (ci := 5) (k := 3) (am_dp pw_X5_launch_0 dd_X5_launch_0a.2.1) rfl (by decide) wd314 inX5 rfl).to, ?_⟩
  refine List.forall_mem_cons.mpr ⟨(s_bipush (am_dp pw_X5_launch_0 dd_X5_launch_0a.2.2.1) (by decide)).to, ?_⟩
  refine List.forall_mem_cons.mpr ⟨(s_icmp_ge (am_dp pw_X5_launch_0 dd_X5_launch_0a.2.2.2.1) (by decide)).to, ?_⟩
  refine List.forall_mem_cons.mpr ⟨(s_aloadn (am_dp pw_X5_launch_0 dd_X5_launch_0a.2.2.2.2.1) rfl).to, ?_⟩
  refine List.forall_mem_cons.mpr ⟨(s_get (ci := 5) (k := 4) (am_dp pw_X5_launch_0 dd_X5_launch_0a.2.2.2.2.2.1) rfl (by decide) wd317 inX5 rfl).to, ?_⟩
  refine List.forall_mem_cons.mpr ⟨(s_aloadn (am_dp pw_X5_launch_0 dd_X5_launch_0a.2.2.2.2.2.2.1) rfl).to, ?_⟩
  refine List.forall_mem_cons.mpr ⟨(s_get (ci := 5) (k := 3) (am_dp pw_X5_launch_0 dd_X5_launch_0a.2.2.2.2.2.2.2) rfl (by decide) wd314 inX5 rfl).to, ?_⟩
  refine List.forall_mem_cons.mpr ⟨(s_aald (am_dp pw_X5_launch_0 dd_X5_launch_0b.1)).to, ?_⟩
  refine List.forall_mem_cons.mpr ⟨(s_astore (am_dp pw_X5_launch_0 dd_X5_launch_0b.2.1) (by decide)).to, ?_⟩
  refine List.forall_mem_cons.mpr ⟨(s_aload (am_dp pw_X5_launch_0 dd_X5_launch_0b.2.2.1)).to, ?_⟩
  refine List.forall_mem_cons.mpr ⟨(s_iloadn (am_dp pw_X5_launch_0 dd_X5_launch_0b.2.2.2.1) rfl).to, ?_⟩
  refine List.forall_mem_cons.mpr ⟨(s_put (ci := 6) (k := 0) (am_dp pw_X5_launch_0 dd_X5_launch_0b.2.2.2.2.1) rfl (by decide) wd240 inX6 tyX6_ok nmX6 rfl rfl).to, ?_⟩
  refine List.forall_mem_cons.mpr ⟨(s_aload (am_dp pw_X5_launch_0 dd_X5_launch_0b.2.2.2.2.2.1)).to, ?_⟩
  refine List.forall_mem_cons.mpr ⟨(s_iloadn (am_dp pw_X5_launch_0 dd_X5_launch_0b.2.2.2.2.2.2.1) rfl).to, ?_⟩
  refine List.forall_mem_cons.mpr ⟨(s_put (ci := 6) (k := 1) (am_dp pw_X5_launch_0 dd_X5_launch_0b.2.2.2.2.2.2.2) rfl (by decide) wd242 inX6 tyX6_ok nmX6 rfl rfl).to, ?_⟩
  refine List.forall_mem_cons.mpr ⟨(s_aload (am_dp pw_X5_launch_32 dd_X5_launch_32a.1)).to, ?_⟩
  refine List.forall_mem_cons.mpr ⟨(s_iloadn (am_dp pw_X5_launch_32 dd_X5_launch_32a.2.1) rfl).to, ?_⟩
  refine List.forall_mem_cons.mpr ⟨(s_put (ci := 6) (k := 2) (am_dp pw_X5_launch_32 dd_X5_launch_32a.2.2.1) rfl (by decide) wd245 inX6 tyX6_ok nmX6 rfl rfl).to, ?_⟩
  refine List.forall_mem_cons.mpr ⟨(s_aload (am_dp pw_X5_launch_32 dd_X5_launch_32a.2.2.2.1)).to, ?_⟩
  refine List.forall_mem_cons.mpr ⟨(s_iload (am_dp pw_X5_launch_32 dd_X5_launch_32a.2.2.2.2.1)).to, ?_⟩
  refine List.forall_mem_cons.mpr ⟨(s_put (ci := 6) (k := 3) (am_dp pw_X5_launch_32 dd_X5_launch_32a.2.2.2.2.2.1) rfl (by decide) wd249 inX6 tyX6_ok nmX6 rfl rfl).to, ?_⟩
  refine List.forall_mem_cons.mpr ⟨(s_aload (am_dp pw_X5_launch_32 dd_X5_launch_32a.2.2.2.2.2.2.1)).to, ?_⟩
  refine List.forall_mem_cons.mpr ⟨(s_iload (am_dp pw_X5_launch_32 dd_X5_launch_32a.2.2.2.2.2.2.2)).to, ?_⟩
  refine List.forall_mem_cons.mpr ⟨(s_put (ci := 6) (k := 4) (am_dp pw_X5_launch_32 dd_X5_launch_32b.1) rfl (by decide) wd252 inX6 tyX6_ok nmX6 rfl rfl).to, ?_⟩
  refine List.forall_mem_cons.mpr ⟨(s_aload (am_dp pw_X5_launch_32 dd_X5_launch_32b.2.1)).to, ?_⟩
  refine List.forall_mem_cons.mpr ⟨(s_iconst (am_dp pw_X5_launch_32 dd_X5_launch_32b.2.2.1) (by decide)).to, ?_⟩
  refine List.forall_mem_cons.mpr ⟨(s_put (ci := 6) (k := 5) (am_dp pw_X5_launch_32 dd_X5_launch_32b.2.2.2.1) rfl (by decide) wd256 inX6 tyX6_ok nmX6 rfl rfl).to, ?_⟩
  refine List.forall_mem_cons.mpr ⟨(s_aload (am_dp pw_X5_launch_32 dd_X5_launch_32b.2.2.2.2.1)).to, ?_⟩
  refine List.forall_mem_cons.mpr ⟨(s_iconst (am_dp pw_X5_launch_32 dd_X5_launch_32b.2.2.2.2.2.1) (by decide)).to, ?_⟩
  refine List.forall_mem_cons.mpr ⟨(s_put (ci := 6) (k := 9) (am_dp pw_X5_launch_32 dd_X5_launch_32b.2.2.2.2.2.2) rfl (by decide) wd269 inX6 tyX6_ok nmX6 rfl rfl).to, ?_⟩
  refine List.forall_mem_cons.mpr ⟨(s_aloadn (am_dp pw_X5_launch_64 dd_X5_launch_64a.1) rfl).to, ?_⟩
  refine List.forall_mem_cons.mpr ⟨(s_dup (am_dp pw_X5_launch_64 dd_X5_launch_64a.2.1)).to, ?_⟩
  refine List.forall_mem_cons.mpr ⟨(s_get (ci := 5) (k := 3) (am_dp pw_X5_launch_64 dd_X5_launch_64a.2.2.1) rfl (by decide) wd314 inX5 rfl).to, ?_⟩
  refine List.forall_mem_cons.mpr ⟨(s_iconst (am_dp pw_X5_launch_64 dd_X5_launch_64a.2.2.2.1) (by decide)).to, ?_⟩
  refine List.forall_mem_cons.mpr ⟨(s_iadd (am_dp pw_X5_launch_64 dd_X5_launch_64a.2.2.2.2.1)).to, ?_⟩
  refine List.forall_mem_cons.mpr ⟨(s_put (ci := 5) (k := 3) (am_dp pw_X5_launch_64 dd_X5_launch_64a.2.2.2.2.2.1) rfl (by decide) wd314 inX5 tyX5_ok nmX5 rfl rfl).to, ?_⟩
  refine List.forall_mem_cons.mpr ⟨s_vret (am_dp pw_X5_launch_64 dd_X5_launch_64a.2.2.2.2.2.2) rfl, ?_⟩
  exact fun _ h => absurd h List.not_mem_nil
theorem sn_tX6_init : ∀ q ∈ tX6_init, am_Snd am_P0 RX6 cX6_init 1 (Option.none : Option FieldType) "<init>" q.1 q.2 := by
  unfold tX6_init
  refine List.forall_mem_cons.mpr ⟨(s_aloadn (am_dp pw_X6_init_0 dd_X6_init_0a.1) rfl).to, ?_⟩
  refine List.forall_mem_cons.mpr ⟨(s_obj (am_dp pw_X6_init_0 dd_X6_init_0a.2.1) wd238 wd160 wd161).to, ?_⟩
  refine List.forall_mem_cons.mpr ⟨(s_aloadn (am_dp pw_X6_init_0 dd_X6_init_0a.2.2.1) rfl).to, ?_⟩
  refine List.forall_mem_cons.mpr ⟨(s_bipush (am_dp pw_X6_init_0 dd_X6_init_0a.2.2.2.1) (by decide)).to, ?_⟩
  refine List.forall_mem_cons.mpr ⟨(s_newa (kd := 0) (ty := .int) (am_dp pw_X6_init_0 dd_X6_init_0a.2.2.2.2.1) rfl rfl wd195 (by decide) (by decide) (fun _ _ h => h)).to, ?_⟩
  refine List.forall_mem_cons.mpr ⟨(s_putF (ci := 6) (k := 6) (am_dp pw_X6_init_0 dd_X6_init_0a.2.2.2.2.2.1) rfl (by decide) wd257 inX6 tyX6_ok nmX6 rfl rfl rfl rfl).to, ?_⟩
  refine List.forall_mem_cons.mpr ⟨(s_aloadn (am_dp pw_X6_init_0 dd_X6_init_0a.2.2.2.2.2.2.1) rfl).to, ?_⟩
  refine List.forall_mem_cons.mpr ⟨(s_bipush (am_dp pw_X6_init_0 dd_X6_init_0a.2.2.2.2.2.2.2) (by decide)).to, ?_⟩
  refine List.forall_mem_cons.mpr ⟨(s_newa (kd := 0) (ty := .int) (am_dp pw_X6_init_0 dd_X6_init_0b.1) rfl rfl wd195 (by decide) (by decide) (fun _ _ h => h)).to, ?_⟩
  refine List.forall_mem_cons.mpr ⟨(s_putF (ci := 6) (k := 7) (am_dp pw_X6_init_0 dd_X6_init_0b.2.1) rfl (by decide) wd260 inX6 tyX6_ok nmX6 rfl rfl rfl rfl).to, ?_⟩
  refine List.forall_mem_cons.mpr ⟨(s_aloadn (am_dp pw_X6_init_0 dd_X6_init_0b.2.2.1) rfl).to, ?_⟩
  refine List.forall_mem_cons.mpr ⟨(s_bipush (am_dp pw_X6_init_0 dd_X6_init_0b.2.2.2.1) (by decide)).to, ?_⟩
  refine List.forall_mem_cons.mpr ⟨(s_newa (kd := 2) (ty := .boolean) (am_dp pw_X6_init_0 dd_X6_init_0b.2.2.2.2.1) rfl rfl wd304 (by decide) (by decide) (fun _ _ h => h)).to, ?_⟩
  refine List.forall_mem_cons.mpr ⟨(s_putF (ci := 6) (k := 8) (am_dp pw_X6_init_0 dd_X6_init_0b.2.2.2.2.2.1) rfl (by decide) wd263 inX6 tyX6_ok nmX6 rfl rfl rfl rfl).to, ?_⟩
  refine List.forall_mem_cons.mpr ⟨(s_aloadn (am_dp pw_X6_init_0 dd_X6_init_0b.2.2.2.2.2.2.1) rfl).to, ?_⟩
  refine List.forall_mem_cons.mpr ⟨(s_bipush (am_dp pw_X6_init_0 dd_X6_init_0b.2.2.2.2.2.2.2) (by decide)).to, ?_⟩
  refine List.forall_mem_cons.mpr ⟨(s_newa (kd := 0) (ty := .int) (am_dp pw_X6_init_0 dd_X6_init_0c) rfl rfl wd195 (by decide) (by decide) (fun _ _ h => h)).to, ?_⟩
  refine List.forall_mem_cons.mpr ⟨(s_putF (ci := 6) (k := 10) (am_dp pw_X6_init_32 dd_X6_init_32a.1) rfl (by decide) wd270 inX6 tyX6_ok nmX6 rfl rfl rfl rfl).to, ?_⟩
  refine List.forall_mem_cons.mpr ⟨(s_aloadn (am_dp pw_X6_init_32 dd_X6_init_32a.2.1) rfl).to, ?_⟩
  refine List.forall_mem_cons.mpr ⟨(s_bipush (am_dp pw_X6_init_32 dd_X6_init_32a.2.2.1) (by decide)).to, ?_⟩
  refine List.forall_mem_cons.mpr ⟨(s_newa (kd := 0) (ty := .int) (am_dp pw_X6_init_32 dd_X6_init_32a.2.2.2.1) rfl rfl wd195 (by decide) (by decide) (fun _ _ h => h)).to, ?_⟩
  refine List.forall_mem_cons.mpr ⟨(s_putF (ci := 6) (k := 11) (am_dp pw_X6_init_32 dd_X6_init_32a.2.2.2.2.1) rfl (by decide) wd272 inX6 tyX6_ok nmX6 rfl rfl rfl rfl).to, ?_⟩
  refine List.forall_mem_cons.mpr ⟨(s_aloadn (am_dp pw_X6_init_32 dd_X6_init_32a.2.2.2.2.2.1) rfl).to, ?_⟩
  refine List.forall_mem_cons.mpr ⟨(s_bipush (am_dp pw_X6_init_32 dd_X6_init_32a.2.2.2.2.2.2.1) (by decide)).to, ?_⟩
  refine List.forall_mem_cons.mpr ⟨(s_newa (kd := 0) (ty := .int) (am_dp pw_X6_init_32 dd_X6_init_32a.2.2.2.2.2.2.2) rfl rfl wd195 (by decide) (by decide) (fun _ _ h => h)).to, ?_⟩
  refine List.forall_mem_cons.mpr ⟨(s_putF (ci := 6) (k := 12) (am_dp pw_X6_init_32 dd_X6_init_32b.1) rfl (by decide) wd274 inX6 tyX6_ok nmX6 rfl rfl rfl rfl).to, ?_⟩
  refine List.forall_mem_cons.mpr ⟨s_vret (am_dp pw_X6_init_32 dd_X6_init_32b.2) rfl, ?_⟩
  exact fun _ h => absurd h List.not_mem_nil
theorem sn_tX6_hasSaid : ∀ q ∈ tX6_hasSaid, am_Snd am_P0 RX6 cX6_hasSaid 3 (Option.some FieldType.boolean) "hasSaid" q.1 q.2 := by
  unfold tX6_hasSaid
  refine List.forall_mem_cons.mpr ⟨(s_iconst (am_dp pw_X6_hasSaid_0 dd_X6_hasSaid_0a.1) (by decide)).to, ?_⟩
  refine List.forall_mem_cons.mpr ⟨(s_istoren (am_dp pw_X6_hasSaid_0 dd_X6_hasSaid_0a.2.1) rfl (by decide)).to, ?_⟩
  refine List.forall_mem_cons.mpr ⟨(s_iloadn (am_dp pw_X6_hasSaid_0 dd_X6_hasSaid_0a.2.2.1) rfl).to, ?_⟩
  refine List.forall_mem_cons.mpr ⟨(s_aloadn (am_dp pw_X6_hasSaid_0 dd_X6_hasSaid_0a.2.2.2.1) rfl).to, ?_⟩
  refine List.forall_mem_cons.mpr ⟨(s_get (ci := 6) (k := 5) (am_dp pw_X6_hasSaid_0 dd_X6_hasSaid_0a.2.2.2.2.1) rfl (by decide) wd253 inX6 rfl).to, ?_⟩
  refine List.forall_mem_cons.mpr ⟨(s_icmp_ge (am_dp pw_X6_hasSaid_0 dd_X6_hasSaid_0a.2.2.2.2.2.1) (by decide)).to, ?_⟩
  refine List.forall_mem_cons.mpr ⟨(s_aloadn (am_dp pw_X6_hasSaid_0 dd_X6_hasSaid_0a.2.2.2.2.2.2.1) rfl).to, ?_⟩
  refine List.forall_mem_cons.mpr ⟨(s_get (ci := 6) (k := 6) (am_dp pw_X6_hasSaid_0 dd_X6_hasSaid_0a.2.2.2.2.2.2.2) rfl (by decide) wd257 inX6 rfl).to, ?_⟩
  refine List.forall_mem_cons.mpr ⟨(s_iloadn (am_dp pw_X6_hasSaid_0 dd_X6_hasSaid_0b.1) rfl).to, ?_⟩
  refine List.forall_mem_cons.mpr ⟨(s_iald (am_dp pw_X6_hasSaid_0 dd_X6_hasSaid_0b.2.1)).to, ?_⟩
  refine List.forall_mem_cons.mpr ⟨(s_iloadn (am_dp pw_X6_hasSaid_0 dd_X6_hasSaid_0b.2.2.1) rfl).to, ?_⟩
  refine List.forall_mem_cons.mpr ⟨(s_icmp_ne (am_dp pw_X6_hasSaid_0 dd_X6_hasSaid_0b.2.2.2.1) (by decide)).to, ?_⟩
  refine List.forall_mem_cons.mpr ⟨(s_iconst (am_dp pw_X6_hasSaid_0 dd_X6_hasSaid_0b.2.2.2.2.1) (by decide)).to, ?_⟩
  refine List.forall_mem_cons.mpr ⟨s_zret (am_dp pw_X6_hasSaid_0 dd_X6_hasSaid_0b.2.2.2.2.2.1) rfl, ?_⟩
  refine List.forall_mem_cons.mpr ⟨(s_iinc (am_dp pw_X6_hasSaid_0 dd_X6_hasSaid_0b.2.2.2.2.2.2.1) (by decide) (by decide)).to, ?_⟩
  refine List.forall_mem_cons.mpr ⟨(s_goto (am_dp pw_X6_hasSaid_0 dd_X6_hasSaid_0b.2.2.2.2.2.2.2) (by decide)).to, ?_⟩
  refine List.forall_mem_cons.mpr ⟨(s_iconst (am_dp pw_X6_hasSaid_0 dd_X6_hasSaid_0c.1) (by decide)).to, ?_⟩
  refine List.forall_mem_cons.mpr ⟨s_zret (am_dp pw_X6_hasSaid_0 dd_X6_hasSaid_0c.2) rfl, ?_⟩
  exact fun _ h => absurd h List.not_mem_nil
