/-! 16.sn06 16.sn07 16.sn08 16.sn09 16.sn10 -/
section
/-! the machine follows each instruction (by program: gen_prog.py) -/
theorem sn_tX11_isSign : ∀ q ∈ tX11_isSign, am_Snd am_P0 RX11 cX11_isSign 2 (Option.some FieldType.boolean) "isSign" q.1 q.2 := by
  unfold tX11_isSign
  refine List.forall_mem_cons.mpr ⟨(s_aloadn (am_dp pw_X11_isSign_0 dd_X11_isSign_0a.1) rfl).to, ?_⟩
  refine List.forall_mem_cons.mpr ⟨(s_get (ci := 11) (k := 3) (am_dp pw_X11_isSign_0 dd_X11_isSign_0a.2.1) rfl (by decide) wd1336 inX11 rfl).to, ?_⟩
  refine List.forall_mem_cons.mpr ⟨(s_iconst (am_dp pw_X11_isSign_0 dd_X11_isSign_0a.2.2.1) (by decide)).to, ?_⟩
  refine List.forall_mem_cons.mpr ⟨(s_icmp_ne (am_dp pw_X11_isSign_0 dd_X11_isSign_0a.2.2.2.1) (by decide)).to, ?_⟩
  refine List.forall_mem_cons.mpr ⟨(s_aloadn (am_dp pw_X11_isSign_0 dd_X11_isSign_0a.2.2.2.2.1) rfl).to, ?_⟩
  refine List.forall_mem_cons.mpr ⟨(s_get (ci := 11) (k := 6) (am_dp pw_X11_isSign_0 dd_X11_isSign_0a.2.2.2.2.2.1) rfl (by decide) wd1339 inX11 rfl).to, ?_⟩
  refine List.forall_mem_cons.mpr ⟨(s_iloadn (am_dp pw_X11_isSign_0 dd_X11_isSign_0a.2.2.2.2.2.2.1) rfl).to, ?_⟩
  refine List.forall_mem_cons.mpr ⟨(s_icmp_ne (am_dp pw_X11_isSign_0 dd_X11_isSign_0a.2.2.2.2.2.2.2) (by decide)).to, ?_⟩
  refine List.forall_mem_cons.mpr ⟨(s_iconst (am_dp pw_X11_isSign_0 dd_X11_isSign_0b.1) (by decide)).to, ?_⟩
  refine List.forall_mem_cons.mpr ⟨(s_goto (am_dp pw_X11_isSign_0 dd_X11_isSign_0b.2.1) (by decide)).to, ?_⟩
  refine List.forall_mem_cons.mpr ⟨(s_iconst (am_dp pw_X11_isSign_0 dd_X11_isSign_0b.2.2.1) (by decide)).to, ?_⟩
  refine List.forall_mem_cons.mpr ⟨s_zret (am_dp pw_X11_isSign_0 dd_X11_isSign_0b.2.2.2) rfl, ?_⟩
  exact fun _ h => absurd h List.not_mem_nil
theorem sn_tX11_isWord : ∀ q ∈ tX11_isWord, am_Snd am_P0 RX11 cX11_isWord 3 (Option.some FieldType.boolean) "isWord" q.1 q.2 := by
  unfold tX11_isWord
  refine List.forall_mem_cons.mpr ⟨(s_aloadn (am_dp pw_X11_isWord_0 dd_X11_isWord_0a.1) rfl).to, ?_⟩
  refine List.forall_mem_cons.mpr ⟨(s_get (ci := 11) (k := 3) (am_dp pw_X11_isWord_0 dd_X11_isWord_0a.2.1) rfl (by decide) wd1336 inX11 rfl).to, ?_⟩
  refine List.forall_mem_cons.mpr ⟨(s_iconst (am_dp pw_X11_isWord_0 dd_X11_isWord_0a.2.2.1) (by decide)).to, ?_⟩
  refine List.forall_mem_cons.mpr ⟨(s_icmp_ne (am_dp pw_X11_isWord_0 dd_X11_isWord_0a.2.2.2.1) (by decide)).to, ?_⟩
  refine List.forall_mem_cons.mpr ⟨(s_aloadn (am_dp pw_X11_isWord_0 dd_X11_isWord_0a.2.2.2.2.1) rfl).to, ?_⟩
  refine List.forall_mem_cons.mpr ⟨(s_get (ci := 11) (k := 7) (am_dp pw_X11_isWord_0 dd_X11_isWord_0a.2.2.2.2.2.1) rfl (by decide) wd1340 inX11 rfl).to, ?_⟩
  refine List.forall_mem_cons.mpr ⟨(s_lloadn (am_dp pw_X11_isWord_0 dd_X11_isWord_0a.2.2.2.2.2.2.1) rfl).to, ?_⟩
  refine List.forall_mem_cons.mpr ⟨(s_lcmp (am_dp pw_X11_isWord_0 dd_X11_isWord_0a.2.2.2.2.2.2.2)).to, ?_⟩
  refine List.forall_mem_cons.mpr ⟨(s_if_ne (am_dp pw_X11_isWord_0 dd_X11_isWord_0b.1) (by decide)).to, ?_⟩
  refine List.forall_mem_cons.mpr ⟨(s_iconst (am_dp pw_X11_isWord_0 dd_X11_isWord_0b.2.1) (by decide)).to, ?_⟩
  refine List.forall_mem_cons.mpr ⟨(s_goto (am_dp pw_X11_isWord_0 dd_X11_isWord_0b.2.2.1) (by decide)).to, ?_⟩
  refine List.forall_mem_cons.mpr ⟨(s_iconst (am_dp pw_X11_isWord_0 dd_X11_isWord_0b.2.2.2.1) (by decide)).to, ?_⟩
  refine List.forall_mem_cons.mpr ⟨s_zret (am_dp pw_X11_isWord_0 dd_X11_isWord_0b.2.2.2.2) rfl, ?_⟩
  exact fun _ h => absurd h List.not_mem_nil
theorem sn_tX11_must : ∀ q ∈ tX11_must, am_Snd am_P0 RX11 cX11_must 2 (Option.none : Option FieldType) "must" q.1 q.2 := by
  unfold tX11_must
  refine List.forall_mem_cons.mpr ⟨(s_aloadn (am_dp pw_X11_must_0 dd_X11_must_0a.1) rfl).to, ?_⟩
  refine List.forall_mem_cons.mpr ⟨(s_iloadn (am_dp pw_X11_must_0 dd_X11_must_0a.2.1) rfl).to, ?_⟩
  refine List.forall_mem_cons.mpr ⟨zw_cv175 (am_dp pw_X11_must_0 dd_X11_must_0a.2.2.1) wd1637, ?_⟩
  refine List.forall_mem_cons.mpr ⟨(s_if_ne (am_dp pw_X11_must_0 dd_X11_must_0a.2.2.2.1) (by decide)).to, ?_⟩
  refine List.forall_mem_cons.mpr ⟨(s_aloadn (am_dp pw_X11_must_0 dd_X11_must_0a.2.2.2.2.1) rfl).to, ?_⟩
  refine List.forall_mem_cons.mpr ⟨(s_iconst (am_dp pw_X11_must_0 dd_X11_must_0a.2.2.2.2.2.1) (by decide)).to, ?_⟩
  refine List.forall_mem_cons.mpr ⟨(s_aloadn (am_dp pw_X11_must_0 dd_X11_must_0a.2.2.2.2.2.2.1) rfl).to, ?_⟩
  refine List.forall_mem_cons.mpr ⟨(s_get (ci := 11) (k := 4) (am_dp pw_X11_must_0 dd_X11_must_0a.2.2.2.2.2.2.2) rfl (by decide) wd1337 inX11 rfl).to, ?_⟩
  refine List.forall_mem_cons.mpr ⟨zw_cv171 (am_dp pw_X11_must_0 dd_X11_must_0b.1) wd1613, ?_⟩
  refine List.forall_mem_cons.mpr ⟨(s_aloadn (am_dp pw_X11_must_0 dd_X11_must_0b.2.1) rfl).to, ?_⟩
  refine List.forall_mem_cons.mpr ⟨(s_get (ci := 11) (k := 8) (am_dp pw_X11_must_0 dd_X11_must_0b.2.2.1) rfl (by decide) wd1341 inX11 rfl).to, ?_⟩
  refine List.forall_mem_cons.mpr ⟨(s_if_ne (am_dp pw_X11_must_0 dd_X11_must_0b.2.2.2.1) (by decide)).to, ?_⟩
  refine List.forall_mem_cons.mpr ⟨(s_aloadn (am_dp pw_X11_must_0 dd_X11_must_0b.2.2.2.2.1) rfl).to, ?_⟩
  refine List.forall_mem_cons.mpr ⟨zw_cv174 (am_dp pw_X11_must_0 dd_X11_must_0b.2.2.2.2.2.1) wd1603, ?_⟩
  refine List.forall_mem_cons.mpr ⟨s_vret (am_dp pw_X11_must_0 dd_X11_must_0b.2.2.2.2.2.2) rfl, ?_⟩
  exact fun _ h => absurd h List.not_mem_nil
theorem sn_tX11_isOwn_0 : ∀ q ∈ tX11_isOwn_0, am_Snd am_P0 RX11 cX11_isOwn 3 (Option.some FieldType.boolean) "isOwn" q.1 q.2 := by
  unfold tX11_isOwn_0
  refine List.forall_mem_cons.mpr ⟨(s_lloadn (am_dp pw_X11_isOwn_0 dd_X11_isOwn_0a.1) rfl).to, ?_⟩
  refine List.forall_mem_cons.mpr ⟨(s_ldc2 (am_dp pw_X11_isOwn_0 dd_X11_isOwn_0a.2.1) wd1621).to, ?_⟩
  refine List.forall_mem_cons.mpr ⟨(s_lcmp (am_dp pw_X11_isOwn_0 dd_X11_isOwn_0a.2.2.1)).to, ?_⟩
  refine List.forall_mem_cons.mpr ⟨(s_if_eq (am_dp pw_X11_isOwn_0 dd_X11_isOwn_0a.2.2.2.1) (by decide)).to, ?_⟩
  refine List.forall_mem_cons.mpr ⟨(s_lloadn (am_dp pw_X11_isOwn_0 dd_X11_isOwn_0a.2.2.2.2.1) rfl).to, ?_⟩
  refine List.forall_mem_cons.mpr ⟨(s_ldc2 (am_dp pw_X11_isOwn_0 dd_X11_isOwn_0a.2.2.2.2.2.1) wd1645).to, ?_⟩
  refine List.forall_mem_cons.mpr ⟨(s_lcmp (am_dp pw_X11_isOwn_0 dd_X11_isOwn_0a.2.2.2.2.2.2.1)).to, ?_⟩
  refine List.forall_mem_cons.mpr ⟨(s_if_eq (am_dp pw_X11_isOwn_0 dd_X11_isOwn_0a.2.2.2.2.2.2.2) (by decide)).to, ?_⟩
  refine List.forall_mem_cons.mpr ⟨(s_lloadn (am_dp pw_X11_isOwn_0 dd_X11_isOwn_0b.1) rfl).to, ?_⟩
  refine List.forall_mem_cons.mpr ⟨(s_ldc2 (am_dp pw_X11_isOwn_0 dd_X11_isOwn_0b.2.1) wd1712).to, ?_⟩
  refine List.forall_mem_cons.mpr ⟨(s_lcmp (am_dp pw_X11_isOwn_0 dd_X11_isOwn_0b.2.2.1)).to, ?_⟩
  refine List.forall_mem_cons.mpr ⟨(s_if_eq (am_dp pw_X11_isOwn_0 dd_X11_isOwn_0b.2.2.2.1) (by decide)).to, ?_⟩
  refine List.forall_mem_cons.mpr ⟨(s_lloadn (am_dp pw_X11_isOwn_0 dd_X11_isOwn_0b.2.2.2.2.1) rfl).to, ?_⟩
  refine List.forall_mem_cons.mpr ⟨(s_ldc2 (am_dp pw_X11_isOwn_0 dd_X11_isOwn_0b.2.2.2.2.2.1) wd1713).to, ?_⟩
  refine List.forall_mem_cons.mpr ⟨(s_lcmp (am_dp pw_X11_isOwn_0 dd_X11_isOwn_0b.2.2.2.2.2.2.1)).to, ?_⟩
  refine List.forall_mem_cons.mpr ⟨(s_if_eq (am_dp pw_X11_isOwn_0 dd_X11_isOwn_0b.2.2.2.2.2.2.2) (by decide)).to, ?_⟩
  refine List.forall_mem_cons.mpr ⟨(s_lloadn (am_dp pw_X11_isOwn_32 dd_X11_isOwn_32a.1) rfl).to, ?_⟩
  refine List.forall_mem_cons.mpr ⟨(s_ldc2 (am_dp pw_X11_isOwn_32 dd_X11_isOwn_32a.2.1) wd1714).to, ?_⟩
  refine List.forall_mem_cons.mpr ⟨(s_lcmp (am_dp pw_X11_isOwn_32 dd_X11_isOwn_32a.2.2.1)).to, ?_⟩
  refine List.forall_mem_cons.mpr ⟨(s_if_ne (am_dp pw_X11_isOwn_32 dd_X11_isOwn_32a.2.2.2.1) (by decide)).to, ?_⟩
  refine List.forall_mem_cons.mpr ⟨(s_iconst (am_dp pw_X11_isOwn_32 dd_X11_isOwn_32a.2.2.2.2.1) (by decide)).to, ?_⟩
  refine List.forall_mem_cons.mpr ⟨s_zret (am_dp pw_X11_isOwn_32 dd_X11_isOwn_32a.2.2.2.2.2.1) rfl, ?_⟩
  refine List.forall_mem_cons.mpr ⟨(s_lloadn (am_dp pw_X11_isOwn_32 dd_X11_isOwn_32a.2.2.2.2.2.2.1) rfl).to, ?_⟩
  refine List.forall_mem_cons.mpr ⟨(s_ldc2 (am_dp pw_X11_isOwn_32 dd_X11_isOwn_32a.2.2.2.2.2.2.2) wd1727).to, ?_⟩
  refine List.forall_mem_cons.mpr ⟨(s_lcmp (am_dp pw_X11_isOwn_32 dd_X11_isOwn_32b.1)).to, ?_⟩
  refine List.forall_mem_cons.mpr ⟨(s_if_eq (am_dp pw_X11_isOwn_32 dd_X11_isOwn_32b.2.1) (by decide)).to, ?_⟩
  refine List.forall_mem_cons.mpr ⟨(s_lloadn (am_dp pw_X11_isOwn_32 dd_X11_isOwn_32b.2.2.1) rfl).to, ?_⟩
  refine List.forall_mem_cons.mpr ⟨(s_ldc2 (am_dp pw_X11_isOwn_32 dd_X11_isOwn_32b.2.2.2.1) wd1728).to, ?_⟩
  refine List.forall_mem_cons.mpr ⟨(s_lcmp (am_dp pw_X11_isOwn_32 dd_X11_isOwn_32b.2.2.2.2.1)).to, ?_⟩
  refine List.forall_mem_cons.mpr ⟨(s_if_eq (am_dp pw_X11_isOwn_32 dd_X11_isOwn_32b.2.2.2.2.2.1) (by decide)).to, ?_⟩
  refine List.forall_mem_cons.mpr ⟨(s_lloadn (am_dp pw_X11_isOwn_32 dd_X11_isOwn_32b.2.2.2.2.2.2.1) rfl).to, ?_⟩
  refine List.forall_mem_cons.mpr ⟨(s_ldc2 (am_dp pw_X11_isOwn_32 dd_X11_isOwn_32b.2.2.2.2.2.2.2) wd1729).to, ?_⟩
  refine List.forall_mem_cons.mpr ⟨(s_lcmp (am_dp pw_X11_isOwn_32 dd_X11_isOwn_32c.1)).to, ?_⟩
  refine List.forall_mem_cons.mpr ⟨(s_if_eq (am_dp pw_X11_isOwn_32 dd_X11_isOwn_32c.2) (by decide)).to, ?_⟩
  refine List.forall_mem_cons.mpr ⟨(s_lloadn (am_dp pw_X11_isOwn_64 dd_X11_isOwn_64a.1) rfl).to, ?_⟩
  refine List.forall_mem_cons.mpr ⟨(s_ldc2 (am_dp pw_X11_isOwn_64 dd_X11_isOwn_64a.2.1) wd1730).to, ?_⟩
  refine List.forall_mem_cons.mpr ⟨(s_lcmp (am_dp pw_X11_isOwn_64 dd_X11_isOwn_64a.2.2.1)).to, ?_⟩
  refine List.forall_mem_cons.mpr ⟨(s_if_eq (am_dp pw_X11_isOwn_64 dd_X11_isOwn_64a.2.2.2.1) (by decide)).to, ?_⟩
  refine List.forall_mem_cons.mpr ⟨(s_lloadn (am_dp pw_X11_isOwn_64 dd_X11_isOwn_64a.2.2.2.2.1) rfl).to, ?_⟩
  refine List.forall_mem_cons.mpr ⟨(s_ldc2 (am_dp pw_X11_isOwn_64 dd_X11_isOwn_64a.2.2.2.2.2.1) wd1731).to, ?_⟩
  refine List.forall_mem_cons.mpr ⟨(s_lcmp (am_dp pw_X11_isOwn_64 dd_X11_isOwn_64a.2.2.2.2.2.2.1)).to, ?_⟩
  refine List.forall_mem_cons.mpr ⟨(s_if_ne (am_dp pw_X11_isOwn_64 dd_X11_isOwn_64a.2.2.2.2.2.2.2) (by decide)).to, ?_⟩
  refine List.forall_mem_cons.mpr ⟨(s_iconst (am_dp pw_X11_isOwn_64 dd_X11_isOwn_64b.1) (by decide)).to, ?_⟩
  refine List.forall_mem_cons.mpr ⟨s_zret (am_dp pw_X11_isOwn_64 dd_X11_isOwn_64b.2.1) rfl, ?_⟩
  refine List.forall_mem_cons.mpr ⟨(s_lloadn (am_dp pw_X11_isOwn_64 dd_X11_isOwn_64b.2.2.1) rfl).to, ?_⟩
  refine List.forall_mem_cons.mpr ⟨(s_ldc2 (am_dp pw_X11_isOwn_64 dd_X11_isOwn_64b.2.2.2.1) wd1732).to, ?_⟩
  refine List.forall_mem_cons.mpr ⟨(s_lcmp (am_dp pw_X11_isOwn_64 dd_X11_isOwn_64b.2.2.2.2.1)).to, ?_⟩
  refine List.forall_mem_cons.mpr ⟨(s_if_eq (am_dp pw_X11_isOwn_64 dd_X11_isOwn_64b.2.2.2.2.2.1) (by decide)).to, ?_⟩
  refine List.forall_mem_cons.mpr ⟨(s_lloadn (am_dp pw_X11_isOwn_64 dd_X11_isOwn_64b.2.2.2.2.2.2.1) rfl).to, ?_⟩
  refine List.forall_mem_cons.mpr ⟨(s_ldc2 (am_dp pw_X11_isOwn_64 dd_X11_isOwn_64b.2.2.2.2.2.2.2) wd1733).to, ?_⟩
  refine List.forall_mem_cons.mpr ⟨(s_lcmp (am_dp pw_X11_isOwn_96 dd_X11_isOwn_96a.1)).to, ?_⟩
  refine List.forall_mem_cons.mpr ⟨(s_if_eq (am_dp pw_X11_isOwn_96 dd_X11_isOwn_96a.2.1) (by decide)).to, ?_⟩
  refine List.forall_mem_cons.mpr ⟨(s_lloadn (am_dp pw_X11_isOwn_96 dd_X11_isOwn_96a.2.2.1) rfl).to, ?_⟩
  refine List.forall_mem_cons.mpr ⟨(s_ldc2 (am_dp pw_X11_isOwn_96 dd_X11_isOwn_96a.2.2.2.1) wd1734).to, ?_⟩
  refine List.forall_mem_cons.mpr ⟨(s_lcmp (am_dp pw_X11_isOwn_96 dd_X11_isOwn_96a.2.2.2.2.1)).to, ?_⟩
  refine List.forall_mem_cons.mpr ⟨(s_if_eq (am_dp pw_X11_isOwn_96 dd_X11_isOwn_96a.2.2.2.2.2.1) (by decide)).to, ?_⟩
  refine List.forall_mem_cons.mpr ⟨(s_lloadn (am_dp pw_X11_isOwn_96 dd_X11_isOwn_96a.2.2.2.2.2.2.1) rfl).to, ?_⟩
  refine List.forall_mem_cons.mpr ⟨(s_ldc2 (am_dp pw_X11_isOwn_96 dd_X11_isOwn_96a.2.2.2.2.2.2.2) wd1735).to, ?_⟩
  refine List.forall_mem_cons.mpr ⟨(s_lcmp (am_dp pw_X11_isOwn_96 dd_X11_isOwn_96b.1)).to, ?_⟩
  refine List.forall_mem_cons.mpr ⟨(s_if_eq (am_dp pw_X11_isOwn_96 dd_X11_isOwn_96b.2.1) (by decide)).to, ?_⟩
  exact fun _ h => absurd h List.not_mem_nil
theorem sn_tX11_isOwn_1 : ∀ q ∈ tX11_isOwn_1, am_Snd am_P0 RX11 cX11_isOwn 3 (Option.some FieldType.boolean) "isOwn" q.1 q.2 := by
  unfold tX11_isOwn_1
  refine List.forall_mem_cons.mpr ⟨(s_lloadn (am_dp pw_X11_isOwn_96 dd_X11_isOwn_96b.2.2.1) rfl).to, ?_⟩
  refine List.forall_mem_cons.mpr ⟨(s_ldc2 (am_dp pw_X11_isOwn_96 dd_X11_isOwn_96b.2.2.2.1) wd1736).to, ?_⟩
  refine List.forall_mem_cons.mpr ⟨(s_lcmp (am_dp pw_X11_isOwn_96 dd_X11_isOwn_96b.2.2.2.2.1)).to, ?_⟩
  refine List.forall_mem_cons.mpr ⟨(s_if_ne (am_dp pw_X11_isOwn_96 dd_X11_isOwn_96b.2.2.2.2.2.1) (by decide)).to, ?_⟩
  refine List.forall_mem_cons.mpr ⟨(s_iconst (am_dp pw_X11_isOwn_96 dd_X11_isOwn_96b.2.2.2.2.2.2.1) (by decide)).to, ?_⟩
  refine List.forall_mem_cons.mpr ⟨s_zret (am_dp pw_X11_isOwn_96 dd_X11_isOwn_96b.2.2.2.2.2.2.2) rfl, ?_⟩
  refine List.forall_mem_cons.mpr ⟨(s_lloadn (am_dp pw_X11_isOwn_96 dd_X11_isOwn_96c.1) rfl).to, ?_⟩
  refine List.forall_mem_cons.mpr ⟨(s_ldc2 (am_dp pw_X11_isOwn_96 dd_X11_isOwn_96c.2) wd1737).to, ?_⟩
  refine List.forall_mem_cons.mpr ⟨(s_lcmp (am_dp pw_X11_isOwn_128 dd_X11_isOwn_128a.1)).to, ?_⟩
  refine List.forall_mem_cons.mpr ⟨(s_if_eq (am_dp pw_X11_isOwn_128 dd_X11_isOwn_128a.2.1) (by decide)).to, ?_⟩
  refine List.forall_mem_cons.mpr ⟨(s_lloadn (am_dp pw_X11_isOwn_128 dd_X11_isOwn_128a.2.2.1) rfl).to, ?_⟩
  refine List.forall_mem_cons.mpr ⟨(s_ldc2 (am_dp pw_X11_isOwn_128 dd_X11_isOwn_128a.2.2.2.1) wd1693).to, ?_⟩
  refine List.forall_mem_cons.mpr ⟨(s_lcmp (am_dp pw_X11_isOwn_128 dd_X11_isOwn_128a.2.2.2.2.1)).to, ?_⟩
  refine List.forall_mem_cons.mpr ⟨(s_if_eq (am_dp pw_X11_isOwn_128 dd_X11_isOwn_128a.2.2.2.2.2.1) (by decide)).to, ?_⟩
  refine List.forall_mem_cons.mpr ⟨(s_lloadn (am_dp pw_X11_isOwn_128 dd_X11_isOwn_128a.2.2.2.2.2.2.1) rfl).to, ?_⟩
  refine List.forall_mem_cons.mpr ⟨(s_ldc2 (am_dp pw_X11_isOwn_128 dd_X11_isOwn_128a.2.2.2.2.2.2.2) wd1738).to, ?_⟩
  refine List.forall_mem_cons.mpr ⟨(s_lcmp (am_dp pw_X11_isOwn_128 dd_X11_isOwn_128b.1)).to, ?_⟩
  refine List.forall_mem_cons.mpr ⟨(s_if_eq (am_dp pw_X11_isOwn_128 dd_X11_isOwn_128b.2.1) (by decide)).to, ?_⟩
  refine List.forall_mem_cons.mpr ⟨(s_lloadn (am_dp pw_X11_isOwn_128 dd_X11_isOwn_128b.2.2.1) rfl).to, ?_⟩
  refine List.forall_mem_cons.mpr ⟨(s_ldc2 (am_dp pw_X11_isOwn_128 dd_X11_isOwn_128b.2.2.2.1) wd1707).to, ?_⟩
  refine List.forall_mem_cons.mpr ⟨(s_lcmp (am_dp pw_X11_isOwn_128 dd_X11_isOwn_128b.2.2.2.2.1)).to, ?_⟩
  refine List.forall_mem_cons.mpr ⟨(s_if_eq (am_dp pw_X11_isOwn_128 dd_X11_isOwn_128b.2.2.2.2.2.1) (by decide)).to, ?_⟩
  refine List.forall_mem_cons.mpr ⟨(s_lloadn (am_dp pw_X11_isOwn_128 dd_X11_isOwn_128b.2.2.2.2.2.2.1) rfl).to, ?_⟩
  refine List.forall_mem_cons.mpr ⟨(s_ldc2 (am_dp pw_X11_isOwn_128 dd_X11_isOwn_128b.2.2.2.2.2.2.2) wd1706).to, ?_⟩
  refine List.forall_mem_cons.mpr ⟨(s_lcmp (am_dp pw_X11_isOwn_160 dd_X11_isOwn_160a.1)).to, ?_⟩
  refine List.forall_mem_cons.mpr ⟨(s_if_ne (am_dp pw_X11_isOwn_160 dd_X11_isOwn_160a.2.1) (by decide)).to, ?_⟩
  refine List.forall_mem_cons.mpr ⟨(s_iconst (am_dp pw_X11_isOwn_160 dd_X11_isOwn_160a.2.2.1) (by decide)).to, ?_⟩
  refine List.forall_mem_cons.mpr ⟨s_zret (am_dp pw_X11_isOwn_160 dd_X11_isOwn_160a.2.2.2.1) rfl, ?_⟩
  refine List.forall_mem_cons.mpr ⟨(s_lloadn (am_dp pw_X11_isOwn_160 dd_X11_isOwn_160a.2.2.2.2.1) rfl).to, ?_⟩
  refine List.forall_mem_cons.mpr ⟨(s_ldc2 (am_dp pw_X11_isOwn_160 dd_X11_isOwn_160a.2.2.2.2.2.1) wd1705).to, ?_⟩
  refine List.forall_mem_cons.mpr ⟨(s_lcmp (am_dp pw_X11_isOwn_160 dd_X11_isOwn_160a.2.2.2.2.2.2.1)).to, ?_⟩
  refine List.forall_mem_cons.mpr ⟨(s_if_eq (am_dp pw_X11_isOwn_160 dd_X11_isOwn_160a.2.2.2.2.2.2.2) (by decide)).to, ?_⟩
  refine List.forall_mem_cons.mpr ⟨(s_lloadn (am_dp pw_X11_isOwn_160 dd_X11_isOwn_160b.1) rfl).to, ?_⟩
  refine List.forall_mem_cons.mpr ⟨(s_ldc2 (am_dp pw_X11_isOwn_160 dd_X11_isOwn_160b.2.1) wd1675).to, ?_⟩
  refine List.forall_mem_cons.mpr ⟨(s_lcmp (am_dp pw_X11_isOwn_160 dd_X11_isOwn_160b.2.2.1)).to, ?_⟩
  refine List.forall_mem_cons.mpr ⟨(s_if_eq (am_dp pw_X11_isOwn_160 dd_X11_isOwn_160b.2.2.2.1) (by decide)).to, ?_⟩
  refine List.forall_mem_cons.mpr ⟨(s_lloadn (am_dp pw_X11_isOwn_160 dd_X11_isOwn_160b.2.2.2.2.1) rfl).to, ?_⟩
  refine List.forall_mem_cons.mpr ⟨(s_ldc2 (am_dp pw_X11_isOwn_160 dd_X11_isOwn_160b.2.2.2.2.2.1) wd1684).to, ?_⟩
  refine List.forall_mem_cons.mpr ⟨(s_lcmp (am_dp pw_X11_isOwn_160 dd_X11_isOwn_160b.2.2.2.2.2.2.1)).to, ?_⟩
  refine List.forall_mem_cons.mpr ⟨(s_if_eq (am_dp pw_X11_isOwn_160 dd_X11_isOwn_160b.2.2.2.2.2.2.2) (by decide)).to, ?_⟩
  refine List.forall_mem_cons.mpr ⟨(s_lloadn (am_dp pw_X11_isOwn_192 dd_X11_isOwn_192a.1) rfl).to, ?_⟩
  refine List.forall_mem_cons.mpr ⟨(s_ldc2 (am_dp pw_X11_isOwn_192 dd_X11_isOwn_192a.2.1) wd1691).to, ?_⟩
  refine List.forall_mem_cons.mpr ⟨(s_lcmp (am_dp pw_X11_isOwn_192 dd_X11_isOwn_192a.2.2.1)).to, ?_⟩
  refine List.forall_mem_cons.mpr ⟨(s_if_eq (am_dp pw_X11_isOwn_192 dd_X11_isOwn_192a.2.2.2.1) (by decide)).to, ?_⟩
  refine List.forall_mem_cons.mpr ⟨(s_lloadn (am_dp pw_X11_isOwn_192 dd_X11_isOwn_192a.2.2.2.2.1) rfl).to, ?_⟩
  refine List.forall_mem_cons.mpr ⟨(s_ldc2 (am_dp pw_X11_isOwn_192 dd_X11_isOwn_192a.2.2.2.2.2.1) wd1692).to, ?_⟩
  refine List.forall_mem_cons.mpr ⟨(s_lcmp (am_dp pw_X11_isOwn_192 dd_X11_isOwn_192a.2.2.2.2.2.2.1)).to, ?_⟩
  refine List.forall_mem_cons.mpr ⟨(s_if_ne (am_dp pw_X11_isOwn_192 dd_X11_isOwn_192a.2.2.2.2.2.2.2) (by decide)).to, ?_⟩
  refine List.forall_mem_cons.mpr ⟨(s_iconst (am_dp pw_X11_isOwn_192 dd_X11_isOwn_192b.1) (by decide)).to, ?_⟩
  refine List.forall_mem_cons.mpr ⟨s_zret (am_dp pw_X11_isOwn_192 dd_X11_isOwn_192b.2.1) rfl, ?_⟩
  refine List.forall_mem_cons.mpr ⟨(s_lloadn (am_dp pw_X11_isOwn_192 dd_X11_isOwn_192b.2.2.1) rfl).to, ?_⟩
  refine List.forall_mem_cons.mpr ⟨(s_ldc2 (am_dp pw_X11_isOwn_192 dd_X11_isOwn_192b.2.2.2.1) wd1689).to, ?_⟩
  refine List.forall_mem_cons.mpr ⟨(s_lcmp (am_dp pw_X11_isOwn_192 dd_X11_isOwn_192b.2.2.2.2.1)).to, ?_⟩
  refine List.forall_mem_cons.mpr ⟨(s_if_eq (am_dp pw_X11_isOwn_192 dd_X11_isOwn_192b.2.2.2.2.2.1) (by decide)).to, ?_⟩
  refine List.forall_mem_cons.mpr ⟨(s_lloadn (am_dp pw_X11_isOwn_192 dd_X11_isOwn_192b.2.2.2.2.2.2.1) rfl).to, ?_⟩
  refine List.forall_mem_cons.mpr ⟨(s_ldc2 (am_dp pw_X11_isOwn_192 dd_X11_isOwn_192b.2.2.2.2.2.2.2) wd1690).to, ?_⟩
  refine List.forall_mem_cons.mpr ⟨(s_lcmp (am_dp pw_X11_isOwn_192 dd_X11_isOwn_192c.1)).to, ?_⟩
  refine List.forall_mem_cons.mpr ⟨(s_if_ne (am_dp pw_X11_isOwn_192 dd_X11_isOwn_192c.2) (by decide)).to, ?_⟩
  refine List.forall_mem_cons.mpr ⟨(s_iconst (am_dp pw_X11_isOwn_224 dd_X11_isOwn_224a.1) (by decide)).to, ?_⟩
  refine List.forall_mem_cons.mpr ⟨s_zret (am_dp pw_X11_isOwn_224 dd_X11_isOwn_224a.2.1) rfl, ?_⟩
  exact fun _ h => absurd h List.not_mem_nil
theorem sn_tX11_isOwn_2 : ∀ q ∈ tX11_isOwn_2, am_Snd am_P0 RX11 cX11_isOwn 3 (Option.some FieldType.boolean) "isOwn" q.1 q.2 := by
  unfold tX11_isOwn_2
  refine List.forall_mem_cons.mpr ⟨(s_iconst (am_dp pw_X11_isOwn_224 dd_X11_isOwn_224a.2.2.1) (by decide)).to, ?_⟩
  refine List.forall_mem_cons.mpr ⟨s_zret (am_dp pw_X11_isOwn_224 dd_X11_isOwn_224a.2.2.2) rfl, ?_⟩
  exact fun _ h => absurd h List.not_mem_nil
theorem sn_tX11_isOwn : ∀ q ∈ tX11_isOwn, am_Snd am_P0 RX11 cX11_isOwn 3 (Option.some FieldType.boolean) "isOwn" q.1 q.2 := by
  unfold tX11_isOwn
  exact List.forall_mem_append.mpr ⟨List.forall_mem_append.mpr ⟨sn_tX11_isOwn_0, sn_tX11_isOwn_1⟩, sn_tX11_isOwn_2⟩
theorem sn_tX11_firstRule : ∀ q ∈ tX11_firstRule, am_Snd am_P0 RX11 cX11_firstRule 1 (Option.some FieldType.int) "firstRule" q.1 q.2 := by
  unfold tX11_firstRule
  refine List.forall_mem_cons.mpr ⟨(s_bipush (am_dp pw_X11_firstRule_0 dd_X11_firstRule_0a.1) (by decide)).to, ?_⟩
  refine List.forall_mem_cons.mpr ⟨(s_iloadn (am_dp pw_X11_firstRule_0 dd_X11_firstRule_0a.2.1) rfl).to, ?_⟩
  refine List.forall_mem_cons.mpr ⟨(s_imul (am_dp pw_X11_firstRule_0 dd_X11_firstRule_0a.2.2.1)).to, ?_⟩
  refine List.forall_mem_cons.mpr ⟨s_iret (am_dp pw_X11_firstRule_0 dd_X11_firstRule_0a.2.2.2) rfl, ?_⟩
  exact fun _ h => absurd h List.not_mem_nil
theorem sn_tX11_mostRules : ∀ q ∈ tX11_mostRules, am_Snd am_P0 RX11 cX11_mostRules 1 (Option.some FieldType.int) "mostRules" q.1 q.2 := by
  unfold tX11_mostRules
  refine List.forall_mem_cons.mpr ⟨(s_iloadn (am_dp pw_X11_mostRules_0 dd_X11_mostRules_0a.1) rfl).to, ?_⟩
  refine List.forall_mem_cons.mpr ⟨(s_iconst (am_dp pw_X11_mostRules_0 dd_X11_mostRules_0a.2.1) (by decide)).to, ?_⟩
  refine List.forall_mem_cons.mpr ⟨(s_icmp_ne (am_dp pw_X11_mostRules_0 dd_X11_mostRules_0a.2.2.1) (by decide)).to, ?_⟩
  refine List.forall_mem_cons.mpr ⟨(s_bipush (am_dp pw_X11_mostRules_0 dd_X11_mostRules_0a.2.2.2.1) (by decide)).to, ?_⟩
  refine List.forall_mem_cons.mpr ⟨(s_goto (am_dp pw_X11_mostRules_0 dd_X11_mostRules_0a.2.2.2.2.1) (by decide)).to, ?_⟩
  refine List.forall_mem_cons.mpr ⟨(s_bipush (am_dp pw_X11_mostRules_0 dd_X11_mostRules_0a.2.2.2.2.2.1) (by decide)).to, ?_⟩
  refine List.forall_mem_cons.mpr ⟨s_iret (am_dp pw_X11_mostRules_0 dd_X11_mostRules_0a.2.2.2.2.2.2) rfl, ?_⟩
  exact fun _ h => absurd h List.not_mem_nil
theorem sn_tX11_named : ∀ q ∈ tX11_named, am_Snd am_P0 RX11 cX11_named 4 (Option.some FieldType.int) "named" q.1 q.2 := by
  unfold tX11_named
  refine List.forall_mem_cons.mpr ⟨(s_iconst (am_dp pw_X11_named_0 dd_X11_named_0a.1) (by decide)).to, ?_⟩
  refine List.forall_mem_cons.mpr ⟨(s_istoren (am_dp pw_X11_named_0 dd_X11_named_0a.2.1) rfl (by decide)).to, ?_⟩
  refine List.forall_mem_cons.mpr ⟨(s_iloadn (am_dp pw_X11_named_0 dd_X11_named_0a.2.2.1) rfl).to, ?_⟩
  refine List.forall_mem_cons.mpr ⟨(s_aloadn (am_dp pw_X11_named_0 dd_X11_named_0a.2.2.2.1) rfl).to, ?_⟩
  refine List.forall_mem_cons.mpr ⟨(s_get (ci := 11) (k := 19) (am_dp pw_X11_named_0 dd_X11_named_0a.2.2.2.2.1) rfl (by decide) wd1352 inX11 rfl).to, ?_⟩
  refine List.forall_mem_cons.mpr ⟨(s_aloadn (am_dp pw_X11_named_0 dd_X11_named_0a.2.2.2.2.2.1) rfl).to, ?_⟩
  refine List.forall_mem_cons.mpr ⟨(s_get (ci := 11) (k := 41) (am_dp pw_X11_named_0 dd_X11_named_0a.2.2.2.2.2.2.1) rfl (by decide) wd1374 inX11 rfl).to, ?_⟩
  refine List.forall_mem_cons.mpr ⟨(s_iald (am_dp pw_X11_named_0 dd_X11_named_0a.2.2.2.2.2.2.2)).to, ?_⟩
  refine List.forall_mem_cons.mpr ⟨(s_icmp_ge (am_dp pw_X11_named_0 dd_X11_named_0b.1) (by decide)).to, ?_⟩
  refine List.forall_mem_cons.mpr ⟨(s_aloadn (am_dp pw_X11_named_0 dd_X11_named_0b.2.1) rfl).to, ?_⟩
  refine List.forall_mem_cons.mpr ⟨(s_get (ci := 11) (k := 20) (am_dp pw_X11_named_0 dd_X11_named_0b.2.2.1) rfl (by decide) wd1353 inX11 rfl).to, ?_⟩
  refine List.forall_mem_cons.mpr ⟨(s_bipush (am_dp pw_X11_named_0 dd_X11_named_0b.2.2.2.1) (by decide)).to, ?_⟩
  refine List.forall_mem_cons.mpr ⟨(s_aloadn (am_dp pw_X11_named_0 dd_X11_named_0b.2.2.2.2.1) rfl).to, ?_⟩
  refine List.forall_mem_cons.mpr ⟨(s_get (ci := 11) (k := 41) (am_dp pw_X11_named_0 dd_X11_named_0b.2.2.2.2.2.1) rfl (by decide) wd1374 inX11 rfl).to, ?_⟩
  refine List.forall_mem_cons.mpr ⟨(s_imul (am_dp pw_X11_named_0 dd_X11_named_0b.2.2.2.2.2.2.1)).to, ?_⟩
  refine List.forall_mem_cons.mpr ⟨(s_iloadn (am_dp pw_X11_named_0 dd_X11_named_0b.2.2.2.2.2.2.2) rfl).to, ?_⟩
  refine List.forall_mem_cons.mpr ⟨(s_iadd (am_dp pw_X11_named_0 dd_X11_named_0c.1)).to, ?_⟩
  refine List.forall_mem_cons.mpr ⟨(s_lald (am_dp pw_X11_named_0 dd_X11_named_0c.2.1)).to, ?_⟩
  refine List.forall_mem_cons.mpr ⟨(s_lloadn (am_dp pw_X11_named_0 dd_X11_named_0c.2.2.1) rfl).to, ?_⟩
  refine List.forall_mem_cons.mpr ⟨(s_lcmp (am_dp pw_X11_named_0 dd_X11_named_0c.2.2.2.1)).to, ?_⟩
  refine List.forall_mem_cons.mpr ⟨(s_if_ne (am_dp pw_X11_named_0 dd_X11_named_0c.2.2.2.2) (by decide)).to, ?_⟩
  refine List.forall_mem_cons.mpr ⟨(s_iloadn (am_dp pw_X11_named_32 dd_X11_named_32a.1) rfl).to, ?_⟩
  refine List.forall_mem_cons.mpr ⟨s_iret (am_dp pw_X11_named_32 dd_X11_named_32a.2.1) rfl, ?_⟩
  refine List.forall_mem_cons.mpr ⟨(s_iinc (am_dp pw_X11_named_32 dd_X11_named_32a.2.2.1) (by decide) (by decide)).to, ?_⟩
  refine List.forall_mem_cons.mpr ⟨(s_goto (am_dp pw_X11_named_32 dd_X11_named_32a.2.2.2.1) (by decide)).to, ?_⟩
  refine List.forall_mem_cons.mpr ⟨(s_iconst (am_dp pw_X11_named_32 dd_X11_named_32a.2.2.2.2.1) (by decide)).to, ?_⟩
  refine List.forall_mem_cons.mpr ⟨s_iret (am_dp pw_X11_named_32 dd_X11_named_32a.2.2.2.2.2) rfl, ?_⟩
  exact fun _ h => absurd h List.not_mem_nil
theorem sn_tX11_number : ∀ q ∈ tX11_number, am_Snd am_P0 RX11 cX11_number 4 (Option.some FieldType.int) "number" q.1 q.2 := by
  unfold tX11_number
  refine List.forall_mem_cons.mpr ⟨(s_aloadn (am_dp pw_X11_number_0 dd_X11_number_0a.1) rfl).to, ?_⟩
  refine List.forall_mem_cons.mpr ⟨(s_get (ci := 11) (k := 8) (am_dp pw_X11_number_0 dd_X11_number_0a.2.1) rfl (by decide) wd1341 inX11 rfl).to, ?_⟩
  refine List.forall_mem_cons.mpr ⟨(s_if_le (am_dp pw_X11_number_0 dd_X11_number_0a.2.2.1) (by decide)).to, ?_⟩
  refine List.forall_mem_cons.mpr ⟨(s_iconst (am_dp pw_X11_number_0 dd_X11_number_0a.2.2.2.1) (by decide)).to, ?_⟩
  refine List.forall_mem_cons.mpr ⟨s_iret (am_dp pw_X11_number_0 dd_X11_number_0a.2.2.2.2.1) rfl, ?_⟩
  refine List.forall_mem_cons.mpr ⟨(s_aloadn (am_dp pw_X11_number_0 dd_X11_number_0a.2.2.2.2.2.1) rfl).to, ?_⟩
  refine List.forall_mem_cons.mpr ⟨(s_get (ci := 11) (k := 3) (am_dp pw_X11_number_0 dd_X11_number_0a.2.2.2.2.2.2.1) rfl (by decide) wd1336 inX11 rfl).to, ?_⟩
  refine List.forall_mem_cons.mpr ⟨(s_iconst (am_dp pw_X11_number_0 dd_X11_number_0a.2.2.2.2.2.2.2) (by decide)).to, ?_⟩
  refine List.forall_mem_cons.mpr ⟨(s_icmp_eq (am_dp pw_X11_number_0 dd_X11_number_0b.1) (by decide)).to, ?_⟩
  refine List.forall_mem_cons.mpr ⟨(s_aloadn (am_dp pw_X11_number_0 dd_X11_number_0b.2.1) rfl).to, ?_⟩
  refine List.forall_mem_cons.mpr ⟨(s_iconst (am_dp pw_X11_number_0 dd_X11_number_0b.2.2.1) (by decide)).to, ?_⟩
  refine List.forall_mem_cons.mpr ⟨(s_aloadn (am_dp pw_X11_number_0 dd_X11_number_0b.2.2.2.1) rfl).to, ?_⟩
  refine List.forall_mem_cons.mpr ⟨(s_get (ci := 11) (k := 4) (am_dp pw_X11_number_0 dd_X11_number_0b.2.2.2.2.1) rfl (by decide) wd1337 inX11 rfl).to, ?_⟩
  refine List.forall_mem_cons.mpr ⟨zw_cv171 (am_dp pw_X11_number_0 dd_X11_number_0b.2.2.2.2.2.1) wd1613, ?_⟩
  refine List.forall_mem_cons.mpr ⟨(s_aloadn (am_dp pw_X11_number_0 dd_X11_number_0b.2.2.2.2.2.2.1) rfl).to, ?_⟩
  refine List.forall_mem_cons.mpr ⟨(s_get (ci := 11) (k := 8) (am_dp pw_X11_number_0 dd_X11_number_0b.2.2.2.2.2.2.2) rfl (by decide) wd1341 inX11 rfl).to, ?_⟩
  refine List.forall_mem_cons.mpr ⟨(s_if_ne (am_dp pw_X11_number_0 dd_X11_number_0c) (by decide)).to, ?_⟩
  refine List.forall_mem_cons.mpr ⟨(s_aloadn (am_dp pw_X11_number_32 dd_X11_number_32a.1) rfl).to, ?_⟩
  refine List.forall_mem_cons.mpr ⟨(s_get (ci := 11) (k := 6) (am_dp pw_X11_number_32 dd_X11_number_32a.2.1) rfl (by decide) wd1339 inX11 rfl).to, ?_⟩
  refine List.forall_mem_cons.mpr ⟨(s_iloadn (am_dp pw_X11_number_32 dd_X11_number_32a.2.2.1) rfl).to, ?_⟩
  refine List.forall_mem_cons.mpr ⟨(s_iloadn (am_dp pw_X11_number_32 dd_X11_number_32a.2.2.2.1) rfl).to, ?_⟩
  refine List.forall_mem_cons.mpr ⟨zw_cs167 (am_dp pw_X11_number_32 dd_X11_number_32a.2.2.2.2.1) wd1630, ?_⟩
  refine List.forall_mem_cons.mpr ⟨(s_if_ne (am_dp pw_X11_number_32 dd_X11_number_32a.2.2.2.2.2.1) (by decide)).to, ?_⟩
  refine List.forall_mem_cons.mpr ⟨(s_aloadn (am_dp pw_X11_number_32 dd_X11_number_32a.2.2.2.2.2.2.1) rfl).to, ?_⟩
  refine List.forall_mem_cons.mpr ⟨(s_iconst (am_dp pw_X11_number_32 dd_X11_number_32a.2.2.2.2.2.2.2) (by decide)).to, ?_⟩
  refine List.forall_mem_cons.mpr ⟨(s_aloadn (am_dp pw_X11_number_32 dd_X11_number_32b.1) rfl).to, ?_⟩
  refine List.forall_mem_cons.mpr ⟨(s_get (ci := 11) (k := 4) (am_dp pw_X11_number_32 dd_X11_number_32b.2.1) rfl (by decide) wd1337 inX11 rfl).to, ?_⟩
  refine List.forall_mem_cons.mpr ⟨zw_cv171 (am_dp pw_X11_number_32 dd_X11_number_32b.2.2.1) wd1613, ?_⟩
  refine List.forall_mem_cons.mpr ⟨(s_aloadn (am_dp pw_X11_number_32 dd_X11_number_32b.2.2.2.1) rfl).to, ?_⟩
  refine List.forall_mem_cons.mpr ⟨(s_get (ci := 11) (k := 6) (am_dp pw_X11_number_32 dd_X11_number_32b.2.2.2.2.1) rfl (by decide) wd1339 inX11 rfl).to, ?_⟩
  refine List.forall_mem_cons.mpr ⟨(s_istoren (am_dp pw_X11_number_32 dd_X11_number_32b.2.2.2.2.2.1) rfl (by decide)).to, ?_⟩
  refine List.forall_mem_cons.mpr ⟨(s_aloadn (am_dp pw_X11_number_32 dd_X11_number_32b.2.2.2.2.2.2.1) rfl).to, ?_⟩
  refine List.forall_mem_cons.mpr ⟨(s_get (ci := 11) (k := 8) (am_dp pw_X11_number_32 dd_X11_number_32b.2.2.2.2.2.2.2) rfl (by decide) wd1341 inX11 rfl).to, ?_⟩
  refine List.forall_mem_cons.mpr ⟨(s_if_ne (am_dp pw_X11_number_32 dd_X11_number_32c) (by decide)).to, ?_⟩
  refine List.forall_mem_cons.mpr ⟨(s_aloadn (am_dp pw_X11_number_64 dd_X11_number_64a.1) rfl).to, ?_⟩
  refine List.forall_mem_cons.mpr ⟨zw_cv174 (am_dp pw_X11_number_64 dd_X11_number_64a.2.1) wd1603, ?_⟩
  refine List.forall_mem_cons.mpr ⟨(s_iloadn (am_dp pw_X11_number_64 dd_X11_number_64a.2.2.1) rfl).to, ?_⟩
  refine List.forall_mem_cons.mpr ⟨s_iret (am_dp pw_X11_number_64 dd_X11_number_64a.2.2.2) rfl, ?_⟩
  exact fun _ h => absurd h List.not_mem_nil
theorem sn_tX11_add : ∀ q ∈ tX11_add, am_Snd am_P0 RX11 cX11_add 3 (Option.none : Option FieldType) "add" q.1 q.2 := by
  unfold tX11_add
  refine List.forall_mem_cons.mpr ⟨(s_aloadn (am_dp pw_X11_add_0 dd_X11_add_0a.1) rfl).to, ?_⟩
  refine List.forall_mem_cons.mpr ⟨(s_get (ci := 11) (k := 38) (am_dp pw_X11_add_0 dd_X11_add_0a.2.1) rfl (by decide) wd1371 inX11 rfl).to, ?_⟩
  refine List.forall_mem_cons.mpr ⟨(s_sipush (am_dp pw_X11_add_0 dd_X11_add_0a.2.2.1) (by decide)).to, ?_⟩
  refine List.forall_mem_cons.mpr ⟨(s_aloadn (am_dp pw_X11_add_0 dd_X11_add_0a.2.2.2.1) rfl).to, ?_⟩
  refine List.forall_mem_cons.mpr ⟨(s_get (ci := 11) (k := 41) (am_dp pw_X11_add_0 dd_X11_add_0a.2.2.2.2.1) rfl (by decide) wd1374 inX11 rfl).to, ?_⟩
  refine List.forall_mem_cons.mpr ⟨(s_imul (am_dp pw_X11_add_0 dd_X11_add_0a.2.2.2.2.2.1)).to, ?_⟩
  refine List.forall_mem_cons.mpr ⟨(s_aloadn (am_dp pw_X11_add_0 dd_X11_add_0a.2.2.2.2.2.2.1) rfl).to, ?_⟩
  refine List.forall_mem_cons.mpr ⟨(s_get (ci := 11) (k := 40) (am_dp pw_X11_add_0 dd_X11_add_0a.2.2.2.2.2.2.2) rfl (by decide) wd1373 inX11 rfl).to, ?_⟩
  refine List.forall_mem_cons.mpr ⟨(s_iadd (am_dp pw_X11_add_0 dd_X11_add_0b.1)).to, ?_⟩
  refine List.forall_mem_cons.mpr ⟨(s_iloadn (am_dp pw_X11_add_0 dd_X11_add_0b.2.1) rfl).to, ?_⟩
  refine List.forall_mem_cons.mpr ⟨(s_iast (am_dp pw_X11_add_0 dd_X11_add_0b.2.2.1)).to, ?_⟩
  refine List.forall_mem_cons.mpr ⟨(s_aloadn (am_dp pw_X11_add_0 dd_X11_add_0b.2.2.2.1) rfl).to, ?_⟩
  refine List.forall_mem_cons.mpr ⟨(s_get (ci := 11) (k := 39) (am_dp pw_X11_add_0 dd_X11_add_0b.2.2.2.2.1) rfl (by decide) wd1372 inX11 rfl).to, ?_⟩
  refine List.forall_mem_cons.mpr ⟨(s_sipush (am_dp pw_X11_add_0 dd_X11_add_0b.2.2.2.2.2.1) (by decide)).to, ?_⟩
  refine List.forall_mem_cons.mpr ⟨(s_aloadn (am_dp pw_X11_add_0 dd_X11_add_0b.2.2.2.2.2.2.1) rfl).to, ?_⟩
  refine List.forall_mem_cons.mpr ⟨(s_get (ci := 11) (k := 41) (am_dp pw_X11_add_0 dd_X11_add_0b.2.2.2.2.2.2.2) rfl (by decide) wd1374 inX11 rfl).to, ?_⟩
  refine List.forall_mem_cons.mpr ⟨(s_imul (am_dp pw_X11_add_0 dd_X11_add_0c.1)).to, ?_⟩
  refine List.forall_mem_cons.mpr ⟨(s_aloadn (am_dp pw_X11_add_0 dd_X11_add_0c.2) rfl).to, ?_⟩
  refine List.forall_mem_cons.mpr ⟨(s_get (ci := 11) (k := 40) (am_dp pw_X11_add_32 dd_X11_add_32a.1) rfl (by decide) wd1373 inX11 rfl).to, ?_⟩
  refine List.forall_mem_cons.mpr ⟨(s_iadd (am_dp pw_X11_add_32 dd_X11_add_32a.2.1)).to, ?_⟩
  refine List.forall_mem_cons.mpr ⟨(s_iloadn (am_dp pw_X11_add_32 dd_X11_add_32a.2.2.1) rfl).to, ?_⟩
  refine List.forall_mem_cons.mpr ⟨(s_iast (am_dp pw_X11_add_32 dd_X11_add_32a.2.2.2.1)).to, ?_⟩
  refine List.forall_mem_cons.mpr ⟨(s_aloadn (am_dp pw_X11_add_32 dd_X11_add_32a.2.2.2.2.1) rfl).to, ?_⟩
  refine List.forall_mem_cons.mpr ⟨(s_dup (am_dp pw_X11_add_32 dd_X11_add_32a.2.2.2.2.2.1)).to, ?_⟩
  refine List.forall_mem_cons.mpr ⟨(s_get (ci := 11) (k := 40) (am_dp pw_X11_add_32 dd_X11_add_32a.2.2.2.2.2.2.1) rfl (by decide) wd1373 inX11 rfl).to, ?_⟩
  refine List.forall_mem_cons.mpr ⟨(s_iconst (am_dp pw_X11_add_32 dd_X11_add_32a.2.2.2.2.2.2.2) (by decide)).to, ?_⟩
  refine List.forall_mem_cons.mpr ⟨(s_iadd (am_dp pw_X11_add_32 dd_X11_add_32b.1)).to, ?_⟩
  refine List.forall_mem_cons.mpr ⟨(s_put (ci := 11) (k := 40) (am_dp pw_X11_add_32 dd_X11_add_32b.2.1) rfl (by decide) wd1373 inX11 tyX11_ok nmX11 rfl rfl).to, ?_⟩
  refine List.forall_mem_cons.mpr ⟨s_vret (am_dp pw_X11_add_32 dd_X11_add_32b.2.2) rfl, ?_⟩
  exact fun _ h => absurd h List.not_mem_nil
theorem sn_tX11_rank : ∀ q ∈ tX11_rank, am_Snd am_P0 RX11 cX11_rank 1 (Option.some FieldType.int) "rank" q.1 q.2 := by
  unfold tX11_rank
  refine List.forall_mem_cons.mpr ⟨(s_iloadn (am_dp pw_X11_rank_0 dd_X11_rank_0a.1) rfl).to, ?_⟩
  refine List.forall_mem_cons.mpr ⟨(s_bipush (am_dp pw_X11_rank_0 dd_X11_rank_0a.2.1) (by decide)).to, ?_⟩
  refine List.forall_mem_cons.mpr ⟨(s_icmp_ne (am_dp pw_X11_rank_0 dd_X11_rank_0a.2.2.1) (by decide)).to, ?_⟩
  refine List.forall_mem_cons.mpr ⟨(s_iconst (am_dp pw_X11_rank_0 dd_X11_rank_0a.2.2.2.1) (by decide)).to, ?_⟩
  refine List.forall_mem_cons.mpr ⟨(s_goto (am_dp pw_X11_rank_0 dd_X11_rank_0a.2.2.2.2.1) (by decide)).to, ?_⟩
  refine List.forall_mem_cons.mpr ⟨(s_iloadn (am_dp pw_X11_rank_0 dd_X11_rank_0a.2.2.2.2.2.1) rfl).to, ?_⟩
  refine List.forall_mem_cons.mpr ⟨(s_bipush (am_dp pw_X11_rank_0 dd_X11_rank_0a.2.2.2.2.2.2.1) (by decide)).to, ?_⟩
  refine List.forall_mem_cons.mpr ⟨(s_icmp_ne (am_dp pw_X11_rank_0 dd_X11_rank_0a.2.2.2.2.2.2.2) (by decide)).to, ?_⟩
  refine List.forall_mem_cons.mpr ⟨(s_iconst (am_dp pw_X11_rank_0 dd_X11_rank_0b.1) (by decide)).to, ?_⟩
  refine List.forall_mem_cons.mpr ⟨(s_goto (am_dp pw_X11_rank_0 dd_X11_rank_0b.2.1) (by decide)).to, ?_⟩
  refine List.forall_mem_cons.mpr ⟨(s_iloadn (am_dp pw_X11_rank_0 dd_X11_rank_0b.2.2.1) rfl).to, ?_⟩
  refine List.forall_mem_cons.mpr ⟨(s_bipush (am_dp pw_X11_rank_0 dd_X11_rank_0b.2.2.2.1) (by decide)).to, ?_⟩
  refine List.forall_mem_cons.mpr ⟨(s_icmp_ne (am_dp pw_X11_rank_0 dd_X11_rank_0b.2.2.2.2.1) (by decide)).to, ?_⟩
  refine List.forall_mem_cons.mpr ⟨(s_iconst (am_dp pw_X11_rank_0 dd_X11_rank_0b.2.2.2.2.2.1) (by decide)).to, ?_⟩
  refine List.forall_mem_cons.mpr ⟨(s_goto (am_dp pw_X11_rank_0 dd_X11_rank_0b.2.2.2.2.2.2.1) (by decide)).to, ?_⟩
  refine List.forall_mem_cons.mpr ⟨(s_iloadn (am_dp pw_X11_rank_0 dd_X11_rank_0b.2.2.2.2.2.2.2) rfl).to, ?_⟩
  refine List.forall_mem_cons.mpr ⟨(s_bipush (am_dp pw_X11_rank_0 dd_X11_rank_0c) (by decide)).to, ?_⟩
  refine List.forall_mem_cons.mpr ⟨(s_icmp_eq (am_dp pw_X11_rank_32 dd_X11_rank_32a.1) (by decide)).to, ?_⟩
  refine List.forall_mem_cons.mpr ⟨(s_iloadn (am_dp pw_X11_rank_32 dd_X11_rank_32a.2.1) rfl).to, ?_⟩
  refine List.forall_mem_cons.mpr ⟨(s_bipush (am_dp pw_X11_rank_32 dd_X11_rank_32a.2.2.1) (by decide)).to, ?_⟩
  refine List.forall_mem_cons.mpr ⟨(s_icmp_eq (am_dp pw_X11_rank_32 dd_X11_rank_32a.2.2.2.1) (by decide)).to, ?_⟩
  refine List.forall_mem_cons.mpr ⟨(s_iloadn (am_dp pw_X11_rank_32 dd_X11_rank_32a.2.2.2.2.1) rfl).to, ?_⟩
  refine List.forall_mem_cons.mpr ⟨(s_bipush (am_dp pw_X11_rank_32 dd_X11_rank_32a.2.2.2.2.2.1) (by decide)).to, ?_⟩
  refine List.forall_mem_cons.mpr ⟨(s_icmp_ne (am_dp pw_X11_rank_32 dd_X11_rank_32a.2.2.2.2.2.2.1) (by decide)).to, ?_⟩
  refine List.forall_mem_cons.mpr ⟨(s_iconst (am_dp pw_X11_rank_32 dd_X11_rank_32a.2.2.2.2.2.2.2) (by decide)).to, ?_⟩
  refine List.forall_mem_cons.mpr ⟨(s_goto (am_dp pw_X11_rank_32 dd_X11_rank_32b.1) (by decide)).to, ?_⟩
  refine List.forall_mem_cons.mpr ⟨(s_iloadn (am_dp pw_X11_rank_32 dd_X11_rank_32b.2.1) rfl).to, ?_⟩
  refine List.forall_mem_cons.mpr ⟨(s_bipush (am_dp pw_X11_rank_32 dd_X11_rank_32b.2.2.1) (by decide)).to, ?_⟩
  refine List.forall_mem_cons.mpr ⟨(s_icmp_eq (am_dp pw_X11_rank_32 dd_X11_rank_32b.2.2.2.1) (by decide)).to, ?_⟩
  refine List.forall_mem_cons.mpr ⟨(s_iloadn (am_dp pw_X11_rank_32 dd_X11_rank_32b.2.2.2.2.1) rfl).to, ?_⟩
  refine List.forall_mem_cons.mpr ⟨(s_bipush (am_dp pw_X11_rank_32 dd_X11_rank_32b.2.2.2.2.2.1) (by decide)).to, ?_⟩
  refine List.forall_mem_cons.mpr ⟨(s_icmp_ne (am_dp pw_X11_rank_32 dd_X11_rank_32b.2.2.2.2.2.2) (by decide)).to, ?_⟩
  refine List.forall_mem_cons.mpr ⟨(s_iconst (am_dp pw_X11_rank_64 dd_X11_rank_64a.1) (by decide)).to, ?_⟩
  refine List.forall_mem_cons.mpr ⟨(s_goto (am_dp pw_X11_rank_64 dd_X11_rank_64a.2.1) (by decide)).to, ?_⟩
  refine List.forall_mem_cons.mpr ⟨(s_bipush (am_dp pw_X11_rank_64 dd_X11_rank_64a.2.2.1) (by decide)).to, ?_⟩
  refine List.forall_mem_cons.mpr ⟨s_iret (am_dp pw_X11_rank_64 dd_X11_rank_64a.2.2.2) rfl, ?_⟩
  exact fun _ h => absurd h List.not_mem_nil
theorem sn_tX11_joins : ∀ q ∈ tX11_joins, am_Snd am_P0 RX11 cX11_joins 2 (Option.none : Option FieldType) "joins" q.1 q.2 := by
  unfold tX11_joins
  refine List.forall_mem_cons.mpr ⟨(s_aloadn (am_dp pw_X11_joins_0 dd_X11_joins_0a.1) rfl).to, ?_⟩
  refine List.forall_mem_cons.mpr ⟨(s_get (ci := 11) (k := 50) (am_dp pw_X11_joins_0 dd_X11_joins_0a.2.1) rfl (by decide) wd1383 inX11 rfl).to, ?_⟩
  refine List.forall_mem_cons.mpr ⟨(s_aloadn (am_dp pw_X11_joins_0 dd_X11_joins_0a.2.2.1) rfl).to, ?_⟩
  refine List.forall_mem_cons.mpr ⟨(s_get (ci := 11) (k := 46) (am_dp pw_X11_joins_0 dd_X11_joins_0a.2.2.2.1) rfl (by decide) wd1379 inX11 rfl).to, ?_⟩
  refine List.forall_mem_cons.mpr ⟨(s_aloadn (am_dp pw_X11_joins_0 dd_X11_joins_0a.2.2.2.2.1) rfl).to, ?_⟩
  refine List.forall_mem_cons.mpr ⟨(s_get (ci := 11) (k := 47) (am_dp pw_X11_joins_0 dd_X11_joins_0a.2.2.2.2.2.1) rfl (by decide) wd1380 inX11 rfl).to, ?_⟩
  refine List.forall_mem_cons.mpr ⟨(s_iconst (am_dp pw_X11_joins_0 dd_X11_joins_0a.2.2.2.2.2.2.1) (by decide)).to, ?_⟩
  refine List.forall_mem_cons.mpr ⟨(s_isub (am_dp pw_X11_joins_0 dd_X11_joins_0a.2.2.2.2.2.2.2)).to, ?_⟩
  refine List.forall_mem_cons.mpr ⟨(s_iald (am_dp pw_X11_joins_0 dd_X11_joins_0b.1)).to, ?_⟩
  refine List.forall_mem_cons.mpr ⟨(s_icmp_le (am_dp pw_X11_joins_0 dd_X11_joins_0b.2.1) (by decide)).to, ?_⟩
  refine List.forall_mem_cons.mpr ⟨(s_aloadn (am_dp pw_X11_joins_0 dd_X11_joins_0b.2.2.1) rfl).to, ?_⟩
  refine List.forall_mem_cons.mpr ⟨(s_get (ci := 11) (k := 49) (am_dp pw_X11_joins_0 dd_X11_joins_0b.2.2.2.1) rfl (by decide) wd1382 inX11 rfl).to, ?_⟩
  refine List.forall_mem_cons.mpr ⟨(s_aloadn (am_dp pw_X11_joins_0 dd_X11_joins_0b.2.2.2.2.1) rfl).to, ?_⟩
  refine List.forall_mem_cons.mpr ⟨(s_get (ci := 11) (k := 50) (am_dp pw_X11_joins_0 dd_X11_joins_0b.2.2.2.2.2.1) rfl (by decide) wd1383 inX11 rfl).to, ?_⟩
  refine List.forall_mem_cons.mpr ⟨(s_iconst (am_dp pw_X11_joins_0 dd_X11_joins_0b.2.2.2.2.2.2.1) (by decide)).to, ?_⟩
  refine List.forall_mem_cons.mpr ⟨(s_isub (am_dp pw_X11_joins_0 dd_X11_joins_0b.2.2.2.2.2.2.2)).to, ?_⟩
  refine List.forall_mem_cons.mpr ⟨(s_iald (am_dp pw_X11_joins_0 dd_X11_joins_0c.1)).to, ?_⟩
  refine List.forall_mem_cons.mpr ⟨zw_cs184 (am_dp pw_X11_joins_0 dd_X11_joins_0c.2) wd1702, ?_⟩
  refine List.forall_mem_cons.mpr ⟨(s_iloadn (am_dp pw_X11_joins_32 dd_X11_joins_32a.1) rfl).to, ?_⟩
  refine List.forall_mem_cons.mpr ⟨(s_icmp_lt (am_dp pw_X11_joins_32 dd_X11_joins_32a.2.1) (by decide)).to, ?_⟩
  refine List.forall_mem_cons.mpr ⟨(s_aloadn (am_dp pw_X11_joins_32 dd_X11_joins_32a.2.2.1) rfl).to, ?_⟩
  refine List.forall_mem_cons.mpr ⟨(s_dup (am_dp pw_X11_joins_32 dd_X11_joins_32a.2.2.2.1)).to, ?_⟩
  refine List.forall_mem_cons.mpr ⟨(s_get (ci := 11) (k := 50) (am_dp pw_X11_joins_32 dd_X11_joins_32a.2.2.2.2.1) rfl (by decide) wd1383 inX11 rfl).to, ?_⟩
  refine List.forall_mem_cons.mpr ⟨(s_iconst (am_dp pw_X11_joins_32 dd_X11_joins_32a.2.2.2.2.2.1) (by decide)).to, ?_⟩
  refine List.forall_mem_cons.mpr ⟨(s_isub (am_dp pw_X11_joins_32 dd_X11_joins_32a.2.2.2.2.2.2.1)).to, ?_⟩
  refine List.forall_mem_cons.mpr ⟨(s_put (ci := 11) (k := 50) (am_dp pw_X11_joins_32 dd_X11_joins_32a.2.2.2.2.2.2.2) rfl (by decide) wd1383 inX11 tyX11_ok nmX11 rfl rfl).to, ?_⟩
  refine List.forall_mem_cons.mpr ⟨(s_aloadn (am_dp pw_X11_joins_32 dd_X11_joins_32b.1) rfl).to, ?_⟩
  refine List.forall_mem_cons.mpr ⟨(s_aloadn (am_dp pw_X11_joins_32 dd_X11_joins_32b.2.1) rfl).to, ?_⟩
  refine List.forall_mem_cons.mpr ⟨(s_get (ci := 11) (k := 49) (am_dp pw_X11_joins_32 dd_X11_joins_32b.2.2.1) rfl (by decide) wd1382 inX11 rfl).to, ?_⟩
  refine List.forall_mem_cons.mpr ⟨(s_aloadn (am_dp pw_X11_joins_32 dd_X11_joins_32b.2.2.2.1) rfl).to, ?_⟩
  refine List.forall_mem_cons.mpr ⟨(s_get (ci := 11) (k := 50) (am_dp pw_X11_joins_32 dd_X11_joins_32b.2.2.2.2.1) rfl (by decide) wd1383 inX11 rfl).to, ?_⟩
  refine List.forall_mem_cons.mpr ⟨(s_iald (am_dp pw_X11_joins_32 dd_X11_joins_32b.2.2.2.2.2.1)).to, ?_⟩
  refine List.forall_mem_cons.mpr ⟨(s_iconst (am_dp pw_X11_joins_32 dd_X11_joins_32b.2.2.2.2.2.2.1) (by decide)).to, ?_⟩
  refine List.forall_mem_cons.mpr ⟨zw_cv183 (am_dp pw_X11_joins_32 dd_X11_joins_32b.2.2.2.2.2.2.2) wd1685, ?_⟩
  refine List.forall_mem_cons.mpr ⟨(s_goto (am_dp pw_X11_joins_32 dd_X11_joins_32c.1) (by decide)).to, ?_⟩
  refine List.forall_mem_cons.mpr ⟨s_vret (am_dp pw_X11_joins_32 dd_X11_joins_32c.2) rfl, ?_⟩
  exact fun _ h => absurd h List.not_mem_nil
theorem sn_tX11_holdsBack : ∀ q ∈ tX11_holdsBack, am_Snd am_P0 RX11 cX11_holdsBack 2 (Option.none : Option FieldType) "holdsBack" q.1 q.2 := by
  unfold tX11_holdsBack
  refine List.forall_mem_cons.mpr ⟨(s_aloadn (am_dp pw_X11_holdsBack_0 dd_X11_holdsBack_0a.1) rfl).to, ?_⟩
  refine List.forall_mem_cons.mpr ⟨(s_get (ci := 11) (k := 49) (am_dp pw_X11_holdsBack_0 dd_X11_holdsBack_0a.2.1) rfl (by decide) wd1382 inX11 rfl).to, ?_⟩
  refine List.forall_mem_cons.mpr ⟨(s_aloadn (am_dp pw_X11_holdsBack_0 dd_X11_holdsBack_0a.2.2.1) rfl).to, ?_⟩
  refine List.forall_mem_cons.mpr ⟨(s_get (ci := 11) (k := 50) (am_dp pw_X11_holdsBack_0 dd_X11_holdsBack_0a.2.2.2.1) rfl (by decide) wd1383 inX11 rfl).to, ?_⟩
  refine List.forall_mem_cons.mpr ⟨(s_iloadn (am_dp pw_X11_holdsBack_0 dd_X11_holdsBack_0a.2.2.2.2.1) rfl).to, ?_⟩
  refine List.forall_mem_cons.mpr ⟨(s_iast (am_dp pw_X11_holdsBack_0 dd_X11_holdsBack_0a.2.2.2.2.2.1)).to, ?_⟩
  refine List.forall_mem_cons.mpr ⟨(s_aloadn (am_dp pw_X11_holdsBack_0 dd_X11_holdsBack_0a.2.2.2.2.2.2.1) rfl).to, ?_⟩
  refine List.forall_mem_cons.mpr ⟨(s_dup (am_dp pw_X11_holdsBack_0 dd_X11_holdsBack_0a.2.2.2.2.2.2.2)).to, ?_⟩
  refine List.forall_mem_cons.mpr ⟨(s_get (ci := 11) (k := 50) (am_dp pw_X11_holdsBack_0 dd_X11_holdsBack_0b.1) rfl (by decide) wd1383 inX11 rfl).to, ?_⟩
  refine List.forall_mem_cons.mpr ⟨(s_iconst (am_dp pw_X11_holdsBack_0 dd_X11_holdsBack_0b.2.1) (by decide)).to, ?_⟩
  refine List.forall_mem_cons.mpr ⟨(s_iadd (am_dp pw_X11_holdsBack_0 dd_X11_holdsBack_0b.2.2.1)).to, ?_⟩
  refine List.forall_mem_cons.mpr ⟨(s_put (ci := 11) (k := 50) (am_dp pw_X11_holdsBack_0 dd_X11_holdsBack_0b.2.2.2.1) rfl (by decide) wd1383 inX11 tyX11_ok nmX11 rfl rfl).to, ?_⟩
  refine List.forall_mem_cons.mpr ⟨s_vret (am_dp pw_X11_holdsBack_0 dd_X11_holdsBack_0b.2.2.2.2) rfl, ?_⟩
  exact fun _ h => absurd h List.not_mem_nil
theorem sn_tX11_pushes : ∀ q ∈ tX11_pushes, am_Snd am_P0 RX11 cX11_pushes 2 (Option.none : Option FieldType) "pushes" q.1 q.2 := by
  unfold tX11_pushes
  refine List.forall_mem_cons.mpr ⟨(s_aloadn (am_dp pw_X11_pushes_0 dd_X11_pushes_0a.1) rfl).to, ?_⟩
  refine List.forall_mem_cons.mpr ⟨(s_get (ci := 11) (k := 42) (am_dp pw_X11_pushes_0 dd_X11_pushes_0a.2.1) rfl (by decide) wd1375 inX11 rfl).to, ?_⟩
  refine List.forall_mem_cons.mpr ⟨(s_aloadn (am_dp pw_X11_pushes_0 dd_X11_pushes_0a.2.2.1) rfl).to, ?_⟩
  refine List.forall_mem_cons.mpr ⟨(s_get (ci := 11) (k := 47) (am_dp pw_X11_pushes_0 dd_X11_pushes_0a.2.2.2.1) rfl (by decide) wd1380 inX11 rfl).to, ?_⟩
  refine List.forall_mem_cons.mpr ⟨(s_iloadn (am_dp pw_X11_pushes_0 dd_X11_pushes_0a.2.2.2.2.1) rfl).to, ?_⟩
  refine List.forall_mem_cons.mpr ⟨(s_iast (am_dp pw_X11_pushes_0 dd_X11_pushes_0a.2.2.2.2.2.1)).to, ?_⟩
  refine List.forall_mem_cons.mpr ⟨(s_aloadn (am_dp pw_X11_pushes_0 dd_X11_pushes_0a.2.2.2.2.2.2.1) rfl).to, ?_⟩
  refine List.forall_mem_cons.mpr ⟨(s_get (ci := 11) (k := 43) (am_dp pw_X11_pushes_0 dd_X11_pushes_0a.2.2.2.2.2.2.2) rfl (by decide) wd1376 inX11 rfl).to, ?_⟩
  refine List.forall_mem_cons.mpr ⟨(s_aloadn (am_dp pw_X11_pushes_0 dd_X11_pushes_0b.1) rfl).to, ?_⟩
  refine List.forall_mem_cons.mpr ⟨(s_get (ci := 11) (k := 47) (am_dp pw_X11_pushes_0 dd_X11_pushes_0b.2.1) rfl (by decide) wd1380 inX11 rfl).to, ?_⟩
  refine List.forall_mem_cons.mpr ⟨(s_iconst (am_dp pw_X11_pushes_0 dd_X11_pushes_0b.2.2.1) (by decide)).to, ?_⟩
  refine List.forall_mem_cons.mpr ⟨(s_iast (am_dp pw_X11_pushes_0 dd_X11_pushes_0b.2.2.2.1)).to, ?_⟩
  refine List.forall_mem_cons.mpr ⟨(s_aloadn (am_dp pw_X11_pushes_0 dd_X11_pushes_0b.2.2.2.2.1) rfl).to, ?_⟩
  refine List.forall_mem_cons.mpr ⟨(s_get (ci := 11) (k := 44) (am_dp pw_X11_pushes_0 dd_X11_pushes_0b.2.2.2.2.2.1) rfl (by decide) wd1377 inX11 rfl).to, ?_⟩
  refine List.forall_mem_cons.mpr ⟨(s_aloadn (am_dp pw_X11_pushes_0 dd_X11_pushes_0b.2.2.2.2.2.2.1) rfl).to, ?_⟩
  refine List.forall_mem_cons.mpr ⟨(s_get (ci := 11) (k := 47) (am_dp pw_X11_pushes_0 dd_X11_pushes_0b.2.2.2.2.2.2.2) rfl (by decide) wd1380 inX11 rfl).to, ?_⟩
  refine List.forall_mem_cons.mpr ⟨(s_iconst (am_dp pw_X11_pushes_0 dd_X11_pushes_0c.1) (by decide)).to, ?_⟩
  refine List.forall_mem_cons.mpr ⟨(s_zast (am_dp pw_X11_pushes_0 dd_X11_pushes_0c.2.1)).to, ?_⟩
  refine List.forall_mem_cons.mpr ⟨(s_aloadn (am_dp pw_X11_pushes_0 dd_X11_pushes_0c.2.2.1) rfl).to, ?_⟩
  refine List.forall_mem_cons.mpr ⟨(s_get (ci := 11) (k := 46) (am_dp pw_X11_pushes_0 dd_X11_pushes_0c.2.2.2) rfl (by decide) wd1379 inX11 rfl).to, ?_⟩
  refine List.forall_mem_cons.mpr ⟨(s_aloadn (am_dp pw_X11_pushes_32 dd_X11_pushes_32a.1) rfl).to, ?_⟩
  refine List.forall_mem_cons.mpr ⟨(s_get (ci := 11) (k := 47) (am_dp pw_X11_pushes_32 dd_X11_pushes_32a.2.1) rfl (by decide) wd1380 inX11 rfl).to, ?_⟩
  refine List.forall_mem_cons.mpr ⟨(s_aloadn (am_dp pw_X11_pushes_32 dd_X11_pushes_32a.2.2.1) rfl).to, ?_⟩
  refine List.forall_mem_cons.mpr ⟨(s_get (ci := 11) (k := 50) (am_dp pw_X11_pushes_32 dd_X11_pushes_32a.2.2.2.1) rfl (by decide) wd1383 inX11 rfl).to, ?_⟩
  refine List.forall_mem_cons.mpr ⟨(s_iast (am_dp pw_X11_pushes_32 dd_X11_pushes_32a.2.2.2.2.1)).to, ?_⟩
  refine List.forall_mem_cons.mpr ⟨(s_aloadn (am_dp pw_X11_pushes_32 dd_X11_pushes_32a.2.2.2.2.2.1) rfl).to, ?_⟩
  refine List.forall_mem_cons.mpr ⟨(s_dup (am_dp pw_X11_pushes_32 dd_X11_pushes_32a.2.2.2.2.2.2.1)).to, ?_⟩
  refine List.forall_mem_cons.mpr ⟨(s_get (ci := 11) (k := 47) (am_dp pw_X11_pushes_32 dd_X11_pushes_32a.2.2.2.2.2.2.2) rfl (by decide) wd1380 inX11 rfl).to, ?_⟩
  refine List.forall_mem_cons.mpr ⟨(s_iconst (am_dp pw_X11_pushes_32 dd_X11_pushes_32b.1) (by decide)).to, ?_⟩
  refine List.forall_mem_cons.mpr ⟨(s_iadd (am_dp pw_X11_pushes_32 dd_X11_pushes_32b.2.1)).to, ?_⟩
  refine List.forall_mem_cons.mpr ⟨(s_put (ci := 11) (k := 47) (am_dp pw_X11_pushes_32 dd_X11_pushes_32b.2.2.1) rfl (by decide) wd1380 inX11 tyX11_ok nmX11 rfl rfl).to, ?_⟩
  refine List.forall_mem_cons.mpr ⟨s_vret (am_dp pw_X11_pushes_32 dd_X11_pushes_32b.2.2.2) rfl, ?_⟩
  exact fun _ h => absurd h List.not_mem_nil
theorem sn_tX11_opens : ∀ q ∈ tX11_opens, am_Snd am_P0 RX11 cX11_opens 2 (Option.none : Option FieldType) "opens" q.1 q.2 := by
  unfold tX11_opens
  refine List.forall_mem_cons.mpr ⟨(s_aloadn (am_dp pw_X11_opens_0 dd_X11_opens_0a.1) rfl).to, ?_⟩
  refine List.forall_mem_cons.mpr ⟨(s_get (ci := 11) (k := 48) (am_dp pw_X11_opens_0 dd_X11_opens_0a.2.1) rfl (by decide) wd1381 inX11 rfl).to, ?_⟩
  refine List.forall_mem_cons.mpr ⟨(s_bipush (am_dp pw_X11_opens_0 dd_X11_opens_0a.2.2.1) (by decide)).to, ?_⟩
  refine List.forall_mem_cons.mpr ⟨(s_icmp_ne (am_dp pw_X11_opens_0 dd_X11_opens_0a.2.2.2.1) (by decide)).to, ?_⟩
  refine List.forall_mem_cons.mpr ⟨(s_aloadn (am_dp pw_X11_opens_0 dd_X11_opens_0a.2.2.2.2.1) rfl).to, ?_⟩
  refine List.forall_mem_cons.mpr ⟨(s_iconst (am_dp pw_X11_opens_0 dd_X11_opens_0a.2.2.2.2.2.1) (by decide)).to, ?_⟩
  refine List.forall_mem_cons.mpr ⟨(s_aloadn (am_dp pw_X11_opens_0 dd_X11_opens_0a.2.2.2.2.2.2.1) rfl).to, ?_⟩
  refine List.forall_mem_cons.mpr ⟨(s_get (ci := 11) (k := 4) (am_dp pw_X11_opens_0 dd_X11_opens_0a.2.2.2.2.2.2.2) rfl (by decide) wd1337 inX11 rfl).to, ?_⟩
  refine List.forall_mem_cons.mpr ⟨zw_cv171 (am_dp pw_X11_opens_0 dd_X11_opens_0b.1) wd1613, ?_⟩
  refine List.forall_mem_cons.mpr ⟨(s_aloadn (am_dp pw_X11_opens_0 dd_X11_opens_0b.2.1) rfl).to, ?_⟩
  refine List.forall_mem_cons.mpr ⟨(s_get (ci := 11) (k := 8) (am_dp pw_X11_opens_0 dd_X11_opens_0b.2.2.1) rfl (by decide) wd1341 inX11 rfl).to, ?_⟩
  refine List.forall_mem_cons.mpr ⟨(s_if_le (am_dp pw_X11_opens_0 dd_X11_opens_0b.2.2.2.1) (by decide)).to, ?_⟩
  refine List.forall_mem_cons.mpr ⟨s_vret (am_dp pw_X11_opens_0 dd_X11_opens_0b.2.2.2.2.1) rfl, ?_⟩
  refine List.forall_mem_cons.mpr ⟨(s_aloadn (am_dp pw_X11_opens_0 dd_X11_opens_0b.2.2.2.2.2.1) rfl).to, ?_⟩
  refine List.forall_mem_cons.mpr ⟨(s_dup (am_dp pw_X11_opens_0 dd_X11_opens_0b.2.2.2.2.2.2.1)).to, ?_⟩
  refine List.forall_mem_cons.mpr ⟨(s_get (ci := 11) (k := 48) (am_dp pw_X11_opens_0 dd_X11_opens_0b.2.2.2.2.2.2.2) rfl (by decide) wd1381 inX11 rfl).to, ?_⟩
  refine List.forall_mem_cons.mpr ⟨(s_iconst (am_dp pw_X11_opens_0 dd_X11_opens_0c) (by decide)).to, ?_⟩
  refine List.forall_mem_cons.mpr ⟨(s_iadd (am_dp pw_X11_opens_32 dd_X11_opens_32a.1)).to, ?_⟩
  refine List.forall_mem_cons.mpr ⟨(s_put (ci := 11) (k := 48) (am_dp pw_X11_opens_32 dd_X11_opens_32a.2.1) rfl (by decide) wd1381 inX11 tyX11_ok nmX11 rfl rfl).to, ?_⟩
  refine List.forall_mem_cons.mpr ⟨(s_aloadn (am_dp pw_X11_opens_32 dd_X11_opens_32a.2.2.1) rfl).to, ?_⟩
  refine List.forall_mem_cons.mpr ⟨zw_cv174 (am_dp pw_X11_opens_32 dd_X11_opens_32a.2.2.2.1) wd1603, ?_⟩
  refine List.forall_mem_cons.mpr ⟨(s_aloadn (am_dp pw_X11_opens_32 dd_X11_opens_32a.2.2.2.2.1) rfl).to, ?_⟩
  refine List.forall_mem_cons.mpr ⟨(s_iloadn (am_dp pw_X11_opens_32 dd_X11_opens_32a.2.2.2.2.2.1) rfl).to, ?_⟩
  refine List.forall_mem_cons.mpr ⟨zw_cv187 (am_dp pw_X11_opens_32 dd_X11_opens_32a.2.2.2.2.2.2.1) wd1664, ?_⟩
  refine List.forall_mem_cons.mpr ⟨s_vret (am_dp pw_X11_opens_32 dd_X11_opens_32a.2.2.2.2.2.2.2) rfl, ?_⟩
  exact fun _ h => absurd h List.not_mem_nil
theorem sn_tX11_isTest : ∀ q ∈ tX11_isTest, am_Snd am_P0 RX11 cX11_isTest 1 (Option.some FieldType.boolean) "isTest" q.1 q.2 := by
  unfold tX11_isTest
  refine List.forall_mem_cons.mpr ⟨(s_iloadn (am_dp pw_X11_isTest_0 dd_X11_isTest_0a.1) rfl).to, ?_⟩
  refine List.forall_mem_cons.mpr ⟨(s_iconst (am_dp pw_X11_isTest_0 dd_X11_isTest_0a.2.1) (by decide)).to, ?_⟩
  refine List.forall_mem_cons.mpr ⟨(s_icmp_eq (am_dp pw_X11_isTest_0 dd_X11_isTest_0a.2.2.1) (by decide)).to, ?_⟩
  refine List.forall_mem_cons.mpr ⟨(s_iloadn (am_dp pw_X11_isTest_0 dd_X11_isTest_0a.2.2.2.1) rfl).to, ?_⟩
  refine List.forall_mem_cons.mpr ⟨(s_iconst (am_dp pw_X11_isTest_0 dd_X11_isTest_0a.2.2.2.2.1) (by decide)).to, ?_⟩
  refine List.forall_mem_cons.mpr ⟨(s_icmp_ne (am_dp pw_X11_isTest_0 dd_X11_isTest_0a.2.2.2.2.2.1) (by decide)).to, ?_⟩
  refine List.forall_mem_cons.mpr ⟨(s_iconst (am_dp pw_X11_isTest_0 dd_X11_isTest_0a.2.2.2.2.2.2.1) (by decide)).to, ?_⟩
  refine List.forall_mem_cons.mpr ⟨(s_goto (am_dp pw_X11_isTest_0 dd_X11_isTest_0a.2.2.2.2.2.2.2) (by decide)).to, ?_⟩
  refine List.forall_mem_cons.mpr ⟨(s_iconst (am_dp pw_X11_isTest_0 dd_X11_isTest_0b.1) (by decide)).to, ?_⟩
  refine List.forall_mem_cons.mpr ⟨s_zret (am_dp pw_X11_isTest_0 dd_X11_isTest_0b.2) rfl, ?_⟩
  exact fun _ h => absurd h List.not_mem_nil
theorem sn_tX11_operand_0 : ∀ q ∈ tX11_operand_0, am_Snd am_P0 RX11 cX11_operand 4 (Option.some FieldType.boolean) "operand" q.1 q.2 := by
  unfold tX11_operand_0
  refine List.forall_mem_cons.mpr ⟨(s_aloadn (am_dp pw_X11_operand_0 dd_X11_operand_0a.1) rfl).to, ?_⟩
  refine List.forall_mem_cons.mpr ⟨(s_get (ci := 11) (k := 47) (am_dp pw_X11_operand_0 dd_X11_operand_0a.2.1) rfl (by decide) wd1380 inX11 rfl).to, ?_⟩
  refine List.forall_mem_cons.mpr ⟨(s_iconst (am_dp pw_X11_operand_0 dd_X11_operand_0a.2.2.1) (by decide)).to, ?_⟩
  refine List.forall_mem_cons.mpr ⟨(s_isub (am_dp pw_X11_operand_0 dd_X11_operand_0a.2.2.2.1)).to, ?_⟩
  refine List.forall_mem_cons.mpr ⟨(s_istoren (am_dp pw_X11_operand_0 dd_X11_operand_0a.2.2.2.2.1) rfl (by decide)).to, ?_⟩
  refine List.forall_mem_cons.mpr ⟨(s_aloadn (am_dp pw_X11_operand_0 dd_X11_operand_0a.2.2.2.2.2.1) rfl).to, ?_⟩
  refine List.forall_mem_cons.mpr ⟨(s_get (ci := 11) (k := 42) (am_dp pw_X11_operand_0 dd_X11_operand_0a.2.2.2.2.2.2.1) rfl (by decide) wd1375 inX11 rfl).to, ?_⟩
  refine List.forall_mem_cons.mpr ⟨(s_iloadn (am_dp pw_X11_operand_0 dd_X11_operand_0a.2.2.2.2.2.2.2) rfl).to, ?_⟩
  refine List.forall_mem_cons.mpr ⟨(s_iald (am_dp pw_X11_operand_0 dd_X11_operand_0b.1)).to, ?_⟩
  refine List.forall_mem_cons.mpr ⟨zw_cs189 (am_dp pw_X11_operand_0 dd_X11_operand_0b.2.1) wd1672, ?_⟩
  refine List.forall_mem_cons.mpr ⟨(s_if_eq (am_dp pw_X11_operand_0 dd_X11_operand_0b.2.2.1) (by decide)).to, ?_⟩
  refine List.forall_mem_cons.mpr ⟨(s_aloadn (am_dp pw_X11_operand_0 dd_X11_operand_0b.2.2.2.1) rfl).to, ?_⟩
  refine List.forall_mem_cons.mpr ⟨(s_get (ci := 11) (k := 44) (am_dp pw_X11_operand_0 dd_X11_operand_0b.2.2.2.2.1) rfl (by decide) wd1377 inX11 rfl).to, ?_⟩
  refine List.forall_mem_cons.mpr ⟨(s_iloadn (am_dp pw_X11_operand_0 dd_X11_operand_0b.2.2.2.2.2.1) rfl).to, ?_⟩
  refine List.forall_mem_cons.mpr ⟨(s_zald (am_dp pw_X11_operand_0 dd_X11_operand_0b.2.2.2.2.2.2.1)).to, ?_⟩
  refine List.forall_mem_cons.mpr ⟨(s_if_eq (am_dp pw_X11_operand_0 dd_X11_operand_0b.2.2.2.2.2.2.2) (by decide)).to, ?_⟩
  refine List.forall_mem_cons.mpr ⟨(s_iconst (am_dp pw_X11_operand_0 dd_X11_operand_0c.1) (by decide)).to, ?_⟩
  refine List.forall_mem_cons.mpr ⟨(s_goto (am_dp pw_X11_operand_0 dd_X11_operand_0c.2) (by decide)).to, ?_⟩
  refine List.forall_mem_cons.mpr ⟨(s_iconst (am_dp pw_X11_operand_32 dd_X11_operand_32a.1) (by decide)).to, ?_⟩
  refine List.forall_mem_cons.mpr ⟨(s_istoren (am_dp pw_X11_operand_32 dd_X11_operand_32a.2.1) rfl (by decide)).to, ?_⟩
  refine List.forall_mem_cons.mpr ⟨(s_iloadn (am_dp pw_X11_operand_32 dd_X11_operand_32a.2.2.1) rfl).to, ?_⟩
  refine List.forall_mem_cons.mpr ⟨(s_if_eq (am_dp pw_X11_operand_32 dd_X11_operand_32a.2.2.2.1) (by decide)).to, ?_⟩
  refine List.forall_mem_cons.mpr ⟨(s_aloadn (am_dp pw_X11_operand_32 dd_X11_operand_32a.2.2.2.2.1) rfl).to, ?_⟩
  refine List.forall_mem_cons.mpr ⟨(s_ldc2 (am_dp pw_X11_operand_32 dd_X11_operand_32a.2.2.2.2.2.1) wd1675).to, ?_⟩
  refine List.forall_mem_cons.mpr ⟨zw_cv176 (am_dp pw_X11_operand_32 dd_X11_operand_32a.2.2.2.2.2.2.1) wd1622, ?_⟩
  refine List.forall_mem_cons.mpr ⟨(s_if_eq (am_dp pw_X11_operand_32 dd_X11_operand_32a.2.2.2.2.2.2.2) (by decide)).to, ?_⟩
  refine List.forall_mem_cons.mpr ⟨(s_aloadn (am_dp pw_X11_operand_32 dd_X11_operand_32b.1) rfl).to, ?_⟩
  refine List.forall_mem_cons.mpr ⟨(s_bipush (am_dp pw_X11_operand_32 dd_X11_operand_32b.2.1) (by decide)).to, ?_⟩
  refine List.forall_mem_cons.mpr ⟨zw_cv186 (am_dp pw_X11_operand_32 dd_X11_operand_32b.2.2.1) wd1676, ?_⟩
  refine List.forall_mem_cons.mpr ⟨(s_aloadn (am_dp pw_X11_operand_32 dd_X11_operand_32b.2.2.2.1) rfl).to, ?_⟩
  refine List.forall_mem_cons.mpr ⟨zw_cv174 (am_dp pw_X11_operand_32 dd_X11_operand_32b.2.2.2.2.1) wd1603, ?_⟩
  refine List.forall_mem_cons.mpr ⟨(s_iconst (am_dp pw_X11_operand_32 dd_X11_operand_32b.2.2.2.2.2.1) (by decide)).to, ?_⟩
  refine List.forall_mem_cons.mpr ⟨s_zret (am_dp pw_X11_operand_32 dd_X11_operand_32b.2.2.2.2.2.2.1) rfl, ?_⟩
  refine List.forall_mem_cons.mpr ⟨(s_aloadn (am_dp pw_X11_operand_32 dd_X11_operand_32b.2.2.2.2.2.2.2) rfl).to, ?_⟩
  refine List.forall_mem_cons.mpr ⟨(s_get (ci := 11) (k := 44) (am_dp pw_X11_operand_32 dd_X11_operand_32c) rfl (by decide) wd1377 inX11 rfl).to, ?_⟩
  refine List.forall_mem_cons.mpr ⟨(s_iloadn (am_dp pw_X11_operand_64 dd_X11_operand_64a.1) rfl).to, ?_⟩
  refine List.forall_mem_cons.mpr ⟨(s_iconst (am_dp pw_X11_operand_64 dd_X11_operand_64a.2.1) (by decide)).to, ?_⟩
  refine List.forall_mem_cons.mpr ⟨(s_zast (am_dp pw_X11_operand_64 dd_X11_operand_64a.2.2.1)).to, ?_⟩
  refine List.forall_mem_cons.mpr ⟨(s_iloadn (am_dp pw_X11_operand_64 dd_X11_operand_64a.2.2.2.1) rfl).to, ?_⟩
  refine List.forall_mem_cons.mpr ⟨(s_if_eq (am_dp pw_X11_operand_64 dd_X11_operand_64a.2.2.2.2.1) (by decide)).to, ?_⟩
  refine List.forall_mem_cons.mpr ⟨(s_aloadn (am_dp pw_X11_operand_64 dd_X11_operand_64a.2.2.2.2.2.1) rfl).to, ?_⟩
  refine List.forall_mem_cons.mpr ⟨(s_bipush (am_dp pw_X11_operand_64 dd_X11_operand_64a.2.2.2.2.2.2.1) (by decide)).to, ?_⟩
  refine List.forall_mem_cons.mpr ⟨zw_cv175 (am_dp pw_X11_operand_64 dd_X11_operand_64a.2.2.2.2.2.2.2) wd1637, ?_⟩
  refine List.forall_mem_cons.mpr ⟨(s_if_eq (am_dp pw_X11_operand_64 dd_X11_operand_64b.1) (by decide)).to, ?_⟩
  refine List.forall_mem_cons.mpr ⟨(s_aloadn (am_dp pw_X11_operand_64 dd_X11_operand_64b.2.1) rfl).to, ?_⟩
  refine List.forall_mem_cons.mpr ⟨(s_iconst (am_dp pw_X11_operand_64 dd_X11_operand_64b.2.2.1) (by decide)).to, ?_⟩
  refine List.forall_mem_cons.mpr ⟨zw_cv188 (am_dp pw_X11_operand_64 dd_X11_operand_64b.2.2.2.1) wd1680, ?_⟩
  refine List.forall_mem_cons.mpr ⟨(s_iconst (am_dp pw_X11_operand_64 dd_X11_operand_64b.2.2.2.2.1) (by decide)).to, ?_⟩
  refine List.forall_mem_cons.mpr ⟨s_zret (am_dp pw_X11_operand_64 dd_X11_operand_64b.2.2.2.2.2.1) rfl, ?_⟩
  refine List.forall_mem_cons.mpr ⟨(s_iloadn (am_dp pw_X11_operand_64 dd_X11_operand_64b.2.2.2.2.2.2.1) rfl).to, ?_⟩
  refine List.forall_mem_cons.mpr ⟨(s_if_eq (am_dp pw_X11_operand_64 dd_X11_operand_64b.2.2.2.2.2.2.2) (by decide)).to, ?_⟩
  refine List.forall_mem_cons.mpr ⟨(s_aloadn (am_dp pw_X11_operand_64 dd_X11_operand_64c.1) rfl).to, ?_⟩
  refine List.forall_mem_cons.mpr ⟨(s_ldc2 (am_dp pw_X11_operand_64 dd_X11_operand_64c.2.1) wd1684).to, ?_⟩
  refine List.forall_mem_cons.mpr ⟨zw_cv176 (am_dp pw_X11_operand_64 dd_X11_operand_64c.2.2) wd1622, ?_⟩
  refine List.forall_mem_cons.mpr ⟨(s_if_eq (am_dp pw_X11_operand_96 dd_X11_operand_96a.1) (by decide)).to, ?_⟩
  refine List.forall_mem_cons.mpr ⟨(s_aloadn (am_dp pw_X11_operand_96 dd_X11_operand_96a.2.1) rfl).to, ?_⟩
  refine List.forall_mem_cons.mpr ⟨(s_bipush (am_dp pw_X11_operand_96 dd_X11_operand_96a.2.2.1) (by decide)).to, ?_⟩
  refine List.forall_mem_cons.mpr ⟨(s_iconst (am_dp pw_X11_operand_96 dd_X11_operand_96a.2.2.2.1) (by decide)).to, ?_⟩
  refine List.forall_mem_cons.mpr ⟨zw_cv183 (am_dp pw_X11_operand_96 dd_X11_operand_96a.2.2.2.2.1) wd1685, ?_⟩
  refine List.forall_mem_cons.mpr ⟨(s_aloadn (am_dp pw_X11_operand_96 dd_X11_operand_96a.2.2.2.2.2.1) rfl).to, ?_⟩
  exact fun _ h => absurd h List.not_mem_nil
theorem sn_tX11_operand_1 : ∀ q ∈ tX11_operand_1, am_Snd am_P0 RX11 cX11_operand 4 (Option.some FieldType.boolean) "operand" q.1 q.2 := by
  unfold tX11_operand_1
  refine List.forall_mem_cons.mpr ⟨(s_get (ci := 11) (k := 43) (am_dp pw_X11_operand_96 dd_X11_operand_96a.2.2.2.2.2.2.1) rfl (by decide) wd1376 inX11 rfl).to, ?_⟩
  refine List.forall_mem_cons.mpr ⟨(s_iloadn (am_dp pw_X11_operand_96 dd_X11_operand_96a.2.2.2.2.2.2.2) rfl).to, ?_⟩
  refine List.forall_mem_cons.mpr ⟨(s_iconst (am_dp pw_X11_operand_96 dd_X11_operand_96b.1) (by decide)).to, ?_⟩
  refine List.forall_mem_cons.mpr ⟨(s_iast (am_dp pw_X11_operand_96 dd_X11_operand_96b.2.1)).to, ?_⟩
  refine List.forall_mem_cons.mpr ⟨(s_aloadn (am_dp pw_X11_operand_96 dd_X11_operand_96b.2.2.1) rfl).to, ?_⟩
  refine List.forall_mem_cons.mpr ⟨zw_cv174 (am_dp pw_X11_operand_96 dd_X11_operand_96b.2.2.2.1) wd1603, ?_⟩
  refine List.forall_mem_cons.mpr ⟨(s_iconst (am_dp pw_X11_operand_96 dd_X11_operand_96b.2.2.2.2.1) (by decide)).to, ?_⟩
  refine List.forall_mem_cons.mpr ⟨s_zret (am_dp pw_X11_operand_96 dd_X11_operand_96b.2.2.2.2.2.1) rfl, ?_⟩
  refine List.forall_mem_cons.mpr ⟨(s_aloadn (am_dp pw_X11_operand_96 dd_X11_operand_96b.2.2.2.2.2.2.1) rfl).to, ?_⟩
  refine List.forall_mem_cons.mpr ⟨(s_bipush (am_dp pw_X11_operand_96 dd_X11_operand_96b.2.2.2.2.2.2.2) (by decide)).to, ?_⟩
  refine List.forall_mem_cons.mpr ⟨zw_cv175 (am_dp pw_X11_operand_96 dd_X11_operand_96c.1) wd1637, ?_⟩
  refine List.forall_mem_cons.mpr ⟨(s_if_eq (am_dp pw_X11_operand_96 dd_X11_operand_96c.2) (by decide)).to, ?_⟩
  refine List.forall_mem_cons.mpr ⟨(s_aloadn (am_dp pw_X11_operand_128 dd_X11_operand_128a.1) rfl).to, ?_⟩
  refine List.forall_mem_cons.mpr ⟨(s_iconst (am_dp pw_X11_operand_128 dd_X11_operand_128a.2.1) (by decide)).to, ?_⟩
  refine List.forall_mem_cons.mpr ⟨zw_cv188 (am_dp pw_X11_operand_128 dd_X11_operand_128a.2.2.1) wd1680, ?_⟩
  refine List.forall_mem_cons.mpr ⟨(s_iconst (am_dp pw_X11_operand_128 dd_X11_operand_128a.2.2.2.1) (by decide)).to, ?_⟩
  refine List.forall_mem_cons.mpr ⟨s_zret (am_dp pw_X11_operand_128 dd_X11_operand_128a.2.2.2.2.1) rfl, ?_⟩
  refine List.forall_mem_cons.mpr ⟨(s_aloadn (am_dp pw_X11_operand_128 dd_X11_operand_128a.2.2.2.2.2.1) rfl).to, ?_⟩
  refine List.forall_mem_cons.mpr ⟨(s_ldc2 (am_dp pw_X11_operand_128 dd_X11_operand_128a.2.2.2.2.2.2.1) wd1689).to, ?_⟩
  refine List.forall_mem_cons.mpr ⟨zw_cv176 (am_dp pw_X11_operand_128 dd_X11_operand_128a.2.2.2.2.2.2.2) wd1622, ?_⟩
  refine List.forall_mem_cons.mpr ⟨(s_if_ne (am_dp pw_X11_operand_128 dd_X11_operand_128b.1) (by decide)).to, ?_⟩
  refine List.forall_mem_cons.mpr ⟨(s_aloadn (am_dp pw_X11_operand_128 dd_X11_operand_128b.2.1) rfl).to, ?_⟩
  refine List.forall_mem_cons.mpr ⟨(s_ldc2 (am_dp pw_X11_operand_128 dd_X11_operand_128b.2.2.1) wd1690).to, ?_⟩
  refine List.forall_mem_cons.mpr ⟨zw_cv176 (am_dp pw_X11_operand_128 dd_X11_operand_128b.2.2.2.1) wd1622, ?_⟩
  refine List.forall_mem_cons.mpr ⟨(s_if_eq (am_dp pw_X11_operand_128 dd_X11_operand_128b.2.2.2.2.1) (by decide)).to, ?_⟩
  refine List.forall_mem_cons.mpr ⟨(s_aloadn (am_dp pw_X11_operand_128 dd_X11_operand_128b.2.2.2.2.2.1) rfl).to, ?_⟩
  refine List.forall_mem_cons.mpr ⟨(s_ldc2 (am_dp pw_X11_operand_128 dd_X11_operand_128b.2.2.2.2.2.2) wd1689).to, ?_⟩
  refine List.forall_mem_cons.mpr ⟨zw_cv176 (am_dp pw_X11_operand_160 dd_X11_operand_160a.1) wd1622, ?_⟩
  refine List.forall_mem_cons.mpr ⟨(s_if_eq (am_dp pw_X11_operand_160 dd_X11_operand_160a.2.1) (by decide)).to, ?_⟩
  refine List.forall_mem_cons.mpr ⟨(s_bipush (am_dp pw_X11_operand_160 dd_X11_operand_160a.2.2.1) (by decide)).to, ?_⟩
  refine List.forall_mem_cons.mpr ⟨(s_goto (am_dp pw_X11_operand_160 dd_X11_operand_160a.2.2.2.1) (by decide)).to, ?_⟩
  refine List.forall_mem_cons.mpr ⟨(s_bipush (am_dp pw_X11_operand_160 dd_X11_operand_160a.2.2.2.2.1) (by decide)).to, ?_⟩
  refine List.forall_mem_cons.mpr ⟨(s_istoren (am_dp pw_X11_operand_160 dd_X11_operand_160a.2.2.2.2.2.1) rfl (by decide)).to, ?_⟩
  refine List.forall_mem_cons.mpr ⟨(s_aloadn (am_dp pw_X11_operand_160 dd_X11_operand_160a.2.2.2.2.2.2.1) rfl).to, ?_⟩
  refine List.forall_mem_cons.mpr ⟨zw_cv174 (am_dp pw_X11_operand_160 dd_X11_operand_160a.2.2.2.2.2.2.2) wd1603, ?_⟩
  refine List.forall_mem_cons.mpr ⟨(s_aloadn (am_dp pw_X11_operand_160 dd_X11_operand_160b.1) rfl).to, ?_⟩
  refine List.forall_mem_cons.mpr ⟨(s_bipush (am_dp pw_X11_operand_160 dd_X11_operand_160b.2.1) (by decide)).to, ?_⟩
  refine List.forall_mem_cons.mpr ⟨zw_cv175 (am_dp pw_X11_operand_160 dd_X11_operand_160b.2.2.1) wd1637, ?_⟩
  refine List.forall_mem_cons.mpr ⟨(s_if_ne (am_dp pw_X11_operand_160 dd_X11_operand_160b.2.2.2.1) (by decide)).to, ?_⟩
  refine List.forall_mem_cons.mpr ⟨(s_aloadn (am_dp pw_X11_operand_160 dd_X11_operand_160b.2.2.2.2.1) rfl).to, ?_⟩
  refine List.forall_mem_cons.mpr ⟨(s_iconst (am_dp pw_X11_operand_160 dd_X11_operand_160b.2.2.2.2.2.1) (by decide)).to, ?_⟩
  refine List.forall_mem_cons.mpr ⟨(s_aloadn (am_dp pw_X11_operand_160 dd_X11_operand_160b.2.2.2.2.2.2.1) rfl).to, ?_⟩
  refine List.forall_mem_cons.mpr ⟨(s_get (ci := 11) (k := 4) (am_dp pw_X11_operand_160 dd_X11_operand_160b.2.2.2.2.2.2.2) rfl (by decide) wd1337 inX11 rfl).to, ?_⟩
  refine List.forall_mem_cons.mpr ⟨zw_cv171 (am_dp pw_X11_operand_192 dd_X11_operand_192a.1) wd1613, ?_⟩
  refine List.forall_mem_cons.mpr ⟨(s_aloadn (am_dp pw_X11_operand_192 dd_X11_operand_192a.2.1) rfl).to, ?_⟩
  refine List.forall_mem_cons.mpr ⟨(s_iconst (am_dp pw_X11_operand_192 dd_X11_operand_192a.2.2.1) (by decide)).to, ?_⟩
  refine List.forall_mem_cons.mpr ⟨zw_cv188 (am_dp pw_X11_operand_192 dd_X11_operand_192a.2.2.2.1) wd1680, ?_⟩
  refine List.forall_mem_cons.mpr ⟨(s_aloadn (am_dp pw_X11_operand_192 dd_X11_operand_192a.2.2.2.2.1) rfl).to, ?_⟩
  refine List.forall_mem_cons.mpr ⟨(s_get (ci := 11) (k := 8) (am_dp pw_X11_operand_192 dd_X11_operand_192a.2.2.2.2.2.1) rfl (by decide) wd1341 inX11 rfl).to, ?_⟩
  refine List.forall_mem_cons.mpr ⟨(s_if_ne (am_dp pw_X11_operand_192 dd_X11_operand_192a.2.2.2.2.2.2.1) (by decide)).to, ?_⟩
  refine List.forall_mem_cons.mpr ⟨(s_aloadn (am_dp pw_X11_operand_192 dd_X11_operand_192a.2.2.2.2.2.2.2) rfl).to, ?_⟩
  refine List.forall_mem_cons.mpr ⟨(s_get (ci := 11) (k := 45) (am_dp pw_X11_operand_192 dd_X11_operand_192b.1) rfl (by decide) wd1378 inX11 rfl).to, ?_⟩
  refine List.forall_mem_cons.mpr ⟨(s_aloadn (am_dp pw_X11_operand_192 dd_X11_operand_192b.2.1) rfl).to, ?_⟩
  refine List.forall_mem_cons.mpr ⟨(s_get (ci := 11) (k := 47) (am_dp pw_X11_operand_192 dd_X11_operand_192b.2.2.1) rfl (by decide) wd1380 inX11 rfl).to, ?_⟩
  refine List.forall_mem_cons.mpr ⟨(s_iconst (am_dp pw_X11_operand_192 dd_X11_operand_192b.2.2.2.1) (by decide)).to, ?_⟩
  refine List.forall_mem_cons.mpr ⟨(s_isub (am_dp pw_X11_operand_192 dd_X11_operand_192b.2.2.2.2.1)).to, ?_⟩
  refine List.forall_mem_cons.mpr ⟨(s_iloadn (am_dp pw_X11_operand_192 dd_X11_operand_192b.2.2.2.2.2.1) rfl).to, ?_⟩
  refine List.forall_mem_cons.mpr ⟨(s_iast (am_dp pw_X11_operand_192 dd_X11_operand_192b.2.2.2.2.2.2.1)).to, ?_⟩
  refine List.forall_mem_cons.mpr ⟨(s_iconst (am_dp pw_X11_operand_192 dd_X11_operand_192b.2.2.2.2.2.2.2) (by decide)).to, ?_⟩
  refine List.forall_mem_cons.mpr ⟨s_zret (am_dp pw_X11_operand_192 dd_X11_operand_192c.1) rfl, ?_⟩
  exact fun _ h => absurd h List.not_mem_nil
theorem sn_tX11_operand_2 : ∀ q ∈ tX11_operand_2, am_Snd am_P0 RX11 cX11_operand 4 (Option.some FieldType.boolean) "operand" q.1 q.2 := by
  unfold tX11_operand_2
  refine List.forall_mem_cons.mpr ⟨(s_aloadn (am_dp pw_X11_operand_192 dd_X11_operand_192c.2) rfl).to, ?_⟩
  refine List.forall_mem_cons.mpr ⟨(s_get (ci := 11) (k := 3) (am_dp pw_X11_operand_224 dd_X11_operand_224a.1) rfl (by decide) wd1336 inX11 rfl).to, ?_⟩
  refine List.forall_mem_cons.mpr ⟨(s_iconst (am_dp pw_X11_operand_224 dd_X11_operand_224a.2.1) (by decide)).to, ?_⟩
  refine List.forall_mem_cons.mpr ⟨(s_icmp_ne (am_dp pw_X11_operand_224 dd_X11_operand_224a.2.2.1) (by decide)).to, ?_⟩
  refine List.forall_mem_cons.mpr ⟨(s_iconst (am_dp pw_X11_operand_224 dd_X11_operand_224a.2.2.2.1) (by decide)).to, ?_⟩
  refine List.forall_mem_cons.mpr ⟨(s_goto (am_dp pw_X11_operand_224 dd_X11_operand_224a.2.2.2.2.1) (by decide)).to, ?_⟩
  refine List.forall_mem_cons.mpr ⟨(s_aloadn (am_dp pw_X11_operand_224 dd_X11_operand_224a.2.2.2.2.2.1) rfl).to, ?_⟩
  refine List.forall_mem_cons.mpr ⟨(s_ldc2 (am_dp pw_X11_operand_224 dd_X11_operand_224a.2.2.2.2.2.2.1) wd1691).to, ?_⟩
  refine List.forall_mem_cons.mpr ⟨zw_cv176 (am_dp pw_X11_operand_224 dd_X11_operand_224a.2.2.2.2.2.2.2) wd1622, ?_⟩
  refine List.forall_mem_cons.mpr ⟨(s_if_eq (am_dp pw_X11_operand_224 dd_X11_operand_224b.1) (by decide)).to, ?_⟩
  refine List.forall_mem_cons.mpr ⟨(s_iconst (am_dp pw_X11_operand_224 dd_X11_operand_224b.2.1) (by decide)).to, ?_⟩
  refine List.forall_mem_cons.mpr ⟨(s_goto (am_dp pw_X11_operand_224 dd_X11_operand_224b.2.2.1) (by decide)).to, ?_⟩
  refine List.forall_mem_cons.mpr ⟨(s_aloadn (am_dp pw_X11_operand_224 dd_X11_operand_224b.2.2.2.1) rfl).to, ?_⟩
  refine List.forall_mem_cons.mpr ⟨(s_ldc2 (am_dp pw_X11_operand_224 dd_X11_operand_224b.2.2.2.2.1) wd1692).to, ?_⟩
  refine List.forall_mem_cons.mpr ⟨zw_cv176 (am_dp pw_X11_operand_224 dd_X11_operand_224b.2.2.2.2.2) wd1622, ?_⟩
  refine List.forall_mem_cons.mpr ⟨(s_if_eq (am_dp pw_X11_operand_256 dd_X11_operand_256a.1) (by decide)).to, ?_⟩
  refine List.forall_mem_cons.mpr ⟨(s_iconst (am_dp pw_X11_operand_256 dd_X11_operand_256a.2.1) (by decide)).to, ?_⟩
  refine List.forall_mem_cons.mpr ⟨(s_goto (am_dp pw_X11_operand_256 dd_X11_operand_256a.2.2.1) (by decide)).to, ?_⟩
  refine List.forall_mem_cons.mpr ⟨(s_aloadn (am_dp pw_X11_operand_256 dd_X11_operand_256a.2.2.2.1) rfl).to, ?_⟩
  refine List.forall_mem_cons.mpr ⟨(s_ldc2 (am_dp pw_X11_operand_256 dd_X11_operand_256a.2.2.2.2.1) wd1693).to, ?_⟩
  refine List.forall_mem_cons.mpr ⟨zw_cv176 (am_dp pw_X11_operand_256 dd_X11_operand_256a.2.2.2.2.2.1) wd1622, ?_⟩
  refine List.forall_mem_cons.mpr ⟨(s_if_eq (am_dp pw_X11_operand_256 dd_X11_operand_256a.2.2.2.2.2.2.1) (by decide)).to, ?_⟩
  refine List.forall_mem_cons.mpr ⟨(s_iconst (am_dp pw_X11_operand_256 dd_X11_operand_256a.2.2.2.2.2.2.2) (by decide)).to, ?_⟩
  refine List.forall_mem_cons.mpr ⟨(s_goto (am_dp pw_X11_operand_256 dd_X11_operand_256b.1) (by decide)).to, ?_⟩
  refine List.forall_mem_cons.mpr ⟨(s_aloadn (am_dp pw_X11_operand_256 dd_X11_operand_256b.2.1) rfl).to, ?_⟩
  refine List.forall_mem_cons.mpr ⟨(s_ldc2 (am_dp pw_X11_operand_256 dd_X11_operand_256b.2.2.1) wd1645).to, ?_⟩
  refine List.forall_mem_cons.mpr ⟨zw_cv176 (am_dp pw_X11_operand_256 dd_X11_operand_256b.2.2.2.1) wd1622, ?_⟩
  refine List.forall_mem_cons.mpr ⟨(s_if_eq (am_dp pw_X11_operand_256 dd_X11_operand_256b.2.2.2.2.1) (by decide)).to, ?_⟩
  refine List.forall_mem_cons.mpr ⟨(s_iconst (am_dp pw_X11_operand_256 dd_X11_operand_256b.2.2.2.2.2) (by decide)).to, ?_⟩
  refine List.forall_mem_cons.mpr ⟨(s_goto (am_dp pw_X11_operand_288 dd_X11_operand_288a.1) (by decide)).to, ?_⟩
  refine List.forall_mem_cons.mpr ⟨(s_iconst (am_dp pw_X11_operand_288 dd_X11_operand_288a.2.1) (by decide)).to, ?_⟩
  refine List.forall_mem_cons.mpr ⟨(s_istoren (am_dp pw_X11_operand_288 dd_X11_operand_288a.2.2.1) rfl (by decide)).to, ?_⟩
  refine List.forall_mem_cons.mpr ⟨(s_iloadn (am_dp pw_X11_operand_288 dd_X11_operand_288a.2.2.2.1) rfl).to, ?_⟩
  refine List.forall_mem_cons.mpr ⟨(s_iconst (am_dp pw_X11_operand_288 dd_X11_operand_288a.2.2.2.2.1) (by decide)).to, ?_⟩
  refine List.forall_mem_cons.mpr ⟨(s_icmp_ne (am_dp pw_X11_operand_288 dd_X11_operand_288a.2.2.2.2.2.1) (by decide)).to, ?_⟩
  refine List.forall_mem_cons.mpr ⟨(s_aloadn (am_dp pw_X11_operand_288 dd_X11_operand_288a.2.2.2.2.2.2.1) rfl).to, ?_⟩
  refine List.forall_mem_cons.mpr ⟨(s_iconst (am_dp pw_X11_operand_288 dd_X11_operand_288a.2.2.2.2.2.2.2) (by decide)).to, ?_⟩
  refine List.forall_mem_cons.mpr ⟨(s_aloadn (am_dp pw_X11_operand_288 dd_X11_operand_288b.1) rfl).to, ?_⟩
  refine List.forall_mem_cons.mpr ⟨(s_get (ci := 11) (k := 4) (am_dp pw_X11_operand_288 dd_X11_operand_288b.2.1) rfl (by decide) wd1337 inX11 rfl).to, ?_⟩
  refine List.forall_mem_cons.mpr ⟨zw_cv171 (am_dp pw_X11_operand_288 dd_X11_operand_288b.2.2.1) wd1613, ?_⟩
  refine List.forall_mem_cons.mpr ⟨(s_aloadn (am_dp pw_X11_operand_288 dd_X11_operand_288b.2.2.2.1) rfl).to, ?_⟩
  refine List.forall_mem_cons.mpr ⟨(s_get (ci := 11) (k := 8) (am_dp pw_X11_operand_288 dd_X11_operand_288b.2.2.2.2.1) rfl (by decide) wd1341 inX11 rfl).to, ?_⟩
  refine List.forall_mem_cons.mpr ⟨(s_if_le (am_dp pw_X11_operand_288 dd_X11_operand_288b.2.2.2.2.2.1) (by decide)).to, ?_⟩
  refine List.forall_mem_cons.mpr ⟨(s_iconst (am_dp pw_X11_operand_288 dd_X11_operand_288b.2.2.2.2.2.2.1) (by decide)).to, ?_⟩
  refine List.forall_mem_cons.mpr ⟨s_zret (am_dp pw_X11_operand_288 dd_X11_operand_288b.2.2.2.2.2.2.2) rfl, ?_⟩
  refine List.forall_mem_cons.mpr ⟨(s_aloadn (am_dp pw_X11_operand_288 dd_X11_operand_288c.1) rfl).to, ?_⟩
  refine List.forall_mem_cons.mpr ⟨(s_iloadn (am_dp pw_X11_operand_288 dd_X11_operand_288c.2.1) rfl).to, ?_⟩
  refine List.forall_mem_cons.mpr ⟨(s_aloadn (am_dp pw_X11_operand_288 dd_X11_operand_288c.2.2.1) rfl).to, ?_⟩
  refine List.forall_mem_cons.mpr ⟨(s_get (ci := 11) (k := 6) (am_dp pw_X11_operand_288 dd_X11_operand_288c.2.2.2) rfl (by decide) wd1339 inX11 rfl).to, ?_⟩
  refine List.forall_mem_cons.mpr ⟨zw_cv183 (am_dp pw_X11_operand_320 dd_X11_operand_320a.1) wd1685, ?_⟩
  refine List.forall_mem_cons.mpr ⟨(s_aloadn (am_dp pw_X11_operand_320 dd_X11_operand_320a.2.1) rfl).to, ?_⟩
  refine List.forall_mem_cons.mpr ⟨zw_cv174 (am_dp pw_X11_operand_320 dd_X11_operand_320a.2.2.1) wd1603, ?_⟩
  refine List.forall_mem_cons.mpr ⟨(s_iconst (am_dp pw_X11_operand_320 dd_X11_operand_320a.2.2.2.1) (by decide)).to, ?_⟩
  refine List.forall_mem_cons.mpr ⟨s_zret (am_dp pw_X11_operand_320 dd_X11_operand_320a.2.2.2.2) rfl, ?_⟩
  exact fun _ h => absurd h List.not_mem_nil
theorem sn_tX11_operand : ∀ q ∈ tX11_operand, am_Snd am_P0 RX11 cX11_operand 4 (Option.some FieldType.boolean) "operand" q.1 q.2 := by
  unfold tX11_operand
  exact List.forall_mem_append.mpr ⟨List.forall_mem_append.mpr ⟨sn_tX11_operand_0, sn_tX11_operand_1⟩, sn_tX11_operand_2⟩
theorem sn_tX11_goesOn_0 : ∀ q ∈ tX11_goesOn_0, am_Snd am_P0 RX11 cX11_goesOn 5 (Option.some FieldType.boolean) "goesOn" q.1 q.2 := by
  unfold tX11_goesOn_0
  refine List.forall_mem_cons.mpr ⟨(s_aloadn (am_dp pw_X11_goesOn_0 dd_X11_goesOn_0a.1) rfl).to, ?_⟩
  refine List.forall_mem_cons.mpr ⟨(s_get (ci := 11) (k := 47) (am_dp pw_X11_goesOn_0 dd_X11_goesOn_0a.2.1) rfl (by decide) wd1380 inX11 rfl).to, ?_⟩
  refine List.forall_mem_cons.mpr ⟨(s_iconst (am_dp pw_X11_goesOn_0 dd_X11_goesOn_0a.2.2.1) (by decide)).to, ?_⟩
  refine List.forall_mem_cons.mpr ⟨(s_isub (am_dp pw_X11_goesOn_0 dd_X11_goesOn_0a.2.2.2.1)).to, ?_⟩
  refine List.forall_mem_cons.mpr ⟨(s_istoren (am_dp pw_X11_goesOn_0 dd_X11_goesOn_0a.2.2.2.2.1) rfl (by decide)).to, ?_⟩
  refine List.forall_mem_cons.mpr ⟨(s_aloadn (am_dp pw_X11_goesOn_0 dd_X11_goesOn_0a.2.2.2.2.2.1) rfl).to, ?_⟩
  refine List.forall_mem_cons.mpr ⟨(s_get (ci := 11) (k := 42) (am_dp pw_X11_goesOn_0 dd_X11_goesOn_0a.2.2.2.2.2.2.1) rfl (by decide) wd1375 inX11 rfl).to, ?_⟩
  refine List.forall_mem_cons.mpr ⟨(s_iloadn (am_dp pw_X11_goesOn_0 dd_X11_goesOn_0a.2.2.2.2.2.2.2) rfl).to, ?_⟩
  refine List.forall_mem_cons.mpr ⟨(s_iald (am_dp pw_X11_goesOn_0 dd_X11_goesOn_0b.1)).to, ?_⟩
  refine List.forall_mem_cons.mpr ⟨(s_istoren (am_dp pw_X11_goesOn_0 dd_X11_goesOn_0b.2.1) rfl (by decide)).to, ?_⟩
  refine List.forall_mem_cons.mpr ⟨(s_iloadn (am_dp pw_X11_goesOn_0 dd_X11_goesOn_0b.2.2.1) rfl).to, ?_⟩
  refine List.forall_mem_cons.mpr ⟨zw_cs189 (am_dp pw_X11_goesOn_0 dd_X11_goesOn_0b.2.2.2.1) wd1672, ?_⟩
  refine List.forall_mem_cons.mpr ⟨(s_istoren (am_dp pw_X11_goesOn_0 dd_X11_goesOn_0b.2.2.2.2.1) rfl (by decide)).to, ?_⟩
  refine List.forall_mem_cons.mpr ⟨(s_aloadn (am_dp pw_X11_goesOn_0 dd_X11_goesOn_0b.2.2.2.2.2.1) rfl).to, ?_⟩
  refine List.forall_mem_cons.mpr ⟨(s_get (ci := 11) (k := 43) (am_dp pw_X11_goesOn_0 dd_X11_goesOn_0b.2.2.2.2.2.2.1) rfl (by decide) wd1376 inX11 rfl).to, ?_⟩
  refine List.forall_mem_cons.mpr ⟨(s_iloadn (am_dp pw_X11_goesOn_0 dd_X11_goesOn_0b.2.2.2.2.2.2.2) rfl).to, ?_⟩
  refine List.forall_mem_cons.mpr ⟨(s_iald (am_dp pw_X11_goesOn_0 dd_X11_goesOn_0c.1)).to, ?_⟩
  refine List.forall_mem_cons.mpr ⟨(s_iconst (am_dp pw_X11_goesOn_0 dd_X11_goesOn_0c.2.1) (by decide)).to, ?_⟩
  refine List.forall_mem_cons.mpr ⟨(s_icmp_ge (am_dp pw_X11_goesOn_0 dd_X11_goesOn_0c.2.2.1) (by decide)).to, ?_⟩
  refine List.forall_mem_cons.mpr ⟨(s_aloadn (am_dp pw_X11_goesOn_0 dd_X11_goesOn_0c.2.2.2.1) rfl).to, ?_⟩
  refine List.forall_mem_cons.mpr ⟨(s_bipush (am_dp pw_X11_goesOn_0 dd_X11_goesOn_0c.2.2.2.2) (by decide)).to, ?_⟩
  refine List.forall_mem_cons.mpr ⟨zw_cv175 (am_dp pw_X11_goesOn_32 dd_X11_goesOn_32a.1) wd1637, ?_⟩
  refine List.forall_mem_cons.mpr ⟨(s_if_ne (am_dp pw_X11_goesOn_32 dd_X11_goesOn_32a.2.1) (by decide)).to, ?_⟩
  refine List.forall_mem_cons.mpr ⟨(s_aloadn (am_dp pw_X11_goesOn_32 dd_X11_goesOn_32a.2.2.1) rfl).to, ?_⟩
  refine List.forall_mem_cons.mpr ⟨(s_bipush (am_dp pw_X11_goesOn_32 dd_X11_goesOn_32a.2.2.2.1) (by decide)).to, ?_⟩
  refine List.forall_mem_cons.mpr ⟨zw_cv175 (am_dp pw_X11_goesOn_32 dd_X11_goesOn_32a.2.2.2.2.1) wd1637, ?_⟩
  refine List.forall_mem_cons.mpr ⟨(s_if_ne (am_dp pw_X11_goesOn_32 dd_X11_goesOn_32a.2.2.2.2.2.1) (by decide)).to, ?_⟩
  refine List.forall_mem_cons.mpr ⟨(s_aloadn (am_dp pw_X11_goesOn_32 dd_X11_goesOn_32a.2.2.2.2.2.2.1) rfl).to, ?_⟩
  refine List.forall_mem_cons.mpr ⟨(s_bipush (am_dp pw_X11_goesOn_32 dd_X11_goesOn_32a.2.2.2.2.2.2.2) (by decide)).to, ?_⟩
  refine List.forall_mem_cons.mpr ⟨zw_cv175 (am_dp pw_X11_goesOn_32 dd_X11_goesOn_32b.1) wd1637, ?_⟩
  refine List.forall_mem_cons.mpr ⟨(s_if_ne (am_dp pw_X11_goesOn_32 dd_X11_goesOn_32b.2.1) (by decide)).to, ?_⟩
  refine List.forall_mem_cons.mpr ⟨(s_aloadn (am_dp pw_X11_goesOn_32 dd_X11_goesOn_32b.2.2.1) rfl).to, ?_⟩
  refine List.forall_mem_cons.mpr ⟨(s_bipush (am_dp pw_X11_goesOn_32 dd_X11_goesOn_32b.2.2.2.1) (by decide)).to, ?_⟩
  refine List.forall_mem_cons.mpr ⟨zw_cv175 (am_dp pw_X11_goesOn_32 dd_X11_goesOn_32b.2.2.2.2.1) wd1637, ?_⟩
  refine List.forall_mem_cons.mpr ⟨(s_if_ne (am_dp pw_X11_goesOn_32 dd_X11_goesOn_32b.2.2.2.2.2) (by decide)).to, ?_⟩
  refine List.forall_mem_cons.mpr ⟨(s_aloadn (am_dp pw_X11_goesOn_64 dd_X11_goesOn_64a.1) rfl).to, ?_⟩
  refine List.forall_mem_cons.mpr ⟨(s_bipush (am_dp pw_X11_goesOn_64 dd_X11_goesOn_64a.2.1) (by decide)).to, ?_⟩
  refine List.forall_mem_cons.mpr ⟨zw_cv175 (am_dp pw_X11_goesOn_64 dd_X11_goesOn_64a.2.2.1) wd1637, ?_⟩
  refine List.forall_mem_cons.mpr ⟨(s_if_eq (am_dp pw_X11_goesOn_64 dd_X11_goesOn_64a.2.2.2.1) (by decide)).to, ?_⟩
  refine List.forall_mem_cons.mpr ⟨(s_aloadn (am_dp pw_X11_goesOn_64 dd_X11_goesOn_64a.2.2.2.2.1) rfl).to, ?_⟩
  refine List.forall_mem_cons.mpr ⟨(s_aloadn (am_dp pw_X11_goesOn_64 dd_X11_goesOn_64a.2.2.2.2.2.1) rfl).to, ?_⟩
  refine List.forall_mem_cons.mpr ⟨(s_bipush (am_dp pw_X11_goesOn_64 dd_X11_goesOn_64a.2.2.2.2.2.2.1) (by decide)).to, ?_⟩
  refine List.forall_mem_cons.mpr ⟨zw_cv175 (am_dp pw_X11_goesOn_64 dd_X11_goesOn_64a.2.2.2.2.2.2.2) wd1637, ?_⟩
  refine List.forall_mem_cons.mpr ⟨(s_if_ne (am_dp pw_X11_goesOn_64 dd_X11_goesOn_64b.1) (by decide)).to, ?_⟩
  refine List.forall_mem_cons.mpr ⟨(s_aloadn (am_dp pw_X11_goesOn_64 dd_X11_goesOn_64b.2.1) rfl).to, ?_⟩
  refine List.forall_mem_cons.mpr ⟨(s_bipush (am_dp pw_X11_goesOn_64 dd_X11_goesOn_64b.2.2.1) (by decide)).to, ?_⟩
  refine List.forall_mem_cons.mpr ⟨zw_cv175 (am_dp pw_X11_goesOn_64 dd_X11_goesOn_64b.2.2.2.1) wd1637, ?_⟩
  refine List.forall_mem_cons.mpr ⟨(s_if_eq (am_dp pw_X11_goesOn_64 dd_X11_goesOn_64b.2.2.2.2.1) (by decide)).to, ?_⟩
  refine List.forall_mem_cons.mpr ⟨(s_iconst (am_dp pw_X11_goesOn_64 dd_X11_goesOn_64b.2.2.2.2.2.1) (by decide)).to, ?_⟩
  refine List.forall_mem_cons.mpr ⟨(s_goto (am_dp pw_X11_goesOn_64 dd_X11_goesOn_64b.2.2.2.2.2.2) (by decide)).to, ?_⟩
  refine List.forall_mem_cons.mpr ⟨(s_bipush (am_dp pw_X11_goesOn_96 dd_X11_goesOn_96a.1) (by decide)).to, ?_⟩
  refine List.forall_mem_cons.mpr ⟨zw_cv185 (am_dp pw_X11_goesOn_96 dd_X11_goesOn_96a.2.1) wd1698, ?_⟩
  refine List.forall_mem_cons.mpr ⟨(s_aloadn (am_dp pw_X11_goesOn_96 dd_X11_goesOn_96a.2.2.1) rfl).to, ?_⟩
  refine List.forall_mem_cons.mpr ⟨(s_aloadn (am_dp pw_X11_goesOn_96 dd_X11_goesOn_96a.2.2.2.1) rfl).to, ?_⟩
  refine List.forall_mem_cons.mpr ⟨(s_bipush (am_dp pw_X11_goesOn_96 dd_X11_goesOn_96a.2.2.2.2.1) (by decide)).to, ?_⟩
  refine List.forall_mem_cons.mpr ⟨zw_cv175 (am_dp pw_X11_goesOn_96 dd_X11_goesOn_96a.2.2.2.2.2.1) wd1637, ?_⟩
  refine List.forall_mem_cons.mpr ⟨(s_if_eq (am_dp pw_X11_goesOn_96 dd_X11_goesOn_96a.2.2.2.2.2.2.1) (by decide)).to, ?_⟩
  refine List.forall_mem_cons.mpr ⟨(s_bipush (am_dp pw_X11_goesOn_96 dd_X11_goesOn_96a.2.2.2.2.2.2.2) (by decide)).to, ?_⟩
  refine List.forall_mem_cons.mpr ⟨(s_goto (am_dp pw_X11_goesOn_96 dd_X11_goesOn_96b.1) (by decide)).to, ?_⟩
  refine List.forall_mem_cons.mpr ⟨(s_aloadn (am_dp pw_X11_goesOn_96 dd_X11_goesOn_96b.2.1) rfl).to, ?_⟩
  exact fun _ h => absurd h List.not_mem_nil
theorem sn_tX11_goesOn_1 : ∀ q ∈ tX11_goesOn_1, am_Snd am_P0 RX11 cX11_goesOn 5 (Option.some FieldType.boolean) "goesOn" q.1 q.2 := by
  unfold tX11_goesOn_1
  refine List.forall_mem_cons.mpr ⟨(s_bipush (am_dp pw_X11_goesOn_96 dd_X11_goesOn_96b.2.2.1) (by decide)).to, ?_⟩
  refine List.forall_mem_cons.mpr ⟨zw_cv175 (am_dp pw_X11_goesOn_96 dd_X11_goesOn_96b.2.2.2.1) wd1637, ?_⟩
  refine List.forall_mem_cons.mpr ⟨(s_if_eq (am_dp pw_X11_goesOn_96 dd_X11_goesOn_96b.2.2.2.2.1) (by decide)).to, ?_⟩
  refine List.forall_mem_cons.mpr ⟨(s_bipush (am_dp pw_X11_goesOn_96 dd_X11_goesOn_96b.2.2.2.2.2) (by decide)).to, ?_⟩
  refine List.forall_mem_cons.mpr ⟨(s_goto (am_dp pw_X11_goesOn_128 dd_X11_goesOn_128a.1) (by decide)).to, ?_⟩
  refine List.forall_mem_cons.mpr ⟨(s_aloadn (am_dp pw_X11_goesOn_128 dd_X11_goesOn_128a.2.1) rfl).to, ?_⟩
  refine List.forall_mem_cons.mpr ⟨(s_bipush (am_dp pw_X11_goesOn_128 dd_X11_goesOn_128a.2.2.1) (by decide)).to, ?_⟩
  refine List.forall_mem_cons.mpr ⟨zw_cv175 (am_dp pw_X11_goesOn_128 dd_X11_goesOn_128a.2.2.2.1) wd1637, ?_⟩
  refine List.forall_mem_cons.mpr ⟨(s_if_eq (am_dp pw_X11_goesOn_128 dd_X11_goesOn_128a.2.2.2.2.1) (by decide)).to, ?_⟩
  refine List.forall_mem_cons.mpr ⟨(s_bipush (am_dp pw_X11_goesOn_128 dd_X11_goesOn_128a.2.2.2.2.2.1) (by decide)).to, ?_⟩
  refine List.forall_mem_cons.mpr ⟨(s_goto (am_dp pw_X11_goesOn_128 dd_X11_goesOn_128a.2.2.2.2.2.2.1) (by decide)).to, ?_⟩
  refine List.forall_mem_cons.mpr ⟨(s_aloadn (am_dp pw_X11_goesOn_128 dd_X11_goesOn_128a.2.2.2.2.2.2.2) rfl).to, ?_⟩
  refine List.forall_mem_cons.mpr ⟨(s_bipush (am_dp pw_X11_goesOn_128 dd_X11_goesOn_128b.1) (by decide)).to, ?_⟩
  refine List.forall_mem_cons.mpr ⟨zw_cv175 (am_dp pw_X11_goesOn_128 dd_X11_goesOn_128b.2.1) wd1637, ?_⟩
  refine List.forall_mem_cons.mpr ⟨(s_if_eq (am_dp pw_X11_goesOn_128 dd_X11_goesOn_128b.2.2.1) (by decide)).to, ?_⟩
  refine List.forall_mem_cons.mpr ⟨(s_bipush (am_dp pw_X11_goesOn_128 dd_X11_goesOn_128b.2.2.2.1) (by decide)).to, ?_⟩
  refine List.forall_mem_cons.mpr ⟨(s_goto (am_dp pw_X11_goesOn_128 dd_X11_goesOn_128b.2.2.2.2.1) (by decide)).to, ?_⟩
  refine List.forall_mem_cons.mpr ⟨(s_bipush (am_dp pw_X11_goesOn_128 dd_X11_goesOn_128b.2.2.2.2.2) (by decide)).to, ?_⟩
  refine List.forall_mem_cons.mpr ⟨zw_cv186 (am_dp pw_X11_goesOn_160 dd_X11_goesOn_160a.1) wd1676, ?_⟩
  refine List.forall_mem_cons.mpr ⟨(s_aloadn (am_dp pw_X11_goesOn_160 dd_X11_goesOn_160a.2.1) rfl).to, ?_⟩
  refine List.forall_mem_cons.mpr ⟨zw_cv174 (am_dp pw_X11_goesOn_160 dd_X11_goesOn_160a.2.2.1) wd1603, ?_⟩
  refine List.forall_mem_cons.mpr ⟨(s_aloadn (am_dp pw_X11_goesOn_160 dd_X11_goesOn_160a.2.2.2.1) rfl).to, ?_⟩
  refine List.forall_mem_cons.mpr ⟨(s_iconst (am_dp pw_X11_goesOn_160 dd_X11_goesOn_160a.2.2.2.2.1) (by decide)).to, ?_⟩
  refine List.forall_mem_cons.mpr ⟨(s_put (ci := 11) (k := 51) (am_dp pw_X11_goesOn_160 dd_X11_goesOn_160a.2.2.2.2.2.1) rfl (by decide) wd1384 inX11 tyX11_ok nmX11 rfl rfl).to, ?_⟩
  refine List.forall_mem_cons.mpr ⟨(s_iconst (am_dp pw_X11_goesOn_160 dd_X11_goesOn_160a.2.2.2.2.2.2.1) (by decide)).to, ?_⟩
  refine List.forall_mem_cons.mpr ⟨s_zret (am_dp pw_X11_goesOn_160 dd_X11_goesOn_160a.2.2.2.2.2.2.2) rfl, ?_⟩
  refine List.forall_mem_cons.mpr ⟨(s_iloadn (am_dp pw_X11_goesOn_160 dd_X11_goesOn_160b.1) rfl).to, ?_⟩
  refine List.forall_mem_cons.mpr ⟨(s_if_eq (am_dp pw_X11_goesOn_160 dd_X11_goesOn_160b.2.1) (by decide)).to, ?_⟩
  refine List.forall_mem_cons.mpr ⟨(s_aloadn (am_dp pw_X11_goesOn_160 dd_X11_goesOn_160b.2.2.1) rfl).to, ?_⟩
  refine List.forall_mem_cons.mpr ⟨(s_get (ci := 11) (k := 43) (am_dp pw_X11_goesOn_160 dd_X11_goesOn_160b.2.2.2.1) rfl (by decide) wd1376 inX11 rfl).to, ?_⟩
  refine List.forall_mem_cons.mpr ⟨(s_iloadn (am_dp pw_X11_goesOn_160 dd_X11_goesOn_160b.2.2.2.2.1) rfl).to, ?_⟩
  refine List.forall_mem_cons.mpr ⟨(s_iald (am_dp pw_X11_goesOn_160 dd_X11_goesOn_160b.2.2.2.2.2.1)).to, ?_⟩
  refine List.forall_mem_cons.mpr ⟨(s_if_ne (am_dp pw_X11_goesOn_160 dd_X11_goesOn_160b.2.2.2.2.2.2.1) (by decide)).to, ?_⟩
  refine List.forall_mem_cons.mpr ⟨(s_aloadn (am_dp pw_X11_goesOn_160 dd_X11_goesOn_160b.2.2.2.2.2.2.2) rfl).to, ?_⟩
  refine List.forall_mem_cons.mpr ⟨(s_bipush (am_dp pw_X11_goesOn_160 dd_X11_goesOn_160c.1) (by decide)).to, ?_⟩
  refine List.forall_mem_cons.mpr ⟨zw_cv175 (am_dp pw_X11_goesOn_160 dd_X11_goesOn_160c.2) wd1637, ?_⟩
  refine List.forall_mem_cons.mpr ⟨(s_if_ne (am_dp pw_X11_goesOn_192 dd_X11_goesOn_192a.1) (by decide)).to, ?_⟩
  refine List.forall_mem_cons.mpr ⟨(s_aloadn (am_dp pw_X11_goesOn_192 dd_X11_goesOn_192a.2.1) rfl).to, ?_⟩
  refine List.forall_mem_cons.mpr ⟨(s_bipush (am_dp pw_X11_goesOn_192 dd_X11_goesOn_192a.2.2.1) (by decide)).to, ?_⟩
  refine List.forall_mem_cons.mpr ⟨zw_cv175 (am_dp pw_X11_goesOn_192 dd_X11_goesOn_192a.2.2.2.1) wd1637, ?_⟩
  refine List.forall_mem_cons.mpr ⟨(s_if_ne (am_dp pw_X11_goesOn_192 dd_X11_goesOn_192a.2.2.2.2.1) (by decide)).to, ?_⟩
  refine List.forall_mem_cons.mpr ⟨(s_aloadn (am_dp pw_X11_goesOn_192 dd_X11_goesOn_192a.2.2.2.2.2.1) rfl).to, ?_⟩
  refine List.forall_mem_cons.mpr ⟨(s_bipush (am_dp pw_X11_goesOn_192 dd_X11_goesOn_192a.2.2.2.2.2.2.1) (by decide)).to, ?_⟩
  refine List.forall_mem_cons.mpr ⟨zw_cv175 (am_dp pw_X11_goesOn_192 dd_X11_goesOn_192a.2.2.2.2.2.2.2) wd1637, ?_⟩
  refine List.forall_mem_cons.mpr ⟨(s_if_eq (am_dp pw_X11_goesOn_192 dd_X11_goesOn_192b.1) (by decide)).to, ?_⟩
  refine List.forall_mem_cons.mpr ⟨(s_aloadn (am_dp pw_X11_goesOn_192 dd_X11_goesOn_192b.2.1) rfl).to, ?_⟩
  refine List.forall_mem_cons.mpr ⟨(s_iconst (am_dp pw_X11_goesOn_192 dd_X11_goesOn_192b.2.2.1) (by decide)).to, ?_⟩
  refine List.forall_mem_cons.mpr ⟨zw_cv185 (am_dp pw_X11_goesOn_192 dd_X11_goesOn_192b.2.2.2.1) wd1698, ?_⟩
  refine List.forall_mem_cons.mpr ⟨(s_aloadn (am_dp pw_X11_goesOn_192 dd_X11_goesOn_192b.2.2.2.2.1) rfl).to, ?_⟩
  refine List.forall_mem_cons.mpr ⟨(s_aloadn (am_dp pw_X11_goesOn_192 dd_X11_goesOn_192b.2.2.2.2.2.1) rfl).to, ?_⟩
  refine List.forall_mem_cons.mpr ⟨(s_bipush (am_dp pw_X11_goesOn_192 dd_X11_goesOn_192b.2.2.2.2.2.2) (by decide)).to, ?_⟩
  refine List.forall_mem_cons.mpr ⟨zw_cv175 (am_dp pw_X11_goesOn_224 dd_X11_goesOn_224a.1) wd1637, ?_⟩
  refine List.forall_mem_cons.mpr ⟨(s_if_eq (am_dp pw_X11_goesOn_224 dd_X11_goesOn_224a.2.1) (by decide)).to, ?_⟩
  refine List.forall_mem_cons.mpr ⟨(s_bipush (am_dp pw_X11_goesOn_224 dd_X11_goesOn_224a.2.2.1) (by decide)).to, ?_⟩
  refine List.forall_mem_cons.mpr ⟨(s_goto (am_dp pw_X11_goesOn_224 dd_X11_goesOn_224a.2.2.2.1) (by decide)).to, ?_⟩
  refine List.forall_mem_cons.mpr ⟨(s_aloadn (am_dp pw_X11_goesOn_224 dd_X11_goesOn_224a.2.2.2.2.1) rfl).to, ?_⟩
  refine List.forall_mem_cons.mpr ⟨(s_bipush (am_dp pw_X11_goesOn_224 dd_X11_goesOn_224a.2.2.2.2.2.1) (by decide)).to, ?_⟩
  refine List.forall_mem_cons.mpr ⟨zw_cv175 (am_dp pw_X11_goesOn_224 dd_X11_goesOn_224a.2.2.2.2.2.2.1) wd1637, ?_⟩
  refine List.forall_mem_cons.mpr ⟨(s_if_eq (am_dp pw_X11_goesOn_224 dd_X11_goesOn_224a.2.2.2.2.2.2.2) (by decide)).to, ?_⟩
  refine List.forall_mem_cons.mpr ⟨(s_bipush (am_dp pw_X11_goesOn_224 dd_X11_goesOn_224b.1) (by decide)).to, ?_⟩
  exact fun _ h => absurd h List.not_mem_nil
theorem sn_tX11_goesOn_2 : ∀ q ∈ tX11_goesOn_2, am_Snd am_P0 RX11 cX11_goesOn 5 (Option.some FieldType.boolean) "goesOn" q.1 q.2 := by
  unfold tX11_goesOn_2
  refine List.forall_mem_cons.mpr ⟨(s_goto (am_dp pw_X11_goesOn_224 dd_X11_goesOn_224b.2.1) (by decide)).to, ?_⟩
  refine List.forall_mem_cons.mpr ⟨(s_bipush (am_dp pw_X11_goesOn_224 dd_X11_goesOn_224b.2.2.1) (by decide)).to, ?_⟩
  refine List.forall_mem_cons.mpr ⟨zw_cv186 (am_dp pw_X11_goesOn_224 dd_X11_goesOn_224b.2.2.2.1) wd1676, ?_⟩
  refine List.forall_mem_cons.mpr ⟨(s_aloadn (am_dp pw_X11_goesOn_224 dd_X11_goesOn_224b.2.2.2.2.1) rfl).to, ?_⟩
  refine List.forall_mem_cons.mpr ⟨(s_get (ci := 11) (k := 43) (am_dp pw_X11_goesOn_224 dd_X11_goesOn_224b.2.2.2.2.2) rfl (by decide) wd1376 inX11 rfl).to, ?_⟩
  refine List.forall_mem_cons.mpr ⟨(s_iloadn (am_dp pw_X11_goesOn_256 dd_X11_goesOn_256a.1) rfl).to, ?_⟩
  refine List.forall_mem_cons.mpr ⟨(s_iconst (am_dp pw_X11_goesOn_256 dd_X11_goesOn_256a.2.1) (by decide)).to, ?_⟩
  refine List.forall_mem_cons.mpr ⟨(s_iast (am_dp pw_X11_goesOn_256 dd_X11_goesOn_256a.2.2.1)).to, ?_⟩
  refine List.forall_mem_cons.mpr ⟨(s_aloadn (am_dp pw_X11_goesOn_256 dd_X11_goesOn_256a.2.2.2.1) rfl).to, ?_⟩
  refine List.forall_mem_cons.mpr ⟨zw_cv174 (am_dp pw_X11_goesOn_256 dd_X11_goesOn_256a.2.2.2.2.1) wd1603, ?_⟩
  refine List.forall_mem_cons.mpr ⟨(s_aloadn (am_dp pw_X11_goesOn_256 dd_X11_goesOn_256a.2.2.2.2.2.1) rfl).to, ?_⟩
  refine List.forall_mem_cons.mpr ⟨(s_iconst (am_dp pw_X11_goesOn_256 dd_X11_goesOn_256a.2.2.2.2.2.2.1) (by decide)).to, ?_⟩
  refine List.forall_mem_cons.mpr ⟨(s_put (ci := 11) (k := 51) (am_dp pw_X11_goesOn_256 dd_X11_goesOn_256a.2.2.2.2.2.2.2) rfl (by decide) wd1384 inX11 tyX11_ok nmX11 rfl rfl).to, ?_⟩
  refine List.forall_mem_cons.mpr ⟨(s_iconst (am_dp pw_X11_goesOn_256 dd_X11_goesOn_256b.1) (by decide)).to, ?_⟩
  refine List.forall_mem_cons.mpr ⟨s_zret (am_dp pw_X11_goesOn_256 dd_X11_goesOn_256b.2.1) rfl, ?_⟩
  refine List.forall_mem_cons.mpr ⟨(s_iloadn (am_dp pw_X11_goesOn_256 dd_X11_goesOn_256b.2.2.1) rfl).to, ?_⟩
  refine List.forall_mem_cons.mpr ⟨(s_if_eq (am_dp pw_X11_goesOn_256 dd_X11_goesOn_256b.2.2.2.1) (by decide)).to, ?_⟩
  refine List.forall_mem_cons.mpr ⟨(s_aloadn (am_dp pw_X11_goesOn_256 dd_X11_goesOn_256b.2.2.2.2.1) rfl).to, ?_⟩
  refine List.forall_mem_cons.mpr ⟨(s_ldc2 (am_dp pw_X11_goesOn_256 dd_X11_goesOn_256b.2.2.2.2.2.1) wd1705).to, ?_⟩
  refine List.forall_mem_cons.mpr ⟨zw_cv176 (am_dp pw_X11_goesOn_256 dd_X11_goesOn_256b.2.2.2.2.2.2.1) wd1622, ?_⟩
  refine List.forall_mem_cons.mpr ⟨(s_if_ne (am_dp pw_X11_goesOn_256 dd_X11_goesOn_256b.2.2.2.2.2.2.2) (by decide)).to, ?_⟩
  refine List.forall_mem_cons.mpr ⟨(s_aloadn (am_dp pw_X11_goesOn_256 dd_X11_goesOn_256c.1) rfl).to, ?_⟩
  refine List.forall_mem_cons.mpr ⟨(s_ldc2 (am_dp pw_X11_goesOn_256 dd_X11_goesOn_256c.2) wd1706).to, ?_⟩
  refine List.forall_mem_cons.mpr ⟨zw_cv176 (am_dp pw_X11_goesOn_288 dd_X11_goesOn_288a.1) wd1622, ?_⟩
  refine List.forall_mem_cons.mpr ⟨(s_if_eq (am_dp pw_X11_goesOn_288 dd_X11_goesOn_288a.2.1) (by decide)).to, ?_⟩
  refine List.forall_mem_cons.mpr ⟨(s_aloadn (am_dp pw_X11_goesOn_288 dd_X11_goesOn_288a.2.2.1) rfl).to, ?_⟩
  refine List.forall_mem_cons.mpr ⟨(s_get (ci := 11) (k := 43) (am_dp pw_X11_goesOn_288 dd_X11_goesOn_288a.2.2.2.1) rfl (by decide) wd1376 inX11 rfl).to, ?_⟩
  refine List.forall_mem_cons.mpr ⟨(s_iloadn (am_dp pw_X11_goesOn_288 dd_X11_goesOn_288a.2.2.2.2.1) rfl).to, ?_⟩
  refine List.forall_mem_cons.mpr ⟨(s_iald (am_dp pw_X11_goesOn_288 dd_X11_goesOn_288a.2.2.2.2.2.1)).to, ?_⟩
  refine List.forall_mem_cons.mpr ⟨(s_if_ne (am_dp pw_X11_goesOn_288 dd_X11_goesOn_288a.2.2.2.2.2.2.1) (by decide)).to, ?_⟩
  refine List.forall_mem_cons.mpr ⟨(s_aloadn (am_dp pw_X11_goesOn_288 dd_X11_goesOn_288a.2.2.2.2.2.2.2) rfl).to, ?_⟩
  refine List.forall_mem_cons.mpr ⟨(s_iconst (am_dp pw_X11_goesOn_288 dd_X11_goesOn_288b.1) (by decide)).to, ?_⟩
  refine List.forall_mem_cons.mpr ⟨(s_aloadn (am_dp pw_X11_goesOn_288 dd_X11_goesOn_288b.2.1) rfl).to, ?_⟩
  refine List.forall_mem_cons.mpr ⟨(s_get (ci := 11) (k := 4) (am_dp pw_X11_goesOn_288 dd_X11_goesOn_288b.2.2.1) rfl (by decide) wd1337 inX11 rfl).to, ?_⟩
  refine List.forall_mem_cons.mpr ⟨zw_cv171 (am_dp pw_X11_goesOn_288 dd_X11_goesOn_288b.2.2.2.1) wd1613, ?_⟩
  refine List.forall_mem_cons.mpr ⟨(s_aloadn (am_dp pw_X11_goesOn_288 dd_X11_goesOn_288b.2.2.2.2.1) rfl).to, ?_⟩
  refine List.forall_mem_cons.mpr ⟨(s_get (ci := 11) (k := 8) (am_dp pw_X11_goesOn_288 dd_X11_goesOn_288b.2.2.2.2.2.1) rfl (by decide) wd1341 inX11 rfl).to, ?_⟩
  refine List.forall_mem_cons.mpr ⟨(s_if_le (am_dp pw_X11_goesOn_288 dd_X11_goesOn_288b.2.2.2.2.2.2) (by decide)).to, ?_⟩
  refine List.forall_mem_cons.mpr ⟨(s_iconst (am_dp pw_X11_goesOn_320 dd_X11_goesOn_320a.1) (by decide)).to, ?_⟩
  refine List.forall_mem_cons.mpr ⟨s_zret (am_dp pw_X11_goesOn_320 dd_X11_goesOn_320a.2.1) rfl, ?_⟩
  refine List.forall_mem_cons.mpr ⟨(s_aloadn (am_dp pw_X11_goesOn_320 dd_X11_goesOn_320a.2.2.1) rfl).to, ?_⟩
  refine List.forall_mem_cons.mpr ⟨(s_ldc2 (am_dp pw_X11_goesOn_320 dd_X11_goesOn_320a.2.2.2.1) wd1705).to, ?_⟩
  refine List.forall_mem_cons.mpr ⟨zw_cv176 (am_dp pw_X11_goesOn_320 dd_X11_goesOn_320a.2.2.2.2.1) wd1622, ?_⟩
  refine List.forall_mem_cons.mpr ⟨(s_istore (am_dp pw_X11_goesOn_320 dd_X11_goesOn_320a.2.2.2.2.2.1) (by decide)).to, ?_⟩
  refine List.forall_mem_cons.mpr ⟨(s_aloadn (am_dp pw_X11_goesOn_320 dd_X11_goesOn_320a.2.2.2.2.2.2.1) rfl).to, ?_⟩
  refine List.forall_mem_cons.mpr ⟨(s_iload (am_dp pw_X11_goesOn_320 dd_X11_goesOn_320a.2.2.2.2.2.2.2)).to, ?_⟩
  refine List.forall_mem_cons.mpr ⟨(s_if_eq (am_dp pw_X11_goesOn_320 dd_X11_goesOn_320b.1) (by decide)).to, ?_⟩
  refine List.forall_mem_cons.mpr ⟨(s_iconst (am_dp pw_X11_goesOn_320 dd_X11_goesOn_320b.2.1) (by decide)).to, ?_⟩
  refine List.forall_mem_cons.mpr ⟨(s_goto (am_dp pw_X11_goesOn_320 dd_X11_goesOn_320b.2.2.1) (by decide)).to, ?_⟩
  refine List.forall_mem_cons.mpr ⟨(s_iconst (am_dp pw_X11_goesOn_320 dd_X11_goesOn_320b.2.2.2.1) (by decide)).to, ?_⟩
  refine List.forall_mem_cons.mpr ⟨zw_cv185 (am_dp pw_X11_goesOn_320 dd_X11_goesOn_320b.2.2.2.2.1) wd1698, ?_⟩
  refine List.forall_mem_cons.mpr ⟨(s_aloadn (am_dp pw_X11_goesOn_320 dd_X11_goesOn_320b.2.2.2.2.2.1) rfl).to, ?_⟩
  refine List.forall_mem_cons.mpr ⟨(s_iload (am_dp pw_X11_goesOn_320 dd_X11_goesOn_320b.2.2.2.2.2.2.1)).to, ?_⟩
  refine List.forall_mem_cons.mpr ⟨(s_if_eq (am_dp pw_X11_goesOn_320 dd_X11_goesOn_320b.2.2.2.2.2.2.2) (by decide)).to, ?_⟩
  refine List.forall_mem_cons.mpr ⟨(s_bipush (am_dp pw_X11_goesOn_352 dd_X11_goesOn_352a.1) (by decide)).to, ?_⟩
  refine List.forall_mem_cons.mpr ⟨(s_goto (am_dp pw_X11_goesOn_352 dd_X11_goesOn_352a.2.1) (by decide)).to, ?_⟩
  refine List.forall_mem_cons.mpr ⟨(s_bipush (am_dp pw_X11_goesOn_352 dd_X11_goesOn_352a.2.2.1) (by decide)).to, ?_⟩
  refine List.forall_mem_cons.mpr ⟨zw_cv186 (am_dp pw_X11_goesOn_352 dd_X11_goesOn_352a.2.2.2.1) wd1676, ?_⟩
  refine List.forall_mem_cons.mpr ⟨(s_aloadn (am_dp pw_X11_goesOn_352 dd_X11_goesOn_352a.2.2.2.2.1) rfl).to, ?_⟩
  refine List.forall_mem_cons.mpr ⟨(s_get (ci := 11) (k := 43) (am_dp pw_X11_goesOn_352 dd_X11_goesOn_352a.2.2.2.2.2.1) rfl (by decide) wd1376 inX11 rfl).to, ?_⟩
  exact fun _ h => absurd h List.not_mem_nil
theorem sn_tX11_goesOn_3 : ∀ q ∈ tX11_goesOn_3, am_Snd am_P0 RX11 cX11_goesOn 5 (Option.some FieldType.boolean) "goesOn" q.1 q.2 := by
  unfold tX11_goesOn_3
  refine List.forall_mem_cons.mpr ⟨(s_iloadn (am_dp pw_X11_goesOn_352 dd_X11_goesOn_352a.2.2.2.2.2.2.1) rfl).to, ?_⟩
  refine List.forall_mem_cons.mpr ⟨(s_iconst (am_dp pw_X11_goesOn_352 dd_X11_goesOn_352a.2.2.2.2.2.2.2) (by decide)).to, ?_⟩
  refine List.forall_mem_cons.mpr ⟨(s_iast (am_dp pw_X11_goesOn_352 dd_X11_goesOn_352b.1)).to, ?_⟩
  refine List.forall_mem_cons.mpr ⟨(s_aloadn (am_dp pw_X11_goesOn_352 dd_X11_goesOn_352b.2.1) rfl).to, ?_⟩
  refine List.forall_mem_cons.mpr ⟨(s_get (ci := 11) (k := 44) (am_dp pw_X11_goesOn_352 dd_X11_goesOn_352b.2.2.1) rfl (by decide) wd1377 inX11 rfl).to, ?_⟩
  refine List.forall_mem_cons.mpr ⟨(s_iloadn (am_dp pw_X11_goesOn_352 dd_X11_goesOn_352b.2.2.2.1) rfl).to, ?_⟩
  refine List.forall_mem_cons.mpr ⟨(s_iconst (am_dp pw_X11_goesOn_352 dd_X11_goesOn_352b.2.2.2.2.1) (by decide)).to, ?_⟩
  refine List.forall_mem_cons.mpr ⟨(s_zast (am_dp pw_X11_goesOn_352 dd_X11_goesOn_352b.2.2.2.2.2.1)).to, ?_⟩
  refine List.forall_mem_cons.mpr ⟨(s_aloadn (am_dp pw_X11_goesOn_352 dd_X11_goesOn_352b.2.2.2.2.2.2.1) rfl).to, ?_⟩
  refine List.forall_mem_cons.mpr ⟨zw_cv174 (am_dp pw_X11_goesOn_352 dd_X11_goesOn_352b.2.2.2.2.2.2.2) wd1603, ?_⟩
  refine List.forall_mem_cons.mpr ⟨(s_aloadn (am_dp pw_X11_goesOn_352 dd_X11_goesOn_352c.1) rfl).to, ?_⟩
  refine List.forall_mem_cons.mpr ⟨(s_iconst (am_dp pw_X11_goesOn_352 dd_X11_goesOn_352c.2.1) (by decide)).to, ?_⟩
  refine List.forall_mem_cons.mpr ⟨(s_put (ci := 11) (k := 51) (am_dp pw_X11_goesOn_352 dd_X11_goesOn_352c.2.2) rfl (by decide) wd1384 inX11 tyX11_ok nmX11 rfl rfl).to, ?_⟩
  refine List.forall_mem_cons.mpr ⟨(s_iconst (am_dp pw_X11_goesOn_384 dd_X11_goesOn_384a.1) (by decide)).to, ?_⟩
  refine List.forall_mem_cons.mpr ⟨s_zret (am_dp pw_X11_goesOn_384 dd_X11_goesOn_384a.2.1) rfl, ?_⟩
  refine List.forall_mem_cons.mpr ⟨(s_iloadn (am_dp pw_X11_goesOn_384 dd_X11_goesOn_384a.2.2.1) rfl).to, ?_⟩
  refine List.forall_mem_cons.mpr ⟨(s_if_eq (am_dp pw_X11_goesOn_384 dd_X11_goesOn_384a.2.2.2.1) (by decide)).to, ?_⟩
  refine List.forall_mem_cons.mpr ⟨(s_aloadn (am_dp pw_X11_goesOn_384 dd_X11_goesOn_384a.2.2.2.2.1) rfl).to, ?_⟩
  refine List.forall_mem_cons.mpr ⟨(s_get (ci := 11) (k := 43) (am_dp pw_X11_goesOn_384 dd_X11_goesOn_384a.2.2.2.2.2.1) rfl (by decide) wd1376 inX11 rfl).to, ?_⟩
  refine List.forall_mem_cons.mpr ⟨(s_iloadn (am_dp pw_X11_goesOn_384 dd_X11_goesOn_384a.2.2.2.2.2.2.1) rfl).to, ?_⟩
  refine List.forall_mem_cons.mpr ⟨(s_iald (am_dp pw_X11_goesOn_384 dd_X11_goesOn_384a.2.2.2.2.2.2.2)).to, ?_⟩
  refine List.forall_mem_cons.mpr ⟨(s_if_ne (am_dp pw_X11_goesOn_384 dd_X11_goesOn_384b.1) (by decide)).to, ?_⟩
  refine List.forall_mem_cons.mpr ⟨(s_aloadn (am_dp pw_X11_goesOn_384 dd_X11_goesOn_384b.2.1) rfl).to, ?_⟩
  refine List.forall_mem_cons.mpr ⟨(s_iconst (am_dp pw_X11_goesOn_384 dd_X11_goesOn_384b.2.2.1) (by decide)).to, ?_⟩
  refine List.forall_mem_cons.mpr ⟨(s_aloadn (am_dp pw_X11_goesOn_384 dd_X11_goesOn_384b.2.2.2.1) rfl).to, ?_⟩
  refine List.forall_mem_cons.mpr ⟨(s_get (ci := 11) (k := 4) (am_dp pw_X11_goesOn_384 dd_X11_goesOn_384b.2.2.2.2.1) rfl (by decide) wd1337 inX11 rfl).to, ?_⟩
  refine List.forall_mem_cons.mpr ⟨zw_cv171 (am_dp pw_X11_goesOn_384 dd_X11_goesOn_384b.2.2.2.2.2.1) wd1613, ?_⟩
  refine List.forall_mem_cons.mpr ⟨(s_iloadn (am_dp pw_X11_goesOn_384 dd_X11_goesOn_384b.2.2.2.2.2.2.1) rfl).to, ?_⟩
  refine List.forall_mem_cons.mpr ⟨(s_iconst (am_dp pw_X11_goesOn_384 dd_X11_goesOn_384b.2.2.2.2.2.2.2) (by decide)).to, ?_⟩
  refine List.forall_mem_cons.mpr ⟨(s_icmp_ge (am_dp pw_X11_goesOn_384 dd_X11_goesOn_384c.1) (by decide)).to, ?_⟩
  refine List.forall_mem_cons.mpr ⟨(s_aloadn (am_dp pw_X11_goesOn_384 dd_X11_goesOn_384c.2.1) rfl).to, ?_⟩
  refine List.forall_mem_cons.mpr ⟨(s_get (ci := 11) (k := 8) (am_dp pw_X11_goesOn_384 dd_X11_goesOn_384c.2.2) rfl (by decide) wd1341 inX11 rfl).to, ?_⟩
  refine List.forall_mem_cons.mpr ⟨(s_if_ne (am_dp pw_X11_goesOn_416 dd_X11_goesOn_416a.1) (by decide)).to, ?_⟩
  refine List.forall_mem_cons.mpr ⟨(s_aloadn (am_dp pw_X11_goesOn_416 dd_X11_goesOn_416a.2.1) rfl).to, ?_⟩
  refine List.forall_mem_cons.mpr ⟨(s_iconst (am_dp pw_X11_goesOn_416 dd_X11_goesOn_416a.2.2.1) (by decide)).to, ?_⟩
  refine List.forall_mem_cons.mpr ⟨zw_cv185 (am_dp pw_X11_goesOn_416 dd_X11_goesOn_416a.2.2.2.1) wd1698, ?_⟩
  refine List.forall_mem_cons.mpr ⟨(s_iconst (am_dp pw_X11_goesOn_416 dd_X11_goesOn_416a.2.2.2.2.1) (by decide)).to, ?_⟩
  refine List.forall_mem_cons.mpr ⟨s_zret (am_dp pw_X11_goesOn_416 dd_X11_goesOn_416a.2.2.2.2.2.1) rfl, ?_⟩
  refine List.forall_mem_cons.mpr ⟨(s_iloadn (am_dp pw_X11_goesOn_416 dd_X11_goesOn_416a.2.2.2.2.2.2.1) rfl).to, ?_⟩
  refine List.forall_mem_cons.mpr ⟨(s_iconst (am_dp pw_X11_goesOn_416 dd_X11_goesOn_416a.2.2.2.2.2.2.2) (by decide)).to, ?_⟩
  refine List.forall_mem_cons.mpr ⟨(s_icmp_ne (am_dp pw_X11_goesOn_416 dd_X11_goesOn_416b.1) (by decide)).to, ?_⟩
  refine List.forall_mem_cons.mpr ⟨(s_aloadn (am_dp pw_X11_goesOn_416 dd_X11_goesOn_416b.2.1) rfl).to, ?_⟩
  refine List.forall_mem_cons.mpr ⟨(s_bipush (am_dp pw_X11_goesOn_416 dd_X11_goesOn_416b.2.2.1) (by decide)).to, ?_⟩
  refine List.forall_mem_cons.mpr ⟨zw_cv175 (am_dp pw_X11_goesOn_416 dd_X11_goesOn_416b.2.2.2.1) wd1637, ?_⟩
  refine List.forall_mem_cons.mpr ⟨(s_if_ne (am_dp pw_X11_goesOn_416 dd_X11_goesOn_416b.2.2.2.2.1) (by decide)).to, ?_⟩
  refine List.forall_mem_cons.mpr ⟨(s_aloadn (am_dp pw_X11_goesOn_416 dd_X11_goesOn_416b.2.2.2.2.2.1) rfl).to, ?_⟩
  refine List.forall_mem_cons.mpr ⟨(s_iconst (am_dp pw_X11_goesOn_416 dd_X11_goesOn_416b.2.2.2.2.2.2.1) (by decide)).to, ?_⟩
  refine List.forall_mem_cons.mpr ⟨(s_aloadn (am_dp pw_X11_goesOn_416 dd_X11_goesOn_416b.2.2.2.2.2.2.2) rfl).to, ?_⟩
  refine List.forall_mem_cons.mpr ⟨(s_get (ci := 11) (k := 4) (am_dp pw_X11_goesOn_416 dd_X11_goesOn_416c) rfl (by decide) wd1337 inX11 rfl).to, ?_⟩
  refine List.forall_mem_cons.mpr ⟨zw_cv171 (am_dp pw_X11_goesOn_448 dd_X11_goesOn_448a.1) wd1613, ?_⟩
  refine List.forall_mem_cons.mpr ⟨(s_aloadn (am_dp pw_X11_goesOn_448 dd_X11_goesOn_448a.2.1) rfl).to, ?_⟩
  refine List.forall_mem_cons.mpr ⟨(s_get (ci := 11) (k := 8) (am_dp pw_X11_goesOn_448 dd_X11_goesOn_448a.2.2.1) rfl (by decide) wd1341 inX11 rfl).to, ?_⟩
  refine List.forall_mem_cons.mpr ⟨(s_if_le (am_dp pw_X11_goesOn_448 dd_X11_goesOn_448a.2.2.2.1) (by decide)).to, ?_⟩
  refine List.forall_mem_cons.mpr ⟨(s_iconst (am_dp pw_X11_goesOn_448 dd_X11_goesOn_448a.2.2.2.2.1) (by decide)).to, ?_⟩
  refine List.forall_mem_cons.mpr ⟨s_zret (am_dp pw_X11_goesOn_448 dd_X11_goesOn_448a.2.2.2.2.2.1) rfl, ?_⟩
  refine List.forall_mem_cons.mpr ⟨(s_aloadn (am_dp pw_X11_goesOn_448 dd_X11_goesOn_448a.2.2.2.2.2.2.1) rfl).to, ?_⟩
  refine List.forall_mem_cons.mpr ⟨(s_iconst (am_dp pw_X11_goesOn_448 dd_X11_goesOn_448a.2.2.2.2.2.2.2) (by decide)).to, ?_⟩
  refine List.forall_mem_cons.mpr ⟨zw_cv185 (am_dp pw_X11_goesOn_448 dd_X11_goesOn_448b.1) wd1698, ?_⟩
  refine List.forall_mem_cons.mpr ⟨(s_aloadn (am_dp pw_X11_goesOn_448 dd_X11_goesOn_448b.2.1) rfl).to, ?_⟩
  refine List.forall_mem_cons.mpr ⟨(s_get (ci := 11) (k := 42) (am_dp pw_X11_goesOn_448 dd_X11_goesOn_448b.2.2.1) rfl (by decide) wd1375 inX11 rfl).to, ?_⟩
  exact fun _ h => absurd h List.not_mem_nil
theorem sn_tX11_goesOn_4 : ∀ q ∈ tX11_goesOn_4, am_Snd am_P0 RX11 cX11_goesOn 5 (Option.some FieldType.boolean) "goesOn" q.1 q.2 := by
  unfold tX11_goesOn_4
  refine List.forall_mem_cons.mpr ⟨(s_iloadn (am_dp pw_X11_goesOn_448 dd_X11_goesOn_448b.2.2.2.1) rfl).to, ?_⟩
  refine List.forall_mem_cons.mpr ⟨(s_iconst (am_dp pw_X11_goesOn_448 dd_X11_goesOn_448b.2.2.2.2.1) (by decide)).to, ?_⟩
  refine List.forall_mem_cons.mpr ⟨(s_iast (am_dp pw_X11_goesOn_448 dd_X11_goesOn_448b.2.2.2.2.2.1)).to, ?_⟩
  refine List.forall_mem_cons.mpr ⟨(s_aloadn (am_dp pw_X11_goesOn_448 dd_X11_goesOn_448b.2.2.2.2.2.2.1) rfl).to, ?_⟩
  refine List.forall_mem_cons.mpr ⟨zw_cv174 (am_dp pw_X11_goesOn_448 dd_X11_goesOn_448b.2.2.2.2.2.2.2) wd1603, ?_⟩
  refine List.forall_mem_cons.mpr ⟨(s_aloadn (am_dp pw_X11_goesOn_448 dd_X11_goesOn_448c.1) rfl).to, ?_⟩
  refine List.forall_mem_cons.mpr ⟨(s_iconst (am_dp pw_X11_goesOn_448 dd_X11_goesOn_448c.2.1) (by decide)).to, ?_⟩
  refine List.forall_mem_cons.mpr ⟨(s_put (ci := 11) (k := 51) (am_dp pw_X11_goesOn_448 dd_X11_goesOn_448c.2.2) rfl (by decide) wd1384 inX11 tyX11_ok nmX11 rfl rfl).to, ?_⟩
  refine List.forall_mem_cons.mpr ⟨(s_iconst (am_dp pw_X11_goesOn_480 dd_X11_goesOn_480a.1) (by decide)).to, ?_⟩
  refine List.forall_mem_cons.mpr ⟨s_zret (am_dp pw_X11_goesOn_480 dd_X11_goesOn_480a.2.1) rfl, ?_⟩
  refine List.forall_mem_cons.mpr ⟨(s_aloadn (am_dp pw_X11_goesOn_480 dd_X11_goesOn_480a.2.2.1) rfl).to, ?_⟩
  refine List.forall_mem_cons.mpr ⟨(s_iloadn (am_dp pw_X11_goesOn_480 dd_X11_goesOn_480a.2.2.2.1) rfl).to, ?_⟩
  refine List.forall_mem_cons.mpr ⟨(s_iconst (am_dp pw_X11_goesOn_480 dd_X11_goesOn_480a.2.2.2.2.1) (by decide)).to, ?_⟩
  refine List.forall_mem_cons.mpr ⟨(s_icmp_ne (am_dp pw_X11_goesOn_480 dd_X11_goesOn_480a.2.2.2.2.2.1) (by decide)).to, ?_⟩
  refine List.forall_mem_cons.mpr ⟨(s_bipush (am_dp pw_X11_goesOn_480 dd_X11_goesOn_480a.2.2.2.2.2.2.1) (by decide)).to, ?_⟩
  refine List.forall_mem_cons.mpr ⟨(s_goto (am_dp pw_X11_goesOn_480 dd_X11_goesOn_480a.2.2.2.2.2.2.2) (by decide)).to, ?_⟩
  refine List.forall_mem_cons.mpr ⟨(s_bipush (am_dp pw_X11_goesOn_480 dd_X11_goesOn_480b.1) (by decide)).to, ?_⟩
  refine List.forall_mem_cons.mpr ⟨zw_cv175 (am_dp pw_X11_goesOn_480 dd_X11_goesOn_480b.2.1) wd1637, ?_⟩
  refine List.forall_mem_cons.mpr ⟨(s_if_ne (am_dp pw_X11_goesOn_480 dd_X11_goesOn_480b.2.2.1) (by decide)).to, ?_⟩
  refine List.forall_mem_cons.mpr ⟨(s_aloadn (am_dp pw_X11_goesOn_480 dd_X11_goesOn_480b.2.2.2.1) rfl).to, ?_⟩
  refine List.forall_mem_cons.mpr ⟨(s_iconst (am_dp pw_X11_goesOn_480 dd_X11_goesOn_480b.2.2.2.2.1) (by decide)).to, ?_⟩
  refine List.forall_mem_cons.mpr ⟨(s_aloadn (am_dp pw_X11_goesOn_480 dd_X11_goesOn_480b.2.2.2.2.2.1) rfl).to, ?_⟩
  refine List.forall_mem_cons.mpr ⟨(s_get (ci := 11) (k := 4) (am_dp pw_X11_goesOn_480 dd_X11_goesOn_480b.2.2.2.2.2.2.1) rfl (by decide) wd1337 inX11 rfl).to, ?_⟩
  refine List.forall_mem_cons.mpr ⟨zw_cv171 (am_dp pw_X11_goesOn_480 dd_X11_goesOn_480b.2.2.2.2.2.2.2) wd1613, ?_⟩
  refine List.forall_mem_cons.mpr ⟨(s_aloadn (am_dp pw_X11_goesOn_480 dd_X11_goesOn_480c) rfl).to, ?_⟩
  refine List.forall_mem_cons.mpr ⟨(s_get (ci := 11) (k := 8) (am_dp pw_X11_goesOn_512 dd_X11_goesOn_512a.1) rfl (by decide) wd1341 inX11 rfl).to, ?_⟩
  refine List.forall_mem_cons.mpr ⟨(s_if_le (am_dp pw_X11_goesOn_512 dd_X11_goesOn_512a.2.1) (by decide)).to, ?_⟩
  refine List.forall_mem_cons.mpr ⟨(s_iconst (am_dp pw_X11_goesOn_512 dd_X11_goesOn_512a.2.2.1) (by decide)).to, ?_⟩
  refine List.forall_mem_cons.mpr ⟨s_zret (am_dp pw_X11_goesOn_512 dd_X11_goesOn_512a.2.2.2.1) rfl, ?_⟩
  refine List.forall_mem_cons.mpr ⟨(s_aloadn (am_dp pw_X11_goesOn_512 dd_X11_goesOn_512a.2.2.2.2.1) rfl).to, ?_⟩
  refine List.forall_mem_cons.mpr ⟨(s_iconst (am_dp pw_X11_goesOn_512 dd_X11_goesOn_512a.2.2.2.2.2.1) (by decide)).to, ?_⟩
  refine List.forall_mem_cons.mpr ⟨zw_cv185 (am_dp pw_X11_goesOn_512 dd_X11_goesOn_512a.2.2.2.2.2.2.1) wd1698, ?_⟩
  refine List.forall_mem_cons.mpr ⟨(s_aloadn (am_dp pw_X11_goesOn_512 dd_X11_goesOn_512a.2.2.2.2.2.2.2) rfl).to, ?_⟩
  refine List.forall_mem_cons.mpr ⟨(s_dup (am_dp pw_X11_goesOn_512 dd_X11_goesOn_512b.1)).to, ?_⟩
  refine List.forall_mem_cons.mpr ⟨(s_get (ci := 11) (k := 47) (am_dp pw_X11_goesOn_512 dd_X11_goesOn_512b.2.1) rfl (by decide) wd1380 inX11 rfl).to, ?_⟩
  refine List.forall_mem_cons.mpr ⟨(s_iconst (am_dp pw_X11_goesOn_512 dd_X11_goesOn_512b.2.2.1) (by decide)).to, ?_⟩
  refine List.forall_mem_cons.mpr ⟨(s_isub (am_dp pw_X11_goesOn_512 dd_X11_goesOn_512b.2.2.2.1)).to, ?_⟩
  refine List.forall_mem_cons.mpr ⟨(s_put (ci := 11) (k := 47) (am_dp pw_X11_goesOn_512 dd_X11_goesOn_512b.2.2.2.2.1) rfl (by decide) wd1380 inX11 tyX11_ok nmX11 rfl rfl).to, ?_⟩
  refine List.forall_mem_cons.mpr ⟨(s_aloadn (am_dp pw_X11_goesOn_512 dd_X11_goesOn_512b.2.2.2.2.2.1) rfl).to, ?_⟩
  refine List.forall_mem_cons.mpr ⟨(s_dup (am_dp pw_X11_goesOn_512 dd_X11_goesOn_512b.2.2.2.2.2.2.1)).to, ?_⟩
  refine List.forall_mem_cons.mpr ⟨(s_get (ci := 11) (k := 48) (am_dp pw_X11_goesOn_512 dd_X11_goesOn_512b.2.2.2.2.2.2.2) rfl (by decide) wd1381 inX11 rfl).to, ?_⟩
  refine List.forall_mem_cons.mpr ⟨(s_iconst (am_dp pw_X11_goesOn_512 dd_X11_goesOn_512c.1) (by decide)).to, ?_⟩
  refine List.forall_mem_cons.mpr ⟨(s_isub (am_dp pw_X11_goesOn_512 dd_X11_goesOn_512c.2.1)).to, ?_⟩
  refine List.forall_mem_cons.mpr ⟨(s_put (ci := 11) (k := 48) (am_dp pw_X11_goesOn_512 dd_X11_goesOn_512c.2.2) rfl (by decide) wd1381 inX11 tyX11_ok nmX11 rfl rfl).to, ?_⟩
  refine List.forall_mem_cons.mpr ⟨(s_iloadn (am_dp pw_X11_goesOn_544 dd_X11_goesOn_544a.1) rfl).to, ?_⟩
  refine List.forall_mem_cons.mpr ⟨(s_iconst (am_dp pw_X11_goesOn_544 dd_X11_goesOn_544a.2.1) (by decide)).to, ?_⟩
  refine List.forall_mem_cons.mpr ⟨(s_icmp_ne (am_dp pw_X11_goesOn_544 dd_X11_goesOn_544a.2.2.1) (by decide)).to, ?_⟩
  refine List.forall_mem_cons.mpr ⟨(s_aloadn (am_dp pw_X11_goesOn_544 dd_X11_goesOn_544a.2.2.2.1) rfl).to, ?_⟩
  refine List.forall_mem_cons.mpr ⟨(s_aloadn (am_dp pw_X11_goesOn_544 dd_X11_goesOn_544a.2.2.2.2.1) rfl).to, ?_⟩
  refine List.forall_mem_cons.mpr ⟨(s_get (ci := 11) (k := 45) (am_dp pw_X11_goesOn_544 dd_X11_goesOn_544a.2.2.2.2.2.1) rfl (by decide) wd1378 inX11 rfl).to, ?_⟩
  refine List.forall_mem_cons.mpr ⟨(s_iloadn (am_dp pw_X11_goesOn_544 dd_X11_goesOn_544a.2.2.2.2.2.2.1) rfl).to, ?_⟩
  refine List.forall_mem_cons.mpr ⟨(s_iald (am_dp pw_X11_goesOn_544 dd_X11_goesOn_544a.2.2.2.2.2.2.2)).to, ?_⟩
  refine List.forall_mem_cons.mpr ⟨(s_iconst (am_dp pw_X11_goesOn_544 dd_X11_goesOn_544b.1) (by decide)).to, ?_⟩
  refine List.forall_mem_cons.mpr ⟨zw_cv183 (am_dp pw_X11_goesOn_544 dd_X11_goesOn_544b.2.1) wd1685, ?_⟩
  refine List.forall_mem_cons.mpr ⟨(s_iloadn (am_dp pw_X11_goesOn_544 dd_X11_goesOn_544b.2.2.1) rfl).to, ?_⟩
  refine List.forall_mem_cons.mpr ⟨(s_iconst (am_dp pw_X11_goesOn_544 dd_X11_goesOn_544b.2.2.2.1) (by decide)).to, ?_⟩
  refine List.forall_mem_cons.mpr ⟨(s_icmp_ne (am_dp pw_X11_goesOn_544 dd_X11_goesOn_544b.2.2.2.2.1) (by decide)).to, ?_⟩
  refine List.forall_mem_cons.mpr ⟨(s_aloadn (am_dp pw_X11_goesOn_544 dd_X11_goesOn_544b.2.2.2.2.2.1) rfl).to, ?_⟩
  refine List.forall_mem_cons.mpr ⟨(s_get (ci := 11) (k := 43) (am_dp pw_X11_goesOn_544 dd_X11_goesOn_544b.2.2.2.2.2.2.1) rfl (by decide) wd1376 inX11 rfl).to, ?_⟩
  refine List.forall_mem_cons.mpr ⟨(s_aloadn (am_dp pw_X11_goesOn_544 dd_X11_goesOn_544b.2.2.2.2.2.2.2) rfl).to, ?_⟩
  exact fun _ h => absurd h List.not_mem_nil
theorem sn_tX11_goesOn_5 : ∀ q ∈ tX11_goesOn_5, am_Snd am_P0 RX11 cX11_goesOn 5 (Option.some FieldType.boolean) "goesOn" q.1 q.2 := by
  unfold tX11_goesOn_5
  refine List.forall_mem_cons.mpr ⟨(s_get (ci := 11) (k := 47) (am_dp pw_X11_goesOn_544 dd_X11_goesOn_544c.1) rfl (by decide) wd1380 inX11 rfl).to, ?_⟩
  refine List.forall_mem_cons.mpr ⟨(s_iconst (am_dp pw_X11_goesOn_544 dd_X11_goesOn_544c.2.1) (by decide)).to, ?_⟩
  refine List.forall_mem_cons.mpr ⟨(s_isub (am_dp pw_X11_goesOn_544 dd_X11_goesOn_544c.2.2)).to, ?_⟩
  refine List.forall_mem_cons.mpr ⟨(s_iconst (am_dp pw_X11_goesOn_576 dd_X11_goesOn_576a.1) (by decide)).to, ?_⟩
  refine List.forall_mem_cons.mpr ⟨(s_iast (am_dp pw_X11_goesOn_576 dd_X11_goesOn_576a.2.1)).to, ?_⟩
  refine List.forall_mem_cons.mpr ⟨(s_aloadn (am_dp pw_X11_goesOn_576 dd_X11_goesOn_576a.2.2.1) rfl).to, ?_⟩
  refine List.forall_mem_cons.mpr ⟨zw_cv174 (am_dp pw_X11_goesOn_576 dd_X11_goesOn_576a.2.2.2.1) wd1603, ?_⟩
  refine List.forall_mem_cons.mpr ⟨(s_iconst (am_dp pw_X11_goesOn_576 dd_X11_goesOn_576a.2.2.2.2.1) (by decide)).to, ?_⟩
  refine List.forall_mem_cons.mpr ⟨s_zret (am_dp pw_X11_goesOn_576 dd_X11_goesOn_576a.2.2.2.2.2) rfl, ?_⟩
  exact fun _ h => absurd h List.not_mem_nil
theorem sn_tX11_goesOn : ∀ q ∈ tX11_goesOn, am_Snd am_P0 RX11 cX11_goesOn 5 (Option.some FieldType.boolean) "goesOn" q.1 q.2 := by
  unfold tX11_goesOn
  exact List.forall_mem_append.mpr ⟨List.forall_mem_append.mpr ⟨List.forall_mem_append.mpr ⟨List.forall_mem_append.mpr ⟨List.forall_mem_append.mpr ⟨sn_tX11_goesOn_0, sn_tX11_goesOn_1⟩, sn_tX11_goesOn_2⟩, sn_tX11_goesOn_3⟩, sn_tX11_goesOn_4⟩, sn_tX11_goesOn_5⟩
theorem sn_tX11_reads : ∀ q ∈ tX11_reads, am_Snd am_P0 RX11 cX11_reads 3 (Option.none : Option FieldType) "reads" q.1 q.2 := by
  unfold tX11_reads
  refine List.forall_mem_cons.mpr ⟨(s_aloadn (am_dp pw_X11_reads_0 dd_X11_reads_0a.1) rfl).to, ?_⟩
  refine List.forall_mem_cons.mpr ⟨(s_get (ci := 11) (k := 8) (am_dp pw_X11_reads_0 dd_X11_reads_0a.2.1) rfl (by decide) wd1341 inX11 rfl).to, ?_⟩
  refine List.forall_mem_cons.mpr ⟨(s_if_le (am_dp pw_X11_reads_0 dd_X11_reads_0a.2.2.1) (by decide)).to, ?_⟩
  refine List.forall_mem_cons.mpr ⟨s_vret (am_dp pw_X11_reads_0 dd_X11_reads_0a.2.2.2.1) rfl, ?_⟩
  refine List.forall_mem_cons.mpr ⟨(s_aloadn (am_dp pw_X11_reads_0 dd_X11_reads_0a.2.2.2.2.1) rfl).to, ?_⟩
  refine List.forall_mem_cons.mpr ⟨(s_iconst (am_dp pw_X11_reads_0 dd_X11_reads_0a.2.2.2.2.2.1) (by decide)).to, ?_⟩
  refine List.forall_mem_cons.mpr ⟨(s_put (ci := 11) (k := 47) (am_dp pw_X11_reads_0 dd_X11_reads_0a.2.2.2.2.2.2.1) rfl (by decide) wd1380 inX11 tyX11_ok nmX11 rfl rfl).to, ?_⟩
  refine List.forall_mem_cons.mpr ⟨(s_aloadn (am_dp pw_X11_reads_0 dd_X11_reads_0a.2.2.2.2.2.2.2) rfl).to, ?_⟩
  refine List.forall_mem_cons.mpr ⟨(s_iconst (am_dp pw_X11_reads_0 dd_X11_reads_0b.1) (by decide)).to, ?_⟩
  refine List.forall_mem_cons.mpr ⟨(s_put (ci := 11) (k := 48) (am_dp pw_X11_reads_0 dd_X11_reads_0b.2.1) rfl (by decide) wd1381 inX11 tyX11_ok nmX11 rfl rfl).to, ?_⟩
  refine List.forall_mem_cons.mpr ⟨(s_aloadn (am_dp pw_X11_reads_0 dd_X11_reads_0b.2.2.1) rfl).to, ?_⟩
  refine List.forall_mem_cons.mpr ⟨(s_iconst (am_dp pw_X11_reads_0 dd_X11_reads_0b.2.2.2.1) (by decide)).to, ?_⟩
  refine List.forall_mem_cons.mpr ⟨(s_put (ci := 11) (k := 50) (am_dp pw_X11_reads_0 dd_X11_reads_0b.2.2.2.2.1) rfl (by decide) wd1383 inX11 tyX11_ok nmX11 rfl rfl).to, ?_⟩
  refine List.forall_mem_cons.mpr ⟨(s_aloadn (am_dp pw_X11_reads_0 dd_X11_reads_0b.2.2.2.2.2.1) rfl).to, ?_⟩
  refine List.forall_mem_cons.mpr ⟨(s_iconst (am_dp pw_X11_reads_0 dd_X11_reads_0b.2.2.2.2.2.2.1) (by decide)).to, ?_⟩
  refine List.forall_mem_cons.mpr ⟨(s_put (ci := 11) (k := 51) (am_dp pw_X11_reads_0 dd_X11_reads_0b.2.2.2.2.2.2.2) rfl (by decide) wd1384 inX11 tyX11_ok nmX11 rfl rfl).to, ?_⟩
  refine List.forall_mem_cons.mpr ⟨(s_aloadn (am_dp pw_X11_reads_0 dd_X11_reads_0c.1) rfl).to, ?_⟩
  refine List.forall_mem_cons.mpr ⟨(s_iloadn (am_dp pw_X11_reads_0 dd_X11_reads_0c.2.1) rfl).to, ?_⟩
  refine List.forall_mem_cons.mpr ⟨(s_if_eq (am_dp pw_X11_reads_0 dd_X11_reads_0c.2.2) (by decide)).to, ?_⟩
  refine List.forall_mem_cons.mpr ⟨(s_iconst (am_dp pw_X11_reads_32 dd_X11_reads_32a.1) (by decide)).to, ?_⟩
  refine List.forall_mem_cons.mpr ⟨(s_goto (am_dp pw_X11_reads_32 dd_X11_reads_32a.2.1) (by decide)).to, ?_⟩
  refine List.forall_mem_cons.mpr ⟨(s_iconst (am_dp pw_X11_reads_32 dd_X11_reads_32a.2.2.1) (by decide)).to, ?_⟩
  refine List.forall_mem_cons.mpr ⟨zw_cv187 (am_dp pw_X11_reads_32 dd_X11_reads_32a.2.2.2.1) wd1664, ?_⟩
  refine List.forall_mem_cons.mpr ⟨(s_iconst (am_dp pw_X11_reads_32 dd_X11_reads_32a.2.2.2.2.1) (by decide)).to, ?_⟩
  refine List.forall_mem_cons.mpr ⟨(s_istoren (am_dp pw_X11_reads_32 dd_X11_reads_32a.2.2.2.2.2.1) rfl (by decide)).to, ?_⟩
  refine List.forall_mem_cons.mpr ⟨(s_iloadn (am_dp pw_X11_reads_32 dd_X11_reads_32a.2.2.2.2.2.2.1) rfl).to, ?_⟩
  refine List.forall_mem_cons.mpr ⟨(s_if_eq (am_dp pw_X11_reads_32 dd_X11_reads_32a.2.2.2.2.2.2.2) (by decide)).to, ?_⟩
  refine List.forall_mem_cons.mpr ⟨(s_aloadn (am_dp pw_X11_reads_32 dd_X11_reads_32b.1) rfl).to, ?_⟩
  refine List.forall_mem_cons.mpr ⟨(s_get (ci := 11) (k := 51) (am_dp pw_X11_reads_32 dd_X11_reads_32b.2.1) rfl (by decide) wd1384 inX11 rfl).to, ?_⟩
  refine List.forall_mem_cons.mpr ⟨(s_if_ne (am_dp pw_X11_reads_32 dd_X11_reads_32b.2.2.1) (by decide)).to, ?_⟩
  refine List.forall_mem_cons.mpr ⟨(s_aloadn (am_dp pw_X11_reads_32 dd_X11_reads_32b.2.2.2.1) rfl).to, ?_⟩
  refine List.forall_mem_cons.mpr ⟨(s_aloadn (am_dp pw_X11_reads_32 dd_X11_reads_32b.2.2.2.2.1) rfl).to, ?_⟩
  refine List.forall_mem_cons.mpr ⟨zw_cv190 (am_dp pw_X11_reads_32 dd_X11_reads_32b.2.2.2.2.2.1) wd1668, ?_⟩
  refine List.forall_mem_cons.mpr ⟨(s_put (ci := 11) (k := 51) (am_dp pw_X11_reads_32 dd_X11_reads_32b.2.2.2.2.2.2.1) rfl (by decide) wd1384 inX11 tyX11_ok nmX11 rfl rfl).to, ?_⟩
  refine List.forall_mem_cons.mpr ⟨(s_goto (am_dp pw_X11_reads_32 dd_X11_reads_32b.2.2.2.2.2.2.2) (by decide)).to, ?_⟩
  refine List.forall_mem_cons.mpr ⟨(s_aloadn (am_dp pw_X11_reads_64 dd_X11_reads_64a.1) rfl).to, ?_⟩
  refine List.forall_mem_cons.mpr ⟨zw_cv191 (am_dp pw_X11_reads_64 dd_X11_reads_64a.2.1) wd1694, ?_⟩
  refine List.forall_mem_cons.mpr ⟨(s_istoren (am_dp pw_X11_reads_64 dd_X11_reads_64a.2.2.1) rfl (by decide)).to, ?_⟩
  refine List.forall_mem_cons.mpr ⟨(s_iloadn (am_dp pw_X11_reads_64 dd_X11_reads_64a.2.2.2.1) rfl).to, ?_⟩
  refine List.forall_mem_cons.mpr ⟨(s_if_eq (am_dp pw_X11_reads_64 dd_X11_reads_64a.2.2.2.2.1) (by decide)).to, ?_⟩
  refine List.forall_mem_cons.mpr ⟨(s_aloadn (am_dp pw_X11_reads_64 dd_X11_reads_64a.2.2.2.2.2.1) rfl).to, ?_⟩
  refine List.forall_mem_cons.mpr ⟨(s_get (ci := 11) (k := 8) (am_dp pw_X11_reads_64 dd_X11_reads_64a.2.2.2.2.2.2.1) rfl (by decide) wd1341 inX11 rfl).to, ?_⟩
  refine List.forall_mem_cons.mpr ⟨(s_if_ne (am_dp pw_X11_reads_64 dd_X11_reads_64a.2.2.2.2.2.2.2) (by decide)).to, ?_⟩
  refine List.forall_mem_cons.mpr ⟨(s_iconst (am_dp pw_X11_reads_64 dd_X11_reads_64b.1) (by decide)).to, ?_⟩
  refine List.forall_mem_cons.mpr ⟨(s_goto (am_dp pw_X11_reads_64 dd_X11_reads_64b.2.1) (by decide)).to, ?_⟩
  refine List.forall_mem_cons.mpr ⟨(s_iconst (am_dp pw_X11_reads_64 dd_X11_reads_64b.2.2.1) (by decide)).to, ?_⟩
  refine List.forall_mem_cons.mpr ⟨(s_istoren (am_dp pw_X11_reads_64 dd_X11_reads_64b.2.2.2.1) rfl (by decide)).to, ?_⟩
  refine List.forall_mem_cons.mpr ⟨(s_goto (am_dp pw_X11_reads_64 dd_X11_reads_64b.2.2.2.2.1) (by decide)).to, ?_⟩
  refine List.forall_mem_cons.mpr ⟨s_vret (am_dp pw_X11_reads_64 dd_X11_reads_64b.2.2.2.2.2) rfl, ?_⟩
  exact fun _ h => absurd h List.not_mem_nil
theorem sn_tX11_counts : ∀ q ∈ tX11_counts, am_Snd am_P0 RX11 cX11_counts 2 (Option.some FieldType.boolean) "counts" q.1 q.2 := by
  unfold tX11_counts
  refine List.forall_mem_cons.mpr ⟨(s_aloadn (am_dp pw_X11_counts_0 dd_X11_counts_0a.1) rfl).to, ?_⟩
  refine List.forall_mem_cons.mpr ⟨(s_get (ci := 11) (k := 8) (am_dp pw_X11_counts_0 dd_X11_counts_0a.2.1) rfl (by decide) wd1341 inX11 rfl).to, ?_⟩
  refine List.forall_mem_cons.mpr ⟨(s_if_ne (am_dp pw_X11_counts_0 dd_X11_counts_0a.2.2.1) (by decide)).to, ?_⟩
  refine List.forall_mem_cons.mpr ⟨(s_iloadn (am_dp pw_X11_counts_0 dd_X11_counts_0a.2.2.2.1) rfl).to, ?_⟩
  refine List.forall_mem_cons.mpr ⟨(s_if_eq (am_dp pw_X11_counts_0 dd_X11_counts_0a.2.2.2.2.1) (by decide)).to, ?_⟩
  refine List.forall_mem_cons.mpr ⟨(s_aloadn (am_dp pw_X11_counts_0 dd_X11_counts_0a.2.2.2.2.2.1) rfl).to, ?_⟩
  refine List.forall_mem_cons.mpr ⟨(s_iconst (am_dp pw_X11_counts_0 dd_X11_counts_0a.2.2.2.2.2.2.1) (by decide)).to, ?_⟩
  refine List.forall_mem_cons.mpr ⟨(s_aloadn (am_dp pw_X11_counts_0 dd_X11_counts_0a.2.2.2.2.2.2.2) rfl).to, ?_⟩
  refine List.forall_mem_cons.mpr ⟨(s_get (ci := 11) (k := 4) (am_dp pw_X11_counts_0 dd_X11_counts_0b.1) rfl (by decide) wd1337 inX11 rfl).to, ?_⟩
  refine List.forall_mem_cons.mpr ⟨zw_cv171 (am_dp pw_X11_counts_0 dd_X11_counts_0b.2.1) wd1613, ?_⟩
  refine List.forall_mem_cons.mpr ⟨(s_aloadn (am_dp pw_X11_counts_0 dd_X11_counts_0b.2.2.1) rfl).to, ?_⟩
  refine List.forall_mem_cons.mpr ⟨(s_get (ci := 11) (k := 8) (am_dp pw_X11_counts_0 dd_X11_counts_0b.2.2.2.1) rfl (by decide) wd1341 inX11 rfl).to, ?_⟩
  refine List.forall_mem_cons.mpr ⟨(s_if_ne (am_dp pw_X11_counts_0 dd_X11_counts_0b.2.2.2.2.1) (by decide)).to, ?_⟩
  refine List.forall_mem_cons.mpr ⟨(s_aloadn (am_dp pw_X11_counts_0 dd_X11_counts_0b.2.2.2.2.2.1) rfl).to, ?_⟩
  refine List.forall_mem_cons.mpr ⟨zw_cv174 (am_dp pw_X11_counts_0 dd_X11_counts_0b.2.2.2.2.2.2.1) wd1603, ?_⟩
  refine List.forall_mem_cons.mpr ⟨(s_aloadn (am_dp pw_X11_counts_0 dd_X11_counts_0b.2.2.2.2.2.2.2) rfl).to, ?_⟩
  refine List.forall_mem_cons.mpr ⟨(s_get (ci := 11) (k := 8) (am_dp pw_X11_counts_32 dd_X11_counts_32a.1) rfl (by decide) wd1341 inX11 rfl).to, ?_⟩
  refine List.forall_mem_cons.mpr ⟨(s_if_ne (am_dp pw_X11_counts_32 dd_X11_counts_32a.2.1) (by decide)).to, ?_⟩
  refine List.forall_mem_cons.mpr ⟨(s_iconst (am_dp pw_X11_counts_32 dd_X11_counts_32a.2.2.1) (by decide)).to, ?_⟩
  refine List.forall_mem_cons.mpr ⟨(s_goto (am_dp pw_X11_counts_32 dd_X11_counts_32a.2.2.2.1) (by decide)).to, ?_⟩
  refine List.forall_mem_cons.mpr ⟨(s_iconst (am_dp pw_X11_counts_32 dd_X11_counts_32a.2.2.2.2.1) (by decide)).to, ?_⟩
  refine List.forall_mem_cons.mpr ⟨s_zret (am_dp pw_X11_counts_32 dd_X11_counts_32a.2.2.2.2.2) rfl, ?_⟩
  exact fun _ h => absurd h List.not_mem_nil
theorem sn_tX11_must_ : ∀ q ∈ tX11_must_, am_Snd am_P0 RX11 cX11_must_ 3 (Option.none : Option FieldType) "must" q.1 q.2 := by
  unfold tX11_must_
  refine List.forall_mem_cons.mpr ⟨(s_aloadn (am_dp pw_X11_must__0 dd_X11_must__0a.1) rfl).to, ?_⟩
  refine List.forall_mem_cons.mpr ⟨(s_get (ci := 11) (k := 8) (am_dp pw_X11_must__0 dd_X11_must__0a.2.1) rfl (by decide) wd1341 inX11 rfl).to, ?_⟩
  refine List.forall_mem_cons.mpr ⟨(s_if_le (am_dp pw_X11_must__0 dd_X11_must__0a.2.2.1) (by decide)).to, ?_⟩
  refine List.forall_mem_cons.mpr ⟨s_vret (am_dp pw_X11_must__0 dd_X11_must__0a.2.2.2.1) rfl, ?_⟩
  refine List.forall_mem_cons.mpr ⟨(s_aloadn (am_dp pw_X11_must__0 dd_X11_must__0a.2.2.2.2.1) rfl).to, ?_⟩
  refine List.forall_mem_cons.mpr ⟨(s_lloadn (am_dp pw_X11_must__0 dd_X11_must__0a.2.2.2.2.2.1) rfl).to, ?_⟩
  refine List.forall_mem_cons.mpr ⟨zw_cv176 (am_dp pw_X11_must__0 dd_X11_must__0a.2.2.2.2.2.2.1) wd1622, ?_⟩
  refine List.forall_mem_cons.mpr ⟨(s_if_ne (am_dp pw_X11_must__0 dd_X11_must__0a.2.2.2.2.2.2.2) (by decide)).to, ?_⟩
  refine List.forall_mem_cons.mpr ⟨(s_aloadn (am_dp pw_X11_must__0 dd_X11_must__0b.1) rfl).to, ?_⟩
  refine List.forall_mem_cons.mpr ⟨(s_iconst (am_dp pw_X11_must__0 dd_X11_must__0b.2.1) (by decide)).to, ?_⟩
  refine List.forall_mem_cons.mpr ⟨(s_aloadn (am_dp pw_X11_must__0 dd_X11_must__0b.2.2.1) rfl).to, ?_⟩
  refine List.forall_mem_cons.mpr ⟨(s_get (ci := 11) (k := 4) (am_dp pw_X11_must__0 dd_X11_must__0b.2.2.2.1) rfl (by decide) wd1337 inX11 rfl).to, ?_⟩
  refine List.forall_mem_cons.mpr ⟨zw_cv171 (am_dp pw_X11_must__0 dd_X11_must__0b.2.2.2.2.1) wd1613, ?_⟩
  refine List.forall_mem_cons.mpr ⟨(s_aloadn (am_dp pw_X11_must__0 dd_X11_must__0b.2.2.2.2.2.1) rfl).to, ?_⟩
  refine List.forall_mem_cons.mpr ⟨(s_get (ci := 11) (k := 8) (am_dp pw_X11_must__0 dd_X11_must__0b.2.2.2.2.2.2.1) rfl (by decide) wd1341 inX11 rfl).to, ?_⟩
  refine List.forall_mem_cons.mpr ⟨(s_if_ne (am_dp pw_X11_must__0 dd_X11_must__0b.2.2.2.2.2.2.2) (by decide)).to, ?_⟩
  refine List.forall_mem_cons.mpr ⟨(s_aloadn (am_dp pw_X11_must__32 dd_X11_must__32a.1) rfl).to, ?_⟩
  refine List.forall_mem_cons.mpr ⟨zw_cv174 (am_dp pw_X11_must__32 dd_X11_must__32a.2.1) wd1603, ?_⟩
  refine List.forall_mem_cons.mpr ⟨s_vret (am_dp pw_X11_must__32 dd_X11_must__32a.2.2) rfl, ?_⟩
  exact fun _ h => absurd h List.not_mem_nil
theorem sn_tX11_fresh : ∀ q ∈ tX11_fresh, am_Snd am_P0 RX11 cX11_fresh 3 (Option.some FieldType.long) "fresh" q.1 q.2 := by
  unfold tX11_fresh
  refine List.forall_mem_cons.mpr ⟨(s_aloadn (am_dp pw_X11_fresh_0 dd_X11_fresh_0a.1) rfl).to, ?_⟩
  refine List.forall_mem_cons.mpr ⟨(s_get (ci := 11) (k := 8) (am_dp pw_X11_fresh_0 dd_X11_fresh_0a.2.1) rfl (by decide) wd1341 inX11 rfl).to, ?_⟩
  refine List.forall_mem_cons.mpr ⟨(s_if_le (am_dp pw_X11_fresh_0 dd_X11_fresh_0a.2.2.1) (by decide)).to, ?_⟩
  refine List.forall_mem_cons.mpr ⟨(s_lconst (am_dp pw_X11_fresh_0 dd_X11_fresh_0a.2.2.2.1) (by decide)).to, ?_⟩
  refine List.forall_mem_cons.mpr ⟨s_lret (am_dp pw_X11_fresh_0 dd_X11_fresh_0a.2.2.2.2.1) rfl, ?_⟩
  refine List.forall_mem_cons.mpr ⟨(s_aloadn (am_dp pw_X11_fresh_0 dd_X11_fresh_0a.2.2.2.2.2.1) rfl).to, ?_⟩
  refine List.forall_mem_cons.mpr ⟨(s_get (ci := 11) (k := 3) (am_dp pw_X11_fresh_0 dd_X11_fresh_0a.2.2.2.2.2.2.1) rfl (by decide) wd1336 inX11 rfl).to, ?_⟩
  refine List.forall_mem_cons.mpr ⟨(s_iconst (am_dp pw_X11_fresh_0 dd_X11_fresh_0a.2.2.2.2.2.2.2) (by decide)).to, ?_⟩
  refine List.forall_mem_cons.mpr ⟨(s_icmp_ne (am_dp pw_X11_fresh_0 dd_X11_fresh_0b.1) (by decide)).to, ?_⟩
  refine List.forall_mem_cons.mpr ⟨(s_aloadn (am_dp pw_X11_fresh_0 dd_X11_fresh_0b.2.1) rfl).to, ?_⟩
  refine List.forall_mem_cons.mpr ⟨(s_aloadn (am_dp pw_X11_fresh_0 dd_X11_fresh_0b.2.2.1) rfl).to, ?_⟩
  refine List.forall_mem_cons.mpr ⟨(s_get (ci := 11) (k := 7) (am_dp pw_X11_fresh_0 dd_X11_fresh_0b.2.2.2.1) rfl (by decide) wd1340 inX11 rfl).to, ?_⟩
  refine List.forall_mem_cons.mpr ⟨zw_cv178 (am_dp pw_X11_fresh_0 dd_X11_fresh_0b.2.2.2.2.1) wd1723, ?_⟩
  refine List.forall_mem_cons.mpr ⟨(s_if_eq (am_dp pw_X11_fresh_0 dd_X11_fresh_0b.2.2.2.2.2.1) (by decide)).to, ?_⟩
  refine List.forall_mem_cons.mpr ⟨(s_aloadn (am_dp pw_X11_fresh_0 dd_X11_fresh_0b.2.2.2.2.2.2.1) rfl).to, ?_⟩
  refine List.forall_mem_cons.mpr ⟨(s_iconst (am_dp pw_X11_fresh_0 dd_X11_fresh_0b.2.2.2.2.2.2.2) (by decide)).to, ?_⟩
  refine List.forall_mem_cons.mpr ⟨(s_aloadn (am_dp pw_X11_fresh_0 dd_X11_fresh_0c.1) rfl).to, ?_⟩
  refine List.forall_mem_cons.mpr ⟨(s_get (ci := 11) (k := 4) (am_dp pw_X11_fresh_0 dd_X11_fresh_0c.2) rfl (by decide) wd1337 inX11 rfl).to, ?_⟩
  refine List.forall_mem_cons.mpr ⟨zw_cv171 (am_dp pw_X11_fresh_32 dd_X11_fresh_32a.1) wd1613, ?_⟩
  refine List.forall_mem_cons.mpr ⟨(s_aloadn (am_dp pw_X11_fresh_32 dd_X11_fresh_32a.2.1) rfl).to, ?_⟩
  refine List.forall_mem_cons.mpr ⟨(s_get (ci := 11) (k := 8) (am_dp pw_X11_fresh_32 dd_X11_fresh_32a.2.2.1) rfl (by decide) wd1341 inX11 rfl).to, ?_⟩
  refine List.forall_mem_cons.mpr ⟨(s_if_ne (am_dp pw_X11_fresh_32 dd_X11_fresh_32a.2.2.2.1) (by decide)).to, ?_⟩
  refine List.forall_mem_cons.mpr ⟨(s_aloadn (am_dp pw_X11_fresh_32 dd_X11_fresh_32a.2.2.2.2.1) rfl).to, ?_⟩
  refine List.forall_mem_cons.mpr ⟨(s_aloadn (am_dp pw_X11_fresh_32 dd_X11_fresh_32a.2.2.2.2.2.1) rfl).to, ?_⟩
  refine List.forall_mem_cons.mpr ⟨(s_get (ci := 11) (k := 7) (am_dp pw_X11_fresh_32 dd_X11_fresh_32a.2.2.2.2.2.2.1) rfl (by decide) wd1340 inX11 rfl).to, ?_⟩
  refine List.forall_mem_cons.mpr ⟨zw_cv181 (am_dp pw_X11_fresh_32 dd_X11_fresh_32a.2.2.2.2.2.2.2) wd1739, ?_⟩
  refine List.forall_mem_cons.mpr ⟨(s_iconst (am_dp pw_X11_fresh_32 dd_X11_fresh_32b.1) (by decide)).to, ?_⟩
  refine List.forall_mem_cons.mpr ⟨(s_icmp_eq (am_dp pw_X11_fresh_32 dd_X11_fresh_32b.2.1) (by decide)).to, ?_⟩
  refine List.forall_mem_cons.mpr ⟨(s_aloadn (am_dp pw_X11_fresh_32 dd_X11_fresh_32b.2.2.1) rfl).to, ?_⟩
  refine List.forall_mem_cons.mpr ⟨(s_iconst (am_dp pw_X11_fresh_32 dd_X11_fresh_32b.2.2.2.1) (by decide)).to, ?_⟩
  refine List.forall_mem_cons.mpr ⟨(s_aloadn (am_dp pw_X11_fresh_32 dd_X11_fresh_32b.2.2.2.2.1) rfl).to, ?_⟩
  refine List.forall_mem_cons.mpr ⟨(s_get (ci := 11) (k := 4) (am_dp pw_X11_fresh_32 dd_X11_fresh_32b.2.2.2.2.2.1) rfl (by decide) wd1337 inX11 rfl).to, ?_⟩
  refine List.forall_mem_cons.mpr ⟨zw_cv171 (am_dp pw_X11_fresh_32 dd_X11_fresh_32b.2.2.2.2.2.2) wd1613, ?_⟩
  refine List.forall_mem_cons.mpr ⟨(s_aloadn (am_dp pw_X11_fresh_64 dd_X11_fresh_64a.1) rfl).to, ?_⟩
  refine List.forall_mem_cons.mpr ⟨(s_get (ci := 11) (k := 7) (am_dp pw_X11_fresh_64 dd_X11_fresh_64a.2.1) rfl (by decide) wd1340 inX11 rfl).to, ?_⟩
  refine List.forall_mem_cons.mpr ⟨(s_lstoren (am_dp pw_X11_fresh_64 dd_X11_fresh_64a.2.2.1) rfl (by decide)).to, ?_⟩
  refine List.forall_mem_cons.mpr ⟨(s_aloadn (am_dp pw_X11_fresh_64 dd_X11_fresh_64a.2.2.2.1) rfl).to, ?_⟩
  refine List.forall_mem_cons.mpr ⟨(s_get (ci := 11) (k := 8) (am_dp pw_X11_fresh_64 dd_X11_fresh_64a.2.2.2.2.1) rfl (by decide) wd1341 inX11 rfl).to, ?_⟩
  refine List.forall_mem_cons.mpr ⟨(s_if_ne (am_dp pw_X11_fresh_64 dd_X11_fresh_64a.2.2.2.2.2.1) (by decide)).to, ?_⟩
  refine List.forall_mem_cons.mpr ⟨(s_aloadn (am_dp pw_X11_fresh_64 dd_X11_fresh_64a.2.2.2.2.2.2.1) rfl).to, ?_⟩
  refine List.forall_mem_cons.mpr ⟨zw_cv174 (am_dp pw_X11_fresh_64 dd_X11_fresh_64a.2.2.2.2.2.2.2) wd1603, ?_⟩
  refine List.forall_mem_cons.mpr ⟨(s_lloadn (am_dp pw_X11_fresh_64 dd_X11_fresh_64b.1) rfl).to, ?_⟩
  refine List.forall_mem_cons.mpr ⟨s_lret (am_dp pw_X11_fresh_64 dd_X11_fresh_64b.2) rfl, ?_⟩
  exact fun _ h => absurd h List.not_mem_nil
theorem sn_tX11_asked : ∀ q ∈ tX11_asked, am_Snd am_P0 RX11 cX11_asked 2 (Option.some FieldType.int) "asked" q.1 q.2 := by
  unfold tX11_asked
  refine List.forall_mem_cons.mpr ⟨(s_aloadn (am_dp pw_X11_asked_0 dd_X11_asked_0a.1) rfl).to, ?_⟩
  refine List.forall_mem_cons.mpr ⟨(s_get (ci := 11) (k := 8) (am_dp pw_X11_asked_0 dd_X11_asked_0a.2.1) rfl (by decide) wd1341 inX11 rfl).to, ?_⟩
  refine List.forall_mem_cons.mpr ⟨(s_if_le (am_dp pw_X11_asked_0 dd_X11_asked_0a.2.2.1) (by decide)).to, ?_⟩
  refine List.forall_mem_cons.mpr ⟨(s_iconst (am_dp pw_X11_asked_0 dd_X11_asked_0a.2.2.2.1) (by decide)).to, ?_⟩
  refine List.forall_mem_cons.mpr ⟨s_iret (am_dp pw_X11_asked_0 dd_X11_asked_0a.2.2.2.2.1) rfl, ?_⟩
  refine List.forall_mem_cons.mpr ⟨(s_aloadn (am_dp pw_X11_asked_0 dd_X11_asked_0a.2.2.2.2.2.1) rfl).to, ?_⟩
  refine List.forall_mem_cons.mpr ⟨(s_get (ci := 11) (k := 3) (am_dp pw_X11_asked_0 dd_X11_asked_0a.2.2.2.2.2.2.1) rfl (by decide) wd1336 inX11 rfl).to, ?_⟩
  refine List.forall_mem_cons.mpr ⟨(s_iconst (am_dp pw_X11_asked_0 dd_X11_asked_0a.2.2.2.2.2.2.2) (by decide)).to, ?_⟩
  refine List.forall_mem_cons.mpr ⟨(s_icmp_ne (am_dp pw_X11_asked_0 dd_X11_asked_0b.1) (by decide)).to, ?_⟩
  refine List.forall_mem_cons.mpr ⟨(s_aloadn (am_dp pw_X11_asked_0 dd_X11_asked_0b.2.1) rfl).to, ?_⟩
  refine List.forall_mem_cons.mpr ⟨(s_aloadn (am_dp pw_X11_asked_0 dd_X11_asked_0b.2.2.1) rfl).to, ?_⟩
  refine List.forall_mem_cons.mpr ⟨(s_get (ci := 11) (k := 7) (am_dp pw_X11_asked_0 dd_X11_asked_0b.2.2.2.1) rfl (by decide) wd1340 inX11 rfl).to, ?_⟩
  refine List.forall_mem_cons.mpr ⟨zw_cv178 (am_dp pw_X11_asked_0 dd_X11_asked_0b.2.2.2.2.1) wd1723, ?_⟩
  refine List.forall_mem_cons.mpr ⟨(s_if_eq (am_dp pw_X11_asked_0 dd_X11_asked_0b.2.2.2.2.2.1) (by decide)).to, ?_⟩
  refine List.forall_mem_cons.mpr ⟨(s_aloadn (am_dp pw_X11_asked_0 dd_X11_asked_0b.2.2.2.2.2.2.1) rfl).to, ?_⟩
  refine List.forall_mem_cons.mpr ⟨(s_iconst (am_dp pw_X11_asked_0 dd_X11_asked_0b.2.2.2.2.2.2.2) (by decide)).to, ?_⟩
  refine List.forall_mem_cons.mpr ⟨(s_aloadn (am_dp pw_X11_asked_0 dd_X11_asked_0c.1) rfl).to, ?_⟩
  refine List.forall_mem_cons.mpr ⟨(s_get (ci := 11) (k := 4) (am_dp pw_X11_asked_0 dd_X11_asked_0c.2) rfl (by decide) wd1337 inX11 rfl).to, ?_⟩
  refine List.forall_mem_cons.mpr ⟨zw_cv171 (am_dp pw_X11_asked_32 dd_X11_asked_32a.1) wd1613, ?_⟩
  refine List.forall_mem_cons.mpr ⟨(s_aloadn (am_dp pw_X11_asked_32 dd_X11_asked_32a.2.1) rfl).to, ?_⟩
  refine List.forall_mem_cons.mpr ⟨(s_get (ci := 11) (k := 8) (am_dp pw_X11_asked_32 dd_X11_asked_32a.2.2.1) rfl (by decide) wd1341 inX11 rfl).to, ?_⟩
  refine List.forall_mem_cons.mpr ⟨(s_if_le (am_dp pw_X11_asked_32 dd_X11_asked_32a.2.2.2.1) (by decide)).to, ?_⟩
  refine List.forall_mem_cons.mpr ⟨(s_iconst (am_dp pw_X11_asked_32 dd_X11_asked_32a.2.2.2.2.1) (by decide)).to, ?_⟩
  refine List.forall_mem_cons.mpr ⟨(s_goto (am_dp pw_X11_asked_32 dd_X11_asked_32a.2.2.2.2.2.1) (by decide)).to, ?_⟩
  refine List.forall_mem_cons.mpr ⟨(s_aloadn (am_dp pw_X11_asked_32 dd_X11_asked_32a.2.2.2.2.2.2.1) rfl).to, ?_⟩
  refine List.forall_mem_cons.mpr ⟨(s_aloadn (am_dp pw_X11_asked_32 dd_X11_asked_32a.2.2.2.2.2.2.2) rfl).to, ?_⟩
  refine List.forall_mem_cons.mpr ⟨(s_get (ci := 11) (k := 7) (am_dp pw_X11_asked_32 dd_X11_asked_32b.1) rfl (by decide) wd1340 inX11 rfl).to, ?_⟩
  refine List.forall_mem_cons.mpr ⟨zw_cv181 (am_dp pw_X11_asked_32 dd_X11_asked_32b.2.1) wd1739, ?_⟩
  refine List.forall_mem_cons.mpr ⟨(s_istoren (am_dp pw_X11_asked_32 dd_X11_asked_32b.2.2.1) rfl (by decide)).to, ?_⟩
  refine List.forall_mem_cons.mpr ⟨(s_aloadn (am_dp pw_X11_asked_32 dd_X11_asked_32b.2.2.2.1) rfl).to, ?_⟩
  refine List.forall_mem_cons.mpr ⟨(s_get (ci := 11) (k := 8) (am_dp pw_X11_asked_32 dd_X11_asked_32b.2.2.2.2.1) rfl (by decide) wd1341 inX11 rfl).to, ?_⟩
  refine List.forall_mem_cons.mpr ⟨(s_if_ne (am_dp pw_X11_asked_32 dd_X11_asked_32b.2.2.2.2.2) (by decide)).to, ?_⟩
  refine List.forall_mem_cons.mpr ⟨(s_iloadn (am_dp pw_X11_asked_64 dd_X11_asked_64a.1) rfl).to, ?_⟩
  refine List.forall_mem_cons.mpr ⟨(s_iconst (am_dp pw_X11_asked_64 dd_X11_asked_64a.2.1) (by decide)).to, ?_⟩
  refine List.forall_mem_cons.mpr ⟨(s_icmp_ne (am_dp pw_X11_asked_64 dd_X11_asked_64a.2.2.1) (by decide)).to, ?_⟩
  refine List.forall_mem_cons.mpr ⟨(s_aloadn (am_dp pw_X11_asked_64 dd_X11_asked_64a.2.2.2.1) rfl).to, ?_⟩
  refine List.forall_mem_cons.mpr ⟨(s_iconst (am_dp pw_X11_asked_64 dd_X11_asked_64a.2.2.2.2.1) (by decide)).to, ?_⟩
  refine List.forall_mem_cons.mpr ⟨(s_aloadn (am_dp pw_X11_asked_64 dd_X11_asked_64a.2.2.2.2.2.1) rfl).to, ?_⟩
  refine List.forall_mem_cons.mpr ⟨(s_get (ci := 11) (k := 4) (am_dp pw_X11_asked_64 dd_X11_asked_64a.2.2.2.2.2.2.1) rfl (by decide) wd1337 inX11 rfl).to, ?_⟩
  refine List.forall_mem_cons.mpr ⟨zw_cv171 (am_dp pw_X11_asked_64 dd_X11_asked_64a.2.2.2.2.2.2.2) wd1613, ?_⟩
  refine List.forall_mem_cons.mpr ⟨(s_aloadn (am_dp pw_X11_asked_64 dd_X11_asked_64b.1) rfl).to, ?_⟩
  refine List.forall_mem_cons.mpr ⟨(s_get (ci := 11) (k := 8) (am_dp pw_X11_asked_64 dd_X11_asked_64b.2.1) rfl (by decide) wd1341 inX11 rfl).to, ?_⟩
  refine List.forall_mem_cons.mpr ⟨(s_if_ne (am_dp pw_X11_asked_64 dd_X11_asked_64b.2.2.1) (by decide)).to, ?_⟩
  refine List.forall_mem_cons.mpr ⟨(s_aloadn (am_dp pw_X11_asked_64 dd_X11_asked_64b.2.2.2.1) rfl).to, ?_⟩
  refine List.forall_mem_cons.mpr ⟨zw_cv174 (am_dp pw_X11_asked_64 dd_X11_asked_64b.2.2.2.2.1) wd1603, ?_⟩
  refine List.forall_mem_cons.mpr ⟨(s_aloadn (am_dp pw_X11_asked_64 dd_X11_asked_64b.2.2.2.2.2.1) rfl).to, ?_⟩
  refine List.forall_mem_cons.mpr ⟨(s_get (ci := 11) (k := 8) (am_dp pw_X11_asked_64 dd_X11_asked_64b.2.2.2.2.2.2.1) rfl (by decide) wd1341 inX11 rfl).to, ?_⟩
  refine List.forall_mem_cons.mpr ⟨(s_if_le (am_dp pw_X11_asked_64 dd_X11_asked_64b.2.2.2.2.2.2.2) (by decide)).to, ?_⟩
  refine List.forall_mem_cons.mpr ⟨(s_iconst (am_dp pw_X11_asked_96 dd_X11_asked_96a.1) (by decide)).to, ?_⟩
  refine List.forall_mem_cons.mpr ⟨(s_goto (am_dp pw_X11_asked_96 dd_X11_asked_96a.2.1) (by decide)).to, ?_⟩
  refine List.forall_mem_cons.mpr ⟨(s_iloadn (am_dp pw_X11_asked_96 dd_X11_asked_96a.2.2.1) rfl).to, ?_⟩
  refine List.forall_mem_cons.mpr ⟨s_iret (am_dp pw_X11_asked_96 dd_X11_asked_96a.2.2.2) rfl, ?_⟩
  exact fun _ h => absurd h List.not_mem_nil
theorem sn_tX11_sizes : ∀ q ∈ tX11_sizes, am_Snd am_P0 RX11 cX11_sizes 1 (Option.none : Option FieldType) "sizes" q.1 q.2 := by
  unfold tX11_sizes
  refine List.forall_mem_cons.mpr ⟨(s_aloadn (am_dp pw_X11_sizes_0 dd_X11_sizes_0a.1) rfl).to, ?_⟩
  refine List.forall_mem_cons.mpr ⟨(s_ldc2 (am_dp pw_X11_sizes_0 dd_X11_sizes_0a.2.1) wd1621).to, ?_⟩
  refine List.forall_mem_cons.mpr ⟨zw_cv176 (am_dp pw_X11_sizes_0 dd_X11_sizes_0a.2.2.1) wd1622, ?_⟩
  refine List.forall_mem_cons.mpr ⟨(s_if_ne (am_dp pw_X11_sizes_0 dd_X11_sizes_0a.2.2.2.1) (by decide)).to, ?_⟩
  refine List.forall_mem_cons.mpr ⟨(s_aloadn (am_dp pw_X11_sizes_0 dd_X11_sizes_0a.2.2.2.2.1) rfl).to, ?_⟩
  refine List.forall_mem_cons.mpr ⟨(s_iconst (am_dp pw_X11_sizes_0 dd_X11_sizes_0a.2.2.2.2.2.1) (by decide)).to, ?_⟩
  refine List.forall_mem_cons.mpr ⟨(s_aloadn (am_dp pw_X11_sizes_0 dd_X11_sizes_0a.2.2.2.2.2.2.1) rfl).to, ?_⟩
  refine List.forall_mem_cons.mpr ⟨(s_get (ci := 11) (k := 4) (am_dp pw_X11_sizes_0 dd_X11_sizes_0a.2.2.2.2.2.2.2) rfl (by decide) wd1337 inX11 rfl).to, ?_⟩
  refine List.forall_mem_cons.mpr ⟨zw_cv171 (am_dp pw_X11_sizes_0 dd_X11_sizes_0b.1) wd1613, ?_⟩
  refine List.forall_mem_cons.mpr ⟨(s_aloadn (am_dp pw_X11_sizes_0 dd_X11_sizes_0b.2.1) rfl).to, ?_⟩
  refine List.forall_mem_cons.mpr ⟨(s_get (ci := 11) (k := 8) (am_dp pw_X11_sizes_0 dd_X11_sizes_0b.2.2.1) rfl (by decide) wd1341 inX11 rfl).to, ?_⟩
  refine List.forall_mem_cons.mpr ⟨(s_if_le (am_dp pw_X11_sizes_0 dd_X11_sizes_0b.2.2.2.1) (by decide)).to, ?_⟩
  refine List.forall_mem_cons.mpr ⟨s_vret (am_dp pw_X11_sizes_0 dd_X11_sizes_0b.2.2.2.2.1) rfl, ?_⟩
  refine List.forall_mem_cons.mpr ⟨(s_aloadn (am_dp pw_X11_sizes_0 dd_X11_sizes_0b.2.2.2.2.2.1) rfl).to, ?_⟩
  refine List.forall_mem_cons.mpr ⟨zw_cv174 (am_dp pw_X11_sizes_0 dd_X11_sizes_0b.2.2.2.2.2.2.1) wd1603, ?_⟩
  refine List.forall_mem_cons.mpr ⟨(s_aloadn (am_dp pw_X11_sizes_0 dd_X11_sizes_0b.2.2.2.2.2.2.2) rfl).to, ?_⟩
  refine List.forall_mem_cons.mpr ⟨(s_get (ci := 11) (k := 13) (am_dp pw_X11_sizes_32 dd_X11_sizes_32a.1) rfl (by decide) wd1346 inX11 rfl).to, ?_⟩
  refine List.forall_mem_cons.mpr ⟨(s_aloadn (am_dp pw_X11_sizes_32 dd_X11_sizes_32a.2.1) rfl).to, ?_⟩
  refine List.forall_mem_cons.mpr ⟨(s_get (ci := 11) (k := 41) (am_dp pw_X11_sizes_32 dd_X11_sizes_32a.2.2.1) rfl (by decide) wd1374 inX11 rfl).to, ?_⟩
  refine List.forall_mem_cons.mpr ⟨(s_aloadn (am_dp pw_X11_sizes_32 dd_X11_sizes_32a.2.2.2.1) rfl).to, ?_⟩
  refine List.forall_mem_cons.mpr ⟨(s_iconst (am_dp pw_X11_sizes_32 dd_X11_sizes_32a.2.2.2.2.1) (by decide)).to, ?_⟩
  refine List.forall_mem_cons.mpr ⟨(s_bipush (am_dp pw_X11_sizes_32 dd_X11_sizes_32a.2.2.2.2.2.1) (by decide)).to, ?_⟩
  refine List.forall_mem_cons.mpr ⟨zw_cv182 (am_dp pw_X11_sizes_32 dd_X11_sizes_32a.2.2.2.2.2.2.1) wd1626, ?_⟩
  refine List.forall_mem_cons.mpr ⟨(s_iast (am_dp pw_X11_sizes_32 dd_X11_sizes_32a.2.2.2.2.2.2.2)).to, ?_⟩
  refine List.forall_mem_cons.mpr ⟨(s_aloadn (am_dp pw_X11_sizes_32 dd_X11_sizes_32b.1) rfl).to, ?_⟩
  refine List.forall_mem_cons.mpr ⟨(s_get (ci := 11) (k := 14) (am_dp pw_X11_sizes_32 dd_X11_sizes_32b.2.1) rfl (by decide) wd1347 inX11 rfl).to, ?_⟩
  refine List.forall_mem_cons.mpr ⟨(s_aloadn (am_dp pw_X11_sizes_32 dd_X11_sizes_32b.2.2.1) rfl).to, ?_⟩
  refine List.forall_mem_cons.mpr ⟨(s_get (ci := 11) (k := 41) (am_dp pw_X11_sizes_32 dd_X11_sizes_32b.2.2.2.1) rfl (by decide) wd1374 inX11 rfl).to, ?_⟩
  refine List.forall_mem_cons.mpr ⟨(s_aloadn (am_dp pw_X11_sizes_32 dd_X11_sizes_32b.2.2.2.2.1) rfl).to, ?_⟩
  refine List.forall_mem_cons.mpr ⟨(s_iconst (am_dp pw_X11_sizes_32 dd_X11_sizes_32b.2.2.2.2.2.1) (by decide)).to, ?_⟩
  refine List.forall_mem_cons.mpr ⟨(s_bipush (am_dp pw_X11_sizes_32 dd_X11_sizes_32b.2.2.2.2.2.2.1) (by decide)).to, ?_⟩
  refine List.forall_mem_cons.mpr ⟨zw_cv182 (am_dp pw_X11_sizes_32 dd_X11_sizes_32b.2.2.2.2.2.2.2) wd1626, ?_⟩
  refine List.forall_mem_cons.mpr ⟨(s_iast (am_dp pw_X11_sizes_32 dd_X11_sizes_32c.1)).to, ?_⟩
  refine List.forall_mem_cons.mpr ⟨(s_aloadn (am_dp pw_X11_sizes_32 dd_X11_sizes_32c.2) rfl).to, ?_⟩
  refine List.forall_mem_cons.mpr ⟨(s_get (ci := 11) (k := 8) (am_dp pw_X11_sizes_64 dd_X11_sizes_64a.1) rfl (by decide) wd1341 inX11 rfl).to, ?_⟩
  refine List.forall_mem_cons.mpr ⟨(s_if_ne (am_dp pw_X11_sizes_64 dd_X11_sizes_64a.2.1) (by decide)).to, ?_⟩
  refine List.forall_mem_cons.mpr ⟨(s_aloadn (am_dp pw_X11_sizes_64 dd_X11_sizes_64a.2.2.1) rfl).to, ?_⟩
  refine List.forall_mem_cons.mpr ⟨(s_bipush (am_dp pw_X11_sizes_64 dd_X11_sizes_64a.2.2.2.1) (by decide)).to, ?_⟩
  refine List.forall_mem_cons.mpr ⟨zw_cv177 (am_dp pw_X11_sizes_64 dd_X11_sizes_64a.2.2.2.2.1) wd1633, ?_⟩
  refine List.forall_mem_cons.mpr ⟨s_vret (am_dp pw_X11_sizes_64 dd_X11_sizes_64a.2.2.2.2.2) rfl, ?_⟩
  exact fun _ h => absurd h List.not_mem_nil
theorem sn_tX11_rule_0 : ∀ q ∈ tX11_rule_0, am_Snd am_P0 RX11 cX11_rule 3 (Option.none : Option FieldType) "rule" q.1 q.2 := by
  unfold tX11_rule_0
  refine List.forall_mem_cons.mpr ⟨(s_aloadn (am_dp pw_X11_rule_0 dd_X11_rule_0a.1) rfl).to, ?_⟩
  refine List.forall_mem_cons.mpr ⟨(s_aloadn (am_dp pw_X11_rule_0 dd_X11_rule_0a.2.1) rfl).to, ?_⟩
  refine List.forall_mem_cons.mpr ⟨(s_get (ci := 11) (k := 15) (am_dp pw_X11_rule_0 dd_X11_rule_0a.2.2.1) rfl (by decide) wd1348 inX11 rfl).to, ?_⟩
  refine List.forall_mem_cons.mpr ⟨(s_iconst (am_dp pw_X11_rule_0 dd_X11_rule_0a.2.2.2.1) (by decide)).to, ?_⟩
  refine List.forall_mem_cons.mpr ⟨(s_aloadn (am_dp pw_X11_rule_0 dd_X11_rule_0a.2.2.2.2.1) rfl).to, ?_⟩
  refine List.forall_mem_cons.mpr ⟨(s_get (ci := 11) (k := 41) (am_dp pw_X11_rule_0 dd_X11_rule_0a.2.2.2.2.2.1) rfl (by decide) wd1374 inX11 rfl).to, ?_⟩
  refine List.forall_mem_cons.mpr ⟨(s_imul (am_dp pw_X11_rule_0 dd_X11_rule_0a.2.2.2.2.2.2.1)).to, ?_⟩
  refine List.forall_mem_cons.mpr ⟨(s_iloadn (am_dp pw_X11_rule_0 dd_X11_rule_0a.2.2.2.2.2.2.2) rfl).to, ?_⟩
  refine List.forall_mem_cons.mpr ⟨(s_iadd (am_dp pw_X11_rule_0 dd_X11_rule_0b.1)).to, ?_⟩
  refine List.forall_mem_cons.mpr ⟨(s_iald (am_dp pw_X11_rule_0 dd_X11_rule_0b.2.1)).to, ?_⟩
  refine List.forall_mem_cons.mpr ⟨(s_iloadn (am_dp pw_X11_rule_0 dd_X11_rule_0b.2.2.1) rfl).to, ?_⟩
  refine List.forall_mem_cons.mpr ⟨zw_cs180 (am_dp pw_X11_rule_0 dd_X11_rule_0b.2.2.2.1) wd1650, ?_⟩
  refine List.forall_mem_cons.mpr ⟨(s_icmp_ne (am_dp pw_X11_rule_0 dd_X11_rule_0b.2.2.2.2.1) (by decide)).to, ?_⟩
  refine List.forall_mem_cons.mpr ⟨(s_iconst (am_dp pw_X11_rule_0 dd_X11_rule_0b.2.2.2.2.2.1) (by decide)).to, ?_⟩
  refine List.forall_mem_cons.mpr ⟨(s_goto (am_dp pw_X11_rule_0 dd_X11_rule_0b.2.2.2.2.2.2.1) (by decide)).to, ?_⟩
  refine List.forall_mem_cons.mpr ⟨(s_iconst (am_dp pw_X11_rule_0 dd_X11_rule_0b.2.2.2.2.2.2.2) (by decide)).to, ?_⟩
  refine List.forall_mem_cons.mpr ⟨zw_cv193 (am_dp pw_X11_rule_0 dd_X11_rule_0c.1) wd1653, ?_⟩
  refine List.forall_mem_cons.mpr ⟨(s_if_ne (am_dp pw_X11_rule_0 dd_X11_rule_0c.2) (by decide)).to, ?_⟩
  refine List.forall_mem_cons.mpr ⟨s_vret (am_dp pw_X11_rule_32 dd_X11_rule_32a.1) rfl, ?_⟩
  refine List.forall_mem_cons.mpr ⟨(s_bipush (am_dp pw_X11_rule_32 dd_X11_rule_32a.2.1) (by decide)).to, ?_⟩
  refine List.forall_mem_cons.mpr ⟨(s_aloadn (am_dp pw_X11_rule_32 dd_X11_rule_32a.2.2.1) rfl).to, ?_⟩
  refine List.forall_mem_cons.mpr ⟨(s_get (ci := 11) (k := 41) (am_dp pw_X11_rule_32 dd_X11_rule_32a.2.2.2.1) rfl (by decide) wd1374 inX11 rfl).to, ?_⟩
  refine List.forall_mem_cons.mpr ⟨(s_imul (am_dp pw_X11_rule_32 dd_X11_rule_32a.2.2.2.2.1)).to, ?_⟩
  refine List.forall_mem_cons.mpr ⟨(s_iloadn (am_dp pw_X11_rule_32 dd_X11_rule_32a.2.2.2.2.2.1) rfl).to, ?_⟩
  refine List.forall_mem_cons.mpr ⟨zw_cs179 (am_dp pw_X11_rule_32 dd_X11_rule_32a.2.2.2.2.2.2.1) wd1657, ?_⟩
  refine List.forall_mem_cons.mpr ⟨(s_iadd (am_dp pw_X11_rule_32 dd_X11_rule_32a.2.2.2.2.2.2.2)).to, ?_⟩
  refine List.forall_mem_cons.mpr ⟨(s_aloadn (am_dp pw_X11_rule_32 dd_X11_rule_32b.1) rfl).to, ?_⟩
  refine List.forall_mem_cons.mpr ⟨(s_get (ci := 11) (k := 15) (am_dp pw_X11_rule_32 dd_X11_rule_32b.2.1) rfl (by decide) wd1348 inX11 rfl).to, ?_⟩
  refine List.forall_mem_cons.mpr ⟨(s_iconst (am_dp pw_X11_rule_32 dd_X11_rule_32b.2.2.1) (by decide)).to, ?_⟩
  refine List.forall_mem_cons.mpr ⟨(s_aloadn (am_dp pw_X11_rule_32 dd_X11_rule_32b.2.2.2.1) rfl).to, ?_⟩
  refine List.forall_mem_cons.mpr ⟨(s_get (ci := 11) (k := 41) (am_dp pw_X11_rule_32 dd_X11_rule_32b.2.2.2.2.1) rfl (by decide) wd1374 inX11 rfl).to, ?_⟩
  refine List.forall_mem_cons.mpr ⟨(s_imul (am_dp pw_X11_rule_32 dd_X11_rule_32b.2.2.2.2.2.1)).to, ?_⟩
  refine List.forall_mem_cons.mpr ⟨(s_iloadn (am_dp pw_X11_rule_32 dd_X11_rule_32b.2.2.2.2.2.2.1) rfl).to, ?_⟩
  refine List.forall_mem_cons.mpr ⟨(s_iadd (am_dp pw_X11_rule_32 dd_X11_rule_32b.2.2.2.2.2.2.2)).to, ?_⟩
  refine List.forall_mem_cons.mpr ⟨(s_iald (am_dp pw_X11_rule_32 dd_X11_rule_32c.1)).to, ?_⟩
  refine List.forall_mem_cons.mpr ⟨(s_iadd (am_dp pw_X11_rule_32 dd_X11_rule_32c.2.1)).to, ?_⟩
  refine List.forall_mem_cons.mpr ⟨(s_istoren (am_dp pw_X11_rule_32 dd_X11_rule_32c.2.2.1) rfl (by decide)).to, ?_⟩
  refine List.forall_mem_cons.mpr ⟨(s_aloadn (am_dp pw_X11_rule_32 dd_X11_rule_32c.2.2.2.1) rfl).to, ?_⟩
  refine List.forall_mem_cons.mpr ⟨(s_get (ci := 11) (k := 16) (am_dp pw_X11_rule_32 dd_X11_rule_32c.2.2.2.2) rfl (by decide) wd1349 inX11 rfl).to, ?_⟩
  refine List.forall_mem_cons.mpr ⟨(s_iloadn (am_dp pw_X11_rule_64 dd_X11_rule_64a.1) rfl).to, ?_⟩
  refine List.forall_mem_cons.mpr ⟨(s_aloadn (am_dp pw_X11_rule_64 dd_X11_rule_64a.2.1) rfl).to, ?_⟩
  refine List.forall_mem_cons.mpr ⟨(s_get (ci := 11) (k := 40) (am_dp pw_X11_rule_64 dd_X11_rule_64a.2.2.1) rfl (by decide) wd1373 inX11 rfl).to, ?_⟩
  refine List.forall_mem_cons.mpr ⟨(s_iast (am_dp pw_X11_rule_64 dd_X11_rule_64a.2.2.2.1)).to, ?_⟩
  refine List.forall_mem_cons.mpr ⟨(s_iloadn (am_dp pw_X11_rule_64 dd_X11_rule_64a.2.2.2.2.1) rfl).to, ?_⟩
  refine List.forall_mem_cons.mpr ⟨(s_iconst (am_dp pw_X11_rule_64 dd_X11_rule_64a.2.2.2.2.2.1) (by decide)).to, ?_⟩
  refine List.forall_mem_cons.mpr ⟨(s_icmp_eq (am_dp pw_X11_rule_64 dd_X11_rule_64a.2.2.2.2.2.2.1) (by decide)).to, ?_⟩
  refine List.forall_mem_cons.mpr ⟨(s_aloadn (am_dp pw_X11_rule_64 dd_X11_rule_64a.2.2.2.2.2.2.2) rfl).to, ?_⟩
  refine List.forall_mem_cons.mpr ⟨(s_iconst (am_dp pw_X11_rule_64 dd_X11_rule_64b.1) (by decide)).to, ?_⟩
  refine List.forall_mem_cons.mpr ⟨zw_cv192 (am_dp pw_X11_rule_64 dd_X11_rule_64b.2.1) wd1660, ?_⟩
  refine List.forall_mem_cons.mpr ⟨(s_aloadn (am_dp pw_X11_rule_64 dd_X11_rule_64b.2.2.1) rfl).to, ?_⟩
  refine List.forall_mem_cons.mpr ⟨(s_ldc2 (am_dp pw_X11_rule_64 dd_X11_rule_64b.2.2.2.1) wd1707).to, ?_⟩
  refine List.forall_mem_cons.mpr ⟨zw_cv194 (am_dp pw_X11_rule_64 dd_X11_rule_64b.2.2.2.2.1) wd1708, ?_⟩
  refine List.forall_mem_cons.mpr ⟨(s_aloadn (am_dp pw_X11_rule_64 dd_X11_rule_64b.2.2.2.2.2.1) rfl).to, ?_⟩
  refine List.forall_mem_cons.mpr ⟨(s_get (ci := 11) (k := 17) (am_dp pw_X11_rule_64 dd_X11_rule_64b.2.2.2.2.2.2.1) rfl (by decide) wd1350 inX11 rfl).to, ?_⟩
  refine List.forall_mem_cons.mpr ⟨(s_iloadn (am_dp pw_X11_rule_64 dd_X11_rule_64b.2.2.2.2.2.2.2) rfl).to, ?_⟩
  refine List.forall_mem_cons.mpr ⟨(s_aloadn (am_dp pw_X11_rule_64 dd_X11_rule_64c.1) rfl).to, ?_⟩
  refine List.forall_mem_cons.mpr ⟨(s_get (ci := 11) (k := 40) (am_dp pw_X11_rule_64 dd_X11_rule_64c.2) rfl (by decide) wd1373 inX11 rfl).to, ?_⟩
  refine List.forall_mem_cons.mpr ⟨(s_iast (am_dp pw_X11_rule_96 dd_X11_rule_96a.1)).to, ?_⟩
  refine List.forall_mem_cons.mpr ⟨(s_aloadn (am_dp pw_X11_rule_96 dd_X11_rule_96a.2.1) rfl).to, ?_⟩
  refine List.forall_mem_cons.mpr ⟨(s_get (ci := 11) (k := 8) (am_dp pw_X11_rule_96 dd_X11_rule_96a.2.2.1) rfl (by decide) wd1341 inX11 rfl).to, ?_⟩
  exact fun _ h => absurd h List.not_mem_nil
theorem sn_tX11_rule_1 : ∀ q ∈ tX11_rule_1, am_Snd am_P0 RX11 cX11_rule 3 (Option.none : Option FieldType) "rule" q.1 q.2 := by
  unfold tX11_rule_1
  refine List.forall_mem_cons.mpr ⟨(s_if_ne (am_dp pw_X11_rule_96 dd_X11_rule_96a.2.2.2.1) (by decide)).to, ?_⟩
  refine List.forall_mem_cons.mpr ⟨(s_aloadn (am_dp pw_X11_rule_96 dd_X11_rule_96a.2.2.2.2.1) rfl).to, ?_⟩
  refine List.forall_mem_cons.mpr ⟨(s_iconst (am_dp pw_X11_rule_96 dd_X11_rule_96a.2.2.2.2.2.1) (by decide)).to, ?_⟩
  refine List.forall_mem_cons.mpr ⟨zw_cv192 (am_dp pw_X11_rule_96 dd_X11_rule_96a.2.2.2.2.2.2.1) wd1660, ?_⟩
  refine List.forall_mem_cons.mpr ⟨(s_aloadn (am_dp pw_X11_rule_96 dd_X11_rule_96a.2.2.2.2.2.2.2) rfl).to, ?_⟩
  refine List.forall_mem_cons.mpr ⟨(s_get (ci := 11) (k := 18) (am_dp pw_X11_rule_96 dd_X11_rule_96b.1) rfl (by decide) wd1351 inX11 rfl).to, ?_⟩
  refine List.forall_mem_cons.mpr ⟨(s_iloadn (am_dp pw_X11_rule_96 dd_X11_rule_96b.2.1) rfl).to, ?_⟩
  refine List.forall_mem_cons.mpr ⟨(s_aloadn (am_dp pw_X11_rule_96 dd_X11_rule_96b.2.2.1) rfl).to, ?_⟩
  refine List.forall_mem_cons.mpr ⟨(s_get (ci := 11) (k := 40) (am_dp pw_X11_rule_96 dd_X11_rule_96b.2.2.2.1) rfl (by decide) wd1373 inX11 rfl).to, ?_⟩
  refine List.forall_mem_cons.mpr ⟨(s_iast (am_dp pw_X11_rule_96 dd_X11_rule_96b.2.2.2.2.1)).to, ?_⟩
  refine List.forall_mem_cons.mpr ⟨(s_aloadn (am_dp pw_X11_rule_96 dd_X11_rule_96b.2.2.2.2.2.1) rfl).to, ?_⟩
  refine List.forall_mem_cons.mpr ⟨(s_get (ci := 11) (k := 8) (am_dp pw_X11_rule_96 dd_X11_rule_96b.2.2.2.2.2.2.1) rfl (by decide) wd1341 inX11 rfl).to, ?_⟩
  refine List.forall_mem_cons.mpr ⟨(s_if_ne (am_dp pw_X11_rule_96 dd_X11_rule_96b.2.2.2.2.2.2.2) (by decide)).to, ?_⟩
  refine List.forall_mem_cons.mpr ⟨(s_aloadn (am_dp pw_X11_rule_96 dd_X11_rule_96c.1) rfl).to, ?_⟩
  refine List.forall_mem_cons.mpr ⟨(s_get (ci := 11) (k := 15) (am_dp pw_X11_rule_96 dd_X11_rule_96c.2) rfl (by decide) wd1348 inX11 rfl).to, ?_⟩
  refine List.forall_mem_cons.mpr ⟨(s_iconst (am_dp pw_X11_rule_128 dd_X11_rule_128a.1) (by decide)).to, ?_⟩
  refine List.forall_mem_cons.mpr ⟨(s_aloadn (am_dp pw_X11_rule_128 dd_X11_rule_128a.2.1) rfl).to, ?_⟩
  refine List.forall_mem_cons.mpr ⟨(s_get (ci := 11) (k := 41) (am_dp pw_X11_rule_128 dd_X11_rule_128a.2.2.1) rfl (by decide) wd1374 inX11 rfl).to, ?_⟩
  refine List.forall_mem_cons.mpr ⟨(s_imul (am_dp pw_X11_rule_128 dd_X11_rule_128a.2.2.2.1)).to, ?_⟩
  refine List.forall_mem_cons.mpr ⟨(s_iloadn (am_dp pw_X11_rule_128 dd_X11_rule_128a.2.2.2.2.1) rfl).to, ?_⟩
  refine List.forall_mem_cons.mpr ⟨(s_iadd (am_dp pw_X11_rule_128 dd_X11_rule_128a.2.2.2.2.2.1)).to, ?_⟩
  refine List.forall_mem_cons.mpr ⟨(s_dup2 (am_dp pw_X11_rule_128 dd_X11_rule_128a.2.2.2.2.2.2.1)).to, ?_⟩
  refine List.forall_mem_cons.mpr ⟨(s_iald (am_dp pw_X11_rule_128 dd_X11_rule_128a.2.2.2.2.2.2.2)).to, ?_⟩
  refine List.forall_mem_cons.mpr ⟨(s_iconst (am_dp pw_X11_rule_128 dd_X11_rule_128b.1) (by decide)).to, ?_⟩
  refine List.forall_mem_cons.mpr ⟨(s_iadd (am_dp pw_X11_rule_128 dd_X11_rule_128b.2.1)).to, ?_⟩
  refine List.forall_mem_cons.mpr ⟨(s_iast (am_dp pw_X11_rule_128 dd_X11_rule_128b.2.2.1)).to, ?_⟩
  refine List.forall_mem_cons.mpr ⟨s_vret (am_dp pw_X11_rule_128 dd_X11_rule_128b.2.2.2) rfl, ?_⟩
  exact fun _ h => absurd h List.not_mem_nil
theorem sn_tX11_rule : ∀ q ∈ tX11_rule, am_Snd am_P0 RX11 cX11_rule 3 (Option.none : Option FieldType) "rule" q.1 q.2 := by
  unfold tX11_rule
  exact List.forall_mem_append.mpr ⟨sn_tX11_rule_0, sn_tX11_rule_1⟩
end
section
/-! the machine follows each instruction (by program: gen_prog.py) -/
theorem sn_tX11_ship_0 : ∀ q ∈ tX11_ship_0, am_Snd am_P0 RX11 cX11_ship 2 (Option.none : Option FieldType) "ship" q.1 q.2 := by
  unfold tX11_ship_0
  refine List.forall_mem_cons.mpr ⟨(s_aloadn (am_dp pw_X11_ship_0 dd_X11_ship_0a.1) rfl).to, ?_⟩
  refine List.forall_mem_cons.mpr ⟨(s_aloadn (am_dp pw_X11_ship_0 dd_X11_ship_0a.2.1) rfl).to, ?_⟩
  refine List.forall_mem_cons.mpr ⟨(s_get (ci := 11) (k := 19) (am_dp pw_X11_ship_0 dd_X11_ship_0a.2.2.1) rfl (by decide) wd1352 inX11 rfl).to, ?_⟩
  refine List.forall_mem_cons.mpr ⟨(s_aloadn (am_dp pw_X11_ship_0 dd_X11_ship_0a.2.2.2.1) rfl).to, ?_⟩
  refine List.forall_mem_cons.mpr ⟨(s_get (ci := 11) (k := 41) (am_dp pw_X11_ship_0 dd_X11_ship_0a.2.2.2.2.1) rfl (by decide) wd1374 inX11 rfl).to, ?_⟩
  refine List.forall_mem_cons.mpr ⟨(s_iald (am_dp pw_X11_ship_0 dd_X11_ship_0a.2.2.2.2.2.1)).to, ?_⟩
  refine List.forall_mem_cons.mpr ⟨(s_bipush (am_dp pw_X11_ship_0 dd_X11_ship_0a.2.2.2.2.2.2.1) (by decide)).to, ?_⟩
  refine List.forall_mem_cons.mpr ⟨(s_icmp_ne (am_dp pw_X11_ship_0 dd_X11_ship_0a.2.2.2.2.2.2.2) (by decide)).to, ?_⟩
  refine List.forall_mem_cons.mpr ⟨(s_iconst (am_dp pw_X11_ship_0 dd_X11_ship_0b.1) (by decide)).to, ?_⟩
  refine List.forall_mem_cons.mpr ⟨(s_goto (am_dp pw_X11_ship_0 dd_X11_ship_0b.2.1) (by decide)).to, ?_⟩
  refine List.forall_mem_cons.mpr ⟨(s_iconst (am_dp pw_X11_ship_0 dd_X11_ship_0b.2.2.1) (by decide)).to, ?_⟩
  refine List.forall_mem_cons.mpr ⟨zw_cv193 (am_dp pw_X11_ship_0 dd_X11_ship_0b.2.2.2.1) wd1653, ?_⟩
  refine List.forall_mem_cons.mpr ⟨(s_if_ne (am_dp pw_X11_ship_0 dd_X11_ship_0b.2.2.2.2.1) (by decide)).to, ?_⟩
  refine List.forall_mem_cons.mpr ⟨s_vret (am_dp pw_X11_ship_0 dd_X11_ship_0b.2.2.2.2.2.1) rfl, ?_⟩
  refine List.forall_mem_cons.mpr ⟨(s_bipush (am_dp pw_X11_ship_0 dd_X11_ship_0b.2.2.2.2.2.2.1) (by decide)).to, ?_⟩
  refine List.forall_mem_cons.mpr ⟨(s_aloadn (am_dp pw_X11_ship_0 dd_X11_ship_0b.2.2.2.2.2.2.2) rfl).to, ?_⟩
  refine List.forall_mem_cons.mpr ⟨(s_get (ci := 11) (k := 41) (am_dp pw_X11_ship_0 dd_X11_ship_0c) rfl (by decide) wd1374 inX11 rfl).to, ?_⟩
  refine List.forall_mem_cons.mpr ⟨(s_imul (am_dp pw_X11_ship_32 dd_X11_ship_32a.1)).to, ?_⟩
  refine List.forall_mem_cons.mpr ⟨(s_aloadn (am_dp pw_X11_ship_32 dd_X11_ship_32a.2.1) rfl).to, ?_⟩
  refine List.forall_mem_cons.mpr ⟨(s_get (ci := 11) (k := 19) (am_dp pw_X11_ship_32 dd_X11_ship_32a.2.2.1) rfl (by decide) wd1352 inX11 rfl).to, ?_⟩
  refine List.forall_mem_cons.mpr ⟨(s_aloadn (am_dp pw_X11_ship_32 dd_X11_ship_32a.2.2.2.1) rfl).to, ?_⟩
  refine List.forall_mem_cons.mpr ⟨(s_get (ci := 11) (k := 41) (am_dp pw_X11_ship_32 dd_X11_ship_32a.2.2.2.2.1) rfl (by decide) wd1374 inX11 rfl).to, ?_⟩
  refine List.forall_mem_cons.mpr ⟨(s_iald (am_dp pw_X11_ship_32 dd_X11_ship_32a.2.2.2.2.2.1)).to, ?_⟩
  refine List.forall_mem_cons.mpr ⟨(s_iadd (am_dp pw_X11_ship_32 dd_X11_ship_32a.2.2.2.2.2.2.1)).to, ?_⟩
  refine List.forall_mem_cons.mpr ⟨(s_istoren (am_dp pw_X11_ship_32 dd_X11_ship_32a.2.2.2.2.2.2.2) rfl (by decide)).to, ?_⟩
  refine List.forall_mem_cons.mpr ⟨(s_aloadn (am_dp pw_X11_ship_32 dd_X11_ship_32b.1) rfl).to, ?_⟩
  refine List.forall_mem_cons.mpr ⟨(s_get (ci := 11) (k := 20) (am_dp pw_X11_ship_32 dd_X11_ship_32b.2.1) rfl (by decide) wd1353 inX11 rfl).to, ?_⟩
  refine List.forall_mem_cons.mpr ⟨(s_iloadn (am_dp pw_X11_ship_32 dd_X11_ship_32b.2.2.1) rfl).to, ?_⟩
  refine List.forall_mem_cons.mpr ⟨(s_aloadn (am_dp pw_X11_ship_32 dd_X11_ship_32b.2.2.2.1) rfl).to, ?_⟩
  refine List.forall_mem_cons.mpr ⟨zw_cv195 (am_dp pw_X11_ship_32 dd_X11_ship_32b.2.2.2.2.1) wd1719, ?_⟩
  refine List.forall_mem_cons.mpr ⟨(s_last (am_dp pw_X11_ship_32 dd_X11_ship_32b.2.2.2.2.2.1)).to, ?_⟩
  refine List.forall_mem_cons.mpr ⟨(s_aloadn (am_dp pw_X11_ship_32 dd_X11_ship_32b.2.2.2.2.2.2.1) rfl).to, ?_⟩
  refine List.forall_mem_cons.mpr ⟨(s_ldc2 (am_dp pw_X11_ship_32 dd_X11_ship_32b.2.2.2.2.2.2.2) wd1727).to, ?_⟩
  refine List.forall_mem_cons.mpr ⟨zw_cv194 (am_dp pw_X11_ship_32 dd_X11_ship_32c.1) wd1708, ?_⟩
  refine List.forall_mem_cons.mpr ⟨(s_aloadn (am_dp pw_X11_ship_32 dd_X11_ship_32c.2.1) rfl).to, ?_⟩
  refine List.forall_mem_cons.mpr ⟨(s_get (ci := 11) (k := 21) (am_dp pw_X11_ship_32 dd_X11_ship_32c.2.2) rfl (by decide) wd1354 inX11 rfl).to, ?_⟩
  refine List.forall_mem_cons.mpr ⟨(s_iloadn (am_dp pw_X11_ship_64 dd_X11_ship_64a.1) rfl).to, ?_⟩
  refine List.forall_mem_cons.mpr ⟨(s_aloadn (am_dp pw_X11_ship_64 dd_X11_ship_64a.2.1) rfl).to, ?_⟩
  refine List.forall_mem_cons.mpr ⟨(s_iconst (am_dp pw_X11_ship_64 dd_X11_ship_64a.2.2.1) (by decide)).to, ?_⟩
  refine List.forall_mem_cons.mpr ⟨(s_iconst (am_dp pw_X11_ship_64 dd_X11_ship_64a.2.2.2.1) (by decide)).to, ?_⟩
  refine List.forall_mem_cons.mpr ⟨zw_cv182 (am_dp pw_X11_ship_64 dd_X11_ship_64a.2.2.2.2.1) wd1626, ?_⟩
  refine List.forall_mem_cons.mpr ⟨(s_iast (am_dp pw_X11_ship_64 dd_X11_ship_64a.2.2.2.2.2.1)).to, ?_⟩
  refine List.forall_mem_cons.mpr ⟨(s_aloadn (am_dp pw_X11_ship_64 dd_X11_ship_64a.2.2.2.2.2.2.1) rfl).to, ?_⟩
  refine List.forall_mem_cons.mpr ⟨(s_ldc2 (am_dp pw_X11_ship_64 dd_X11_ship_64a.2.2.2.2.2.2.2) wd1728).to, ?_⟩
  refine List.forall_mem_cons.mpr ⟨zw_cv194 (am_dp pw_X11_ship_64 dd_X11_ship_64b.1) wd1708, ?_⟩
  refine List.forall_mem_cons.mpr ⟨(s_aloadn (am_dp pw_X11_ship_64 dd_X11_ship_64b.2.1) rfl).to, ?_⟩
  refine List.forall_mem_cons.mpr ⟨(s_get (ci := 11) (k := 22) (am_dp pw_X11_ship_64 dd_X11_ship_64b.2.2.1) rfl (by decide) wd1355 inX11 rfl).to, ?_⟩
  refine List.forall_mem_cons.mpr ⟨(s_iloadn (am_dp pw_X11_ship_64 dd_X11_ship_64b.2.2.2.1) rfl).to, ?_⟩
  refine List.forall_mem_cons.mpr ⟨(s_aloadn (am_dp pw_X11_ship_64 dd_X11_ship_64b.2.2.2.2.1) rfl).to, ?_⟩
  refine List.forall_mem_cons.mpr ⟨(s_iconst (am_dp pw_X11_ship_64 dd_X11_ship_64b.2.2.2.2.2.1) (by decide)).to, ?_⟩
  refine List.forall_mem_cons.mpr ⟨(s_iconst (am_dp pw_X11_ship_64 dd_X11_ship_64b.2.2.2.2.2.2.1) (by decide)).to, ?_⟩
  refine List.forall_mem_cons.mpr ⟨zw_cv182 (am_dp pw_X11_ship_64 dd_X11_ship_64b.2.2.2.2.2.2.2) wd1626, ?_⟩
  refine List.forall_mem_cons.mpr ⟨(s_iast (am_dp pw_X11_ship_64 dd_X11_ship_64c.1)).to, ?_⟩
  refine List.forall_mem_cons.mpr ⟨(s_aloadn (am_dp pw_X11_ship_64 dd_X11_ship_64c.2.1) rfl).to, ?_⟩
  refine List.forall_mem_cons.mpr ⟨(s_ldc2 (am_dp pw_X11_ship_64 dd_X11_ship_64c.2.2) wd1729).to, ?_⟩
  refine List.forall_mem_cons.mpr ⟨zw_cv194 (am_dp pw_X11_ship_96 dd_X11_ship_96a.1) wd1708, ?_⟩
  refine List.forall_mem_cons.mpr ⟨(s_aloadn (am_dp pw_X11_ship_96 dd_X11_ship_96a.2.1) rfl).to, ?_⟩
  refine List.forall_mem_cons.mpr ⟨(s_get (ci := 11) (k := 23) (am_dp pw_X11_ship_96 dd_X11_ship_96a.2.2.1) rfl (by decide) wd1356 inX11 rfl).to, ?_⟩
  refine List.forall_mem_cons.mpr ⟨(s_iloadn (am_dp pw_X11_ship_96 dd_X11_ship_96a.2.2.2.1) rfl).to, ?_⟩
  refine List.forall_mem_cons.mpr ⟨(s_aloadn (am_dp pw_X11_ship_96 dd_X11_ship_96a.2.2.2.2.1) rfl).to, ?_⟩
  exact fun _ h => absurd h List.not_mem_nil
theorem sn_tX11_ship_1 : ∀ q ∈ tX11_ship_1, am_Snd am_P0 RX11 cX11_ship 2 (Option.none : Option FieldType) "ship" q.1 q.2 := by
  unfold tX11_ship_1
  refine List.forall_mem_cons.mpr ⟨(s_iconst (am_dp pw_X11_ship_96 dd_X11_ship_96a.2.2.2.2.2.1) (by decide)).to, ?_⟩
  refine List.forall_mem_cons.mpr ⟨(s_bipush (am_dp pw_X11_ship_96 dd_X11_ship_96a.2.2.2.2.2.2.1) (by decide)).to, ?_⟩
  refine List.forall_mem_cons.mpr ⟨zw_cv182 (am_dp pw_X11_ship_96 dd_X11_ship_96a.2.2.2.2.2.2.2) wd1626, ?_⟩
  refine List.forall_mem_cons.mpr ⟨(s_iast (am_dp pw_X11_ship_96 dd_X11_ship_96b.1)).to, ?_⟩
  refine List.forall_mem_cons.mpr ⟨(s_aloadn (am_dp pw_X11_ship_96 dd_X11_ship_96b.2.1) rfl).to, ?_⟩
  refine List.forall_mem_cons.mpr ⟨(s_ldc2 (am_dp pw_X11_ship_96 dd_X11_ship_96b.2.2.1) wd1730).to, ?_⟩
  refine List.forall_mem_cons.mpr ⟨zw_cv194 (am_dp pw_X11_ship_96 dd_X11_ship_96b.2.2.2.1) wd1708, ?_⟩
  refine List.forall_mem_cons.mpr ⟨(s_aloadn (am_dp pw_X11_ship_96 dd_X11_ship_96b.2.2.2.2.1) rfl).to, ?_⟩
  refine List.forall_mem_cons.mpr ⟨(s_get (ci := 11) (k := 24) (am_dp pw_X11_ship_96 dd_X11_ship_96b.2.2.2.2.2.1) rfl (by decide) wd1357 inX11 rfl).to, ?_⟩
  refine List.forall_mem_cons.mpr ⟨(s_iloadn (am_dp pw_X11_ship_96 dd_X11_ship_96b.2.2.2.2.2.2.1) rfl).to, ?_⟩
  refine List.forall_mem_cons.mpr ⟨(s_aloadn (am_dp pw_X11_ship_96 dd_X11_ship_96b.2.2.2.2.2.2.2) rfl).to, ?_⟩
  refine List.forall_mem_cons.mpr ⟨(s_iconst (am_dp pw_X11_ship_96 dd_X11_ship_96c.1) (by decide)).to, ?_⟩
  refine List.forall_mem_cons.mpr ⟨(s_bipush (am_dp pw_X11_ship_96 dd_X11_ship_96c.2) (by decide)).to, ?_⟩
  refine List.forall_mem_cons.mpr ⟨zw_cv182 (am_dp pw_X11_ship_128 dd_X11_ship_128a.1) wd1626, ?_⟩
  refine List.forall_mem_cons.mpr ⟨(s_iast (am_dp pw_X11_ship_128 dd_X11_ship_128a.2.1)).to, ?_⟩
  refine List.forall_mem_cons.mpr ⟨(s_aloadn (am_dp pw_X11_ship_128 dd_X11_ship_128a.2.2.1) rfl).to, ?_⟩
  refine List.forall_mem_cons.mpr ⟨(s_get (ci := 11) (k := 8) (am_dp pw_X11_ship_128 dd_X11_ship_128a.2.2.2.1) rfl (by decide) wd1341 inX11 rfl).to, ?_⟩
  refine List.forall_mem_cons.mpr ⟨(s_if_ne (am_dp pw_X11_ship_128 dd_X11_ship_128a.2.2.2.2.1) (by decide)).to, ?_⟩
  refine List.forall_mem_cons.mpr ⟨(s_aloadn (am_dp pw_X11_ship_128 dd_X11_ship_128a.2.2.2.2.2.1) rfl).to, ?_⟩
  refine List.forall_mem_cons.mpr ⟨(s_get (ci := 11) (k := 19) (am_dp pw_X11_ship_128 dd_X11_ship_128a.2.2.2.2.2.2.1) rfl (by decide) wd1352 inX11 rfl).to, ?_⟩
  refine List.forall_mem_cons.mpr ⟨(s_aloadn (am_dp pw_X11_ship_128 dd_X11_ship_128a.2.2.2.2.2.2.2) rfl).to, ?_⟩
  refine List.forall_mem_cons.mpr ⟨(s_get (ci := 11) (k := 41) (am_dp pw_X11_ship_128 dd_X11_ship_128b.1) rfl (by decide) wd1374 inX11 rfl).to, ?_⟩
  refine List.forall_mem_cons.mpr ⟨(s_dup2 (am_dp pw_X11_ship_128 dd_X11_ship_128b.2.1)).to, ?_⟩
  refine List.forall_mem_cons.mpr ⟨(s_iald (am_dp pw_X11_ship_128 dd_X11_ship_128b.2.2.1)).to, ?_⟩
  refine List.forall_mem_cons.mpr ⟨(s_iconst (am_dp pw_X11_ship_128 dd_X11_ship_128b.2.2.2.1) (by decide)).to, ?_⟩
  refine List.forall_mem_cons.mpr ⟨(s_iadd (am_dp pw_X11_ship_128 dd_X11_ship_128b.2.2.2.2.1)).to, ?_⟩
  refine List.forall_mem_cons.mpr ⟨(s_iast (am_dp pw_X11_ship_128 dd_X11_ship_128b.2.2.2.2.2.1)).to, ?_⟩
  refine List.forall_mem_cons.mpr ⟨s_vret (am_dp pw_X11_ship_128 dd_X11_ship_128b.2.2.2.2.2.2) rfl, ?_⟩
  exact fun _ h => absurd h List.not_mem_nil
theorem sn_tX11_ship : ∀ q ∈ tX11_ship, am_Snd am_P0 RX11 cX11_ship 2 (Option.none : Option FieldType) "ship" q.1 q.2 := by
  unfold tX11_ship
  exact List.forall_mem_append.mpr ⟨sn_tX11_ship_0, sn_tX11_ship_1⟩
theorem sn_tX11_cellHere : ∀ q ∈ tX11_cellHere, am_Snd am_P0 RX11 cX11_cellHere 3 (Option.some FieldType.int) "cellHere" q.1 q.2 := by
  unfold tX11_cellHere
  refine List.forall_mem_cons.mpr ⟨(s_aloadn (am_dp pw_X11_cellHere_0 dd_X11_cellHere_0a.1) rfl).to, ?_⟩
  refine List.forall_mem_cons.mpr ⟨(s_ldc2 (am_dp pw_X11_cellHere_0 dd_X11_cellHere_0a.2.1) wd1732).to, ?_⟩
  refine List.forall_mem_cons.mpr ⟨zw_cv194 (am_dp pw_X11_cellHere_0 dd_X11_cellHere_0a.2.2.1) wd1708, ?_⟩
  refine List.forall_mem_cons.mpr ⟨(s_aloadn (am_dp pw_X11_cellHere_0 dd_X11_cellHere_0a.2.2.2.1) rfl).to, ?_⟩
  refine List.forall_mem_cons.mpr ⟨(s_iconst (am_dp pw_X11_cellHere_0 dd_X11_cellHere_0a.2.2.2.2.1) (by decide)).to, ?_⟩
  refine List.forall_mem_cons.mpr ⟨(s_aloadn (am_dp pw_X11_cellHere_0 dd_X11_cellHere_0a.2.2.2.2.2.1) rfl).to, ?_⟩
  refine List.forall_mem_cons.mpr ⟨(s_get (ci := 11) (k := 13) (am_dp pw_X11_cellHere_0 dd_X11_cellHere_0a.2.2.2.2.2.2.1) rfl (by decide) wd1346 inX11 rfl).to, ?_⟩
  refine List.forall_mem_cons.mpr ⟨(s_aloadn (am_dp pw_X11_cellHere_0 dd_X11_cellHere_0a.2.2.2.2.2.2.2) rfl).to, ?_⟩
  refine List.forall_mem_cons.mpr ⟨(s_get (ci := 11) (k := 41) (am_dp pw_X11_cellHere_0 dd_X11_cellHere_0b.1) rfl (by decide) wd1374 inX11 rfl).to, ?_⟩
  refine List.forall_mem_cons.mpr ⟨(s_iald (am_dp pw_X11_cellHere_0 dd_X11_cellHere_0b.2.1)).to, ?_⟩
  refine List.forall_mem_cons.mpr ⟨(s_iconst (am_dp pw_X11_cellHere_0 dd_X11_cellHere_0b.2.2.1) (by decide)).to, ?_⟩
  refine List.forall_mem_cons.mpr ⟨(s_isub (am_dp pw_X11_cellHere_0 dd_X11_cellHere_0b.2.2.2.1)).to, ?_⟩
  refine List.forall_mem_cons.mpr ⟨zw_cv182 (am_dp pw_X11_cellHere_0 dd_X11_cellHere_0b.2.2.2.2.1) wd1626, ?_⟩
  refine List.forall_mem_cons.mpr ⟨(s_istoren (am_dp pw_X11_cellHere_0 dd_X11_cellHere_0b.2.2.2.2.2.1) rfl (by decide)).to, ?_⟩
  refine List.forall_mem_cons.mpr ⟨(s_aloadn (am_dp pw_X11_cellHere_0 dd_X11_cellHere_0b.2.2.2.2.2.2.1) rfl).to, ?_⟩
  refine List.forall_mem_cons.mpr ⟨(s_iconst (am_dp pw_X11_cellHere_0 dd_X11_cellHere_0b.2.2.2.2.2.2.2) (by decide)).to, ?_⟩
  refine List.forall_mem_cons.mpr ⟨(s_aloadn (am_dp pw_X11_cellHere_0 dd_X11_cellHere_0c.1) rfl).to, ?_⟩
  refine List.forall_mem_cons.mpr ⟨(s_get (ci := 11) (k := 14) (am_dp pw_X11_cellHere_0 dd_X11_cellHere_0c.2.1) rfl (by decide) wd1347 inX11 rfl).to, ?_⟩
  refine List.forall_mem_cons.mpr ⟨(s_aloadn (am_dp pw_X11_cellHere_0 dd_X11_cellHere_0c.2.2.1) rfl).to, ?_⟩
  refine List.forall_mem_cons.mpr ⟨(s_get (ci := 11) (k := 41) (am_dp pw_X11_cellHere_0 dd_X11_cellHere_0c.2.2.2) rfl (by decide) wd1374 inX11 rfl).to, ?_⟩
  refine List.forall_mem_cons.mpr ⟨(s_iald (am_dp pw_X11_cellHere_32 dd_X11_cellHere_32a.1)).to, ?_⟩
  refine List.forall_mem_cons.mpr ⟨(s_iconst (am_dp pw_X11_cellHere_32 dd_X11_cellHere_32a.2.1) (by decide)).to, ?_⟩
  refine List.forall_mem_cons.mpr ⟨(s_isub (am_dp pw_X11_cellHere_32 dd_X11_cellHere_32a.2.2.1)).to, ?_⟩
  refine List.forall_mem_cons.mpr ⟨zw_cv182 (am_dp pw_X11_cellHere_32 dd_X11_cellHere_32a.2.2.2.1) wd1626, ?_⟩
  refine List.forall_mem_cons.mpr ⟨(s_istoren (am_dp pw_X11_cellHere_32 dd_X11_cellHere_32a.2.2.2.2.1) rfl (by decide)).to, ?_⟩
  refine List.forall_mem_cons.mpr ⟨(s_aloadn (am_dp pw_X11_cellHere_32 dd_X11_cellHere_32a.2.2.2.2.2.1) rfl).to, ?_⟩
  refine List.forall_mem_cons.mpr ⟨(s_get (ci := 11) (k := 13) (am_dp pw_X11_cellHere_32 dd_X11_cellHere_32a.2.2.2.2.2.2.1) rfl (by decide) wd1346 inX11 rfl).to, ?_⟩
  refine List.forall_mem_cons.mpr ⟨(s_aloadn (am_dp pw_X11_cellHere_32 dd_X11_cellHere_32a.2.2.2.2.2.2.2) rfl).to, ?_⟩
  refine List.forall_mem_cons.mpr ⟨(s_get (ci := 11) (k := 41) (am_dp pw_X11_cellHere_32 dd_X11_cellHere_32b.1) rfl (by decide) wd1374 inX11 rfl).to, ?_⟩
  refine List.forall_mem_cons.mpr ⟨(s_iald (am_dp pw_X11_cellHere_32 dd_X11_cellHere_32b.2.1)).to, ?_⟩
  refine List.forall_mem_cons.mpr ⟨(s_iloadn (am_dp pw_X11_cellHere_32 dd_X11_cellHere_32b.2.2.1) rfl).to, ?_⟩
  refine List.forall_mem_cons.mpr ⟨(s_imul (am_dp pw_X11_cellHere_32 dd_X11_cellHere_32b.2.2.2.1)).to, ?_⟩
  refine List.forall_mem_cons.mpr ⟨(s_iloadn (am_dp pw_X11_cellHere_32 dd_X11_cellHere_32b.2.2.2.2.1) rfl).to, ?_⟩
  refine List.forall_mem_cons.mpr ⟨(s_iadd (am_dp pw_X11_cellHere_32 dd_X11_cellHere_32b.2.2.2.2.2.1)).to, ?_⟩
  refine List.forall_mem_cons.mpr ⟨s_iret (am_dp pw_X11_cellHere_32 dd_X11_cellHere_32b.2.2.2.2.2.2) rfl, ?_⟩
  exact fun _ h => absurd h List.not_mem_nil
theorem sn_tX11_says_0 : ∀ q ∈ tX11_says_0, am_Snd am_P0 RX11 cX11_says 6 (Option.none : Option FieldType) "says" q.1 q.2 := by
  unfold tX11_says_0
  refine List.forall_mem_cons.mpr ⟨(s_aloadn (am_dp pw_X11_says_0 dd_X11_says_0a.1) rfl).to, ?_⟩
  refine List.forall_mem_cons.mpr ⟨(s_aloadn (am_dp pw_X11_says_0 dd_X11_says_0a.2.1) rfl).to, ?_⟩
  refine List.forall_mem_cons.mpr ⟨(s_get (ci := 11) (k := 25) (am_dp pw_X11_says_0 dd_X11_says_0a.2.2.1) rfl (by decide) wd1358 inX11 rfl).to, ?_⟩
  refine List.forall_mem_cons.mpr ⟨(s_aloadn (am_dp pw_X11_says_0 dd_X11_says_0a.2.2.2.1) rfl).to, ?_⟩
  refine List.forall_mem_cons.mpr ⟨(s_get (ci := 11) (k := 41) (am_dp pw_X11_says_0 dd_X11_says_0a.2.2.2.2.1) rfl (by decide) wd1374 inX11 rfl).to, ?_⟩
  refine List.forall_mem_cons.mpr ⟨(s_iald (am_dp pw_X11_says_0 dd_X11_says_0a.2.2.2.2.2.1)).to, ?_⟩
  refine List.forall_mem_cons.mpr ⟨(s_bipush (am_dp pw_X11_says_0 dd_X11_says_0a.2.2.2.2.2.2.1) (by decide)).to, ?_⟩
  refine List.forall_mem_cons.mpr ⟨(s_icmp_ne (am_dp pw_X11_says_0 dd_X11_says_0a.2.2.2.2.2.2.2) (by decide)).to, ?_⟩
  refine List.forall_mem_cons.mpr ⟨(s_iconst (am_dp pw_X11_says_0 dd_X11_says_0b.1) (by decide)).to, ?_⟩
  refine List.forall_mem_cons.mpr ⟨(s_goto (am_dp pw_X11_says_0 dd_X11_says_0b.2.1) (by decide)).to, ?_⟩
  refine List.forall_mem_cons.mpr ⟨(s_iconst (am_dp pw_X11_says_0 dd_X11_says_0b.2.2.1) (by decide)).to, ?_⟩
  refine List.forall_mem_cons.mpr ⟨zw_cv193 (am_dp pw_X11_says_0 dd_X11_says_0b.2.2.2.1) wd1653, ?_⟩
  refine List.forall_mem_cons.mpr ⟨(s_if_ne (am_dp pw_X11_says_0 dd_X11_says_0b.2.2.2.2.1) (by decide)).to, ?_⟩
  refine List.forall_mem_cons.mpr ⟨s_vret (am_dp pw_X11_says_0 dd_X11_says_0b.2.2.2.2.2.1) rfl, ?_⟩
  refine List.forall_mem_cons.mpr ⟨(s_aloadn (am_dp pw_X11_says_0 dd_X11_says_0b.2.2.2.2.2.2.1) rfl).to, ?_⟩
  refine List.forall_mem_cons.mpr ⟨zw_cv196 (am_dp pw_X11_says_0 dd_X11_says_0b.2.2.2.2.2.2.2) wd1747, ?_⟩
  refine List.forall_mem_cons.mpr ⟨(s_istoren (am_dp pw_X11_says_0 dd_X11_says_0c) rfl (by decide)).to, ?_⟩
  refine List.forall_mem_cons.mpr ⟨(s_aloadn (am_dp pw_X11_says_32 dd_X11_says_32a.1) rfl).to, ?_⟩
  refine List.forall_mem_cons.mpr ⟨(s_get (ci := 11) (k := 8) (am_dp pw_X11_says_32 dd_X11_says_32a.2.1) rfl (by decide) wd1341 inX11 rfl).to, ?_⟩
  refine List.forall_mem_cons.mpr ⟨(s_if_ne (am_dp pw_X11_says_32 dd_X11_says_32a.2.2.1) (by decide)).to, ?_⟩
  refine List.forall_mem_cons.mpr ⟨(s_aloadn (am_dp pw_X11_says_32 dd_X11_says_32a.2.2.2.1) rfl).to, ?_⟩
  refine List.forall_mem_cons.mpr ⟨(s_get (ci := 11) (k := 3) (am_dp pw_X11_says_32 dd_X11_says_32a.2.2.2.2.1) rfl (by decide) wd1336 inX11 rfl).to, ?_⟩
  refine List.forall_mem_cons.mpr ⟨(s_iconst (am_dp pw_X11_says_32 dd_X11_says_32a.2.2.2.2.2.1) (by decide)).to, ?_⟩
  refine List.forall_mem_cons.mpr ⟨(s_icmp_ne (am_dp pw_X11_says_32 dd_X11_says_32a.2.2.2.2.2.2.1) (by decide)).to, ?_⟩
  refine List.forall_mem_cons.mpr ⟨(s_aloadn (am_dp pw_X11_says_32 dd_X11_says_32a.2.2.2.2.2.2.2) rfl).to, ?_⟩
  refine List.forall_mem_cons.mpr ⟨(s_get (ci := 11) (k := 6) (am_dp pw_X11_says_32 dd_X11_says_32b.1) rfl (by decide) wd1339 inX11 rfl).to, ?_⟩
  refine List.forall_mem_cons.mpr ⟨(s_iconst (am_dp pw_X11_says_32 dd_X11_says_32b.2.1) (by decide)).to, ?_⟩
  refine List.forall_mem_cons.mpr ⟨(s_bipush (am_dp pw_X11_says_32 dd_X11_says_32b.2.2.1) (by decide)).to, ?_⟩
  refine List.forall_mem_cons.mpr ⟨zw_cs167 (am_dp pw_X11_says_32 dd_X11_says_32b.2.2.2.1) wd1630, ?_⟩
  refine List.forall_mem_cons.mpr ⟨(s_if_eq (am_dp pw_X11_says_32 dd_X11_says_32b.2.2.2.2.1) (by decide)).to, ?_⟩
  refine List.forall_mem_cons.mpr ⟨(s_aloadn (am_dp pw_X11_says_32 dd_X11_says_32b.2.2.2.2.2.1) rfl).to, ?_⟩
  refine List.forall_mem_cons.mpr ⟨(s_get (ci := 11) (k := 26) (am_dp pw_X11_says_32 dd_X11_says_32b.2.2.2.2.2.2) rfl (by decide) wd1359 inX11 rfl).to, ?_⟩
  refine List.forall_mem_cons.mpr ⟨(s_sipush (am_dp pw_X11_says_64 dd_X11_says_64a.1) (by decide)).to, ?_⟩
  refine List.forall_mem_cons.mpr ⟨(s_aloadn (am_dp pw_X11_says_64 dd_X11_says_64a.2.1) rfl).to, ?_⟩
  refine List.forall_mem_cons.mpr ⟨(s_get (ci := 11) (k := 41) (am_dp pw_X11_says_64 dd_X11_says_64a.2.2.1) rfl (by decide) wd1374 inX11 rfl).to, ?_⟩
  refine List.forall_mem_cons.mpr ⟨(s_imul (am_dp pw_X11_says_64 dd_X11_says_64a.2.2.2.1)).to, ?_⟩
  refine List.forall_mem_cons.mpr ⟨(s_bipush (am_dp pw_X11_says_64 dd_X11_says_64a.2.2.2.2.1) (by decide)).to, ?_⟩
  refine List.forall_mem_cons.mpr ⟨(s_iloadn (am_dp pw_X11_says_64 dd_X11_says_64a.2.2.2.2.2.1) rfl).to, ?_⟩
  refine List.forall_mem_cons.mpr ⟨(s_imul (am_dp pw_X11_says_64 dd_X11_says_64a.2.2.2.2.2.2.1)).to, ?_⟩
  refine List.forall_mem_cons.mpr ⟨(s_iadd (am_dp pw_X11_says_64 dd_X11_says_64a.2.2.2.2.2.2.2)).to, ?_⟩
  refine List.forall_mem_cons.mpr ⟨(s_aloadn (am_dp pw_X11_says_64 dd_X11_says_64b.1) rfl).to, ?_⟩
  refine List.forall_mem_cons.mpr ⟨(s_get (ci := 11) (k := 6) (am_dp pw_X11_says_64 dd_X11_says_64b.2.1) rfl (by decide) wd1339 inX11 rfl).to, ?_⟩
  refine List.forall_mem_cons.mpr ⟨(s_iadd (am_dp pw_X11_says_64 dd_X11_says_64b.2.2.1)).to, ?_⟩
  refine List.forall_mem_cons.mpr ⟨(s_iald (am_dp pw_X11_says_64 dd_X11_says_64b.2.2.2.1)).to, ?_⟩
  refine List.forall_mem_cons.mpr ⟨(s_iconst (am_dp pw_X11_says_64 dd_X11_says_64b.2.2.2.2.1) (by decide)).to, ?_⟩
  refine List.forall_mem_cons.mpr ⟨(s_icmp_eq (am_dp pw_X11_says_64 dd_X11_says_64b.2.2.2.2.2.1) (by decide)).to, ?_⟩
  refine List.forall_mem_cons.mpr ⟨(s_aloadn (am_dp pw_X11_says_64 dd_X11_says_64b.2.2.2.2.2.2.1) rfl).to, ?_⟩
  refine List.forall_mem_cons.mpr ⟨(s_iconst (am_dp pw_X11_says_64 dd_X11_says_64b.2.2.2.2.2.2.2) (by decide)).to, ?_⟩
  refine List.forall_mem_cons.mpr ⟨(s_aloadn (am_dp pw_X11_says_64 dd_X11_says_64c.1) rfl).to, ?_⟩
  refine List.forall_mem_cons.mpr ⟨(s_get (ci := 11) (k := 4) (am_dp pw_X11_says_64 dd_X11_says_64c.2.1) rfl (by decide) wd1337 inX11 rfl).to, ?_⟩
  refine List.forall_mem_cons.mpr ⟨zw_cv171 (am_dp pw_X11_says_64 dd_X11_says_64c.2.2) wd1613, ?_⟩
  refine List.forall_mem_cons.mpr ⟨(s_aloadn (am_dp pw_X11_says_96 dd_X11_says_96a.1) rfl).to, ?_⟩
  refine List.forall_mem_cons.mpr ⟨(s_iconst (am_dp pw_X11_says_96 dd_X11_says_96a.2.1) (by decide)).to, ?_⟩
  refine List.forall_mem_cons.mpr ⟨(s_bipush (am_dp pw_X11_says_96 dd_X11_says_96a.2.2.1) (by decide)).to, ?_⟩
  refine List.forall_mem_cons.mpr ⟨zw_cv182 (am_dp pw_X11_says_96 dd_X11_says_96a.2.2.2.1) wd1626, ?_⟩
  refine List.forall_mem_cons.mpr ⟨(s_istoren (am_dp pw_X11_says_96 dd_X11_says_96a.2.2.2.2.1) rfl (by decide)).to, ?_⟩
  refine List.forall_mem_cons.mpr ⟨(s_sipush (am_dp pw_X11_says_96 dd_X11_says_96a.2.2.2.2.2.1) (by decide)).to, ?_⟩
  refine List.forall_mem_cons.mpr ⟨(s_aloadn (am_dp pw_X11_says_96 dd_X11_says_96a.2.2.2.2.2.2.1) rfl).to, ?_⟩
  refine List.forall_mem_cons.mpr ⟨(s_get (ci := 11) (k := 41) (am_dp pw_X11_says_96 dd_X11_says_96a.2.2.2.2.2.2.2) rfl (by decide) wd1374 inX11 rfl).to, ?_⟩
  refine List.forall_mem_cons.mpr ⟨(s_imul (am_dp pw_X11_says_96 dd_X11_says_96b.1)).to, ?_⟩
  exact fun _ h => absurd h List.not_mem_nil
theorem sn_tX11_says_1 : ∀ q ∈ tX11_says_1, am_Snd am_P0 RX11 cX11_says 6 (Option.none : Option FieldType) "says" q.1 q.2 := by
  unfold tX11_says_1
  refine List.forall_mem_cons.mpr ⟨(s_bipush (am_dp pw_X11_says_96 dd_X11_says_96b.2.1) (by decide)).to, ?_⟩
  refine List.forall_mem_cons.mpr ⟨(s_iloadn (am_dp pw_X11_says_96 dd_X11_says_96b.2.2.1) rfl).to, ?_⟩
  refine List.forall_mem_cons.mpr ⟨(s_imul (am_dp pw_X11_says_96 dd_X11_says_96b.2.2.2.1)).to, ?_⟩
  refine List.forall_mem_cons.mpr ⟨(s_iadd (am_dp pw_X11_says_96 dd_X11_says_96b.2.2.2.2.1)).to, ?_⟩
  refine List.forall_mem_cons.mpr ⟨(s_iloadn (am_dp pw_X11_says_96 dd_X11_says_96b.2.2.2.2.2.1) rfl).to, ?_⟩
  refine List.forall_mem_cons.mpr ⟨(s_iadd (am_dp pw_X11_says_96 dd_X11_says_96b.2.2.2.2.2.2.1)).to, ?_⟩
  refine List.forall_mem_cons.mpr ⟨(s_istoren (am_dp pw_X11_says_96 dd_X11_says_96b.2.2.2.2.2.2.2) rfl (by decide)).to, ?_⟩
  refine List.forall_mem_cons.mpr ⟨(s_aloadn (am_dp pw_X11_says_96 dd_X11_says_96c.1) rfl).to, ?_⟩
  refine List.forall_mem_cons.mpr ⟨zw_cv200 (am_dp pw_X11_says_96 dd_X11_says_96c.2.1) wd1751, ?_⟩
  refine List.forall_mem_cons.mpr ⟨(s_istore (am_dp pw_X11_says_96 dd_X11_says_96c.2.2.1) (by decide)).to, ?_⟩
  refine List.forall_mem_cons.mpr ⟨(s_aloadn (am_dp pw_X11_says_96 dd_X11_says_96c.2.2.2.1) rfl).to, ?_⟩
  refine List.forall_mem_cons.mpr ⟨(s_ldc2 (am_dp pw_X11_says_96 dd_X11_says_96c.2.2.2.2) wd1733).to, ?_⟩
  refine List.forall_mem_cons.mpr ⟨zw_cv194 (am_dp pw_X11_says_128 dd_X11_says_128a.1) wd1708, ?_⟩
  refine List.forall_mem_cons.mpr ⟨(s_aloadn (am_dp pw_X11_says_128 dd_X11_says_128a.2.1) rfl).to, ?_⟩
  refine List.forall_mem_cons.mpr ⟨(s_iconst (am_dp pw_X11_says_128 dd_X11_says_128a.2.2.1) (by decide)).to, ?_⟩
  refine List.forall_mem_cons.mpr ⟨(s_iconst (am_dp pw_X11_says_128 dd_X11_says_128a.2.2.2.1) (by decide)).to, ?_⟩
  refine List.forall_mem_cons.mpr ⟨zw_cv182 (am_dp pw_X11_says_128 dd_X11_says_128a.2.2.2.2.1) wd1626, ?_⟩
  refine List.forall_mem_cons.mpr ⟨(s_istore (am_dp pw_X11_says_128 dd_X11_says_128a.2.2.2.2.2.1) (by decide)).to, ?_⟩
  refine List.forall_mem_cons.mpr ⟨(s_aloadn (am_dp pw_X11_says_128 dd_X11_says_128a.2.2.2.2.2.2.1) rfl).to, ?_⟩
  refine List.forall_mem_cons.mpr ⟨(s_get (ci := 11) (k := 8) (am_dp pw_X11_says_128 dd_X11_says_128a.2.2.2.2.2.2.2) rfl (by decide) wd1341 inX11 rfl).to, ?_⟩
  refine List.forall_mem_cons.mpr ⟨(s_if_le (am_dp pw_X11_says_128 dd_X11_says_128b.1) (by decide)).to, ?_⟩
  refine List.forall_mem_cons.mpr ⟨s_vret (am_dp pw_X11_says_128 dd_X11_says_128b.2.1) rfl, ?_⟩
  refine List.forall_mem_cons.mpr ⟨(s_aloadn (am_dp pw_X11_says_128 dd_X11_says_128b.2.2.1) rfl).to, ?_⟩
  refine List.forall_mem_cons.mpr ⟨(s_get (ci := 11) (k := 26) (am_dp pw_X11_says_128 dd_X11_says_128b.2.2.2.1) rfl (by decide) wd1359 inX11 rfl).to, ?_⟩
  refine List.forall_mem_cons.mpr ⟨(s_iloadn (am_dp pw_X11_says_128 dd_X11_says_128b.2.2.2.2.1) rfl).to, ?_⟩
  refine List.forall_mem_cons.mpr ⟨(s_iload (am_dp pw_X11_says_128 dd_X11_says_128b.2.2.2.2.2.1)).to, ?_⟩
  refine List.forall_mem_cons.mpr ⟨(s_iast (am_dp pw_X11_says_128 dd_X11_says_128b.2.2.2.2.2.2.1)).to, ?_⟩
  refine List.forall_mem_cons.mpr ⟨(s_aloadn (am_dp pw_X11_says_128 dd_X11_says_128b.2.2.2.2.2.2.2) rfl).to, ?_⟩
  refine List.forall_mem_cons.mpr ⟨(s_get (ci := 11) (k := 27) (am_dp pw_X11_says_128 dd_X11_says_128c) rfl (by decide) wd1360 inX11 rfl).to, ?_⟩
  refine List.forall_mem_cons.mpr ⟨(s_iloadn (am_dp pw_X11_says_160 dd_X11_says_160a.1) rfl).to, ?_⟩
  refine List.forall_mem_cons.mpr ⟨(s_iload (am_dp pw_X11_says_160 dd_X11_says_160a.2.1)).to, ?_⟩
  refine List.forall_mem_cons.mpr ⟨(s_iconst (am_dp pw_X11_says_160 dd_X11_says_160a.2.2.1) (by decide)).to, ?_⟩
  refine List.forall_mem_cons.mpr ⟨(s_icmp_ne (am_dp pw_X11_says_160 dd_X11_says_160a.2.2.2.1) (by decide)).to, ?_⟩
  refine List.forall_mem_cons.mpr ⟨(s_iconst (am_dp pw_X11_says_160 dd_X11_says_160a.2.2.2.2.1) (by decide)).to, ?_⟩
  refine List.forall_mem_cons.mpr ⟨(s_goto (am_dp pw_X11_says_160 dd_X11_says_160a.2.2.2.2.2.1) (by decide)).to, ?_⟩
  refine List.forall_mem_cons.mpr ⟨(s_iconst (am_dp pw_X11_says_160 dd_X11_says_160a.2.2.2.2.2.2.1) (by decide)).to, ?_⟩
  refine List.forall_mem_cons.mpr ⟨(s_zast (am_dp pw_X11_says_160 dd_X11_says_160a.2.2.2.2.2.2.2)).to, ?_⟩
  refine List.forall_mem_cons.mpr ⟨(s_aloadn (am_dp pw_X11_says_160 dd_X11_says_160b.1) rfl).to, ?_⟩
  refine List.forall_mem_cons.mpr ⟨(s_get (ci := 11) (k := 25) (am_dp pw_X11_says_160 dd_X11_says_160b.2.1) rfl (by decide) wd1358 inX11 rfl).to, ?_⟩
  refine List.forall_mem_cons.mpr ⟨(s_aloadn (am_dp pw_X11_says_160 dd_X11_says_160b.2.2.1) rfl).to, ?_⟩
  refine List.forall_mem_cons.mpr ⟨(s_get (ci := 11) (k := 41) (am_dp pw_X11_says_160 dd_X11_says_160b.2.2.2.1) rfl (by decide) wd1374 inX11 rfl).to, ?_⟩
  refine List.forall_mem_cons.mpr ⟨(s_dup2 (am_dp pw_X11_says_160 dd_X11_says_160b.2.2.2.2.1)).to, ?_⟩
  refine List.forall_mem_cons.mpr ⟨(s_iald (am_dp pw_X11_says_160 dd_X11_says_160b.2.2.2.2.2.1)).to, ?_⟩
  refine List.forall_mem_cons.mpr ⟨(s_iconst (am_dp pw_X11_says_160 dd_X11_says_160b.2.2.2.2.2.2.1) (by decide)).to, ?_⟩
  refine List.forall_mem_cons.mpr ⟨(s_iadd (am_dp pw_X11_says_160 dd_X11_says_160b.2.2.2.2.2.2.2)).to, ?_⟩
  refine List.forall_mem_cons.mpr ⟨(s_iast (am_dp pw_X11_says_160 dd_X11_says_160c.1)).to, ?_⟩
  refine List.forall_mem_cons.mpr ⟨s_vret (am_dp pw_X11_says_160 dd_X11_says_160c.2) rfl, ?_⟩
  exact fun _ h => absurd h List.not_mem_nil
theorem sn_tX11_says : ∀ q ∈ tX11_says, am_Snd am_P0 RX11 cX11_says 6 (Option.none : Option FieldType) "says" q.1 q.2 := by
  unfold tX11_says
  exact List.forall_mem_append.mpr ⟨sn_tX11_says_0, sn_tX11_says_1⟩
theorem sn_tX11_book_0 : ∀ q ∈ tX11_book_0, am_Snd am_P0 RX11 cX11_book 2 (Option.none : Option FieldType) "book" q.1 q.2 := by
  unfold tX11_book_0
  refine List.forall_mem_cons.mpr ⟨(s_aloadn (am_dp pw_X11_book_0 dd_X11_book_0a.1) rfl).to, ?_⟩
  refine List.forall_mem_cons.mpr ⟨(s_aloadn (am_dp pw_X11_book_0 dd_X11_book_0a.2.1) rfl).to, ?_⟩
  refine List.forall_mem_cons.mpr ⟨(s_get (ci := 11) (k := 28) (am_dp pw_X11_book_0 dd_X11_book_0a.2.2.1) rfl (by decide) wd1361 inX11 rfl).to, ?_⟩
  refine List.forall_mem_cons.mpr ⟨(s_aloadn (am_dp pw_X11_book_0 dd_X11_book_0a.2.2.2.1) rfl).to, ?_⟩
  refine List.forall_mem_cons.mpr ⟨(s_get (ci := 11) (k := 41) (am_dp pw_X11_book_0 dd_X11_book_0a.2.2.2.2.1) rfl (by decide) wd1374 inX11 rfl).to, ?_⟩
  refine List.forall_mem_cons.mpr ⟨(s_iald (am_dp pw_X11_book_0 dd_X11_book_0a.2.2.2.2.2.1)).to, ?_⟩
  refine List.forall_mem_cons.mpr ⟨(s_bipush (am_dp pw_X11_book_0 dd_X11_book_0a.2.2.2.2.2.2.1) (by decide)).to, ?_⟩
  refine List.forall_mem_cons.mpr ⟨(s_icmp_ne (am_dp pw_X11_book_0 dd_X11_book_0a.2.2.2.2.2.2.2) (by decide)).to, ?_⟩
  refine List.forall_mem_cons.mpr ⟨(s_iconst (am_dp pw_X11_book_0 dd_X11_book_0b.1) (by decide)).to, ?_⟩
  refine List.forall_mem_cons.mpr ⟨(s_goto (am_dp pw_X11_book_0 dd_X11_book_0b.2.1) (by decide)).to, ?_⟩
  refine List.forall_mem_cons.mpr ⟨(s_iconst (am_dp pw_X11_book_0 dd_X11_book_0b.2.2.1) (by decide)).to, ?_⟩
  refine List.forall_mem_cons.mpr ⟨zw_cv193 (am_dp pw_X11_book_0 dd_X11_book_0b.2.2.2.1) wd1653, ?_⟩
  refine List.forall_mem_cons.mpr ⟨(s_if_ne (am_dp pw_X11_book_0 dd_X11_book_0b.2.2.2.2.1) (by decide)).to, ?_⟩
  refine List.forall_mem_cons.mpr ⟨s_vret (am_dp pw_X11_book_0 dd_X11_book_0b.2.2.2.2.2.1) rfl, ?_⟩
  refine List.forall_mem_cons.mpr ⟨(s_bipush (am_dp pw_X11_book_0 dd_X11_book_0b.2.2.2.2.2.2.1) (by decide)).to, ?_⟩
  refine List.forall_mem_cons.mpr ⟨(s_aloadn (am_dp pw_X11_book_0 dd_X11_book_0b.2.2.2.2.2.2.2) rfl).to, ?_⟩
  refine List.forall_mem_cons.mpr ⟨(s_get (ci := 11) (k := 41) (am_dp pw_X11_book_0 dd_X11_book_0c) rfl (by decide) wd1374 inX11 rfl).to, ?_⟩
  refine List.forall_mem_cons.mpr ⟨(s_imul (am_dp pw_X11_book_32 dd_X11_book_32a.1)).to, ?_⟩
  refine List.forall_mem_cons.mpr ⟨(s_aloadn (am_dp pw_X11_book_32 dd_X11_book_32a.2.1) rfl).to, ?_⟩
  refine List.forall_mem_cons.mpr ⟨(s_get (ci := 11) (k := 28) (am_dp pw_X11_book_32 dd_X11_book_32a.2.2.1) rfl (by decide) wd1361 inX11 rfl).to, ?_⟩
  refine List.forall_mem_cons.mpr ⟨(s_aloadn (am_dp pw_X11_book_32 dd_X11_book_32a.2.2.2.1) rfl).to, ?_⟩
  refine List.forall_mem_cons.mpr ⟨(s_get (ci := 11) (k := 41) (am_dp pw_X11_book_32 dd_X11_book_32a.2.2.2.2.1) rfl (by decide) wd1374 inX11 rfl).to, ?_⟩
  refine List.forall_mem_cons.mpr ⟨(s_iald (am_dp pw_X11_book_32 dd_X11_book_32a.2.2.2.2.2.1)).to, ?_⟩
  refine List.forall_mem_cons.mpr ⟨(s_iadd (am_dp pw_X11_book_32 dd_X11_book_32a.2.2.2.2.2.2.1)).to, ?_⟩
  refine List.forall_mem_cons.mpr ⟨(s_istoren (am_dp pw_X11_book_32 dd_X11_book_32a.2.2.2.2.2.2.2) rfl (by decide)).to, ?_⟩
  refine List.forall_mem_cons.mpr ⟨(s_aloadn (am_dp pw_X11_book_32 dd_X11_book_32b.1) rfl).to, ?_⟩
  refine List.forall_mem_cons.mpr ⟨(s_get (ci := 11) (k := 29) (am_dp pw_X11_book_32 dd_X11_book_32b.2.1) rfl (by decide) wd1362 inX11 rfl).to, ?_⟩
  refine List.forall_mem_cons.mpr ⟨(s_iloadn (am_dp pw_X11_book_32 dd_X11_book_32b.2.2.1) rfl).to, ?_⟩
  refine List.forall_mem_cons.mpr ⟨(s_aloadn (am_dp pw_X11_book_32 dd_X11_book_32b.2.2.2.1) rfl).to, ?_⟩
  refine List.forall_mem_cons.mpr ⟨zw_cv196 (am_dp pw_X11_book_32 dd_X11_book_32b.2.2.2.2.1) wd1747, ?_⟩
  refine List.forall_mem_cons.mpr ⟨(s_iast (am_dp pw_X11_book_32 dd_X11_book_32b.2.2.2.2.2.1)).to, ?_⟩
  refine List.forall_mem_cons.mpr ⟨(s_aloadn (am_dp pw_X11_book_32 dd_X11_book_32b.2.2.2.2.2.2.1) rfl).to, ?_⟩
  refine List.forall_mem_cons.mpr ⟨(s_get (ci := 11) (k := 30) (am_dp pw_X11_book_32 dd_X11_book_32b.2.2.2.2.2.2.2) rfl (by decide) wd1363 inX11 rfl).to, ?_⟩
  refine List.forall_mem_cons.mpr ⟨(s_iloadn (am_dp pw_X11_book_32 dd_X11_book_32c.1) rfl).to, ?_⟩
  refine List.forall_mem_cons.mpr ⟨(s_aloadn (am_dp pw_X11_book_32 dd_X11_book_32c.2.1) rfl).to, ?_⟩
  refine List.forall_mem_cons.mpr ⟨zw_cv200 (am_dp pw_X11_book_32 dd_X11_book_32c.2.2) wd1751, ?_⟩
  refine List.forall_mem_cons.mpr ⟨(s_iast (am_dp pw_X11_book_64 dd_X11_book_64a.1)).to, ?_⟩
  refine List.forall_mem_cons.mpr ⟨(s_aloadn (am_dp pw_X11_book_64 dd_X11_book_64a.2.1) rfl).to, ?_⟩
  refine List.forall_mem_cons.mpr ⟨(s_ldc2 (am_dp pw_X11_book_64 dd_X11_book_64a.2.2.1) wd1735).to, ?_⟩
  refine List.forall_mem_cons.mpr ⟨zw_cv194 (am_dp pw_X11_book_64 dd_X11_book_64a.2.2.2.1) wd1708, ?_⟩
  refine List.forall_mem_cons.mpr ⟨(s_aloadn (am_dp pw_X11_book_64 dd_X11_book_64a.2.2.2.2.1) rfl).to, ?_⟩
  refine List.forall_mem_cons.mpr ⟨(s_get (ci := 11) (k := 31) (am_dp pw_X11_book_64 dd_X11_book_64a.2.2.2.2.2.1) rfl (by decide) wd1364 inX11 rfl).to, ?_⟩
  refine List.forall_mem_cons.mpr ⟨(s_iloadn (am_dp pw_X11_book_64 dd_X11_book_64a.2.2.2.2.2.2.1) rfl).to, ?_⟩
  refine List.forall_mem_cons.mpr ⟨(s_aloadn (am_dp pw_X11_book_64 dd_X11_book_64a.2.2.2.2.2.2.2) rfl).to, ?_⟩
  refine List.forall_mem_cons.mpr ⟨(s_iconst (am_dp pw_X11_book_64 dd_X11_book_64b.1) (by decide)).to, ?_⟩
  refine List.forall_mem_cons.mpr ⟨(s_bipush (am_dp pw_X11_book_64 dd_X11_book_64b.2.1) (by decide)).to, ?_⟩
  refine List.forall_mem_cons.mpr ⟨zw_cv182 (am_dp pw_X11_book_64 dd_X11_book_64b.2.2.1) wd1626, ?_⟩
  refine List.forall_mem_cons.mpr ⟨(s_iast (am_dp pw_X11_book_64 dd_X11_book_64b.2.2.2.1)).to, ?_⟩
  refine List.forall_mem_cons.mpr ⟨(s_aloadn (am_dp pw_X11_book_64 dd_X11_book_64b.2.2.2.2.1) rfl).to, ?_⟩
  refine List.forall_mem_cons.mpr ⟨(s_ldc2 (am_dp pw_X11_book_64 dd_X11_book_64b.2.2.2.2.2.1) wd1736).to, ?_⟩
  refine List.forall_mem_cons.mpr ⟨zw_cv194 (am_dp pw_X11_book_64 dd_X11_book_64b.2.2.2.2.2.2.1) wd1708, ?_⟩
  refine List.forall_mem_cons.mpr ⟨(s_aloadn (am_dp pw_X11_book_64 dd_X11_book_64b.2.2.2.2.2.2.2) rfl).to, ?_⟩
  refine List.forall_mem_cons.mpr ⟨(s_get (ci := 11) (k := 32) (am_dp pw_X11_book_64 dd_X11_book_64c) rfl (by decide) wd1365 inX11 rfl).to, ?_⟩
  refine List.forall_mem_cons.mpr ⟨(s_iloadn (am_dp pw_X11_book_96 dd_X11_book_96a.1) rfl).to, ?_⟩
  refine List.forall_mem_cons.mpr ⟨(s_aloadn (am_dp pw_X11_book_96 dd_X11_book_96a.2.1) rfl).to, ?_⟩
  refine List.forall_mem_cons.mpr ⟨(s_aloadn (am_dp pw_X11_book_96 dd_X11_book_96a.2.2.1) rfl).to, ?_⟩
  refine List.forall_mem_cons.mpr ⟨(s_get (ci := 11) (k := 31) (am_dp pw_X11_book_96 dd_X11_book_96a.2.2.2.1) rfl (by decide) wd1364 inX11 rfl).to, ?_⟩
  refine List.forall_mem_cons.mpr ⟨(s_iloadn (am_dp pw_X11_book_96 dd_X11_book_96a.2.2.2.2.1) rfl).to, ?_⟩
  refine List.forall_mem_cons.mpr ⟨(s_iald (am_dp pw_X11_book_96 dd_X11_book_96a.2.2.2.2.2.1)).to, ?_⟩
  refine List.forall_mem_cons.mpr ⟨(s_bipush (am_dp pw_X11_book_96 dd_X11_book_96a.2.2.2.2.2.2.1) (by decide)).to, ?_⟩
  exact fun _ h => absurd h List.not_mem_nil
theorem sn_tX11_book_1 : ∀ q ∈ tX11_book_1, am_Snd am_P0 RX11 cX11_book 2 (Option.none : Option FieldType) "book" q.1 q.2 := by
  unfold tX11_book_1
  refine List.forall_mem_cons.mpr ⟨zw_cv182 (am_dp pw_X11_book_96 dd_X11_book_96a.2.2.2.2.2.2.2) wd1626, ?_⟩
  refine List.forall_mem_cons.mpr ⟨(s_iast (am_dp pw_X11_book_96 dd_X11_book_96b.1)).to, ?_⟩
  refine List.forall_mem_cons.mpr ⟨(s_aloadn (am_dp pw_X11_book_96 dd_X11_book_96b.2.1) rfl).to, ?_⟩
  refine List.forall_mem_cons.mpr ⟨(s_get (ci := 11) (k := 8) (am_dp pw_X11_book_96 dd_X11_book_96b.2.2.1) rfl (by decide) wd1341 inX11 rfl).to, ?_⟩
  refine List.forall_mem_cons.mpr ⟨(s_if_ne (am_dp pw_X11_book_96 dd_X11_book_96b.2.2.2.1) (by decide)).to, ?_⟩
  refine List.forall_mem_cons.mpr ⟨(s_aloadn (am_dp pw_X11_book_96 dd_X11_book_96b.2.2.2.2.1) rfl).to, ?_⟩
  refine List.forall_mem_cons.mpr ⟨(s_get (ci := 11) (k := 28) (am_dp pw_X11_book_96 dd_X11_book_96b.2.2.2.2.2.1) rfl (by decide) wd1361 inX11 rfl).to, ?_⟩
  refine List.forall_mem_cons.mpr ⟨(s_aloadn (am_dp pw_X11_book_96 dd_X11_book_96b.2.2.2.2.2.2.1) rfl).to, ?_⟩
  refine List.forall_mem_cons.mpr ⟨(s_get (ci := 11) (k := 41) (am_dp pw_X11_book_96 dd_X11_book_96b.2.2.2.2.2.2.2) rfl (by decide) wd1374 inX11 rfl).to, ?_⟩
  refine List.forall_mem_cons.mpr ⟨(s_dup2 (am_dp pw_X11_book_96 dd_X11_book_96c.1)).to, ?_⟩
  refine List.forall_mem_cons.mpr ⟨(s_iald (am_dp pw_X11_book_96 dd_X11_book_96c.2.1)).to, ?_⟩
  refine List.forall_mem_cons.mpr ⟨(s_iconst (am_dp pw_X11_book_96 dd_X11_book_96c.2.2) (by decide)).to, ?_⟩
  refine List.forall_mem_cons.mpr ⟨(s_iadd (am_dp pw_X11_book_128 dd_X11_book_128a.1)).to, ?_⟩
  refine List.forall_mem_cons.mpr ⟨(s_iast (am_dp pw_X11_book_128 dd_X11_book_128a.2.1)).to, ?_⟩
  refine List.forall_mem_cons.mpr ⟨s_vret (am_dp pw_X11_book_128 dd_X11_book_128a.2.2) rfl, ?_⟩
  exact fun _ h => absurd h List.not_mem_nil
theorem sn_tX11_book : ∀ q ∈ tX11_book, am_Snd am_P0 RX11 cX11_book 2 (Option.none : Option FieldType) "book" q.1 q.2 := by
  unfold tX11_book
  exact List.forall_mem_append.mpr ⟨sn_tX11_book_0, sn_tX11_book_1⟩
theorem sn_tX11_seen_0 : ∀ q ∈ tX11_seen_0, am_Snd am_P0 RX11 cX11_seen 2 (Option.none : Option FieldType) "seen" q.1 q.2 := by
  unfold tX11_seen_0
  refine List.forall_mem_cons.mpr ⟨(s_aloadn (am_dp pw_X11_seen_0 dd_X11_seen_0a.1) rfl).to, ?_⟩
  refine List.forall_mem_cons.mpr ⟨(s_aloadn (am_dp pw_X11_seen_0 dd_X11_seen_0a.2.1) rfl).to, ?_⟩
  refine List.forall_mem_cons.mpr ⟨(s_get (ci := 11) (k := 33) (am_dp pw_X11_seen_0 dd_X11_seen_0a.2.2.1) rfl (by decide) wd1366 inX11 rfl).to, ?_⟩
  refine List.forall_mem_cons.mpr ⟨(s_aloadn (am_dp pw_X11_seen_0 dd_X11_seen_0a.2.2.2.1) rfl).to, ?_⟩
  refine List.forall_mem_cons.mpr ⟨(s_get (ci := 11) (k := 41) (am_dp pw_X11_seen_0 dd_X11_seen_0a.2.2.2.2.1) rfl (by decide) wd1374 inX11 rfl).to, ?_⟩
  refine List.forall_mem_cons.mpr ⟨(s_iald (am_dp pw_X11_seen_0 dd_X11_seen_0a.2.2.2.2.2.1)).to, ?_⟩
  refine List.forall_mem_cons.mpr ⟨(s_bipush (am_dp pw_X11_seen_0 dd_X11_seen_0a.2.2.2.2.2.2.1) (by decide)).to, ?_⟩
  refine List.forall_mem_cons.mpr ⟨(s_icmp_ne (am_dp pw_X11_seen_0 dd_X11_seen_0a.2.2.2.2.2.2.2) (by decide)).to, ?_⟩
  refine List.forall_mem_cons.mpr ⟨(s_iconst (am_dp pw_X11_seen_0 dd_X11_seen_0b.1) (by decide)).to, ?_⟩
  refine List.forall_mem_cons.mpr ⟨(s_goto (am_dp pw_X11_seen_0 dd_X11_seen_0b.2.1) (by decide)).to, ?_⟩
  refine List.forall_mem_cons.mpr ⟨(s_iconst (am_dp pw_X11_seen_0 dd_X11_seen_0b.2.2.1) (by decide)).to, ?_⟩
  refine List.forall_mem_cons.mpr ⟨zw_cv193 (am_dp pw_X11_seen_0 dd_X11_seen_0b.2.2.2.1) wd1653, ?_⟩
  refine List.forall_mem_cons.mpr ⟨(s_if_ne (am_dp pw_X11_seen_0 dd_X11_seen_0b.2.2.2.2.1) (by decide)).to, ?_⟩
  refine List.forall_mem_cons.mpr ⟨s_vret (am_dp pw_X11_seen_0 dd_X11_seen_0b.2.2.2.2.2.1) rfl, ?_⟩
  refine List.forall_mem_cons.mpr ⟨(s_bipush (am_dp pw_X11_seen_0 dd_X11_seen_0b.2.2.2.2.2.2.1) (by decide)).to, ?_⟩
  refine List.forall_mem_cons.mpr ⟨(s_aloadn (am_dp pw_X11_seen_0 dd_X11_seen_0b.2.2.2.2.2.2.2) rfl).to, ?_⟩
  refine List.forall_mem_cons.mpr ⟨(s_get (ci := 11) (k := 41) (am_dp pw_X11_seen_0 dd_X11_seen_0c) rfl (by decide) wd1374 inX11 rfl).to, ?_⟩
  refine List.forall_mem_cons.mpr ⟨(s_imul (am_dp pw_X11_seen_32 dd_X11_seen_32a.1)).to, ?_⟩
  refine List.forall_mem_cons.mpr ⟨(s_aloadn (am_dp pw_X11_seen_32 dd_X11_seen_32a.2.1) rfl).to, ?_⟩
  refine List.forall_mem_cons.mpr ⟨(s_get (ci := 11) (k := 33) (am_dp pw_X11_seen_32 dd_X11_seen_32a.2.2.1) rfl (by decide) wd1366 inX11 rfl).to, ?_⟩
  refine List.forall_mem_cons.mpr ⟨(s_aloadn (am_dp pw_X11_seen_32 dd_X11_seen_32a.2.2.2.1) rfl).to, ?_⟩
  refine List.forall_mem_cons.mpr ⟨(s_get (ci := 11) (k := 41) (am_dp pw_X11_seen_32 dd_X11_seen_32a.2.2.2.2.1) rfl (by decide) wd1374 inX11 rfl).to, ?_⟩
  refine List.forall_mem_cons.mpr ⟨(s_iald (am_dp pw_X11_seen_32 dd_X11_seen_32a.2.2.2.2.2.1)).to, ?_⟩
  refine List.forall_mem_cons.mpr ⟨(s_iadd (am_dp pw_X11_seen_32 dd_X11_seen_32a.2.2.2.2.2.2.1)).to, ?_⟩
  refine List.forall_mem_cons.mpr ⟨(s_istoren (am_dp pw_X11_seen_32 dd_X11_seen_32a.2.2.2.2.2.2.2) rfl (by decide)).to, ?_⟩
  refine List.forall_mem_cons.mpr ⟨(s_aloadn (am_dp pw_X11_seen_32 dd_X11_seen_32b.1) rfl).to, ?_⟩
  refine List.forall_mem_cons.mpr ⟨(s_get (ci := 11) (k := 34) (am_dp pw_X11_seen_32 dd_X11_seen_32b.2.1) rfl (by decide) wd1367 inX11 rfl).to, ?_⟩
  refine List.forall_mem_cons.mpr ⟨(s_iloadn (am_dp pw_X11_seen_32 dd_X11_seen_32b.2.2.1) rfl).to, ?_⟩
  refine List.forall_mem_cons.mpr ⟨(s_aloadn (am_dp pw_X11_seen_32 dd_X11_seen_32b.2.2.2.1) rfl).to, ?_⟩
  refine List.forall_mem_cons.mpr ⟨(s_iconst (am_dp pw_X11_seen_32 dd_X11_seen_32b.2.2.2.2.1) (by decide)).to, ?_⟩
  refine List.forall_mem_cons.mpr ⟨(s_iconst (am_dp pw_X11_seen_32 dd_X11_seen_32b.2.2.2.2.2.1) (by decide)).to, ?_⟩
  refine List.forall_mem_cons.mpr ⟨zw_cv182 (am_dp pw_X11_seen_32 dd_X11_seen_32b.2.2.2.2.2.2.1) wd1626, ?_⟩
  refine List.forall_mem_cons.mpr ⟨(s_iast (am_dp pw_X11_seen_32 dd_X11_seen_32b.2.2.2.2.2.2.2)).to, ?_⟩
  refine List.forall_mem_cons.mpr ⟨(s_aloadn (am_dp pw_X11_seen_32 dd_X11_seen_32c.1) rfl).to, ?_⟩
  refine List.forall_mem_cons.mpr ⟨(s_get (ci := 11) (k := 35) (am_dp pw_X11_seen_32 dd_X11_seen_32c.2.1) rfl (by decide) wd1368 inX11 rfl).to, ?_⟩
  refine List.forall_mem_cons.mpr ⟨(s_iloadn (am_dp pw_X11_seen_32 dd_X11_seen_32c.2.2.1) rfl).to, ?_⟩
  refine List.forall_mem_cons.mpr ⟨(s_aloadn (am_dp pw_X11_seen_32 dd_X11_seen_32c.2.2.2.1) rfl).to, ?_⟩
  refine List.forall_mem_cons.mpr ⟨zw_cv200 (am_dp pw_X11_seen_32 dd_X11_seen_32c.2.2.2.2) wd1751, ?_⟩
  refine List.forall_mem_cons.mpr ⟨(s_iast (am_dp pw_X11_seen_64 dd_X11_seen_64a.1)).to, ?_⟩
  refine List.forall_mem_cons.mpr ⟨(s_aloadn (am_dp pw_X11_seen_64 dd_X11_seen_64a.2.1) rfl).to, ?_⟩
  refine List.forall_mem_cons.mpr ⟨(s_ldc2 (am_dp pw_X11_seen_64 dd_X11_seen_64a.2.2.1) wd1693).to, ?_⟩
  refine List.forall_mem_cons.mpr ⟨zw_cv194 (am_dp pw_X11_seen_64 dd_X11_seen_64a.2.2.2.1) wd1708, ?_⟩
  refine List.forall_mem_cons.mpr ⟨(s_aloadn (am_dp pw_X11_seen_64 dd_X11_seen_64a.2.2.2.2.1) rfl).to, ?_⟩
  refine List.forall_mem_cons.mpr ⟨(s_get (ci := 11) (k := 36) (am_dp pw_X11_seen_64 dd_X11_seen_64a.2.2.2.2.2.1) rfl (by decide) wd1369 inX11 rfl).to, ?_⟩
  refine List.forall_mem_cons.mpr ⟨(s_iloadn (am_dp pw_X11_seen_64 dd_X11_seen_64a.2.2.2.2.2.2.1) rfl).to, ?_⟩
  refine List.forall_mem_cons.mpr ⟨(s_aloadn (am_dp pw_X11_seen_64 dd_X11_seen_64a.2.2.2.2.2.2.2) rfl).to, ?_⟩
  refine List.forall_mem_cons.mpr ⟨(s_iconst (am_dp pw_X11_seen_64 dd_X11_seen_64b.1) (by decide)).to, ?_⟩
  refine List.forall_mem_cons.mpr ⟨(s_bipush (am_dp pw_X11_seen_64 dd_X11_seen_64b.2.1) (by decide)).to, ?_⟩
  refine List.forall_mem_cons.mpr ⟨zw_cv182 (am_dp pw_X11_seen_64 dd_X11_seen_64b.2.2.1) wd1626, ?_⟩
  refine List.forall_mem_cons.mpr ⟨(s_iast (am_dp pw_X11_seen_64 dd_X11_seen_64b.2.2.2.1)).to, ?_⟩
  refine List.forall_mem_cons.mpr ⟨(s_aloadn (am_dp pw_X11_seen_64 dd_X11_seen_64b.2.2.2.2.1) rfl).to, ?_⟩
  refine List.forall_mem_cons.mpr ⟨(s_get (ci := 11) (k := 8) (am_dp pw_X11_seen_64 dd_X11_seen_64b.2.2.2.2.2.1) rfl (by decide) wd1341 inX11 rfl).to, ?_⟩
  refine List.forall_mem_cons.mpr ⟨(s_if_ne (am_dp pw_X11_seen_64 dd_X11_seen_64b.2.2.2.2.2.2.1) (by decide)).to, ?_⟩
  refine List.forall_mem_cons.mpr ⟨(s_aloadn (am_dp pw_X11_seen_64 dd_X11_seen_64b.2.2.2.2.2.2.2) rfl).to, ?_⟩
  refine List.forall_mem_cons.mpr ⟨(s_get (ci := 11) (k := 33) (am_dp pw_X11_seen_64 dd_X11_seen_64c) rfl (by decide) wd1366 inX11 rfl).to, ?_⟩
  refine List.forall_mem_cons.mpr ⟨(s_aloadn (am_dp pw_X11_seen_96 dd_X11_seen_96a.1) rfl).to, ?_⟩
  refine List.forall_mem_cons.mpr ⟨(s_get (ci := 11) (k := 41) (am_dp pw_X11_seen_96 dd_X11_seen_96a.2.1) rfl (by decide) wd1374 inX11 rfl).to, ?_⟩
  refine List.forall_mem_cons.mpr ⟨(s_dup2 (am_dp pw_X11_seen_96 dd_X11_seen_96a.2.2.1)).to, ?_⟩
  refine List.forall_mem_cons.mpr ⟨(s_iald (am_dp pw_X11_seen_96 dd_X11_seen_96a.2.2.2.1)).to, ?_⟩
  refine List.forall_mem_cons.mpr ⟨(s_iconst (am_dp pw_X11_seen_96 dd_X11_seen_96a.2.2.2.2.1) (by decide)).to, ?_⟩
  exact fun _ h => absurd h List.not_mem_nil
theorem sn_tX11_seen_1 : ∀ q ∈ tX11_seen_1, am_Snd am_P0 RX11 cX11_seen 2 (Option.none : Option FieldType) "seen" q.1 q.2 := by
  unfold tX11_seen_1
  refine List.forall_mem_cons.mpr ⟨(s_iadd (am_dp pw_X11_seen_96 dd_X11_seen_96a.2.2.2.2.2.1)).to, ?_⟩
  refine List.forall_mem_cons.mpr ⟨(s_iast (am_dp pw_X11_seen_96 dd_X11_seen_96a.2.2.2.2.2.2.1)).to, ?_⟩
  refine List.forall_mem_cons.mpr ⟨s_vret (am_dp pw_X11_seen_96 dd_X11_seen_96a.2.2.2.2.2.2.2) rfl, ?_⟩
  exact fun _ h => absurd h List.not_mem_nil
theorem sn_tX11_seen : ∀ q ∈ tX11_seen, am_Snd am_P0 RX11 cX11_seen 2 (Option.none : Option FieldType) "seen" q.1 q.2 := by
  unfold tX11_seen
  exact List.forall_mem_append.mpr ⟨sn_tX11_seen_0, sn_tX11_seen_1⟩
theorem sn_tX11_lucks : ∀ q ∈ tX11_lucks, am_Snd am_P0 RX11 cX11_lucks 1 (Option.none : Option FieldType) "lucks" q.1 q.2 := by
  unfold tX11_lucks
  refine List.forall_mem_cons.mpr ⟨(s_aloadn (am_dp pw_X11_lucks_0 dd_X11_lucks_0a.1) rfl).to, ?_⟩
  refine List.forall_mem_cons.mpr ⟨(s_iconst (am_dp pw_X11_lucks_0 dd_X11_lucks_0a.2.1) (by decide)).to, ?_⟩
  refine List.forall_mem_cons.mpr ⟨zw_cv193 (am_dp pw_X11_lucks_0 dd_X11_lucks_0a.2.2.1) wd1653, ?_⟩
  refine List.forall_mem_cons.mpr ⟨(s_if_ne (am_dp pw_X11_lucks_0 dd_X11_lucks_0a.2.2.2.1) (by decide)).to, ?_⟩
  refine List.forall_mem_cons.mpr ⟨s_vret (am_dp pw_X11_lucks_0 dd_X11_lucks_0a.2.2.2.2.1) rfl, ?_⟩
  refine List.forall_mem_cons.mpr ⟨(s_aloadn (am_dp pw_X11_lucks_0 dd_X11_lucks_0a.2.2.2.2.2.1) rfl).to, ?_⟩
  refine List.forall_mem_cons.mpr ⟨(s_get (ci := 11) (k := 37) (am_dp pw_X11_lucks_0 dd_X11_lucks_0a.2.2.2.2.2.2.1) rfl (by decide) wd1370 inX11 rfl).to, ?_⟩
  refine List.forall_mem_cons.mpr ⟨(s_aloadn (am_dp pw_X11_lucks_0 dd_X11_lucks_0a.2.2.2.2.2.2.2) rfl).to, ?_⟩
  refine List.forall_mem_cons.mpr ⟨(s_get (ci := 11) (k := 41) (am_dp pw_X11_lucks_0 dd_X11_lucks_0b.1) rfl (by decide) wd1374 inX11 rfl).to, ?_⟩
  refine List.forall_mem_cons.mpr ⟨(s_aloadn (am_dp pw_X11_lucks_0 dd_X11_lucks_0b.2.1) rfl).to, ?_⟩
  refine List.forall_mem_cons.mpr ⟨(s_iconst (am_dp pw_X11_lucks_0 dd_X11_lucks_0b.2.2.1) (by decide)).to, ?_⟩
  refine List.forall_mem_cons.mpr ⟨(s_bipush (am_dp pw_X11_lucks_0 dd_X11_lucks_0b.2.2.2.1) (by decide)).to, ?_⟩
  refine List.forall_mem_cons.mpr ⟨zw_cv182 (am_dp pw_X11_lucks_0 dd_X11_lucks_0b.2.2.2.2.1) wd1626, ?_⟩
  refine List.forall_mem_cons.mpr ⟨(s_iast (am_dp pw_X11_lucks_0 dd_X11_lucks_0b.2.2.2.2.2.1)).to, ?_⟩
  refine List.forall_mem_cons.mpr ⟨s_vret (am_dp pw_X11_lucks_0 dd_X11_lucks_0b.2.2.2.2.2.2) rfl, ?_⟩
  exact fun _ h => absurd h List.not_mem_nil
theorem sn_tX11_statement_0 : ∀ q ∈ tX11_statement_0, am_Snd am_P0 RX11 cX11_statement 1 (Option.none : Option FieldType) "statement" q.1 q.2 := by
  unfold tX11_statement_0
  refine List.forall_mem_cons.mpr ⟨(s_aloadn (am_dp pw_X11_statement_0 dd_X11_statement_0a.1) rfl).to, ?_⟩
  refine List.forall_mem_cons.mpr ⟨(s_ldc2 (am_dp pw_X11_statement_0 dd_X11_statement_0a.2.1) wd1645).to, ?_⟩
  refine List.forall_mem_cons.mpr ⟨zw_cv176 (am_dp pw_X11_statement_0 dd_X11_statement_0a.2.2.1) wd1622, ?_⟩
  refine List.forall_mem_cons.mpr ⟨(s_if_eq (am_dp pw_X11_statement_0 dd_X11_statement_0a.2.2.2.1) (by decide)).to, ?_⟩
  refine List.forall_mem_cons.mpr ⟨(s_aloadn (am_dp pw_X11_statement_0 dd_X11_statement_0a.2.2.2.2.1) rfl).to, ?_⟩
  refine List.forall_mem_cons.mpr ⟨(s_iconst (am_dp pw_X11_statement_0 dd_X11_statement_0a.2.2.2.2.2.1) (by decide)).to, ?_⟩
  refine List.forall_mem_cons.mpr ⟨zw_cv198 (am_dp pw_X11_statement_0 dd_X11_statement_0a.2.2.2.2.2.2.1) wd1646, ?_⟩
  refine List.forall_mem_cons.mpr ⟨(s_goto (am_dp pw_X11_statement_0 dd_X11_statement_0a.2.2.2.2.2.2.2) (by decide)).to, ?_⟩
  refine List.forall_mem_cons.mpr ⟨(s_aloadn (am_dp pw_X11_statement_0 dd_X11_statement_0b.1) rfl).to, ?_⟩
  refine List.forall_mem_cons.mpr ⟨(s_ldc2 (am_dp pw_X11_statement_0 dd_X11_statement_0b.2.1) wd1712).to, ?_⟩
  refine List.forall_mem_cons.mpr ⟨zw_cv176 (am_dp pw_X11_statement_0 dd_X11_statement_0b.2.2.1) wd1622, ?_⟩
  refine List.forall_mem_cons.mpr ⟨(s_if_eq (am_dp pw_X11_statement_0 dd_X11_statement_0b.2.2.2.1) (by decide)).to, ?_⟩
  refine List.forall_mem_cons.mpr ⟨(s_aloadn (am_dp pw_X11_statement_0 dd_X11_statement_0b.2.2.2.2.1) rfl).to, ?_⟩
  refine List.forall_mem_cons.mpr ⟨(s_iconst (am_dp pw_X11_statement_0 dd_X11_statement_0b.2.2.2.2.2.1) (by decide)).to, ?_⟩
  refine List.forall_mem_cons.mpr ⟨zw_cv198 (am_dp pw_X11_statement_0 dd_X11_statement_0b.2.2.2.2.2.2) wd1646, ?_⟩
  refine List.forall_mem_cons.mpr ⟨(s_goto (am_dp pw_X11_statement_32 dd_X11_statement_32a.1) (by decide)).to, ?_⟩
  refine List.forall_mem_cons.mpr ⟨(s_aloadn (am_dp pw_X11_statement_32 dd_X11_statement_32a.2.1) rfl).to, ?_⟩
  refine List.forall_mem_cons.mpr ⟨(s_ldc2 (am_dp pw_X11_statement_32 dd_X11_statement_32a.2.2.1) wd1713).to, ?_⟩
  refine List.forall_mem_cons.mpr ⟨zw_cv176 (am_dp pw_X11_statement_32 dd_X11_statement_32a.2.2.2.1) wd1622, ?_⟩
  refine List.forall_mem_cons.mpr ⟨(s_if_eq (am_dp pw_X11_statement_32 dd_X11_statement_32a.2.2.2.2.1) (by decide)).to, ?_⟩
  refine List.forall_mem_cons.mpr ⟨(s_aloadn (am_dp pw_X11_statement_32 dd_X11_statement_32a.2.2.2.2.2.1) rfl).to, ?_⟩
  refine List.forall_mem_cons.mpr ⟨(s_iconst (am_dp pw_X11_statement_32 dd_X11_statement_32a.2.2.2.2.2.2.1) (by decide)).to, ?_⟩
  refine List.forall_mem_cons.mpr ⟨zw_cv198 (am_dp pw_X11_statement_32 dd_X11_statement_32a.2.2.2.2.2.2.2) wd1646, ?_⟩
  refine List.forall_mem_cons.mpr ⟨(s_goto (am_dp pw_X11_statement_32 dd_X11_statement_32b.1) (by decide)).to, ?_⟩
  refine List.forall_mem_cons.mpr ⟨(s_aloadn (am_dp pw_X11_statement_32 dd_X11_statement_32b.2.1) rfl).to, ?_⟩
  refine List.forall_mem_cons.mpr ⟨(s_ldc2 (am_dp pw_X11_statement_32 dd_X11_statement_32b.2.2.1) wd1714).to, ?_⟩
  refine List.forall_mem_cons.mpr ⟨zw_cv176 (am_dp pw_X11_statement_32 dd_X11_statement_32b.2.2.2.1) wd1622, ?_⟩
  refine List.forall_mem_cons.mpr ⟨(s_if_eq (am_dp pw_X11_statement_32 dd_X11_statement_32b.2.2.2.2) (by decide)).to, ?_⟩
  refine List.forall_mem_cons.mpr ⟨(s_aloadn (am_dp pw_X11_statement_64 dd_X11_statement_64a.1) rfl).to, ?_⟩
  refine List.forall_mem_cons.mpr ⟨zw_cv199 (am_dp pw_X11_statement_64 dd_X11_statement_64a.2.1) wd1715, ?_⟩
  refine List.forall_mem_cons.mpr ⟨(s_goto (am_dp pw_X11_statement_64 dd_X11_statement_64a.2.2.1) (by decide)).to, ?_⟩
  refine List.forall_mem_cons.mpr ⟨(s_aloadn (am_dp pw_X11_statement_64 dd_X11_statement_64a.2.2.2.1) rfl).to, ?_⟩
  refine List.forall_mem_cons.mpr ⟨(s_ldc2 (am_dp pw_X11_statement_64 dd_X11_statement_64a.2.2.2.2.1) wd1731).to, ?_⟩
  refine List.forall_mem_cons.mpr ⟨zw_cv176 (am_dp pw_X11_statement_64 dd_X11_statement_64a.2.2.2.2.2.1) wd1622, ?_⟩
  refine List.forall_mem_cons.mpr ⟨(s_if_eq (am_dp pw_X11_statement_64 dd_X11_statement_64a.2.2.2.2.2.2.1) (by decide)).to, ?_⟩
  refine List.forall_mem_cons.mpr ⟨(s_aloadn (am_dp pw_X11_statement_64 dd_X11_statement_64a.2.2.2.2.2.2.2) rfl).to, ?_⟩
  refine List.forall_mem_cons.mpr ⟨zw_cv201 (am_dp pw_X11_statement_64 dd_X11_statement_64b.1) wd1743, ?_⟩
  refine List.forall_mem_cons.mpr ⟨(s_goto (am_dp pw_X11_statement_64 dd_X11_statement_64b.2.1) (by decide)).to, ?_⟩
  refine List.forall_mem_cons.mpr ⟨(s_aloadn (am_dp pw_X11_statement_64 dd_X11_statement_64b.2.2.1) rfl).to, ?_⟩
  refine List.forall_mem_cons.mpr ⟨(s_ldc2 (am_dp pw_X11_statement_64 dd_X11_statement_64b.2.2.2.1) wd1734).to, ?_⟩
  refine List.forall_mem_cons.mpr ⟨zw_cv176 (am_dp pw_X11_statement_64 dd_X11_statement_64b.2.2.2.2.1) wd1622, ?_⟩
  refine List.forall_mem_cons.mpr ⟨(s_if_eq (am_dp pw_X11_statement_64 dd_X11_statement_64b.2.2.2.2.2) (by decide)).to, ?_⟩
  refine List.forall_mem_cons.mpr ⟨(s_aloadn (am_dp pw_X11_statement_96 dd_X11_statement_96a.1) rfl).to, ?_⟩
  refine List.forall_mem_cons.mpr ⟨zw_cv202 (am_dp pw_X11_statement_96 dd_X11_statement_96a.2.1) wd1755, ?_⟩
  refine List.forall_mem_cons.mpr ⟨(s_goto (am_dp pw_X11_statement_96 dd_X11_statement_96a.2.2.1) (by decide)).to, ?_⟩
  refine List.forall_mem_cons.mpr ⟨(s_aloadn (am_dp pw_X11_statement_96 dd_X11_statement_96a.2.2.2.1) rfl).to, ?_⟩
  refine List.forall_mem_cons.mpr ⟨(s_ldc2 (am_dp pw_X11_statement_96 dd_X11_statement_96a.2.2.2.2.1) wd1737).to, ?_⟩
  refine List.forall_mem_cons.mpr ⟨zw_cv176 (am_dp pw_X11_statement_96 dd_X11_statement_96a.2.2.2.2.2.1) wd1622, ?_⟩
  refine List.forall_mem_cons.mpr ⟨(s_if_eq (am_dp pw_X11_statement_96 dd_X11_statement_96a.2.2.2.2.2.2.1) (by decide)).to, ?_⟩
  refine List.forall_mem_cons.mpr ⟨(s_aloadn (am_dp pw_X11_statement_96 dd_X11_statement_96a.2.2.2.2.2.2.2) rfl).to, ?_⟩
  refine List.forall_mem_cons.mpr ⟨zw_cv203 (am_dp pw_X11_statement_96 dd_X11_statement_96b.1) wd1759, ?_⟩
  refine List.forall_mem_cons.mpr ⟨(s_goto (am_dp pw_X11_statement_96 dd_X11_statement_96b.2.1) (by decide)).to, ?_⟩
  refine List.forall_mem_cons.mpr ⟨(s_aloadn (am_dp pw_X11_statement_96 dd_X11_statement_96b.2.2.1) rfl).to, ?_⟩
  refine List.forall_mem_cons.mpr ⟨(s_ldc2 (am_dp pw_X11_statement_96 dd_X11_statement_96b.2.2.2.1) wd1738).to, ?_⟩
  refine List.forall_mem_cons.mpr ⟨zw_cv176 (am_dp pw_X11_statement_96 dd_X11_statement_96b.2.2.2.2) wd1622, ?_⟩
  refine List.forall_mem_cons.mpr ⟨(s_if_eq (am_dp pw_X11_statement_128 dd_X11_statement_128a.1) (by decide)).to, ?_⟩
  refine List.forall_mem_cons.mpr ⟨(s_aloadn (am_dp pw_X11_statement_128 dd_X11_statement_128a.2.1) rfl).to, ?_⟩
  refine List.forall_mem_cons.mpr ⟨zw_cv204 (am_dp pw_X11_statement_128 dd_X11_statement_128a.2.2.1) wd1763, ?_⟩
  refine List.forall_mem_cons.mpr ⟨(s_goto (am_dp pw_X11_statement_128 dd_X11_statement_128a.2.2.2.1) (by decide)).to, ?_⟩
  refine List.forall_mem_cons.mpr ⟨(s_aloadn (am_dp pw_X11_statement_128 dd_X11_statement_128a.2.2.2.2.1) rfl).to, ?_⟩
  exact fun _ h => absurd h List.not_mem_nil
theorem sn_tX11_statement_1 : ∀ q ∈ tX11_statement_1, am_Snd am_P0 RX11 cX11_statement 1 (Option.none : Option FieldType) "statement" q.1 q.2 := by
  unfold tX11_statement_1
  refine List.forall_mem_cons.mpr ⟨(s_iconst (am_dp pw_X11_statement_128 dd_X11_statement_128a.2.2.2.2.2.1) (by decide)).to, ?_⟩
  refine List.forall_mem_cons.mpr ⟨(s_aloadn (am_dp pw_X11_statement_128 dd_X11_statement_128a.2.2.2.2.2.2.1) rfl).to, ?_⟩
  refine List.forall_mem_cons.mpr ⟨(s_get (ci := 11) (k := 4) (am_dp pw_X11_statement_128 dd_X11_statement_128a.2.2.2.2.2.2.2) rfl (by decide) wd1337 inX11 rfl).to, ?_⟩
  refine List.forall_mem_cons.mpr ⟨zw_cv171 (am_dp pw_X11_statement_128 dd_X11_statement_128b.1) wd1613, ?_⟩
  refine List.forall_mem_cons.mpr ⟨(s_aloadn (am_dp pw_X11_statement_128 dd_X11_statement_128b.2.1) rfl).to, ?_⟩
  refine List.forall_mem_cons.mpr ⟨(s_get (ci := 11) (k := 8) (am_dp pw_X11_statement_128 dd_X11_statement_128b.2.2.1) rfl (by decide) wd1341 inX11 rfl).to, ?_⟩
  refine List.forall_mem_cons.mpr ⟨(s_if_ne (am_dp pw_X11_statement_128 dd_X11_statement_128b.2.2.2.1) (by decide)).to, ?_⟩
  refine List.forall_mem_cons.mpr ⟨(s_aloadn (am_dp pw_X11_statement_128 dd_X11_statement_128b.2.2.2.2.1) rfl).to, ?_⟩
  refine List.forall_mem_cons.mpr ⟨(s_bipush (am_dp pw_X11_statement_128 dd_X11_statement_128b.2.2.2.2.2.1) (by decide)).to, ?_⟩
  refine List.forall_mem_cons.mpr ⟨zw_cv177 (am_dp pw_X11_statement_128 dd_X11_statement_128b.2.2.2.2.2.2) wd1633, ?_⟩
  refine List.forall_mem_cons.mpr ⟨s_vret (am_dp pw_X11_statement_160 dd_X11_statement_160a) rfl, ?_⟩
  exact fun _ h => absurd h List.not_mem_nil
theorem sn_tX11_statement : ∀ q ∈ tX11_statement, am_Snd am_P0 RX11 cX11_statement 1 (Option.none : Option FieldType) "statement" q.1 q.2 := by
  unfold tX11_statement
  exact List.forall_mem_append.mpr ⟨sn_tX11_statement_0, sn_tX11_statement_1⟩
theorem sn_tX11_sea_0 : ∀ q ∈ tX11_sea_0, am_Snd am_P0 RX11 cX11_sea 2 (Option.some FieldType.int) "sea" q.1 q.2 := by
  unfold tX11_sea_0
  refine List.forall_mem_cons.mpr ⟨(s_aloadn (am_dp pw_X11_sea_0 dd_X11_sea_0a.1) rfl).to, ?_⟩
  refine List.forall_mem_cons.mpr ⟨(s_aloadn (am_dp pw_X11_sea_0 dd_X11_sea_0a.2.1) rfl).to, ?_⟩
  refine List.forall_mem_cons.mpr ⟨(s_get (ci := 11) (k := 1) (am_dp pw_X11_sea_0 dd_X11_sea_0a.2.2.1) rfl (by decide) wd1334 inX11 rfl).to, ?_⟩
  refine List.forall_mem_cons.mpr ⟨(s_put (ci := 11) (k := 2) (am_dp pw_X11_sea_0 dd_X11_sea_0a.2.2.2.1) rfl (by decide) wd1335 inX11 tyX11_ok nmX11 rfl rfl).to, ?_⟩
  refine List.forall_mem_cons.mpr ⟨(s_aloadn (am_dp pw_X11_sea_0 dd_X11_sea_0a.2.2.2.2.1) rfl).to, ?_⟩
  refine List.forall_mem_cons.mpr ⟨(s_iconst (am_dp pw_X11_sea_0 dd_X11_sea_0a.2.2.2.2.2.1) (by decide)).to, ?_⟩
  refine List.forall_mem_cons.mpr ⟨(s_put (ci := 11) (k := 1) (am_dp pw_X11_sea_0 dd_X11_sea_0a.2.2.2.2.2.2.1) rfl (by decide) wd1334 inX11 tyX11_ok nmX11 rfl rfl).to, ?_⟩
  refine List.forall_mem_cons.mpr ⟨(s_aloadn (am_dp pw_X11_sea_0 dd_X11_sea_0a.2.2.2.2.2.2.2) rfl).to, ?_⟩
  refine List.forall_mem_cons.mpr ⟨(s_iconst (am_dp pw_X11_sea_0 dd_X11_sea_0b.1) (by decide)).to, ?_⟩
  refine List.forall_mem_cons.mpr ⟨(s_put (ci := 11) (k := 5) (am_dp pw_X11_sea_0 dd_X11_sea_0b.2.1) rfl (by decide) wd1338 inX11 tyX11_ok nmX11 rfl rfl).to, ?_⟩
  refine List.forall_mem_cons.mpr ⟨(s_aloadn (am_dp pw_X11_sea_0 dd_X11_sea_0b.2.2.1) rfl).to, ?_⟩
  refine List.forall_mem_cons.mpr ⟨(s_iconst (am_dp pw_X11_sea_0 dd_X11_sea_0b.2.2.2.1) (by decide)).to, ?_⟩
  refine List.forall_mem_cons.mpr ⟨(s_put (ci := 11) (k := 8) (am_dp pw_X11_sea_0 dd_X11_sea_0b.2.2.2.2.1) rfl (by decide) wd1341 inX11 tyX11_ok nmX11 rfl rfl).to, ?_⟩
  refine List.forall_mem_cons.mpr ⟨(s_aloadn (am_dp pw_X11_sea_0 dd_X11_sea_0b.2.2.2.2.2.1) rfl).to, ?_⟩
  refine List.forall_mem_cons.mpr ⟨(s_iconst (am_dp pw_X11_sea_0 dd_X11_sea_0b.2.2.2.2.2.2.1) (by decide)).to, ?_⟩
  refine List.forall_mem_cons.mpr ⟨(s_put (ci := 11) (k := 9) (am_dp pw_X11_sea_0 dd_X11_sea_0b.2.2.2.2.2.2.2) rfl (by decide) wd1342 inX11 tyX11_ok nmX11 rfl rfl).to, ?_⟩
  refine List.forall_mem_cons.mpr ⟨(s_aloadn (am_dp pw_X11_sea_0 dd_X11_sea_0c.1) rfl).to, ?_⟩
  refine List.forall_mem_cons.mpr ⟨(s_iconst (am_dp pw_X11_sea_0 dd_X11_sea_0c.2.1) (by decide)).to, ?_⟩
  refine List.forall_mem_cons.mpr ⟨(s_aloadn (am_dp pw_X11_sea_0 dd_X11_sea_0c.2.2.1) rfl).to, ?_⟩
  refine List.forall_mem_cons.mpr ⟨(s_get (ci := 11) (k := 12) (am_dp pw_X11_sea_0 dd_X11_sea_0c.2.2.2) rfl (by decide) wd1345 inX11 rfl).to, ?_⟩
  refine List.forall_mem_cons.mpr ⟨(s_isub (am_dp pw_X11_sea_32 dd_X11_sea_32a.1)).to, ?_⟩
  refine List.forall_mem_cons.mpr ⟨(s_put (ci := 11) (k := 41) (am_dp pw_X11_sea_32 dd_X11_sea_32a.2.1) rfl (by decide) wd1374 inX11 tyX11_ok nmX11 rfl rfl).to, ?_⟩
  refine List.forall_mem_cons.mpr ⟨(s_iconst (am_dp pw_X11_sea_32 dd_X11_sea_32a.2.2.1) (by decide)).to, ?_⟩
  refine List.forall_mem_cons.mpr ⟨(s_istoren (am_dp pw_X11_sea_32 dd_X11_sea_32a.2.2.2.1) rfl (by decide)).to, ?_⟩
  refine List.forall_mem_cons.mpr ⟨(s_iloadn (am_dp pw_X11_sea_32 dd_X11_sea_32a.2.2.2.2.1) rfl).to, ?_⟩
  refine List.forall_mem_cons.mpr ⟨(s_iconst (am_dp pw_X11_sea_32 dd_X11_sea_32a.2.2.2.2.2.1) (by decide)).to, ?_⟩
  refine List.forall_mem_cons.mpr ⟨(s_icmp_ge (am_dp pw_X11_sea_32 dd_X11_sea_32a.2.2.2.2.2.2.1) (by decide)).to, ?_⟩
  refine List.forall_mem_cons.mpr ⟨(s_aloadn (am_dp pw_X11_sea_32 dd_X11_sea_32a.2.2.2.2.2.2.2) rfl).to, ?_⟩
  refine List.forall_mem_cons.mpr ⟨(s_get (ci := 11) (k := 15) (am_dp pw_X11_sea_32 dd_X11_sea_32b.1) rfl (by decide) wd1348 inX11 rfl).to, ?_⟩
  refine List.forall_mem_cons.mpr ⟨(s_iconst (am_dp pw_X11_sea_32 dd_X11_sea_32b.2.1) (by decide)).to, ?_⟩
  refine List.forall_mem_cons.mpr ⟨(s_aloadn (am_dp pw_X11_sea_32 dd_X11_sea_32b.2.2.1) rfl).to, ?_⟩
  refine List.forall_mem_cons.mpr ⟨(s_get (ci := 11) (k := 41) (am_dp pw_X11_sea_32 dd_X11_sea_32b.2.2.2.1) rfl (by decide) wd1374 inX11 rfl).to, ?_⟩
  refine List.forall_mem_cons.mpr ⟨(s_imul (am_dp pw_X11_sea_32 dd_X11_sea_32b.2.2.2.2.1)).to, ?_⟩
  refine List.forall_mem_cons.mpr ⟨(s_iloadn (am_dp pw_X11_sea_32 dd_X11_sea_32b.2.2.2.2.2.1) rfl).to, ?_⟩
  refine List.forall_mem_cons.mpr ⟨(s_iadd (am_dp pw_X11_sea_32 dd_X11_sea_32b.2.2.2.2.2.2.1)).to, ?_⟩
  refine List.forall_mem_cons.mpr ⟨(s_iconst (am_dp pw_X11_sea_32 dd_X11_sea_32b.2.2.2.2.2.2.2) (by decide)).to, ?_⟩
  refine List.forall_mem_cons.mpr ⟨(s_iast (am_dp pw_X11_sea_32 dd_X11_sea_32c.1)).to, ?_⟩
  refine List.forall_mem_cons.mpr ⟨(s_iinc (am_dp pw_X11_sea_32 dd_X11_sea_32c.2.1) (by decide) (by decide)).to, ?_⟩
  refine List.forall_mem_cons.mpr ⟨(s_goto (am_dp pw_X11_sea_32 dd_X11_sea_32c.2.2) (by decide)).to, ?_⟩
  refine List.forall_mem_cons.mpr ⟨(s_iconst (am_dp pw_X11_sea_64 dd_X11_sea_64a.1) (by decide)).to, ?_⟩
  refine List.forall_mem_cons.mpr ⟨(s_istoren (am_dp pw_X11_sea_64 dd_X11_sea_64a.2.1) rfl (by decide)).to, ?_⟩
  refine List.forall_mem_cons.mpr ⟨(s_iloadn (am_dp pw_X11_sea_64 dd_X11_sea_64a.2.2.1) rfl).to, ?_⟩
  refine List.forall_mem_cons.mpr ⟨(s_sipush (am_dp pw_X11_sea_64 dd_X11_sea_64a.2.2.2.1) (by decide)).to, ?_⟩
  refine List.forall_mem_cons.mpr ⟨(s_icmp_ge (am_dp pw_X11_sea_64 dd_X11_sea_64a.2.2.2.2.1) (by decide)).to, ?_⟩
  refine List.forall_mem_cons.mpr ⟨(s_aloadn (am_dp pw_X11_sea_64 dd_X11_sea_64a.2.2.2.2.2.1) rfl).to, ?_⟩
  refine List.forall_mem_cons.mpr ⟨(s_get (ci := 11) (k := 26) (am_dp pw_X11_sea_64 dd_X11_sea_64a.2.2.2.2.2.2.1) rfl (by decide) wd1359 inX11 rfl).to, ?_⟩
  refine List.forall_mem_cons.mpr ⟨(s_sipush (am_dp pw_X11_sea_64 dd_X11_sea_64a.2.2.2.2.2.2.2) (by decide)).to, ?_⟩
  refine List.forall_mem_cons.mpr ⟨(s_aloadn (am_dp pw_X11_sea_64 dd_X11_sea_64b.1) rfl).to, ?_⟩
  refine List.forall_mem_cons.mpr ⟨(s_get (ci := 11) (k := 41) (am_dp pw_X11_sea_64 dd_X11_sea_64b.2.1) rfl (by decide) wd1374 inX11 rfl).to, ?_⟩
  refine List.forall_mem_cons.mpr ⟨(s_imul (am_dp pw_X11_sea_64 dd_X11_sea_64b.2.2.1)).to, ?_⟩
  refine List.forall_mem_cons.mpr ⟨(s_iloadn (am_dp pw_X11_sea_64 dd_X11_sea_64b.2.2.2.1) rfl).to, ?_⟩
  refine List.forall_mem_cons.mpr ⟨(s_iadd (am_dp pw_X11_sea_64 dd_X11_sea_64b.2.2.2.2.1)).to, ?_⟩
  refine List.forall_mem_cons.mpr ⟨(s_iconst (am_dp pw_X11_sea_64 dd_X11_sea_64b.2.2.2.2.2.1) (by decide)).to, ?_⟩
  refine List.forall_mem_cons.mpr ⟨(s_iast (am_dp pw_X11_sea_64 dd_X11_sea_64b.2.2.2.2.2.2.1)).to, ?_⟩
  refine List.forall_mem_cons.mpr ⟨(s_iinc (am_dp pw_X11_sea_64 dd_X11_sea_64b.2.2.2.2.2.2.2) (by decide) (by decide)).to, ?_⟩
  refine List.forall_mem_cons.mpr ⟨(s_goto (am_dp pw_X11_sea_64 dd_X11_sea_64c) (by decide)).to, ?_⟩
  refine List.forall_mem_cons.mpr ⟨(s_aloadn (am_dp pw_X11_sea_96 dd_X11_sea_96a.1) rfl).to, ?_⟩
  refine List.forall_mem_cons.mpr ⟨(s_get (ci := 11) (k := 19) (am_dp pw_X11_sea_96 dd_X11_sea_96a.2.1) rfl (by decide) wd1352 inX11 rfl).to, ?_⟩
  refine List.forall_mem_cons.mpr ⟨(s_aloadn (am_dp pw_X11_sea_96 dd_X11_sea_96a.2.2.1) rfl).to, ?_⟩
  refine List.forall_mem_cons.mpr ⟨(s_get (ci := 11) (k := 41) (am_dp pw_X11_sea_96 dd_X11_sea_96a.2.2.2.1) rfl (by decide) wd1374 inX11 rfl).to, ?_⟩
  exact fun _ h => absurd h List.not_mem_nil
theorem sn_tX11_sea_1 : ∀ q ∈ tX11_sea_1, am_Snd am_P0 RX11 cX11_sea 2 (Option.some FieldType.int) "sea" q.1 q.2 := by
  unfold tX11_sea_1
  refine List.forall_mem_cons.mpr ⟨(s_iconst (am_dp pw_X11_sea_96 dd_X11_sea_96a.2.2.2.2.1) (by decide)).to, ?_⟩
  refine List.forall_mem_cons.mpr ⟨(s_iast (am_dp pw_X11_sea_96 dd_X11_sea_96a.2.2.2.2.2.1)).to, ?_⟩
  refine List.forall_mem_cons.mpr ⟨(s_aloadn (am_dp pw_X11_sea_96 dd_X11_sea_96a.2.2.2.2.2.2.1) rfl).to, ?_⟩
  refine List.forall_mem_cons.mpr ⟨(s_get (ci := 11) (k := 25) (am_dp pw_X11_sea_96 dd_X11_sea_96a.2.2.2.2.2.2.2) rfl (by decide) wd1358 inX11 rfl).to, ?_⟩
  refine List.forall_mem_cons.mpr ⟨(s_aloadn (am_dp pw_X11_sea_96 dd_X11_sea_96b.1) rfl).to, ?_⟩
  refine List.forall_mem_cons.mpr ⟨(s_get (ci := 11) (k := 41) (am_dp pw_X11_sea_96 dd_X11_sea_96b.2.1) rfl (by decide) wd1374 inX11 rfl).to, ?_⟩
  refine List.forall_mem_cons.mpr ⟨(s_iconst (am_dp pw_X11_sea_96 dd_X11_sea_96b.2.2.1) (by decide)).to, ?_⟩
  refine List.forall_mem_cons.mpr ⟨(s_iast (am_dp pw_X11_sea_96 dd_X11_sea_96b.2.2.2.1)).to, ?_⟩
  refine List.forall_mem_cons.mpr ⟨(s_aloadn (am_dp pw_X11_sea_96 dd_X11_sea_96b.2.2.2.2.1) rfl).to, ?_⟩
  refine List.forall_mem_cons.mpr ⟨(s_get (ci := 11) (k := 28) (am_dp pw_X11_sea_96 dd_X11_sea_96b.2.2.2.2.2.1) rfl (by decide) wd1361 inX11 rfl).to, ?_⟩
  refine List.forall_mem_cons.mpr ⟨(s_aloadn (am_dp pw_X11_sea_96 dd_X11_sea_96b.2.2.2.2.2.2.1) rfl).to, ?_⟩
  refine List.forall_mem_cons.mpr ⟨(s_get (ci := 11) (k := 41) (am_dp pw_X11_sea_96 dd_X11_sea_96b.2.2.2.2.2.2.2) rfl (by decide) wd1374 inX11 rfl).to, ?_⟩
  refine List.forall_mem_cons.mpr ⟨(s_iconst (am_dp pw_X11_sea_96 dd_X11_sea_96c.1) (by decide)).to, ?_⟩
  refine List.forall_mem_cons.mpr ⟨(s_iast (am_dp pw_X11_sea_96 dd_X11_sea_96c.2.1)).to, ?_⟩
  refine List.forall_mem_cons.mpr ⟨(s_aloadn (am_dp pw_X11_sea_96 dd_X11_sea_96c.2.2.1) rfl).to, ?_⟩
  refine List.forall_mem_cons.mpr ⟨(s_get (ci := 11) (k := 33) (am_dp pw_X11_sea_96 dd_X11_sea_96c.2.2.2) rfl (by decide) wd1366 inX11 rfl).to, ?_⟩
  refine List.forall_mem_cons.mpr ⟨(s_aloadn (am_dp pw_X11_sea_128 dd_X11_sea_128a.1) rfl).to, ?_⟩
  refine List.forall_mem_cons.mpr ⟨(s_get (ci := 11) (k := 41) (am_dp pw_X11_sea_128 dd_X11_sea_128a.2.1) rfl (by decide) wd1374 inX11 rfl).to, ?_⟩
  refine List.forall_mem_cons.mpr ⟨(s_iconst (am_dp pw_X11_sea_128 dd_X11_sea_128a.2.2.1) (by decide)).to, ?_⟩
  refine List.forall_mem_cons.mpr ⟨(s_iast (am_dp pw_X11_sea_128 dd_X11_sea_128a.2.2.2.1)).to, ?_⟩
  refine List.forall_mem_cons.mpr ⟨(s_aloadn (am_dp pw_X11_sea_128 dd_X11_sea_128a.2.2.2.2.1) rfl).to, ?_⟩
  refine List.forall_mem_cons.mpr ⟨(s_get (ci := 11) (k := 37) (am_dp pw_X11_sea_128 dd_X11_sea_128a.2.2.2.2.2.1) rfl (by decide) wd1370 inX11 rfl).to, ?_⟩
  refine List.forall_mem_cons.mpr ⟨(s_aloadn (am_dp pw_X11_sea_128 dd_X11_sea_128a.2.2.2.2.2.2.1) rfl).to, ?_⟩
  refine List.forall_mem_cons.mpr ⟨(s_get (ci := 11) (k := 41) (am_dp pw_X11_sea_128 dd_X11_sea_128a.2.2.2.2.2.2.2) rfl (by decide) wd1374 inX11 rfl).to, ?_⟩
  refine List.forall_mem_cons.mpr ⟨(s_bipush (am_dp pw_X11_sea_128 dd_X11_sea_128b.1) (by decide)).to, ?_⟩
  refine List.forall_mem_cons.mpr ⟨(s_iast (am_dp pw_X11_sea_128 dd_X11_sea_128b.2.1)).to, ?_⟩
  refine List.forall_mem_cons.mpr ⟨(s_aloadn (am_dp pw_X11_sea_128 dd_X11_sea_128b.2.2.1) rfl).to, ?_⟩
  refine List.forall_mem_cons.mpr ⟨(s_iconst (am_dp pw_X11_sea_128 dd_X11_sea_128b.2.2.2.1) (by decide)).to, ?_⟩
  refine List.forall_mem_cons.mpr ⟨(s_put (ci := 11) (k := 40) (am_dp pw_X11_sea_128 dd_X11_sea_128b.2.2.2.2.1) rfl (by decide) wd1373 inX11 tyX11_ok nmX11 rfl rfl).to, ?_⟩
  refine List.forall_mem_cons.mpr ⟨(s_iconst (am_dp pw_X11_sea_128 dd_X11_sea_128b.2.2.2.2.2.1) (by decide)).to, ?_⟩
  refine List.forall_mem_cons.mpr ⟨(s_istoren (am_dp pw_X11_sea_128 dd_X11_sea_128b.2.2.2.2.2.2.1) rfl (by decide)).to, ?_⟩
  refine List.forall_mem_cons.mpr ⟨(s_aloadn (am_dp pw_X11_sea_128 dd_X11_sea_128b.2.2.2.2.2.2.2) rfl).to, ?_⟩
  refine List.forall_mem_cons.mpr ⟨zw_cv174 (am_dp pw_X11_sea_128 dd_X11_sea_128c.1) wd1603, ?_⟩
  refine List.forall_mem_cons.mpr ⟨(s_aloadn (am_dp pw_X11_sea_128 dd_X11_sea_128c.2.1) rfl).to, ?_⟩
  refine List.forall_mem_cons.mpr ⟨zw_cv197 (am_dp pw_X11_sea_128 dd_X11_sea_128c.2.2) wd1617, ?_⟩
  refine List.forall_mem_cons.mpr ⟨(s_aloadn (am_dp pw_X11_sea_160 dd_X11_sea_160a.1) rfl).to, ?_⟩
  refine List.forall_mem_cons.mpr ⟨(s_get (ci := 11) (k := 8) (am_dp pw_X11_sea_160 dd_X11_sea_160a.2.1) rfl (by decide) wd1341 inX11 rfl).to, ?_⟩
  refine List.forall_mem_cons.mpr ⟨(s_if_ne (am_dp pw_X11_sea_160 dd_X11_sea_160a.2.2.1) (by decide)).to, ?_⟩
  refine List.forall_mem_cons.mpr ⟨(s_aloadn (am_dp pw_X11_sea_160 dd_X11_sea_160a.2.2.2.1) rfl).to, ?_⟩
  refine List.forall_mem_cons.mpr ⟨(s_get (ci := 11) (k := 3) (am_dp pw_X11_sea_160 dd_X11_sea_160a.2.2.2.2.1) rfl (by decide) wd1336 inX11 rfl).to, ?_⟩
  refine List.forall_mem_cons.mpr ⟨(s_if_eq (am_dp pw_X11_sea_160 dd_X11_sea_160a.2.2.2.2.2.1) (by decide)).to, ?_⟩
  refine List.forall_mem_cons.mpr ⟨(s_aloadn (am_dp pw_X11_sea_160 dd_X11_sea_160a.2.2.2.2.2.2.1) rfl).to, ?_⟩
  refine List.forall_mem_cons.mpr ⟨zw_cv205 (am_dp pw_X11_sea_160 dd_X11_sea_160a.2.2.2.2.2.2.2) wd1641, ?_⟩
  refine List.forall_mem_cons.mpr ⟨(s_iinc (am_dp pw_X11_sea_160 dd_X11_sea_160b.1) (by decide) (by decide)).to, ?_⟩
  refine List.forall_mem_cons.mpr ⟨(s_goto (am_dp pw_X11_sea_160 dd_X11_sea_160b.2.1) (by decide)).to, ?_⟩
  refine List.forall_mem_cons.mpr ⟨(s_aloadn (am_dp pw_X11_sea_160 dd_X11_sea_160b.2.2.1) rfl).to, ?_⟩
  refine List.forall_mem_cons.mpr ⟨(s_aloadn (am_dp pw_X11_sea_160 dd_X11_sea_160b.2.2.2.1) rfl).to, ?_⟩
  refine List.forall_mem_cons.mpr ⟨(s_get (ci := 11) (k := 8) (am_dp pw_X11_sea_160 dd_X11_sea_160b.2.2.2.2.1) rfl (by decide) wd1341 inX11 rfl).to, ?_⟩
  refine List.forall_mem_cons.mpr ⟨(s_put (ci := 11) (k := 10) (am_dp pw_X11_sea_160 dd_X11_sea_160b.2.2.2.2.2) rfl (by decide) wd1343 inX11 tyX11_ok nmX11 rfl rfl).to, ?_⟩
  refine List.forall_mem_cons.mpr ⟨(s_aloadn (am_dp pw_X11_sea_192 dd_X11_sea_192a.1) rfl).to, ?_⟩
  refine List.forall_mem_cons.mpr ⟨(s_aloadn (am_dp pw_X11_sea_192 dd_X11_sea_192a.2.1) rfl).to, ?_⟩
  refine List.forall_mem_cons.mpr ⟨(s_get (ci := 11) (k := 9) (am_dp pw_X11_sea_192 dd_X11_sea_192a.2.2.1) rfl (by decide) wd1342 inX11 rfl).to, ?_⟩
  refine List.forall_mem_cons.mpr ⟨(s_put (ci := 11) (k := 11) (am_dp pw_X11_sea_192 dd_X11_sea_192a.2.2.2.1) rfl (by decide) wd1344 inX11 tyX11_ok nmX11 rfl rfl).to, ?_⟩
  refine List.forall_mem_cons.mpr ⟨(s_aloadn (am_dp pw_X11_sea_192 dd_X11_sea_192a.2.2.2.2.1) rfl).to, ?_⟩
  refine List.forall_mem_cons.mpr ⟨(s_get (ci := 11) (k := 8) (am_dp pw_X11_sea_192 dd_X11_sea_192a.2.2.2.2.2.1) rfl (by decide) wd1341 inX11 rfl).to, ?_⟩
  refine List.forall_mem_cons.mpr ⟨(s_if_le (am_dp pw_X11_sea_192 dd_X11_sea_192a.2.2.2.2.2.2.1) (by decide)).to, ?_⟩
  refine List.forall_mem_cons.mpr ⟨(s_aloadn (am_dp pw_X11_sea_192 dd_X11_sea_192a.2.2.2.2.2.2.2) rfl).to, ?_⟩
  refine List.forall_mem_cons.mpr ⟨(s_iconst (am_dp pw_X11_sea_192 dd_X11_sea_192b.1) (by decide)).to, ?_⟩
  refine List.forall_mem_cons.mpr ⟨zw_cv208 (am_dp pw_X11_sea_192 dd_X11_sea_192b.2.1) wd1587, ?_⟩
  refine List.forall_mem_cons.mpr ⟨s_iret (am_dp pw_X11_sea_192 dd_X11_sea_192b.2.2.1) rfl, ?_⟩
  exact fun _ h => absurd h List.not_mem_nil
theorem sn_tX11_sea_2 : ∀ q ∈ tX11_sea_2, am_Snd am_P0 RX11 cX11_sea 2 (Option.some FieldType.int) "sea" q.1 q.2 := by
  unfold tX11_sea_2
  refine List.forall_mem_cons.mpr ⟨(s_aloadn (am_dp pw_X11_sea_192 dd_X11_sea_192b.2.2.2.1) rfl).to, ?_⟩
  refine List.forall_mem_cons.mpr ⟨(s_aloadn (am_dp pw_X11_sea_192 dd_X11_sea_192b.2.2.2.2.1) rfl).to, ?_⟩
  refine List.forall_mem_cons.mpr ⟨(s_get (ci := 11) (k := 41) (am_dp pw_X11_sea_192 dd_X11_sea_192b.2.2.2.2.2.1) rfl (by decide) wd1374 inX11 rfl).to, ?_⟩
  refine List.forall_mem_cons.mpr ⟨(s_put (ci := 11) (k := 12) (am_dp pw_X11_sea_192 dd_X11_sea_192b.2.2.2.2.2.2.1) rfl (by decide) wd1345 inX11 tyX11_ok nmX11 rfl rfl).to, ?_⟩
  refine List.forall_mem_cons.mpr ⟨(s_aloadn (am_dp pw_X11_sea_192 dd_X11_sea_192b.2.2.2.2.2.2.2) rfl).to, ?_⟩
  refine List.forall_mem_cons.mpr ⟨zw_cv223 (am_dp pw_X11_sea_224 dd_X11_sea_224a.1) wd1767, ?_⟩
  refine List.forall_mem_cons.mpr ⟨(s_iloadn (am_dp pw_X11_sea_224 dd_X11_sea_224a.2.1) rfl).to, ?_⟩
  refine List.forall_mem_cons.mpr ⟨s_iret (am_dp pw_X11_sea_224 dd_X11_sea_224a.2.2) rfl, ?_⟩
  exact fun _ h => absurd h List.not_mem_nil
theorem sn_tX11_sea : ∀ q ∈ tX11_sea, am_Snd am_P0 RX11 cX11_sea 2 (Option.some FieldType.int) "sea" q.1 q.2 := by
  unfold tX11_sea
  exact List.forall_mem_append.mpr ⟨List.forall_mem_append.mpr ⟨sn_tX11_sea_0, sn_tX11_sea_1⟩, sn_tX11_sea_2⟩
theorem sn_tX11_fault : ∀ q ∈ tX11_fault, am_Snd am_P0 RX11 cX11_fault 2 (Option.some FieldType.int) "fault" q.1 q.2 := by
  unfold tX11_fault
  refine List.forall_mem_cons.mpr ⟨(s_iloadn (am_dp pw_X11_fault_0 dd_X11_fault_0a.1) rfl).to, ?_⟩
  refine List.forall_mem_cons.mpr ⟨(s_if_ne (am_dp pw_X11_fault_0 dd_X11_fault_0a.2.1) (by decide)).to, ?_⟩
  refine List.forall_mem_cons.mpr ⟨(s_aloadn (am_dp pw_X11_fault_0 dd_X11_fault_0a.2.2.1) rfl).to, ?_⟩
  refine List.forall_mem_cons.mpr ⟨(s_get (ci := 11) (k := 10) (am_dp pw_X11_fault_0 dd_X11_fault_0a.2.2.2.1) rfl (by decide) wd1343 inX11 rfl).to, ?_⟩
  refine List.forall_mem_cons.mpr ⟨(s_goto (am_dp pw_X11_fault_0 dd_X11_fault_0a.2.2.2.2.1) (by decide)).to, ?_⟩
  refine List.forall_mem_cons.mpr ⟨(s_iloadn (am_dp pw_X11_fault_0 dd_X11_fault_0a.2.2.2.2.2.1) rfl).to, ?_⟩
  refine List.forall_mem_cons.mpr ⟨(s_iconst (am_dp pw_X11_fault_0 dd_X11_fault_0a.2.2.2.2.2.2.1) (by decide)).to, ?_⟩
  refine List.forall_mem_cons.mpr ⟨(s_icmp_ne (am_dp pw_X11_fault_0 dd_X11_fault_0a.2.2.2.2.2.2.2) (by decide)).to, ?_⟩
  refine List.forall_mem_cons.mpr ⟨(s_aloadn (am_dp pw_X11_fault_0 dd_X11_fault_0b.1) rfl).to, ?_⟩
  refine List.forall_mem_cons.mpr ⟨(s_get (ci := 11) (k := 11) (am_dp pw_X11_fault_0 dd_X11_fault_0b.2.1) rfl (by decide) wd1344 inX11 rfl).to, ?_⟩
  refine List.forall_mem_cons.mpr ⟨(s_goto (am_dp pw_X11_fault_0 dd_X11_fault_0b.2.2.1) (by decide)).to, ?_⟩
  refine List.forall_mem_cons.mpr ⟨(s_iconst (am_dp pw_X11_fault_0 dd_X11_fault_0b.2.2.2.1) (by decide)).to, ?_⟩
  refine List.forall_mem_cons.mpr ⟨s_iret (am_dp pw_X11_fault_0 dd_X11_fault_0b.2.2.2.2) rfl, ?_⟩
  exact fun _ h => absurd h List.not_mem_nil
theorem sn_tX11_refuses : ∀ q ∈ tX11_refuses, am_Snd am_P0 RX11 cX11_refuses 2 (Option.some FieldType.int) "refuses" q.1 q.2 := by
  unfold tX11_refuses
  refine List.forall_mem_cons.mpr ⟨(s_aloadn (am_dp pw_X11_refuses_0 dd_X11_refuses_0a.1) rfl).to, ?_⟩
  refine List.forall_mem_cons.mpr ⟨(s_get (ci := 11) (k := 52) (am_dp pw_X11_refuses_0 dd_X11_refuses_0a.2.1) rfl (by decide) wd1385 inX11 rfl).to, ?_⟩
  refine List.forall_mem_cons.mpr ⟨(s_iloadn (am_dp pw_X11_refuses_0 dd_X11_refuses_0a.2.2.1) rfl).to, ?_⟩
  refine List.forall_mem_cons.mpr ⟨(s_dup2 (am_dp pw_X11_refuses_0 dd_X11_refuses_0a.2.2.2.1)).to, ?_⟩
  refine List.forall_mem_cons.mpr ⟨(s_iald (am_dp pw_X11_refuses_0 dd_X11_refuses_0a.2.2.2.2.1)).to, ?_⟩
  refine List.forall_mem_cons.mpr ⟨(s_iconst (am_dp pw_X11_refuses_0 dd_X11_refuses_0a.2.2.2.2.2.1) (by decide)).to, ?_⟩
  refine List.forall_mem_cons.mpr ⟨(s_iadd (am_dp pw_X11_refuses_0 dd_X11_refuses_0a.2.2.2.2.2.2.1)).to, ?_⟩
  refine List.forall_mem_cons.mpr ⟨(s_iast (am_dp pw_X11_refuses_0 dd_X11_refuses_0a.2.2.2.2.2.2.2)).to, ?_⟩
  refine List.forall_mem_cons.mpr ⟨(s_iconst (am_dp pw_X11_refuses_0 dd_X11_refuses_0b.1) (by decide)).to, ?_⟩
  refine List.forall_mem_cons.mpr ⟨s_iret (am_dp pw_X11_refuses_0 dd_X11_refuses_0b.2) rfl, ?_⟩
  exact fun _ h => absurd h List.not_mem_nil
theorem sn_tX11_status : ∀ q ∈ tX11_status, am_Snd am_P0 RX11 cX11_status 2 (Option.some FieldType.int) "status" q.1 q.2 := by
  unfold tX11_status
  refine List.forall_mem_cons.mpr ⟨(s_iloadn (am_dp pw_X11_status_0 dd_X11_status_0a.1) rfl).to, ?_⟩
  refine List.forall_mem_cons.mpr ⟨(s_iconst (am_dp pw_X11_status_0 dd_X11_status_0a.2.1) (by decide)).to, ?_⟩
  refine List.forall_mem_cons.mpr ⟨(s_iconst (am_dp pw_X11_status_0 dd_X11_status_0a.2.2.1) (by decide)).to, ?_⟩
  refine List.forall_mem_cons.mpr ⟨zw_cs167 (am_dp pw_X11_status_0 dd_X11_status_0a.2.2.2.1) wd1630, ?_⟩
  refine List.forall_mem_cons.mpr ⟨(s_if_eq (am_dp pw_X11_status_0 dd_X11_status_0a.2.2.2.2.1) (by decide)).to, ?_⟩
  refine List.forall_mem_cons.mpr ⟨(s_aloadn (am_dp pw_X11_status_0 dd_X11_status_0a.2.2.2.2.2.1) rfl).to, ?_⟩
  refine List.forall_mem_cons.mpr ⟨(s_get (ci := 11) (k := 52) (am_dp pw_X11_status_0 dd_X11_status_0a.2.2.2.2.2.2.1) rfl (by decide) wd1385 inX11 rfl).to, ?_⟩
  refine List.forall_mem_cons.mpr ⟨(s_iloadn (am_dp pw_X11_status_0 dd_X11_status_0a.2.2.2.2.2.2.2) rfl).to, ?_⟩
  refine List.forall_mem_cons.mpr ⟨(s_iald (am_dp pw_X11_status_0 dd_X11_status_0b.1)).to, ?_⟩
  refine List.forall_mem_cons.mpr ⟨(s_goto (am_dp pw_X11_status_0 dd_X11_status_0b.2.1) (by decide)).to, ?_⟩
  refine List.forall_mem_cons.mpr ⟨(s_iconst (am_dp pw_X11_status_0 dd_X11_status_0b.2.2.1) (by decide)).to, ?_⟩
  refine List.forall_mem_cons.mpr ⟨s_iret (am_dp pw_X11_status_0 dd_X11_status_0b.2.2.2) rfl, ?_⟩
  exact fun _ h => absurd h List.not_mem_nil
theorem sn_tX11_bounded : ∀ q ∈ tX11_bounded, am_Snd am_P0 RX11 cX11_bounded 2 (Option.some FieldType.long) "bounded" q.1 q.2 := by
  unfold tX11_bounded
  refine List.forall_mem_cons.mpr ⟨(s_lloadn (am_dp pw_X11_bounded_0 dd_X11_bounded_0a.1) rfl).to, ?_⟩
  refine List.forall_mem_cons.mpr ⟨(s_ldc2 (am_dp pw_X11_bounded_0 dd_X11_bounded_0a.2.1) wd1801).to, ?_⟩
  refine List.forall_mem_cons.mpr ⟨(s_lcmp (am_dp pw_X11_bounded_0 dd_X11_bounded_0a.2.2.1)).to, ?_⟩
  refine List.forall_mem_cons.mpr ⟨(s_if_le (am_dp pw_X11_bounded_0 dd_X11_bounded_0a.2.2.2.1) (by decide)).to, ?_⟩
  refine List.forall_mem_cons.mpr ⟨(s_ldc2 (am_dp pw_X11_bounded_0 dd_X11_bounded_0a.2.2.2.2.1) wd1801).to, ?_⟩
  refine List.forall_mem_cons.mpr ⟨(s_goto (am_dp pw_X11_bounded_0 dd_X11_bounded_0a.2.2.2.2.2.1) (by decide)).to, ?_⟩
  refine List.forall_mem_cons.mpr ⟨(s_lloadn (am_dp pw_X11_bounded_0 dd_X11_bounded_0a.2.2.2.2.2.2.1) rfl).to, ?_⟩
  refine List.forall_mem_cons.mpr ⟨(s_ldc2 (am_dp pw_X11_bounded_0 dd_X11_bounded_0a.2.2.2.2.2.2.2) wd1802).to, ?_⟩
  refine List.forall_mem_cons.mpr ⟨(s_lcmp (am_dp pw_X11_bounded_0 dd_X11_bounded_0b.1)).to, ?_⟩
  refine List.forall_mem_cons.mpr ⟨(s_if_ge (am_dp pw_X11_bounded_0 dd_X11_bounded_0b.2.1) (by decide)).to, ?_⟩
  refine List.forall_mem_cons.mpr ⟨(s_ldc2 (am_dp pw_X11_bounded_0 dd_X11_bounded_0b.2.2.1) wd1802).to, ?_⟩
  refine List.forall_mem_cons.mpr ⟨(s_goto (am_dp pw_X11_bounded_0 dd_X11_bounded_0b.2.2.2.1) (by decide)).to, ?_⟩
  refine List.forall_mem_cons.mpr ⟨(s_lloadn (am_dp pw_X11_bounded_0 dd_X11_bounded_0b.2.2.2.2.1) rfl).to, ?_⟩
  refine List.forall_mem_cons.mpr ⟨s_lret (am_dp pw_X11_bounded_0 dd_X11_bounded_0b.2.2.2.2.2) rfl, ?_⟩
  exact fun _ h => absurd h List.not_mem_nil
theorem sn_tX11_over : ∀ q ∈ tX11_over, am_Snd am_P0 RX11 cX11_over 6 (Option.some FieldType.long) "over" q.1 q.2 := by
  unfold tX11_over
  refine List.forall_mem_cons.mpr ⟨(s_lloadn (am_dp pw_X11_over_0 dd_X11_over_0a.1) rfl).to, ?_⟩
  refine List.forall_mem_cons.mpr ⟨(s_lconst (am_dp pw_X11_over_0 dd_X11_over_0a.2.1) (by decide)).to, ?_⟩
  refine List.forall_mem_cons.mpr ⟨(s_lcmp (am_dp pw_X11_over_0 dd_X11_over_0a.2.2.1)).to, ?_⟩
  refine List.forall_mem_cons.mpr ⟨(s_if_ne (am_dp pw_X11_over_0 dd_X11_over_0a.2.2.2.1) (by decide)).to, ?_⟩
  refine List.forall_mem_cons.mpr ⟨(s_lconst (am_dp pw_X11_over_0 dd_X11_over_0a.2.2.2.2.1) (by decide)).to, ?_⟩
  refine List.forall_mem_cons.mpr ⟨s_lret (am_dp pw_X11_over_0 dd_X11_over_0a.2.2.2.2.2.1) rfl, ?_⟩
  refine List.forall_mem_cons.mpr ⟨(s_lloadn (am_dp pw_X11_over_0 dd_X11_over_0a.2.2.2.2.2.2.1) rfl).to, ?_⟩
  refine List.forall_mem_cons.mpr ⟨(s_lloadn (am_dp pw_X11_over_0 dd_X11_over_0a.2.2.2.2.2.2.2) rfl).to, ?_⟩
  refine List.forall_mem_cons.mpr ⟨(s_ldiv (am_dp pw_X11_over_0 dd_X11_over_0b.1)).to, ?_⟩
  refine List.forall_mem_cons.mpr ⟨(s_lstore (am_dp pw_X11_over_0 dd_X11_over_0b.2.1) (by decide)).to, ?_⟩
  refine List.forall_mem_cons.mpr ⟨(s_lloadn (am_dp pw_X11_over_0 dd_X11_over_0b.2.2.1) rfl).to, ?_⟩
  refine List.forall_mem_cons.mpr ⟨(s_lloadn (am_dp pw_X11_over_0 dd_X11_over_0b.2.2.2.1) rfl).to, ?_⟩
  refine List.forall_mem_cons.mpr ⟨(s_lrem (am_dp pw_X11_over_0 dd_X11_over_0b.2.2.2.2.1)).to, ?_⟩
  refine List.forall_mem_cons.mpr ⟨(s_lconst (am_dp pw_X11_over_0 dd_X11_over_0b.2.2.2.2.2.1) (by decide)).to, ?_⟩
  refine List.forall_mem_cons.mpr ⟨(s_lcmp (am_dp pw_X11_over_0 dd_X11_over_0b.2.2.2.2.2.2.1)).to, ?_⟩
  refine List.forall_mem_cons.mpr ⟨(s_if_eq (am_dp pw_X11_over_0 dd_X11_over_0b.2.2.2.2.2.2.2) (by decide)).to, ?_⟩
  refine List.forall_mem_cons.mpr ⟨(s_lloadn (am_dp pw_X11_over_0 dd_X11_over_0c.1) rfl).to, ?_⟩
  refine List.forall_mem_cons.mpr ⟨(s_lconst (am_dp pw_X11_over_0 dd_X11_over_0c.2.1) (by decide)).to, ?_⟩
  refine List.forall_mem_cons.mpr ⟨(s_lcmp (am_dp pw_X11_over_0 dd_X11_over_0c.2.2.1)).to, ?_⟩
  refine List.forall_mem_cons.mpr ⟨(s_if_ge (am_dp pw_X11_over_0 dd_X11_over_0c.2.2.2.1) (by decide)).to, ?_⟩
  refine List.forall_mem_cons.mpr ⟨(s_iconst (am_dp pw_X11_over_0 dd_X11_over_0c.2.2.2.2.1) (by decide)).to, ?_⟩
  refine List.forall_mem_cons.mpr ⟨(s_goto (am_dp pw_X11_over_0 dd_X11_over_0c.2.2.2.2.2.1) (by decide)).to, ?_⟩
  refine List.forall_mem_cons.mpr ⟨(s_iconst (am_dp pw_X11_over_0 dd_X11_over_0c.2.2.2.2.2.2) (by decide)).to, ?_⟩
  refine List.forall_mem_cons.mpr ⟨(s_lloadn (am_dp pw_X11_over_32 dd_X11_over_32a.1) rfl).to, ?_⟩
  refine List.forall_mem_cons.mpr ⟨(s_lconst (am_dp pw_X11_over_32 dd_X11_over_32a.2.1) (by decide)).to, ?_⟩
  refine List.forall_mem_cons.mpr ⟨(s_lcmp (am_dp pw_X11_over_32 dd_X11_over_32a.2.2.1)).to, ?_⟩
  refine List.forall_mem_cons.mpr ⟨(s_if_ge (am_dp pw_X11_over_32 dd_X11_over_32a.2.2.2.1) (by decide)).to, ?_⟩
  refine List.forall_mem_cons.mpr ⟨(s_iconst (am_dp pw_X11_over_32 dd_X11_over_32a.2.2.2.2.1) (by decide)).to, ?_⟩
  refine List.forall_mem_cons.mpr ⟨(s_goto (am_dp pw_X11_over_32 dd_X11_over_32a.2.2.2.2.2.1) (by decide)).to, ?_⟩
  refine List.forall_mem_cons.mpr ⟨(s_iconst (am_dp pw_X11_over_32 dd_X11_over_32a.2.2.2.2.2.2.1) (by decide)).to, ?_⟩
  refine List.forall_mem_cons.mpr ⟨(s_icmp_eq (am_dp pw_X11_over_32 dd_X11_over_32a.2.2.2.2.2.2.2) (by decide)).to, ?_⟩
  refine List.forall_mem_cons.mpr ⟨(s_lload (am_dp pw_X11_over_32 dd_X11_over_32b.1)).to, ?_⟩
  refine List.forall_mem_cons.mpr ⟨(s_lconst (am_dp pw_X11_over_32 dd_X11_over_32b.2.1) (by decide)).to, ?_⟩
  refine List.forall_mem_cons.mpr ⟨(s_lsub (am_dp pw_X11_over_32 dd_X11_over_32b.2.2.1)).to, ?_⟩
  refine List.forall_mem_cons.mpr ⟨(s_goto (am_dp pw_X11_over_32 dd_X11_over_32b.2.2.2.1) (by decide)).to, ?_⟩
  refine List.forall_mem_cons.mpr ⟨(s_lload (am_dp pw_X11_over_32 dd_X11_over_32b.2.2.2.2.1)).to, ?_⟩
  refine List.forall_mem_cons.mpr ⟨s_lret (am_dp pw_X11_over_32 dd_X11_over_32b.2.2.2.2.2) rfl, ?_⟩
  exact fun _ h => absurd h List.not_mem_nil
theorem sn_tX11_made_0 : ∀ q ∈ tX11_made_0, am_Snd am_P0 RX11 cX11_made 5 (Option.some FieldType.long) "made" q.1 q.2 := by
  unfold tX11_made_0
  refine List.forall_mem_cons.mpr ⟨(s_iloadn (am_dp pw_X11_made_0 dd_X11_made_0a) rfl).to, ?_⟩
  refine List.forall_mem_cons.mpr ⟨(s_table (by decide +kernel : decode cX11_made 1 = .ok (.tableswitch 170 10 20 #[59, 66, 73, 80, 86, 106, 118, 130, 142, 154, 166], 59)) (by decide) (by decide) (by decide) (by decide)).to, ?_⟩
  refine List.forall_mem_cons.mpr ⟨(s_lloadn (am_dp pw_X11_made_32 dd_X11_made_32a.1) rfl).to, ?_⟩
  refine List.forall_mem_cons.mpr ⟨(s_lloadn (am_dp pw_X11_made_32 dd_X11_made_32a.2.1) rfl).to, ?_⟩
  refine List.forall_mem_cons.mpr ⟨(s_ladd (am_dp pw_X11_made_32 dd_X11_made_32a.2.2.1)).to, ?_⟩
  refine List.forall_mem_cons.mpr ⟨zw_cs210 (am_dp pw_X11_made_32 dd_X11_made_32a.2.2.2) wd1798, ?_⟩
  refine List.forall_mem_cons.mpr ⟨s_lret (am_dp pw_X11_made_64 dd_X11_made_64a.1) rfl, ?_⟩
  refine List.forall_mem_cons.mpr ⟨(s_lloadn (am_dp pw_X11_made_64 dd_X11_made_64a.2.1) rfl).to, ?_⟩
  refine List.forall_mem_cons.mpr ⟨(s_lloadn (am_dp pw_X11_made_64 dd_X11_made_64a.2.2.1) rfl).to, ?_⟩
  refine List.forall_mem_cons.mpr ⟨(s_lsub (am_dp pw_X11_made_64 dd_X11_made_64a.2.2.2.1)).to, ?_⟩
  refine List.forall_mem_cons.mpr ⟨zw_cs210 (am_dp pw_X11_made_64 dd_X11_made_64a.2.2.2.2.1) wd1798, ?_⟩
  refine List.forall_mem_cons.mpr ⟨s_lret (am_dp pw_X11_made_64 dd_X11_made_64a.2.2.2.2.2.1) rfl, ?_⟩
  refine List.forall_mem_cons.mpr ⟨(s_lloadn (am_dp pw_X11_made_64 dd_X11_made_64a.2.2.2.2.2.2.1) rfl).to, ?_⟩
  refine List.forall_mem_cons.mpr ⟨(s_lloadn (am_dp pw_X11_made_64 dd_X11_made_64a.2.2.2.2.2.2.2) rfl).to, ?_⟩
  refine List.forall_mem_cons.mpr ⟨(s_lmul (am_dp pw_X11_made_64 dd_X11_made_64b.1)).to, ?_⟩
  refine List.forall_mem_cons.mpr ⟨zw_cs210 (am_dp pw_X11_made_64 dd_X11_made_64b.2.1) wd1798, ?_⟩
  refine List.forall_mem_cons.mpr ⟨s_lret (am_dp pw_X11_made_64 dd_X11_made_64b.2.2.1) rfl, ?_⟩
  refine List.forall_mem_cons.mpr ⟨(s_lloadn (am_dp pw_X11_made_64 dd_X11_made_64b.2.2.2.1) rfl).to, ?_⟩
  refine List.forall_mem_cons.mpr ⟨(s_lloadn (am_dp pw_X11_made_64 dd_X11_made_64b.2.2.2.2.1) rfl).to, ?_⟩
  refine List.forall_mem_cons.mpr ⟨zw_cs211 (am_dp pw_X11_made_64 dd_X11_made_64b.2.2.2.2.2.1) wd1803, ?_⟩
  refine List.forall_mem_cons.mpr ⟨s_lret (am_dp pw_X11_made_64 dd_X11_made_64b.2.2.2.2.2.2.1) rfl, ?_⟩
  refine List.forall_mem_cons.mpr ⟨(s_lloadn (am_dp pw_X11_made_64 dd_X11_made_64b.2.2.2.2.2.2.2) rfl).to, ?_⟩
  refine List.forall_mem_cons.mpr ⟨(s_lconst (am_dp pw_X11_made_64 dd_X11_made_64c.1) (by decide)).to, ?_⟩
  refine List.forall_mem_cons.mpr ⟨(s_lcmp (am_dp pw_X11_made_64 dd_X11_made_64c.2.1)).to, ?_⟩
  refine List.forall_mem_cons.mpr ⟨(s_if_ne (am_dp pw_X11_made_64 dd_X11_made_64c.2.2.1) (by decide)).to, ?_⟩
  refine List.forall_mem_cons.mpr ⟨(s_lconst (am_dp pw_X11_made_64 dd_X11_made_64c.2.2.2.1) (by decide)).to, ?_⟩
  refine List.forall_mem_cons.mpr ⟨(s_goto (am_dp pw_X11_made_64 dd_X11_made_64c.2.2.2.2) (by decide)).to, ?_⟩
  refine List.forall_mem_cons.mpr ⟨(s_lloadn (am_dp pw_X11_made_96 dd_X11_made_96a.1) rfl).to, ?_⟩
  refine List.forall_mem_cons.mpr ⟨(s_lloadn (am_dp pw_X11_made_96 dd_X11_made_96a.2.1) rfl).to, ?_⟩
  refine List.forall_mem_cons.mpr ⟨(s_lloadn (am_dp pw_X11_made_96 dd_X11_made_96a.2.2.1) rfl).to, ?_⟩
  refine List.forall_mem_cons.mpr ⟨(s_lloadn (am_dp pw_X11_made_96 dd_X11_made_96a.2.2.2.1) rfl).to, ?_⟩
  refine List.forall_mem_cons.mpr ⟨zw_cs211 (am_dp pw_X11_made_96 dd_X11_made_96a.2.2.2.2.1) wd1803, ?_⟩
  refine List.forall_mem_cons.mpr ⟨(s_lmul (am_dp pw_X11_made_96 dd_X11_made_96a.2.2.2.2.2.1)).to, ?_⟩
  refine List.forall_mem_cons.mpr ⟨(s_lsub (am_dp pw_X11_made_96 dd_X11_made_96a.2.2.2.2.2.2.1)).to, ?_⟩
  refine List.forall_mem_cons.mpr ⟨s_lret (am_dp pw_X11_made_96 dd_X11_made_96a.2.2.2.2.2.2.2) rfl, ?_⟩
  refine List.forall_mem_cons.mpr ⟨(s_lloadn (am_dp pw_X11_made_96 dd_X11_made_96b.1) rfl).to, ?_⟩
  refine List.forall_mem_cons.mpr ⟨(s_lloadn (am_dp pw_X11_made_96 dd_X11_made_96b.2.1) rfl).to, ?_⟩
  refine List.forall_mem_cons.mpr ⟨(s_lcmp (am_dp pw_X11_made_96 dd_X11_made_96b.2.2.1)).to, ?_⟩
  refine List.forall_mem_cons.mpr ⟨(s_if_ge (am_dp pw_X11_made_96 dd_X11_made_96b.2.2.2.1) (by decide)).to, ?_⟩
  refine List.forall_mem_cons.mpr ⟨(s_lloadn (am_dp pw_X11_made_96 dd_X11_made_96b.2.2.2.2.1) rfl).to, ?_⟩
  refine List.forall_mem_cons.mpr ⟨(s_goto (am_dp pw_X11_made_96 dd_X11_made_96b.2.2.2.2.2.1) (by decide)).to, ?_⟩
  refine List.forall_mem_cons.mpr ⟨(s_lloadn (am_dp pw_X11_made_96 dd_X11_made_96b.2.2.2.2.2.2.1) rfl).to, ?_⟩
  refine List.forall_mem_cons.mpr ⟨s_lret (am_dp pw_X11_made_96 dd_X11_made_96b.2.2.2.2.2.2.2) rfl, ?_⟩
  refine List.forall_mem_cons.mpr ⟨(s_lloadn (am_dp pw_X11_made_96 dd_X11_made_96c.1) rfl).to, ?_⟩
  refine List.forall_mem_cons.mpr ⟨(s_lloadn (am_dp pw_X11_made_96 dd_X11_made_96c.2.1) rfl).to, ?_⟩
  refine List.forall_mem_cons.mpr ⟨(s_lcmp (am_dp pw_X11_made_96 dd_X11_made_96c.2.2.1)).to, ?_⟩
  refine List.forall_mem_cons.mpr ⟨(s_if_le (am_dp pw_X11_made_96 dd_X11_made_96c.2.2.2.1) (by decide)).to, ?_⟩
  refine List.forall_mem_cons.mpr ⟨(s_lloadn (am_dp pw_X11_made_96 dd_X11_made_96c.2.2.2.2.1) rfl).to, ?_⟩
  refine List.forall_mem_cons.mpr ⟨(s_goto (am_dp pw_X11_made_96 dd_X11_made_96c.2.2.2.2.2) (by decide)).to, ?_⟩
  refine List.forall_mem_cons.mpr ⟨(s_lloadn (am_dp pw_X11_made_128 dd_X11_made_128a.1) rfl).to, ?_⟩
  refine List.forall_mem_cons.mpr ⟨s_lret (am_dp pw_X11_made_128 dd_X11_made_128a.2.1) rfl, ?_⟩
  refine List.forall_mem_cons.mpr ⟨(s_lloadn (am_dp pw_X11_made_128 dd_X11_made_128a.2.2.1) rfl).to, ?_⟩
  refine List.forall_mem_cons.mpr ⟨(s_lloadn (am_dp pw_X11_made_128 dd_X11_made_128a.2.2.2.1) rfl).to, ?_⟩
  refine List.forall_mem_cons.mpr ⟨(s_lcmp (am_dp pw_X11_made_128 dd_X11_made_128a.2.2.2.2.1)).to, ?_⟩
  refine List.forall_mem_cons.mpr ⟨(s_if_ge (am_dp pw_X11_made_128 dd_X11_made_128a.2.2.2.2.2.1) (by decide)).to, ?_⟩
  refine List.forall_mem_cons.mpr ⟨(s_lconst (am_dp pw_X11_made_128 dd_X11_made_128a.2.2.2.2.2.2.1) (by decide)).to, ?_⟩
  refine List.forall_mem_cons.mpr ⟨(s_goto (am_dp pw_X11_made_128 dd_X11_made_128a.2.2.2.2.2.2.2) (by decide)).to, ?_⟩
  refine List.forall_mem_cons.mpr ⟨(s_lconst (am_dp pw_X11_made_128 dd_X11_made_128b.1) (by decide)).to, ?_⟩
  refine List.forall_mem_cons.mpr ⟨s_lret (am_dp pw_X11_made_128 dd_X11_made_128b.2.1) rfl, ?_⟩
  refine List.forall_mem_cons.mpr ⟨(s_lloadn (am_dp pw_X11_made_128 dd_X11_made_128b.2.2.1) rfl).to, ?_⟩
  exact fun _ h => absurd h List.not_mem_nil
theorem sn_tX11_made_1 : ∀ q ∈ tX11_made_1, am_Snd am_P0 RX11 cX11_made 5 (Option.some FieldType.long) "made" q.1 q.2 := by
  unfold tX11_made_1
  refine List.forall_mem_cons.mpr ⟨(s_lloadn (am_dp pw_X11_made_128 dd_X11_made_128b.2.2.2.1) rfl).to, ?_⟩
  refine List.forall_mem_cons.mpr ⟨(s_lcmp (am_dp pw_X11_made_128 dd_X11_made_128b.2.2.2.2.1)).to, ?_⟩
  refine List.forall_mem_cons.mpr ⟨(s_if_le (am_dp pw_X11_made_128 dd_X11_made_128b.2.2.2.2.2.1) (by decide)).to, ?_⟩
  refine List.forall_mem_cons.mpr ⟨(s_lconst (am_dp pw_X11_made_128 dd_X11_made_128b.2.2.2.2.2.2.1) (by decide)).to, ?_⟩
  refine List.forall_mem_cons.mpr ⟨(s_goto (am_dp pw_X11_made_128 dd_X11_made_128b.2.2.2.2.2.2.2) (by decide)).to, ?_⟩
  refine List.forall_mem_cons.mpr ⟨(s_lconst (am_dp pw_X11_made_128 dd_X11_made_128c.1) (by decide)).to, ?_⟩
  refine List.forall_mem_cons.mpr ⟨s_lret (am_dp pw_X11_made_128 dd_X11_made_128c.2.1) rfl, ?_⟩
  refine List.forall_mem_cons.mpr ⟨(s_lloadn (am_dp pw_X11_made_128 dd_X11_made_128c.2.2.1) rfl).to, ?_⟩
  refine List.forall_mem_cons.mpr ⟨(s_lloadn (am_dp pw_X11_made_128 dd_X11_made_128c.2.2.2.1) rfl).to, ?_⟩
  refine List.forall_mem_cons.mpr ⟨(s_lcmp (am_dp pw_X11_made_128 dd_X11_made_128c.2.2.2.2.1)).to, ?_⟩
  refine List.forall_mem_cons.mpr ⟨(s_if_ne (am_dp pw_X11_made_128 dd_X11_made_128c.2.2.2.2.2) (by decide)).to, ?_⟩
  refine List.forall_mem_cons.mpr ⟨(s_lconst (am_dp pw_X11_made_160 dd_X11_made_160a.1) (by decide)).to, ?_⟩
  refine List.forall_mem_cons.mpr ⟨(s_goto (am_dp pw_X11_made_160 dd_X11_made_160a.2.1) (by decide)).to, ?_⟩
  refine List.forall_mem_cons.mpr ⟨(s_lconst (am_dp pw_X11_made_160 dd_X11_made_160a.2.2.1) (by decide)).to, ?_⟩
  refine List.forall_mem_cons.mpr ⟨s_lret (am_dp pw_X11_made_160 dd_X11_made_160a.2.2.2.1) rfl, ?_⟩
  refine List.forall_mem_cons.mpr ⟨(s_lloadn (am_dp pw_X11_made_160 dd_X11_made_160a.2.2.2.2.1) rfl).to, ?_⟩
  refine List.forall_mem_cons.mpr ⟨(s_lloadn (am_dp pw_X11_made_160 dd_X11_made_160a.2.2.2.2.2.1) rfl).to, ?_⟩
  refine List.forall_mem_cons.mpr ⟨(s_lmul (am_dp pw_X11_made_160 dd_X11_made_160a.2.2.2.2.2.2.1)).to, ?_⟩
  refine List.forall_mem_cons.mpr ⟨s_lret (am_dp pw_X11_made_160 dd_X11_made_160a.2.2.2.2.2.2.2) rfl, ?_⟩
  refine List.forall_mem_cons.mpr ⟨(s_lloadn (am_dp pw_X11_made_160 dd_X11_made_160b.1) rfl).to, ?_⟩
  refine List.forall_mem_cons.mpr ⟨(s_lloadn (am_dp pw_X11_made_160 dd_X11_made_160b.2.1) rfl).to, ?_⟩
  refine List.forall_mem_cons.mpr ⟨(s_ladd (am_dp pw_X11_made_160 dd_X11_made_160b.2.2.1)).to, ?_⟩
  refine List.forall_mem_cons.mpr ⟨(s_lconst (am_dp pw_X11_made_160 dd_X11_made_160b.2.2.2.1) (by decide)).to, ?_⟩
  refine List.forall_mem_cons.mpr ⟨(s_lcmp (am_dp pw_X11_made_160 dd_X11_made_160b.2.2.2.2.1)).to, ?_⟩
  refine List.forall_mem_cons.mpr ⟨(s_if_le (am_dp pw_X11_made_160 dd_X11_made_160b.2.2.2.2.2.1) (by decide)).to, ?_⟩
  refine List.forall_mem_cons.mpr ⟨(s_lconst (am_dp pw_X11_made_160 dd_X11_made_160b.2.2.2.2.2.2.1) (by decide)).to, ?_⟩
  refine List.forall_mem_cons.mpr ⟨(s_goto (am_dp pw_X11_made_160 dd_X11_made_160b.2.2.2.2.2.2.2) (by decide)).to, ?_⟩
  refine List.forall_mem_cons.mpr ⟨(s_lconst (am_dp pw_X11_made_160 dd_X11_made_160c.1) (by decide)).to, ?_⟩
  refine List.forall_mem_cons.mpr ⟨s_lret (am_dp pw_X11_made_160 dd_X11_made_160c.2) rfl, ?_⟩
  exact fun _ h => absurd h List.not_mem_nil
theorem sn_tX11_made : ∀ q ∈ tX11_made, am_Snd am_P0 RX11 cX11_made 5 (Option.some FieldType.long) "made" q.1 q.2 := by
  unfold tX11_made
  exact List.forall_mem_append.mpr ⟨sn_tX11_made_0, sn_tX11_made_1⟩
theorem sn_tX11_works_0 : ∀ q ∈ tX11_works_0, am_Snd am_P0 RX11 cX11_works 6 (Option.some FieldType.long) "works" q.1 q.2 := by
  unfold tX11_works_0
  refine List.forall_mem_cons.mpr ⟨(s_iconst (am_dp pw_X11_works_0 dd_X11_works_0a.1) (by decide)).to, ?_⟩
  refine List.forall_mem_cons.mpr ⟨(s_istoren (am_dp pw_X11_works_0 dd_X11_works_0a.2.1) rfl (by decide)).to, ?_⟩
  refine List.forall_mem_cons.mpr ⟨(s_sipush (am_dp pw_X11_works_0 dd_X11_works_0a.2.2.1) (by decide)).to, ?_⟩
  refine List.forall_mem_cons.mpr ⟨(s_aloadn (am_dp pw_X11_works_0 dd_X11_works_0a.2.2.2.1) rfl).to, ?_⟩
  refine List.forall_mem_cons.mpr ⟨(s_get (ci := 11) (k := 12) (am_dp pw_X11_works_0 dd_X11_works_0a.2.2.2.2.1) rfl (by decide) wd1345 inX11 rfl).to, ?_⟩
  refine List.forall_mem_cons.mpr ⟨(s_imul (am_dp pw_X11_works_0 dd_X11_works_0a.2.2.2.2.2.1)).to, ?_⟩
  refine List.forall_mem_cons.mpr ⟨(s_iloadn (am_dp pw_X11_works_0 dd_X11_works_0a.2.2.2.2.2.2.1) rfl).to, ?_⟩
  refine List.forall_mem_cons.mpr ⟨(s_iadd (am_dp pw_X11_works_0 dd_X11_works_0a.2.2.2.2.2.2.2)).to, ?_⟩
  refine List.forall_mem_cons.mpr ⟨(s_istore (am_dp pw_X11_works_0 dd_X11_works_0b.1) (by decide)).to, ?_⟩
  refine List.forall_mem_cons.mpr ⟨(s_iload (am_dp pw_X11_works_0 dd_X11_works_0b.2.1)).to, ?_⟩
  refine List.forall_mem_cons.mpr ⟨(s_sipush (am_dp pw_X11_works_0 dd_X11_works_0b.2.2.1) (by decide)).to, ?_⟩
  refine List.forall_mem_cons.mpr ⟨(s_aloadn (am_dp pw_X11_works_0 dd_X11_works_0b.2.2.2.1) rfl).to, ?_⟩
  refine List.forall_mem_cons.mpr ⟨(s_get (ci := 11) (k := 12) (am_dp pw_X11_works_0 dd_X11_works_0b.2.2.2.2.1) rfl (by decide) wd1345 inX11 rfl).to, ?_⟩
  refine List.forall_mem_cons.mpr ⟨(s_imul (am_dp pw_X11_works_0 dd_X11_works_0b.2.2.2.2.2.1)).to, ?_⟩
  refine List.forall_mem_cons.mpr ⟨(s_iloadn (am_dp pw_X11_works_0 dd_X11_works_0b.2.2.2.2.2.2.1) rfl).to, ?_⟩
  refine List.forall_mem_cons.mpr ⟨(s_iadd (am_dp pw_X11_works_0 dd_X11_works_0b.2.2.2.2.2.2.2)).to, ?_⟩
  refine List.forall_mem_cons.mpr ⟨(s_icmp_ge (am_dp pw_X11_works_0 dd_X11_works_0c.1) (by decide)).to, ?_⟩
  refine List.forall_mem_cons.mpr ⟨(s_aloadn (am_dp pw_X11_works_0 dd_X11_works_0c.2.1) rfl).to, ?_⟩
  refine List.forall_mem_cons.mpr ⟨(s_get (ci := 11) (k := 38) (am_dp pw_X11_works_0 dd_X11_works_0c.2.2) rfl (by decide) wd1371 inX11 rfl).to, ?_⟩
  refine List.forall_mem_cons.mpr ⟨(s_iload (am_dp pw_X11_works_32 dd_X11_works_32a.1)).to, ?_⟩
  refine List.forall_mem_cons.mpr ⟨(s_iald (am_dp pw_X11_works_32 dd_X11_works_32a.2.1)).to, ?_⟩
  refine List.forall_mem_cons.mpr ⟨(s_istore (am_dp pw_X11_works_32 dd_X11_works_32a.2.2.1) (by decide)).to, ?_⟩
  refine List.forall_mem_cons.mpr ⟨(s_iload (am_dp pw_X11_works_32 dd_X11_works_32a.2.2.2.1)).to, ?_⟩
  refine List.forall_mem_cons.mpr ⟨(s_bipush (am_dp pw_X11_works_32 dd_X11_works_32a.2.2.2.2.1) (by decide)).to, ?_⟩
  refine List.forall_mem_cons.mpr ⟨(s_icmp_gt (am_dp pw_X11_works_32 dd_X11_works_32a.2.2.2.2.2.1) (by decide)).to, ?_⟩
  refine List.forall_mem_cons.mpr ⟨(s_aloadn (am_dp pw_X11_works_32 dd_X11_works_32a.2.2.2.2.2.2.1) rfl).to, ?_⟩
  refine List.forall_mem_cons.mpr ⟨(s_get (ci := 11) (k := 53) (am_dp pw_X11_works_32 dd_X11_works_32a.2.2.2.2.2.2.2) rfl (by decide) wd1386 inX11 rfl).to, ?_⟩
  refine List.forall_mem_cons.mpr ⟨(s_iloadn (am_dp pw_X11_works_32 dd_X11_works_32b.1) rfl).to, ?_⟩
  refine List.forall_mem_cons.mpr ⟨(s_iload (am_dp pw_X11_works_32 dd_X11_works_32b.2.1)).to, ?_⟩
  refine List.forall_mem_cons.mpr ⟨(s_if_ne (am_dp pw_X11_works_32 dd_X11_works_32b.2.2.1) (by decide)).to, ?_⟩
  refine List.forall_mem_cons.mpr ⟨(s_aloadn (am_dp pw_X11_works_32 dd_X11_works_32b.2.2.2.1) rfl).to, ?_⟩
  refine List.forall_mem_cons.mpr ⟨(s_get (ci := 11) (k := 39) (am_dp pw_X11_works_32 dd_X11_works_32b.2.2.2.2.1) rfl (by decide) wd1372 inX11 rfl).to, ?_⟩
  refine List.forall_mem_cons.mpr ⟨(s_iload (am_dp pw_X11_works_32 dd_X11_works_32b.2.2.2.2.2.1)).to, ?_⟩
  refine List.forall_mem_cons.mpr ⟨(s_iald (am_dp pw_X11_works_32 dd_X11_works_32b.2.2.2.2.2.2.1)).to, ?_⟩
  refine List.forall_mem_cons.mpr ⟨(s_i2l (am_dp pw_X11_works_32 dd_X11_works_32b.2.2.2.2.2.2.2)).to, ?_⟩
  refine List.forall_mem_cons.mpr ⟨(s_goto (am_dp pw_X11_works_32 dd_X11_works_32c) (by decide)).to, ?_⟩
  refine List.forall_mem_cons.mpr ⟨(s_iload (am_dp pw_X11_works_64 dd_X11_works_64a.1)).to, ?_⟩
  refine List.forall_mem_cons.mpr ⟨(s_bipush (am_dp pw_X11_works_64 dd_X11_works_64a.2.1) (by decide)).to, ?_⟩
  refine List.forall_mem_cons.mpr ⟨(s_icmp_ne (am_dp pw_X11_works_64 dd_X11_works_64a.2.2.1) (by decide)).to, ?_⟩
  refine List.forall_mem_cons.mpr ⟨(s_lconst (am_dp pw_X11_works_64 dd_X11_works_64a.2.2.2.1) (by decide)).to, ?_⟩
  refine List.forall_mem_cons.mpr ⟨(s_goto (am_dp pw_X11_works_64 dd_X11_works_64a.2.2.2.2.1) (by decide)).to, ?_⟩
  refine List.forall_mem_cons.mpr ⟨(s_aloadn (am_dp pw_X11_works_64 dd_X11_works_64a.2.2.2.2.2.1) rfl).to, ?_⟩
  refine List.forall_mem_cons.mpr ⟨(s_get (ci := 11) (k := 54) (am_dp pw_X11_works_64 dd_X11_works_64a.2.2.2.2.2.2.1) rfl (by decide) wd1387 inX11 rfl).to, ?_⟩
  refine List.forall_mem_cons.mpr ⟨(s_iload (am_dp pw_X11_works_64 dd_X11_works_64a.2.2.2.2.2.2.2)).to, ?_⟩
  refine List.forall_mem_cons.mpr ⟨(s_iald (am_dp pw_X11_works_64 dd_X11_works_64b.1)).to, ?_⟩
  refine List.forall_mem_cons.mpr ⟨(s_i2l (am_dp pw_X11_works_64 dd_X11_works_64b.2.1)).to, ?_⟩
  refine List.forall_mem_cons.mpr ⟨(s_last (am_dp pw_X11_works_64 dd_X11_works_64b.2.2.1)).to, ?_⟩
  refine List.forall_mem_cons.mpr ⟨(s_iinc (am_dp pw_X11_works_64 dd_X11_works_64b.2.2.2.1) (by decide) (by decide)).to, ?_⟩
  refine List.forall_mem_cons.mpr ⟨(s_goto (am_dp pw_X11_works_64 dd_X11_works_64b.2.2.2.2.1) (by decide)).to, ?_⟩
  refine List.forall_mem_cons.mpr ⟨(s_iload (am_dp pw_X11_works_64 dd_X11_works_64b.2.2.2.2.2.1)).to, ?_⟩
  refine List.forall_mem_cons.mpr ⟨(s_bipush (am_dp pw_X11_works_64 dd_X11_works_64b.2.2.2.2.2.2) (by decide)).to, ?_⟩
  refine List.forall_mem_cons.mpr ⟨(s_icmp_ne (am_dp pw_X11_works_96 dd_X11_works_96a.1) (by decide)).to, ?_⟩
  refine List.forall_mem_cons.mpr ⟨(s_aloadn (am_dp pw_X11_works_96 dd_X11_works_96a.2.1) rfl).to, ?_⟩
  refine List.forall_mem_cons.mpr ⟨(s_get (ci := 11) (k := 53) (am_dp pw_X11_works_96 dd_X11_works_96a.2.2.1) rfl (by decide) wd1386 inX11 rfl).to, ?_⟩
  refine List.forall_mem_cons.mpr ⟨(s_iloadn (am_dp pw_X11_works_96 dd_X11_works_96a.2.2.2.1) rfl).to, ?_⟩
  refine List.forall_mem_cons.mpr ⟨(s_iconst (am_dp pw_X11_works_96 dd_X11_works_96a.2.2.2.2.1) (by decide)).to, ?_⟩
  refine List.forall_mem_cons.mpr ⟨(s_isub (am_dp pw_X11_works_96 dd_X11_works_96a.2.2.2.2.2.1)).to, ?_⟩
  refine List.forall_mem_cons.mpr ⟨(s_lconst (am_dp pw_X11_works_96 dd_X11_works_96a.2.2.2.2.2.2.1) (by decide)).to, ?_⟩
  refine List.forall_mem_cons.mpr ⟨(s_aloadn (am_dp pw_X11_works_96 dd_X11_works_96a.2.2.2.2.2.2.2) rfl).to, ?_⟩
  refine List.forall_mem_cons.mpr ⟨(s_get (ci := 11) (k := 53) (am_dp pw_X11_works_96 dd_X11_works_96b.1) rfl (by decide) wd1386 inX11 rfl).to, ?_⟩
  exact fun _ h => absurd h List.not_mem_nil
theorem sn_tX11_works_1 : ∀ q ∈ tX11_works_1, am_Snd am_P0 RX11 cX11_works 6 (Option.some FieldType.long) "works" q.1 q.2 := by
  unfold tX11_works_1
  refine List.forall_mem_cons.mpr ⟨(s_iloadn (am_dp pw_X11_works_96 dd_X11_works_96b.2.1) rfl).to, ?_⟩
  refine List.forall_mem_cons.mpr ⟨(s_iconst (am_dp pw_X11_works_96 dd_X11_works_96b.2.2.1) (by decide)).to, ?_⟩
  refine List.forall_mem_cons.mpr ⟨(s_isub (am_dp pw_X11_works_96 dd_X11_works_96b.2.2.2.1)).to, ?_⟩
  refine List.forall_mem_cons.mpr ⟨(s_lald (am_dp pw_X11_works_96 dd_X11_works_96b.2.2.2.2.1)).to, ?_⟩
  refine List.forall_mem_cons.mpr ⟨(s_lsub (am_dp pw_X11_works_96 dd_X11_works_96b.2.2.2.2.2.1)).to, ?_⟩
  refine List.forall_mem_cons.mpr ⟨(s_last (am_dp pw_X11_works_96 dd_X11_works_96b.2.2.2.2.2.2.1)).to, ?_⟩
  refine List.forall_mem_cons.mpr ⟨(s_goto (am_dp pw_X11_works_96 dd_X11_works_96b.2.2.2.2.2.2.2) (by decide)).to, ?_⟩
  refine List.forall_mem_cons.mpr ⟨(s_iinc (am_dp pw_X11_works_96 dd_X11_works_96c.1) (by decide) (by decide)).to, ?_⟩
  refine List.forall_mem_cons.mpr ⟨(s_aloadn (am_dp pw_X11_works_96 dd_X11_works_96c.2.1) rfl).to, ?_⟩
  refine List.forall_mem_cons.mpr ⟨(s_get (ci := 11) (k := 53) (am_dp pw_X11_works_96 dd_X11_works_96c.2.2.1) rfl (by decide) wd1386 inX11 rfl).to, ?_⟩
  refine List.forall_mem_cons.mpr ⟨(s_iloadn (am_dp pw_X11_works_96 dd_X11_works_96c.2.2.2) rfl).to, ?_⟩
  refine List.forall_mem_cons.mpr ⟨(s_iconst (am_dp pw_X11_works_128 dd_X11_works_128a.1) (by decide)).to, ?_⟩
  refine List.forall_mem_cons.mpr ⟨(s_isub (am_dp pw_X11_works_128 dd_X11_works_128a.2.1)).to, ?_⟩
  refine List.forall_mem_cons.mpr ⟨(s_iload (am_dp pw_X11_works_128 dd_X11_works_128a.2.2.1)).to, ?_⟩
  refine List.forall_mem_cons.mpr ⟨(s_aloadn (am_dp pw_X11_works_128 dd_X11_works_128a.2.2.2.1) rfl).to, ?_⟩
  refine List.forall_mem_cons.mpr ⟨(s_get (ci := 11) (k := 53) (am_dp pw_X11_works_128 dd_X11_works_128a.2.2.2.2.1) rfl (by decide) wd1386 inX11 rfl).to, ?_⟩
  refine List.forall_mem_cons.mpr ⟨(s_iloadn (am_dp pw_X11_works_128 dd_X11_works_128a.2.2.2.2.2.1) rfl).to, ?_⟩
  refine List.forall_mem_cons.mpr ⟨(s_iconst (am_dp pw_X11_works_128 dd_X11_works_128a.2.2.2.2.2.2.1) (by decide)).to, ?_⟩
  refine List.forall_mem_cons.mpr ⟨(s_isub (am_dp pw_X11_works_128 dd_X11_works_128a.2.2.2.2.2.2.2)).to, ?_⟩
  refine List.forall_mem_cons.mpr ⟨(s_lald (am_dp pw_X11_works_128 dd_X11_works_128b.1)).to, ?_⟩
  refine List.forall_mem_cons.mpr ⟨(s_aloadn (am_dp pw_X11_works_128 dd_X11_works_128b.2.1) rfl).to, ?_⟩
  refine List.forall_mem_cons.mpr ⟨(s_get (ci := 11) (k := 53) (am_dp pw_X11_works_128 dd_X11_works_128b.2.2.1) rfl (by decide) wd1386 inX11 rfl).to, ?_⟩
  refine List.forall_mem_cons.mpr ⟨(s_iloadn (am_dp pw_X11_works_128 dd_X11_works_128b.2.2.2.1) rfl).to, ?_⟩
  refine List.forall_mem_cons.mpr ⟨(s_lald (am_dp pw_X11_works_128 dd_X11_works_128b.2.2.2.2.1)).to, ?_⟩
  refine List.forall_mem_cons.mpr ⟨zw_cs212 (am_dp pw_X11_works_128 dd_X11_works_128b.2.2.2.2.2.1) wd1795, ?_⟩
  refine List.forall_mem_cons.mpr ⟨(s_last (am_dp pw_X11_works_128 dd_X11_works_128b.2.2.2.2.2.2.1)).to, ?_⟩
  refine List.forall_mem_cons.mpr ⟨(s_iinc (am_dp pw_X11_works_128 dd_X11_works_128b.2.2.2.2.2.2.2) (by decide) (by decide)).to, ?_⟩
  refine List.forall_mem_cons.mpr ⟨(s_goto (am_dp pw_X11_works_128 dd_X11_works_128c.1) (by decide)).to, ?_⟩
  refine List.forall_mem_cons.mpr ⟨(s_aloadn (am_dp pw_X11_works_128 dd_X11_works_128c.2.1) rfl).to, ?_⟩
  refine List.forall_mem_cons.mpr ⟨(s_get (ci := 11) (k := 53) (am_dp pw_X11_works_128 dd_X11_works_128c.2.2) rfl (by decide) wd1386 inX11 rfl).to, ?_⟩
  refine List.forall_mem_cons.mpr ⟨(s_iconst (am_dp pw_X11_works_160 dd_X11_works_160a.1) (by decide)).to, ?_⟩
  refine List.forall_mem_cons.mpr ⟨(s_lald (am_dp pw_X11_works_160 dd_X11_works_160a.2.1)).to, ?_⟩
  refine List.forall_mem_cons.mpr ⟨s_lret (am_dp pw_X11_works_160 dd_X11_works_160a.2.2) rfl, ?_⟩
  exact fun _ h => absurd h List.not_mem_nil
theorem sn_tX11_works : ∀ q ∈ tX11_works, am_Snd am_P0 RX11 cX11_works 6 (Option.some FieldType.long) "works" q.1 q.2 := by
  unfold tX11_works
  exact List.forall_mem_append.mpr ⟨sn_tX11_works_0, sn_tX11_works_1⟩
theorem sn_tX11_cells : ∀ q ∈ tX11_cells, am_Snd am_P0 RX11 cX11_cells 1 (Option.some FieldType.int) "cells" q.1 q.2 := by
  unfold tX11_cells
  refine List.forall_mem_cons.mpr ⟨(s_aloadn (am_dp pw_X11_cells_0 dd_X11_cells_0a.1) rfl).to, ?_⟩
  refine List.forall_mem_cons.mpr ⟨(s_get (ci := 11) (k := 13) (am_dp pw_X11_cells_0 dd_X11_cells_0a.2.1) rfl (by decide) wd1346 inX11 rfl).to, ?_⟩
  refine List.forall_mem_cons.mpr ⟨(s_aloadn (am_dp pw_X11_cells_0 dd_X11_cells_0a.2.2.1) rfl).to, ?_⟩
  refine List.forall_mem_cons.mpr ⟨(s_get (ci := 11) (k := 12) (am_dp pw_X11_cells_0 dd_X11_cells_0a.2.2.2.1) rfl (by decide) wd1345 inX11 rfl).to, ?_⟩
  refine List.forall_mem_cons.mpr ⟨(s_iald (am_dp pw_X11_cells_0 dd_X11_cells_0a.2.2.2.2.1)).to, ?_⟩
  refine List.forall_mem_cons.mpr ⟨(s_aloadn (am_dp pw_X11_cells_0 dd_X11_cells_0a.2.2.2.2.2.1) rfl).to, ?_⟩
  refine List.forall_mem_cons.mpr ⟨(s_get (ci := 11) (k := 14) (am_dp pw_X11_cells_0 dd_X11_cells_0a.2.2.2.2.2.2.1) rfl (by decide) wd1347 inX11 rfl).to, ?_⟩
  refine List.forall_mem_cons.mpr ⟨(s_aloadn (am_dp pw_X11_cells_0 dd_X11_cells_0a.2.2.2.2.2.2.2) rfl).to, ?_⟩
  refine List.forall_mem_cons.mpr ⟨(s_get (ci := 11) (k := 12) (am_dp pw_X11_cells_0 dd_X11_cells_0b.1) rfl (by decide) wd1345 inX11 rfl).to, ?_⟩
  refine List.forall_mem_cons.mpr ⟨(s_iald (am_dp pw_X11_cells_0 dd_X11_cells_0b.2.1)).to, ?_⟩
  refine List.forall_mem_cons.mpr ⟨(s_imul (am_dp pw_X11_cells_0 dd_X11_cells_0b.2.2.1)).to, ?_⟩
  refine List.forall_mem_cons.mpr ⟨s_iret (am_dp pw_X11_cells_0 dd_X11_cells_0b.2.2.2) rfl, ?_⟩
  exact fun _ h => absurd h List.not_mem_nil
theorem sn_tX11_columnOf : ∀ q ∈ tX11_columnOf, am_Snd am_P0 RX11 cX11_columnOf 2 (Option.some FieldType.int) "columnOf" q.1 q.2 := by
  unfold tX11_columnOf
  refine List.forall_mem_cons.mpr ⟨(s_iloadn (am_dp pw_X11_columnOf_0 dd_X11_columnOf_0a.1) rfl).to, ?_⟩
  refine List.forall_mem_cons.mpr ⟨(s_aloadn (am_dp pw_X11_columnOf_0 dd_X11_columnOf_0a.2.1) rfl).to, ?_⟩
  refine List.forall_mem_cons.mpr ⟨(s_get (ci := 11) (k := 13) (am_dp pw_X11_columnOf_0 dd_X11_columnOf_0a.2.2.1) rfl (by decide) wd1346 inX11 rfl).to, ?_⟩
  refine List.forall_mem_cons.mpr ⟨(s_aloadn (am_dp pw_X11_columnOf_0 dd_X11_columnOf_0a.2.2.2.1) rfl).to, ?_⟩
  refine List.forall_mem_cons.mpr ⟨(s_get (ci := 11) (k := 12) (am_dp pw_X11_columnOf_0 dd_X11_columnOf_0a.2.2.2.2.1) rfl (by decide) wd1345 inX11 rfl).to, ?_⟩
  refine List.forall_mem_cons.mpr ⟨(s_iald (am_dp pw_X11_columnOf_0 dd_X11_columnOf_0a.2.2.2.2.2.1)).to, ?_⟩
  refine List.forall_mem_cons.mpr ⟨(s_irem (am_dp pw_X11_columnOf_0 dd_X11_columnOf_0a.2.2.2.2.2.2.1)).to, ?_⟩
  refine List.forall_mem_cons.mpr ⟨s_iret (am_dp pw_X11_columnOf_0 dd_X11_columnOf_0a.2.2.2.2.2.2.2) rfl, ?_⟩
  exact fun _ h => absurd h List.not_mem_nil
theorem sn_tX11_rowOf : ∀ q ∈ tX11_rowOf, am_Snd am_P0 RX11 cX11_rowOf 2 (Option.some FieldType.int) "rowOf" q.1 q.2 := by
  unfold tX11_rowOf
  refine List.forall_mem_cons.mpr ⟨(s_iloadn (am_dp pw_X11_rowOf_0 dd_X11_rowOf_0a.1) rfl).to, ?_⟩
  refine List.forall_mem_cons.mpr ⟨(s_aloadn (am_dp pw_X11_rowOf_0 dd_X11_rowOf_0a.2.1) rfl).to, ?_⟩
  refine List.forall_mem_cons.mpr ⟨(s_get (ci := 11) (k := 13) (am_dp pw_X11_rowOf_0 dd_X11_rowOf_0a.2.2.1) rfl (by decide) wd1346 inX11 rfl).to, ?_⟩
  refine List.forall_mem_cons.mpr ⟨(s_aloadn (am_dp pw_X11_rowOf_0 dd_X11_rowOf_0a.2.2.2.1) rfl).to, ?_⟩
  refine List.forall_mem_cons.mpr ⟨(s_get (ci := 11) (k := 12) (am_dp pw_X11_rowOf_0 dd_X11_rowOf_0a.2.2.2.2.1) rfl (by decide) wd1345 inX11 rfl).to, ?_⟩
  refine List.forall_mem_cons.mpr ⟨(s_iald (am_dp pw_X11_rowOf_0 dd_X11_rowOf_0a.2.2.2.2.2.1)).to, ?_⟩
  refine List.forall_mem_cons.mpr ⟨(s_idiv (am_dp pw_X11_rowOf_0 dd_X11_rowOf_0a.2.2.2.2.2.2.1)).to, ?_⟩
  refine List.forall_mem_cons.mpr ⟨s_iret (am_dp pw_X11_rowOf_0 dd_X11_rowOf_0a.2.2.2.2.2.2.2) rfl, ?_⟩
  exact fun _ h => absurd h List.not_mem_nil
theorem sn_tX11_isCell : ∀ q ∈ tX11_isCell, am_Snd am_P0 RX11 cX11_isCell 3 (Option.some FieldType.boolean) "isCell" q.1 q.2 := by
  unfold tX11_isCell
  refine List.forall_mem_cons.mpr ⟨(s_iloadn (am_dp pw_X11_isCell_0 dd_X11_isCell_0a.1) rfl).to, ?_⟩
  refine List.forall_mem_cons.mpr ⟨(s_iconst (am_dp pw_X11_isCell_0 dd_X11_isCell_0a.2.1) (by decide)).to, ?_⟩
  refine List.forall_mem_cons.mpr ⟨(s_aloadn (am_dp pw_X11_isCell_0 dd_X11_isCell_0a.2.2.1) rfl).to, ?_⟩
  refine List.forall_mem_cons.mpr ⟨(s_get (ci := 11) (k := 13) (am_dp pw_X11_isCell_0 dd_X11_isCell_0a.2.2.2.1) rfl (by decide) wd1346 inX11 rfl).to, ?_⟩
  refine List.forall_mem_cons.mpr ⟨(s_aloadn (am_dp pw_X11_isCell_0 dd_X11_isCell_0a.2.2.2.2.1) rfl).to, ?_⟩
  refine List.forall_mem_cons.mpr ⟨(s_get (ci := 11) (k := 12) (am_dp pw_X11_isCell_0 dd_X11_isCell_0a.2.2.2.2.2.1) rfl (by decide) wd1345 inX11 rfl).to, ?_⟩
  refine List.forall_mem_cons.mpr ⟨(s_iald (am_dp pw_X11_isCell_0 dd_X11_isCell_0a.2.2.2.2.2.2.1)).to, ?_⟩
  refine List.forall_mem_cons.mpr ⟨(s_iconst (am_dp pw_X11_isCell_0 dd_X11_isCell_0a.2.2.2.2.2.2.2) (by decide)).to, ?_⟩
  refine List.forall_mem_cons.mpr ⟨(s_isub (am_dp pw_X11_isCell_0 dd_X11_isCell_0b.1)).to, ?_⟩
  refine List.forall_mem_cons.mpr ⟨zw_cs167 (am_dp pw_X11_isCell_0 dd_X11_isCell_0b.2.1) wd1630, ?_⟩
  refine List.forall_mem_cons.mpr ⟨(s_if_eq (am_dp pw_X11_isCell_0 dd_X11_isCell_0b.2.2.1) (by decide)).to, ?_⟩
  refine List.forall_mem_cons.mpr ⟨(s_iloadn (am_dp pw_X11_isCell_0 dd_X11_isCell_0b.2.2.2.1) rfl).to, ?_⟩
  refine List.forall_mem_cons.mpr ⟨(s_iconst (am_dp pw_X11_isCell_0 dd_X11_isCell_0b.2.2.2.2.1) (by decide)).to, ?_⟩
  refine List.forall_mem_cons.mpr ⟨(s_aloadn (am_dp pw_X11_isCell_0 dd_X11_isCell_0b.2.2.2.2.2.1) rfl).to, ?_⟩
  refine List.forall_mem_cons.mpr ⟨(s_get (ci := 11) (k := 14) (am_dp pw_X11_isCell_0 dd_X11_isCell_0b.2.2.2.2.2.2.1) rfl (by decide) wd1347 inX11 rfl).to, ?_⟩
  refine List.forall_mem_cons.mpr ⟨(s_aloadn (am_dp pw_X11_isCell_0 dd_X11_isCell_0b.2.2.2.2.2.2.2) rfl).to, ?_⟩
  refine List.forall_mem_cons.mpr ⟨(s_get (ci := 11) (k := 12) (am_dp pw_X11_isCell_0 dd_X11_isCell_0c.1) rfl (by decide) wd1345 inX11 rfl).to, ?_⟩
  refine List.forall_mem_cons.mpr ⟨(s_iald (am_dp pw_X11_isCell_0 dd_X11_isCell_0c.2.1)).to, ?_⟩
  refine List.forall_mem_cons.mpr ⟨(s_iconst (am_dp pw_X11_isCell_0 dd_X11_isCell_0c.2.2.1) (by decide)).to, ?_⟩
  refine List.forall_mem_cons.mpr ⟨(s_isub (am_dp pw_X11_isCell_0 dd_X11_isCell_0c.2.2.2)).to, ?_⟩
  refine List.forall_mem_cons.mpr ⟨zw_cs167 (am_dp pw_X11_isCell_32 dd_X11_isCell_32a.1) wd1630, ?_⟩
  refine List.forall_mem_cons.mpr ⟨(s_if_eq (am_dp pw_X11_isCell_32 dd_X11_isCell_32a.2.1) (by decide)).to, ?_⟩
  refine List.forall_mem_cons.mpr ⟨(s_iconst (am_dp pw_X11_isCell_32 dd_X11_isCell_32a.2.2.1) (by decide)).to, ?_⟩
  refine List.forall_mem_cons.mpr ⟨(s_goto (am_dp pw_X11_isCell_32 dd_X11_isCell_32a.2.2.2.1) (by decide)).to, ?_⟩
  refine List.forall_mem_cons.mpr ⟨(s_iconst (am_dp pw_X11_isCell_32 dd_X11_isCell_32a.2.2.2.2.1) (by decide)).to, ?_⟩
  refine List.forall_mem_cons.mpr ⟨s_zret (am_dp pw_X11_isCell_32 dd_X11_isCell_32a.2.2.2.2.2) rfl, ?_⟩
  exact fun _ h => absurd h List.not_mem_nil
theorem sn_tX11_at : ∀ q ∈ tX11_at, am_Snd am_P0 RX11 cX11_at 3 (Option.some FieldType.int) "at" q.1 q.2 := by
  unfold tX11_at
  refine List.forall_mem_cons.mpr ⟨(s_aloadn (am_dp pw_X11_at_0 dd_X11_at_0a.1) rfl).to, ?_⟩
  refine List.forall_mem_cons.mpr ⟨(s_get (ci := 11) (k := 13) (am_dp pw_X11_at_0 dd_X11_at_0a.2.1) rfl (by decide) wd1346 inX11 rfl).to, ?_⟩
  refine List.forall_mem_cons.mpr ⟨(s_aloadn (am_dp pw_X11_at_0 dd_X11_at_0a.2.2.1) rfl).to, ?_⟩
  refine List.forall_mem_cons.mpr ⟨(s_get (ci := 11) (k := 12) (am_dp pw_X11_at_0 dd_X11_at_0a.2.2.2.1) rfl (by decide) wd1345 inX11 rfl).to, ?_⟩
  refine List.forall_mem_cons.mpr ⟨(s_iald (am_dp pw_X11_at_0 dd_X11_at_0a.2.2.2.2.1)).to, ?_⟩
  refine List.forall_mem_cons.mpr ⟨(s_iloadn (am_dp pw_X11_at_0 dd_X11_at_0a.2.2.2.2.2.1) rfl).to, ?_⟩
  refine List.forall_mem_cons.mpr ⟨(s_imul (am_dp pw_X11_at_0 dd_X11_at_0a.2.2.2.2.2.2.1)).to, ?_⟩
  refine List.forall_mem_cons.mpr ⟨(s_iloadn (am_dp pw_X11_at_0 dd_X11_at_0a.2.2.2.2.2.2.2) rfl).to, ?_⟩
  refine List.forall_mem_cons.mpr ⟨(s_iadd (am_dp pw_X11_at_0 dd_X11_at_0b.1)).to, ?_⟩
  refine List.forall_mem_cons.mpr ⟨s_iret (am_dp pw_X11_at_0 dd_X11_at_0b.2) rfl, ?_⟩
  exact fun _ h => absurd h List.not_mem_nil
theorem sn_tX11_isHour : ∀ q ∈ tX11_isHour, am_Snd am_P0 RX11 cX11_isHour 1 (Option.some FieldType.boolean) "isHour" q.1 q.2 := by
  unfold tX11_isHour
  refine List.forall_mem_cons.mpr ⟨(s_iloadn (am_dp pw_X11_isHour_0 dd_X11_isHour_0a.1) rfl).to, ?_⟩
  refine List.forall_mem_cons.mpr ⟨(s_iconst (am_dp pw_X11_isHour_0 dd_X11_isHour_0a.2.1) (by decide)).to, ?_⟩
  refine List.forall_mem_cons.mpr ⟨(s_bipush (am_dp pw_X11_isHour_0 dd_X11_isHour_0a.2.2.1) (by decide)).to, ?_⟩
  refine List.forall_mem_cons.mpr ⟨zw_cs167 (am_dp pw_X11_isHour_0 dd_X11_isHour_0a.2.2.2.1) wd1630, ?_⟩
  refine List.forall_mem_cons.mpr ⟨s_zret (am_dp pw_X11_isHour_0 dd_X11_isHour_0a.2.2.2.2) rfl, ?_⟩
  exact fun _ h => absurd h List.not_mem_nil
theorem sn_tX11_isShip : ∀ q ∈ tX11_isShip, am_Snd am_P0 RX11 cX11_isShip 2 (Option.some FieldType.boolean) "isShip" q.1 q.2 := by
  unfold tX11_isShip
  refine List.forall_mem_cons.mpr ⟨(s_iloadn (am_dp pw_X11_isShip_0 dd_X11_isShip_0a.1) rfl).to, ?_⟩
  refine List.forall_mem_cons.mpr ⟨(s_iconst (am_dp pw_X11_isShip_0 dd_X11_isShip_0a.2.1) (by decide)).to, ?_⟩
  refine List.forall_mem_cons.mpr ⟨(s_aloadn (am_dp pw_X11_isShip_0 dd_X11_isShip_0a.2.2.1) rfl).to, ?_⟩
  refine List.forall_mem_cons.mpr ⟨(s_get (ci := 11) (k := 19) (am_dp pw_X11_isShip_0 dd_X11_isShip_0a.2.2.2.1) rfl (by decide) wd1352 inX11 rfl).to, ?_⟩
  refine List.forall_mem_cons.mpr ⟨(s_aloadn (am_dp pw_X11_isShip_0 dd_X11_isShip_0a.2.2.2.2.1) rfl).to, ?_⟩
  refine List.forall_mem_cons.mpr ⟨(s_get (ci := 11) (k := 12) (am_dp pw_X11_isShip_0 dd_X11_isShip_0a.2.2.2.2.2.1) rfl (by decide) wd1345 inX11 rfl).to, ?_⟩
  refine List.forall_mem_cons.mpr ⟨(s_iald (am_dp pw_X11_isShip_0 dd_X11_isShip_0a.2.2.2.2.2.2.1)).to, ?_⟩
  refine List.forall_mem_cons.mpr ⟨(s_iconst (am_dp pw_X11_isShip_0 dd_X11_isShip_0a.2.2.2.2.2.2.2) (by decide)).to, ?_⟩
  refine List.forall_mem_cons.mpr ⟨(s_isub (am_dp pw_X11_isShip_0 dd_X11_isShip_0b.1)).to, ?_⟩
  refine List.forall_mem_cons.mpr ⟨zw_cs167 (am_dp pw_X11_isShip_0 dd_X11_isShip_0b.2.1) wd1630, ?_⟩
  refine List.forall_mem_cons.mpr ⟨s_zret (am_dp pw_X11_isShip_0 dd_X11_isShip_0b.2.2) rfl, ?_⟩
  exact fun _ h => absurd h List.not_mem_nil
theorem sn_tX11_ruleOf_0 : ∀ q ∈ tX11_ruleOf_0, am_Snd am_P0 RX11 cX11_ruleOf 7 (Option.some FieldType.int) "ruleOf" q.1 q.2 := by
  unfold tX11_ruleOf_0
  refine List.forall_mem_cons.mpr ⟨(s_aloadn (am_dp pw_X11_ruleOf_0 dd_X11_ruleOf_0a.1) rfl).to, ?_⟩
  refine List.forall_mem_cons.mpr ⟨(s_get (ci := 11) (k := 54) (am_dp pw_X11_ruleOf_0 dd_X11_ruleOf_0a.2.1) rfl (by decide) wd1387 inX11 rfl).to, ?_⟩
  refine List.forall_mem_cons.mpr ⟨(s_iconst (am_dp pw_X11_ruleOf_0 dd_X11_ruleOf_0a.2.2.1) (by decide)).to, ?_⟩
  refine List.forall_mem_cons.mpr ⟨(s_aloadn (am_dp pw_X11_ruleOf_0 dd_X11_ruleOf_0a.2.2.2.1) rfl).to, ?_⟩
  refine List.forall_mem_cons.mpr ⟨(s_iloadn (am_dp pw_X11_ruleOf_0 dd_X11_ruleOf_0a.2.2.2.2.1) rfl).to, ?_⟩
  refine List.forall_mem_cons.mpr ⟨zw_cv215 (am_dp pw_X11_ruleOf_0 dd_X11_ruleOf_0a.2.2.2.2.2.1) wd1783, ?_⟩
  refine List.forall_mem_cons.mpr ⟨(s_iast (am_dp pw_X11_ruleOf_0 dd_X11_ruleOf_0a.2.2.2.2.2.2.1)).to, ?_⟩
  refine List.forall_mem_cons.mpr ⟨(s_aloadn (am_dp pw_X11_ruleOf_0 dd_X11_ruleOf_0a.2.2.2.2.2.2.2) rfl).to, ?_⟩
  refine List.forall_mem_cons.mpr ⟨(s_get (ci := 11) (k := 54) (am_dp pw_X11_ruleOf_0 dd_X11_ruleOf_0b.1) rfl (by decide) wd1387 inX11 rfl).to, ?_⟩
  refine List.forall_mem_cons.mpr ⟨(s_iconst (am_dp pw_X11_ruleOf_0 dd_X11_ruleOf_0b.2.1) (by decide)).to, ?_⟩
  refine List.forall_mem_cons.mpr ⟨(s_aloadn (am_dp pw_X11_ruleOf_0 dd_X11_ruleOf_0b.2.2.1) rfl).to, ?_⟩
  refine List.forall_mem_cons.mpr ⟨(s_iloadn (am_dp pw_X11_ruleOf_0 dd_X11_ruleOf_0b.2.2.2.1) rfl).to, ?_⟩
  refine List.forall_mem_cons.mpr ⟨zw_cv216 (am_dp pw_X11_ruleOf_0 dd_X11_ruleOf_0b.2.2.2.2.1) wd1787, ?_⟩
  refine List.forall_mem_cons.mpr ⟨(s_iast (am_dp pw_X11_ruleOf_0 dd_X11_ruleOf_0b.2.2.2.2.2.1)).to, ?_⟩
  refine List.forall_mem_cons.mpr ⟨(s_aloadn (am_dp pw_X11_ruleOf_0 dd_X11_ruleOf_0b.2.2.2.2.2.2.1) rfl).to, ?_⟩
  refine List.forall_mem_cons.mpr ⟨(s_get (ci := 11) (k := 54) (am_dp pw_X11_ruleOf_0 dd_X11_ruleOf_0b.2.2.2.2.2.2.2) rfl (by decide) wd1387 inX11 rfl).to, ?_⟩
  refine List.forall_mem_cons.mpr ⟨(s_iconst (am_dp pw_X11_ruleOf_0 dd_X11_ruleOf_0c.1) (by decide)).to, ?_⟩
  refine List.forall_mem_cons.mpr ⟨(s_iloadn (am_dp pw_X11_ruleOf_0 dd_X11_ruleOf_0c.2.1) rfl).to, ?_⟩
  refine List.forall_mem_cons.mpr ⟨(s_iast (am_dp pw_X11_ruleOf_0 dd_X11_ruleOf_0c.2.2.1)).to, ?_⟩
  refine List.forall_mem_cons.mpr ⟨(s_aloadn (am_dp pw_X11_ruleOf_0 dd_X11_ruleOf_0c.2.2.2.1) rfl).to, ?_⟩
  refine List.forall_mem_cons.mpr ⟨(s_get (ci := 11) (k := 54) (am_dp pw_X11_ruleOf_0 dd_X11_ruleOf_0c.2.2.2.2) rfl (by decide) wd1387 inX11 rfl).to, ?_⟩
  refine List.forall_mem_cons.mpr ⟨(s_iconst (am_dp pw_X11_ruleOf_32 dd_X11_ruleOf_32a.1) (by decide)).to, ?_⟩
  refine List.forall_mem_cons.mpr ⟨(s_iload (am_dp pw_X11_ruleOf_32 dd_X11_ruleOf_32a.2.1)).to, ?_⟩
  refine List.forall_mem_cons.mpr ⟨(s_iast (am_dp pw_X11_ruleOf_32 dd_X11_ruleOf_32a.2.2.1)).to, ?_⟩
  refine List.forall_mem_cons.mpr ⟨(s_bipush (am_dp pw_X11_ruleOf_32 dd_X11_ruleOf_32a.2.2.2.1) (by decide)).to, ?_⟩
  refine List.forall_mem_cons.mpr ⟨(s_aloadn (am_dp pw_X11_ruleOf_32 dd_X11_ruleOf_32a.2.2.2.2.1) rfl).to, ?_⟩
  refine List.forall_mem_cons.mpr ⟨(s_get (ci := 11) (k := 12) (am_dp pw_X11_ruleOf_32 dd_X11_ruleOf_32a.2.2.2.2.2.1) rfl (by decide) wd1345 inX11 rfl).to, ?_⟩
  refine List.forall_mem_cons.mpr ⟨(s_imul (am_dp pw_X11_ruleOf_32 dd_X11_ruleOf_32a.2.2.2.2.2.2.1)).to, ?_⟩
  refine List.forall_mem_cons.mpr ⟨(s_iloadn (am_dp pw_X11_ruleOf_32 dd_X11_ruleOf_32a.2.2.2.2.2.2.2) rfl).to, ?_⟩
  refine List.forall_mem_cons.mpr ⟨zw_cs179 (am_dp pw_X11_ruleOf_32 dd_X11_ruleOf_32b.1) wd1657, ?_⟩
  refine List.forall_mem_cons.mpr ⟨(s_iadd (am_dp pw_X11_ruleOf_32 dd_X11_ruleOf_32b.2.1)).to, ?_⟩
  refine List.forall_mem_cons.mpr ⟨(s_istore (am_dp pw_X11_ruleOf_32 dd_X11_ruleOf_32b.2.2.1) (by decide)).to, ?_⟩
  refine List.forall_mem_cons.mpr ⟨(s_iload (am_dp pw_X11_ruleOf_32 dd_X11_ruleOf_32b.2.2.2.1)).to, ?_⟩
  refine List.forall_mem_cons.mpr ⟨(s_istore (am_dp pw_X11_ruleOf_32 dd_X11_ruleOf_32b.2.2.2.2.1) (by decide)).to, ?_⟩
  refine List.forall_mem_cons.mpr ⟨(s_iload (am_dp pw_X11_ruleOf_32 dd_X11_ruleOf_32b.2.2.2.2.2.1)).to, ?_⟩
  refine List.forall_mem_cons.mpr ⟨(s_iload (am_dp pw_X11_ruleOf_32 dd_X11_ruleOf_32b.2.2.2.2.2.2.1)).to, ?_⟩
  refine List.forall_mem_cons.mpr ⟨(s_aloadn (am_dp pw_X11_ruleOf_32 dd_X11_ruleOf_32b.2.2.2.2.2.2.2) rfl).to, ?_⟩
  refine List.forall_mem_cons.mpr ⟨(s_get (ci := 11) (k := 15) (am_dp pw_X11_ruleOf_32 dd_X11_ruleOf_32c.1) rfl (by decide) wd1348 inX11 rfl).to, ?_⟩
  refine List.forall_mem_cons.mpr ⟨(s_iconst (am_dp pw_X11_ruleOf_32 dd_X11_ruleOf_32c.2) (by decide)).to, ?_⟩
  refine List.forall_mem_cons.mpr ⟨(s_aloadn (am_dp pw_X11_ruleOf_64 dd_X11_ruleOf_64a.1) rfl).to, ?_⟩
  refine List.forall_mem_cons.mpr ⟨(s_get (ci := 11) (k := 12) (am_dp pw_X11_ruleOf_64 dd_X11_ruleOf_64a.2.1) rfl (by decide) wd1345 inX11 rfl).to, ?_⟩
  refine List.forall_mem_cons.mpr ⟨(s_imul (am_dp pw_X11_ruleOf_64 dd_X11_ruleOf_64a.2.2.1)).to, ?_⟩
  refine List.forall_mem_cons.mpr ⟨(s_iloadn (am_dp pw_X11_ruleOf_64 dd_X11_ruleOf_64a.2.2.2.1) rfl).to, ?_⟩
  refine List.forall_mem_cons.mpr ⟨(s_iadd (am_dp pw_X11_ruleOf_64 dd_X11_ruleOf_64a.2.2.2.2.1)).to, ?_⟩
  refine List.forall_mem_cons.mpr ⟨(s_iald (am_dp pw_X11_ruleOf_64 dd_X11_ruleOf_64a.2.2.2.2.2.1)).to, ?_⟩
  refine List.forall_mem_cons.mpr ⟨(s_iadd (am_dp pw_X11_ruleOf_64 dd_X11_ruleOf_64a.2.2.2.2.2.2.1)).to, ?_⟩
  refine List.forall_mem_cons.mpr ⟨(s_icmp_ge (am_dp pw_X11_ruleOf_64 dd_X11_ruleOf_64a.2.2.2.2.2.2.2) (by decide)).to, ?_⟩
  refine List.forall_mem_cons.mpr ⟨(s_aloadn (am_dp pw_X11_ruleOf_64 dd_X11_ruleOf_64b.1) rfl).to, ?_⟩
  refine List.forall_mem_cons.mpr ⟨(s_aloadn (am_dp pw_X11_ruleOf_64 dd_X11_ruleOf_64b.2.1) rfl).to, ?_⟩
  refine List.forall_mem_cons.mpr ⟨(s_get (ci := 11) (k := 17) (am_dp pw_X11_ruleOf_64 dd_X11_ruleOf_64b.2.2.1) rfl (by decide) wd1350 inX11 rfl).to, ?_⟩
  refine List.forall_mem_cons.mpr ⟨(s_iload (am_dp pw_X11_ruleOf_64 dd_X11_ruleOf_64b.2.2.2.1)).to, ?_⟩
  refine List.forall_mem_cons.mpr ⟨(s_iald (am_dp pw_X11_ruleOf_64 dd_X11_ruleOf_64b.2.2.2.2.1)).to, ?_⟩
  refine List.forall_mem_cons.mpr ⟨(s_aloadn (am_dp pw_X11_ruleOf_64 dd_X11_ruleOf_64b.2.2.2.2.2.1) rfl).to, ?_⟩
  refine List.forall_mem_cons.mpr ⟨(s_get (ci := 11) (k := 18) (am_dp pw_X11_ruleOf_64 dd_X11_ruleOf_64b.2.2.2.2.2.2.1) rfl (by decide) wd1351 inX11 rfl).to, ?_⟩
  refine List.forall_mem_cons.mpr ⟨(s_iload (am_dp pw_X11_ruleOf_64 dd_X11_ruleOf_64b.2.2.2.2.2.2.2)).to, ?_⟩
  refine List.forall_mem_cons.mpr ⟨(s_iald (am_dp pw_X11_ruleOf_64 dd_X11_ruleOf_64c.1)).to, ?_⟩
  refine List.forall_mem_cons.mpr ⟨zw_cv213 (am_dp pw_X11_ruleOf_64 dd_X11_ruleOf_64c.2.1) wd1791, ?_⟩
  refine List.forall_mem_cons.mpr ⟨(s_lconst (am_dp pw_X11_ruleOf_64 dd_X11_ruleOf_64c.2.2.1) (by decide)).to, ?_⟩
  refine List.forall_mem_cons.mpr ⟨(s_lcmp (am_dp pw_X11_ruleOf_64 dd_X11_ruleOf_64c.2.2.2)).to, ?_⟩
  refine List.forall_mem_cons.mpr ⟨(s_if_ne (am_dp pw_X11_ruleOf_96 dd_X11_ruleOf_96a.1) (by decide)).to, ?_⟩
  exact fun _ h => absurd h List.not_mem_nil
theorem sn_tX11_ruleOf_1 : ∀ q ∈ tX11_ruleOf_1, am_Snd am_P0 RX11 cX11_ruleOf 7 (Option.some FieldType.int) "ruleOf" q.1 q.2 := by
  unfold tX11_ruleOf_1
  refine List.forall_mem_cons.mpr ⟨(s_iload (am_dp pw_X11_ruleOf_96 dd_X11_ruleOf_96a.2.1)).to, ?_⟩
  refine List.forall_mem_cons.mpr ⟨s_iret (am_dp pw_X11_ruleOf_96 dd_X11_ruleOf_96a.2.2.1) rfl, ?_⟩
  refine List.forall_mem_cons.mpr ⟨(s_iinc (am_dp pw_X11_ruleOf_96 dd_X11_ruleOf_96a.2.2.2.1) (by decide) (by decide)).to, ?_⟩
  refine List.forall_mem_cons.mpr ⟨(s_goto (am_dp pw_X11_ruleOf_96 dd_X11_ruleOf_96a.2.2.2.2.1) (by decide)).to, ?_⟩
  refine List.forall_mem_cons.mpr ⟨(s_iconst (am_dp pw_X11_ruleOf_96 dd_X11_ruleOf_96a.2.2.2.2.2.1) (by decide)).to, ?_⟩
  refine List.forall_mem_cons.mpr ⟨s_iret (am_dp pw_X11_ruleOf_96 dd_X11_ruleOf_96a.2.2.2.2.2.2) rfl, ?_⟩
  exact fun _ h => absurd h List.not_mem_nil
theorem sn_tX11_ruleOf : ∀ q ∈ tX11_ruleOf, am_Snd am_P0 RX11 cX11_ruleOf 7 (Option.some FieldType.int) "ruleOf" q.1 q.2 := by
  unfold tX11_ruleOf
  exact List.forall_mem_append.mpr ⟨sn_tX11_ruleOf_0, sn_tX11_ruleOf_1⟩
theorem sn_tX11_sumOf : ∀ q ∈ tX11_sumOf, am_Snd am_P0 RX11 cX11_sumOf 7 (Option.some FieldType.int) "sumOf" q.1 q.2 := by
  unfold tX11_sumOf
  refine List.forall_mem_cons.mpr ⟨(s_aloadn (am_dp pw_X11_sumOf_0 dd_X11_sumOf_0a.1) rfl).to, ?_⟩
  refine List.forall_mem_cons.mpr ⟨(s_iloadn (am_dp pw_X11_sumOf_0 dd_X11_sumOf_0a.2.1) rfl).to, ?_⟩
  refine List.forall_mem_cons.mpr ⟨(s_iloadn (am_dp pw_X11_sumOf_0 dd_X11_sumOf_0a.2.2.1) rfl).to, ?_⟩
  refine List.forall_mem_cons.mpr ⟨(s_iconst (am_dp pw_X11_sumOf_0 dd_X11_sumOf_0a.2.2.2.1) (by decide)).to, ?_⟩
  refine List.forall_mem_cons.mpr ⟨(s_iloadn (am_dp pw_X11_sumOf_0 dd_X11_sumOf_0a.2.2.2.2.1) rfl).to, ?_⟩
  refine List.forall_mem_cons.mpr ⟨zw_cv221 (am_dp pw_X11_sumOf_0 dd_X11_sumOf_0a.2.2.2.2.2.1) wd1779, ?_⟩
  refine List.forall_mem_cons.mpr ⟨(s_istore (am_dp pw_X11_sumOf_0 dd_X11_sumOf_0a.2.2.2.2.2.2.1) (by decide)).to, ?_⟩
  refine List.forall_mem_cons.mpr ⟨(s_iload (am_dp pw_X11_sumOf_0 dd_X11_sumOf_0a.2.2.2.2.2.2.2)).to, ?_⟩
  refine List.forall_mem_cons.mpr ⟨(s_iconst (am_dp pw_X11_sumOf_0 dd_X11_sumOf_0b.1) (by decide)).to, ?_⟩
  refine List.forall_mem_cons.mpr ⟨(s_icmp_ne (am_dp pw_X11_sumOf_0 dd_X11_sumOf_0b.2.1) (by decide)).to, ?_⟩
  refine List.forall_mem_cons.mpr ⟨(s_lconst (am_dp pw_X11_sumOf_0 dd_X11_sumOf_0b.2.2.1) (by decide)).to, ?_⟩
  refine List.forall_mem_cons.mpr ⟨(s_goto (am_dp pw_X11_sumOf_0 dd_X11_sumOf_0b.2.2.2.1) (by decide)).to, ?_⟩
  refine List.forall_mem_cons.mpr ⟨(s_aloadn (am_dp pw_X11_sumOf_0 dd_X11_sumOf_0b.2.2.2.2.1) rfl).to, ?_⟩
  refine List.forall_mem_cons.mpr ⟨(s_aloadn (am_dp pw_X11_sumOf_0 dd_X11_sumOf_0b.2.2.2.2.2.1) rfl).to, ?_⟩
  refine List.forall_mem_cons.mpr ⟨(s_get (ci := 11) (k := 16) (am_dp pw_X11_sumOf_0 dd_X11_sumOf_0b.2.2.2.2.2.2.1) rfl (by decide) wd1349 inX11 rfl).to, ?_⟩
  refine List.forall_mem_cons.mpr ⟨(s_iload (am_dp pw_X11_sumOf_0 dd_X11_sumOf_0b.2.2.2.2.2.2.2)).to, ?_⟩
  refine List.forall_mem_cons.mpr ⟨(s_iald (am_dp pw_X11_sumOf_0 dd_X11_sumOf_0c.1)).to, ?_⟩
  refine List.forall_mem_cons.mpr ⟨(s_aloadn (am_dp pw_X11_sumOf_0 dd_X11_sumOf_0c.2.1) rfl).to, ?_⟩
  refine List.forall_mem_cons.mpr ⟨(s_get (ci := 11) (k := 17) (am_dp pw_X11_sumOf_0 dd_X11_sumOf_0c.2.2) rfl (by decide) wd1350 inX11 rfl).to, ?_⟩
  refine List.forall_mem_cons.mpr ⟨(s_iload (am_dp pw_X11_sumOf_32 dd_X11_sumOf_32a.1)).to, ?_⟩
  refine List.forall_mem_cons.mpr ⟨(s_iald (am_dp pw_X11_sumOf_32 dd_X11_sumOf_32a.2.1)).to, ?_⟩
  refine List.forall_mem_cons.mpr ⟨zw_cv213 (am_dp pw_X11_sumOf_32 dd_X11_sumOf_32a.2.2.1) wd1791, ?_⟩
  refine List.forall_mem_cons.mpr ⟨(s_lstore (am_dp pw_X11_sumOf_32 dd_X11_sumOf_32a.2.2.2.1) (by decide)).to, ?_⟩
  refine List.forall_mem_cons.mpr ⟨(s_lload (am_dp pw_X11_sumOf_32 dd_X11_sumOf_32a.2.2.2.2.1)).to, ?_⟩
  refine List.forall_mem_cons.mpr ⟨(s_lconst (am_dp pw_X11_sumOf_32 dd_X11_sumOf_32a.2.2.2.2.2.1) (by decide)).to, ?_⟩
  refine List.forall_mem_cons.mpr ⟨(s_lcmp (am_dp pw_X11_sumOf_32 dd_X11_sumOf_32a.2.2.2.2.2.2.1)).to, ?_⟩
  refine List.forall_mem_cons.mpr ⟨(s_if_ge (am_dp pw_X11_sumOf_32 dd_X11_sumOf_32a.2.2.2.2.2.2.2) (by decide)).to, ?_⟩
  refine List.forall_mem_cons.mpr ⟨(s_iconst (am_dp pw_X11_sumOf_32 dd_X11_sumOf_32b.1) (by decide)).to, ?_⟩
  refine List.forall_mem_cons.mpr ⟨(s_goto (am_dp pw_X11_sumOf_32 dd_X11_sumOf_32b.2.1) (by decide)).to, ?_⟩
  refine List.forall_mem_cons.mpr ⟨(s_lload (am_dp pw_X11_sumOf_32 dd_X11_sumOf_32b.2.2.1)).to, ?_⟩
  refine List.forall_mem_cons.mpr ⟨(s_ldc2 (am_dp pw_X11_sumOf_32 dd_X11_sumOf_32b.2.2.2.1) wd1806).to, ?_⟩
  refine List.forall_mem_cons.mpr ⟨(s_lcmp (am_dp pw_X11_sumOf_32 dd_X11_sumOf_32b.2.2.2.2.1)).to, ?_⟩
  refine List.forall_mem_cons.mpr ⟨(s_if_le (am_dp pw_X11_sumOf_32 dd_X11_sumOf_32b.2.2.2.2.2.1) (by decide)).to, ?_⟩
  refine List.forall_mem_cons.mpr ⟨(s_bipush (am_dp pw_X11_sumOf_32 dd_X11_sumOf_32b.2.2.2.2.2.2.1) (by decide)).to, ?_⟩
  refine List.forall_mem_cons.mpr ⟨(s_goto (am_dp pw_X11_sumOf_32 dd_X11_sumOf_32b.2.2.2.2.2.2.2) (by decide)).to, ?_⟩
  refine List.forall_mem_cons.mpr ⟨(s_lload (am_dp pw_X11_sumOf_64 dd_X11_sumOf_64a.1)).to, ?_⟩
  refine List.forall_mem_cons.mpr ⟨(s_l2i (am_dp pw_X11_sumOf_64 dd_X11_sumOf_64a.2.1)).to, ?_⟩
  refine List.forall_mem_cons.mpr ⟨s_iret (am_dp pw_X11_sumOf_64 dd_X11_sumOf_64a.2.2) rfl, ?_⟩
  exact fun _ h => absurd h List.not_mem_nil
theorem sn_tX11_lays : ∀ q ∈ tX11_lays, am_Snd am_P0 RX11 cX11_lays 2 (Option.none : Option FieldType) "lays" q.1 q.2 := by
  unfold tX11_lays
  refine List.forall_mem_cons.mpr ⟨(s_iconst (am_dp pw_X11_lays_0 dd_X11_lays_0a.1) (by decide)).to, ?_⟩
  refine List.forall_mem_cons.mpr ⟨(s_istoren (am_dp pw_X11_lays_0 dd_X11_lays_0a.2.1) rfl (by decide)).to, ?_⟩
  refine List.forall_mem_cons.mpr ⟨(s_iloadn (am_dp pw_X11_lays_0 dd_X11_lays_0a.2.2.1) rfl).to, ?_⟩
  refine List.forall_mem_cons.mpr ⟨(s_aloadn (am_dp pw_X11_lays_0 dd_X11_lays_0a.2.2.2.1) rfl).to, ?_⟩
  refine List.forall_mem_cons.mpr ⟨zw_cv214 (am_dp pw_X11_lays_0 dd_X11_lays_0a.2.2.2.2.1) wd1771, ?_⟩
  refine List.forall_mem_cons.mpr ⟨(s_icmp_ge (am_dp pw_X11_lays_0 dd_X11_lays_0a.2.2.2.2.2.1) (by decide)).to, ?_⟩
  refine List.forall_mem_cons.mpr ⟨(s_aloadn (am_dp pw_X11_lays_0 dd_X11_lays_0a.2.2.2.2.2.2.1) rfl).to, ?_⟩
  refine List.forall_mem_cons.mpr ⟨(s_get (ci := 11) (k := 55) (am_dp pw_X11_lays_0 dd_X11_lays_0a.2.2.2.2.2.2.2) rfl (by decide) wd1388 inX11 rfl).to, ?_⟩
  refine List.forall_mem_cons.mpr ⟨(s_iloadn (am_dp pw_X11_lays_0 dd_X11_lays_0b.1) rfl).to, ?_⟩
  refine List.forall_mem_cons.mpr ⟨(s_aloadn (am_dp pw_X11_lays_0 dd_X11_lays_0b.2.1) rfl).to, ?_⟩
  refine List.forall_mem_cons.mpr ⟨(s_iconst (am_dp pw_X11_lays_0 dd_X11_lays_0b.2.2.1) (by decide)).to, ?_⟩
  refine List.forall_mem_cons.mpr ⟨(s_iloadn (am_dp pw_X11_lays_0 dd_X11_lays_0b.2.2.2.1) rfl).to, ?_⟩
  refine List.forall_mem_cons.mpr ⟨(s_iconst (am_dp pw_X11_lays_0 dd_X11_lays_0b.2.2.2.2.1) (by decide)).to, ?_⟩
  refine List.forall_mem_cons.mpr ⟨zw_cv222 (am_dp pw_X11_lays_0 dd_X11_lays_0b.2.2.2.2.2.1) wd1775, ?_⟩
  refine List.forall_mem_cons.mpr ⟨(s_iast (am_dp pw_X11_lays_0 dd_X11_lays_0b.2.2.2.2.2.2.1)).to, ?_⟩
  refine List.forall_mem_cons.mpr ⟨(s_aloadn (am_dp pw_X11_lays_0 dd_X11_lays_0b.2.2.2.2.2.2.2) rfl).to, ?_⟩
  refine List.forall_mem_cons.mpr ⟨(s_get (ci := 11) (k := 56) (am_dp pw_X11_lays_0 dd_X11_lays_0c.1) rfl (by decide) wd1389 inX11 rfl).to, ?_⟩
  refine List.forall_mem_cons.mpr ⟨(s_iloadn (am_dp pw_X11_lays_0 dd_X11_lays_0c.2.1) rfl).to, ?_⟩
  refine List.forall_mem_cons.mpr ⟨(s_aloadn (am_dp pw_X11_lays_0 dd_X11_lays_0c.2.2.1) rfl).to, ?_⟩
  refine List.forall_mem_cons.mpr ⟨(s_iconst (am_dp pw_X11_lays_0 dd_X11_lays_0c.2.2.2.1) (by decide)).to, ?_⟩
  refine List.forall_mem_cons.mpr ⟨(s_iloadn (am_dp pw_X11_lays_0 dd_X11_lays_0c.2.2.2.2.1) rfl).to, ?_⟩
  refine List.forall_mem_cons.mpr ⟨(s_aloadn (am_dp pw_X11_lays_0 dd_X11_lays_0c.2.2.2.2.2) rfl).to, ?_⟩
  refine List.forall_mem_cons.mpr ⟨(s_get (ci := 11) (k := 55) (am_dp pw_X11_lays_32 dd_X11_lays_32a.1) rfl (by decide) wd1388 inX11 rfl).to, ?_⟩
  refine List.forall_mem_cons.mpr ⟨(s_iloadn (am_dp pw_X11_lays_32 dd_X11_lays_32a.2.1) rfl).to, ?_⟩
  refine List.forall_mem_cons.mpr ⟨(s_iald (am_dp pw_X11_lays_32 dd_X11_lays_32a.2.2.1)).to, ?_⟩
  refine List.forall_mem_cons.mpr ⟨zw_cv222 (am_dp pw_X11_lays_32 dd_X11_lays_32a.2.2.2.1) wd1775, ?_⟩
  refine List.forall_mem_cons.mpr ⟨(s_iast (am_dp pw_X11_lays_32 dd_X11_lays_32a.2.2.2.2.1)).to, ?_⟩
  refine List.forall_mem_cons.mpr ⟨(s_iinc (am_dp pw_X11_lays_32 dd_X11_lays_32a.2.2.2.2.2.1) (by decide) (by decide)).to, ?_⟩
  refine List.forall_mem_cons.mpr ⟨(s_goto (am_dp pw_X11_lays_32 dd_X11_lays_32a.2.2.2.2.2.2.1) (by decide)).to, ?_⟩
  refine List.forall_mem_cons.mpr ⟨s_vret (am_dp pw_X11_lays_32 dd_X11_lays_32a.2.2.2.2.2.2.2) rfl, ?_⟩
  exact fun _ h => absurd h List.not_mem_nil
theorem sn_tX11_isQuiet : ∀ q ∈ tX11_isQuiet, am_Snd am_P0 RX11 cX11_isQuiet 3 (Option.some FieldType.boolean) "isQuiet" q.1 q.2 := by
  unfold tX11_isQuiet
  refine List.forall_mem_cons.mpr ⟨(s_aloadn (am_dp pw_X11_isQuiet_0 dd_X11_isQuiet_0a.1) rfl).to, ?_⟩
  refine List.forall_mem_cons.mpr ⟨(s_iconst (am_dp pw_X11_isQuiet_0 dd_X11_isQuiet_0a.2.1) (by decide)).to, ?_⟩
  refine List.forall_mem_cons.mpr ⟨(s_iloadn (am_dp pw_X11_isQuiet_0 dd_X11_isQuiet_0a.2.2.1) rfl).to, ?_⟩
  refine List.forall_mem_cons.mpr ⟨(s_iloadn (am_dp pw_X11_isQuiet_0 dd_X11_isQuiet_0a.2.2.2.1) rfl).to, ?_⟩
  refine List.forall_mem_cons.mpr ⟨(s_aloadn (am_dp pw_X11_isQuiet_0 dd_X11_isQuiet_0a.2.2.2.2.1) rfl).to, ?_⟩
  refine List.forall_mem_cons.mpr ⟨(s_get (ci := 11) (k := 55) (am_dp pw_X11_isQuiet_0 dd_X11_isQuiet_0a.2.2.2.2.2.1) rfl (by decide) wd1388 inX11 rfl).to, ?_⟩
  refine List.forall_mem_cons.mpr ⟨(s_iloadn (am_dp pw_X11_isQuiet_0 dd_X11_isQuiet_0a.2.2.2.2.2.2.1) rfl).to, ?_⟩
  refine List.forall_mem_cons.mpr ⟨(s_iald (am_dp pw_X11_isQuiet_0 dd_X11_isQuiet_0a.2.2.2.2.2.2.2)).to, ?_⟩
  refine List.forall_mem_cons.mpr ⟨zw_cv221 (am_dp pw_X11_isQuiet_0 dd_X11_isQuiet_0b.1) wd1779, ?_⟩
  refine List.forall_mem_cons.mpr ⟨(s_iconst (am_dp pw_X11_isQuiet_0 dd_X11_isQuiet_0b.2.1) (by decide)).to, ?_⟩
  refine List.forall_mem_cons.mpr ⟨(s_icmp_eq (am_dp pw_X11_isQuiet_0 dd_X11_isQuiet_0b.2.2.1) (by decide)).to, ?_⟩
  refine List.forall_mem_cons.mpr ⟨(s_iconst (am_dp pw_X11_isQuiet_0 dd_X11_isQuiet_0b.2.2.2.1) (by decide)).to, ?_⟩
  refine List.forall_mem_cons.mpr ⟨(s_goto (am_dp pw_X11_isQuiet_0 dd_X11_isQuiet_0b.2.2.2.2.1) (by decide)).to, ?_⟩
  refine List.forall_mem_cons.mpr ⟨(s_iconst (am_dp pw_X11_isQuiet_0 dd_X11_isQuiet_0b.2.2.2.2.2.1) (by decide)).to, ?_⟩
  refine List.forall_mem_cons.mpr ⟨s_zret (am_dp pw_X11_isQuiet_0 dd_X11_isQuiet_0b.2.2.2.2.2.2) rfl, ?_⟩
  exact fun _ h => absurd h List.not_mem_nil
theorem sn_tX11_cell : ∀ q ∈ tX11_cell, am_Snd am_P0 RX11 cX11_cell 6 (Option.some FieldType.int) "cell" q.1 q.2 := by
  unfold tX11_cell
  refine List.forall_mem_cons.mpr ⟨(s_aloadn (am_dp pw_X11_cell_0 dd_X11_cell_0a.1) rfl).to, ?_⟩
  refine List.forall_mem_cons.mpr ⟨(s_iloadn (am_dp pw_X11_cell_0 dd_X11_cell_0a.2.1) rfl).to, ?_⟩
  refine List.forall_mem_cons.mpr ⟨(s_iloadn (am_dp pw_X11_cell_0 dd_X11_cell_0a.2.2.1) rfl).to, ?_⟩
  refine List.forall_mem_cons.mpr ⟨zw_cv217 (am_dp pw_X11_cell_0 dd_X11_cell_0a.2.2.2.1) wd1819, ?_⟩
  refine List.forall_mem_cons.mpr ⟨(s_if_eq (am_dp pw_X11_cell_0 dd_X11_cell_0a.2.2.2.2.1) (by decide)).to, ?_⟩
  refine List.forall_mem_cons.mpr ⟨(s_iloadn (am_dp pw_X11_cell_0 dd_X11_cell_0a.2.2.2.2.2.1) rfl).to, ?_⟩
  refine List.forall_mem_cons.mpr ⟨zw_cs219 (am_dp pw_X11_cell_0 dd_X11_cell_0a.2.2.2.2.2.2.1) wd1823, ?_⟩
  refine List.forall_mem_cons.mpr ⟨(s_if_ne (am_dp pw_X11_cell_0 dd_X11_cell_0a.2.2.2.2.2.2.2) (by decide)).to, ?_⟩
  refine List.forall_mem_cons.mpr ⟨(s_iconst (am_dp pw_X11_cell_0 dd_X11_cell_0b.1) (by decide)).to, ?_⟩
  refine List.forall_mem_cons.mpr ⟨s_iret (am_dp pw_X11_cell_0 dd_X11_cell_0b.2.1) rfl, ?_⟩
  refine List.forall_mem_cons.mpr ⟨(s_aloadn (am_dp pw_X11_cell_0 dd_X11_cell_0b.2.2.1) rfl).to, ?_⟩
  refine List.forall_mem_cons.mpr ⟨(s_iloadn (am_dp pw_X11_cell_0 dd_X11_cell_0b.2.2.2.1) rfl).to, ?_⟩
  refine List.forall_mem_cons.mpr ⟨(s_iloadn (am_dp pw_X11_cell_0 dd_X11_cell_0b.2.2.2.2.1) rfl).to, ?_⟩
  refine List.forall_mem_cons.mpr ⟨zw_cv218 (am_dp pw_X11_cell_0 dd_X11_cell_0b.2.2.2.2.2.1) wd1826, ?_⟩
  refine List.forall_mem_cons.mpr ⟨(s_istore (am_dp pw_X11_cell_0 dd_X11_cell_0b.2.2.2.2.2.2.1) (by decide)).to, ?_⟩
  refine List.forall_mem_cons.mpr ⟨(s_iload (am_dp pw_X11_cell_0 dd_X11_cell_0b.2.2.2.2.2.2.2)).to, ?_⟩
  refine List.forall_mem_cons.mpr ⟨(s_if_ne (am_dp pw_X11_cell_0 dd_X11_cell_0c.1) (by decide)).to, ?_⟩
  refine List.forall_mem_cons.mpr ⟨(s_aloadn (am_dp pw_X11_cell_0 dd_X11_cell_0c.2) rfl).to, ?_⟩
  refine List.forall_mem_cons.mpr ⟨(s_get (ci := 11) (k := 55) (am_dp pw_X11_cell_32 dd_X11_cell_32a.1) rfl (by decide) wd1388 inX11 rfl).to, ?_⟩
  refine List.forall_mem_cons.mpr ⟨(s_iload (am_dp pw_X11_cell_32 dd_X11_cell_32a.2.1)).to, ?_⟩
  refine List.forall_mem_cons.mpr ⟨(s_iald (am_dp pw_X11_cell_32 dd_X11_cell_32a.2.2.1)).to, ?_⟩
  refine List.forall_mem_cons.mpr ⟨(s_goto (am_dp pw_X11_cell_32 dd_X11_cell_32a.2.2.2.1) (by decide)).to, ?_⟩
  refine List.forall_mem_cons.mpr ⟨(s_iload (am_dp pw_X11_cell_32 dd_X11_cell_32a.2.2.2.2.1)).to, ?_⟩
  refine List.forall_mem_cons.mpr ⟨(s_iconst (am_dp pw_X11_cell_32 dd_X11_cell_32a.2.2.2.2.2.1) (by decide)).to, ?_⟩
  refine List.forall_mem_cons.mpr ⟨(s_icmp_ne (am_dp pw_X11_cell_32 dd_X11_cell_32a.2.2.2.2.2.2.1) (by decide)).to, ?_⟩
  refine List.forall_mem_cons.mpr ⟨(s_aloadn (am_dp pw_X11_cell_32 dd_X11_cell_32a.2.2.2.2.2.2.2) rfl).to, ?_⟩
  refine List.forall_mem_cons.mpr ⟨(s_get (ci := 11) (k := 56) (am_dp pw_X11_cell_32 dd_X11_cell_32b.1) rfl (by decide) wd1389 inX11 rfl).to, ?_⟩
  refine List.forall_mem_cons.mpr ⟨(s_iload (am_dp pw_X11_cell_32 dd_X11_cell_32b.2.1)).to, ?_⟩
  refine List.forall_mem_cons.mpr ⟨(s_iald (am_dp pw_X11_cell_32 dd_X11_cell_32b.2.2.1)).to, ?_⟩
  refine List.forall_mem_cons.mpr ⟨(s_goto (am_dp pw_X11_cell_32 dd_X11_cell_32b.2.2.2.1) (by decide)).to, ?_⟩
  refine List.forall_mem_cons.mpr ⟨(s_iload (am_dp pw_X11_cell_32 dd_X11_cell_32b.2.2.2.2.1)).to, ?_⟩
  refine List.forall_mem_cons.mpr ⟨(s_iconst (am_dp pw_X11_cell_32 dd_X11_cell_32b.2.2.2.2.2.1) (by decide)).to, ?_⟩
  refine List.forall_mem_cons.mpr ⟨(s_icmp_ne (am_dp pw_X11_cell_32 dd_X11_cell_32b.2.2.2.2.2.2.1) (by decide)).to, ?_⟩
  refine List.forall_mem_cons.mpr ⟨(s_aloadn (am_dp pw_X11_cell_32 dd_X11_cell_32b.2.2.2.2.2.2.2) rfl).to, ?_⟩
  refine List.forall_mem_cons.mpr ⟨(s_iload (am_dp pw_X11_cell_64 dd_X11_cell_64a.1)).to, ?_⟩
  refine List.forall_mem_cons.mpr ⟨(s_iloadn (am_dp pw_X11_cell_64 dd_X11_cell_64a.2.1) rfl).to, ?_⟩
  refine List.forall_mem_cons.mpr ⟨zw_cv224 (am_dp pw_X11_cell_64 dd_X11_cell_64a.2.2.1) wd1830, ?_⟩
  refine List.forall_mem_cons.mpr ⟨(s_if_eq (am_dp pw_X11_cell_64 dd_X11_cell_64a.2.2.2.1) (by decide)).to, ?_⟩
  refine List.forall_mem_cons.mpr ⟨(s_iconst (am_dp pw_X11_cell_64 dd_X11_cell_64a.2.2.2.2.1) (by decide)).to, ?_⟩
  refine List.forall_mem_cons.mpr ⟨(s_goto (am_dp pw_X11_cell_64 dd_X11_cell_64a.2.2.2.2.2.1) (by decide)).to, ?_⟩
  refine List.forall_mem_cons.mpr ⟨(s_iconst (am_dp pw_X11_cell_64 dd_X11_cell_64a.2.2.2.2.2.2.1) (by decide)).to, ?_⟩
  refine List.forall_mem_cons.mpr ⟨(s_goto (am_dp pw_X11_cell_64 dd_X11_cell_64a.2.2.2.2.2.2.2) (by decide)).to, ?_⟩
  refine List.forall_mem_cons.mpr ⟨(s_iconst (am_dp pw_X11_cell_64 dd_X11_cell_64b.1) (by decide)).to, ?_⟩
  refine List.forall_mem_cons.mpr ⟨s_iret (am_dp pw_X11_cell_64 dd_X11_cell_64b.2) rfl, ?_⟩
  exact fun _ h => absurd h List.not_mem_nil
theorem sn_tX11_said : ∀ q ∈ tX11_said, am_Snd am_P0 RX11 cX11_said 3 (Option.some FieldType.int) "said" q.1 q.2 := by
  unfold tX11_said
  refine List.forall_mem_cons.mpr ⟨(s_aloadn (am_dp pw_X11_said_0 dd_X11_said_0a.1) rfl).to, ?_⟩
  refine List.forall_mem_cons.mpr ⟨(s_get (ci := 11) (k := 26) (am_dp pw_X11_said_0 dd_X11_said_0a.2.1) rfl (by decide) wd1359 inX11 rfl).to, ?_⟩
  refine List.forall_mem_cons.mpr ⟨(s_sipush (am_dp pw_X11_said_0 dd_X11_said_0a.2.2.1) (by decide)).to, ?_⟩
  refine List.forall_mem_cons.mpr ⟨(s_aloadn (am_dp pw_X11_said_0 dd_X11_said_0a.2.2.2.1) rfl).to, ?_⟩
  refine List.forall_mem_cons.mpr ⟨(s_get (ci := 11) (k := 12) (am_dp pw_X11_said_0 dd_X11_said_0a.2.2.2.2.1) rfl (by decide) wd1345 inX11 rfl).to, ?_⟩
  refine List.forall_mem_cons.mpr ⟨(s_imul (am_dp pw_X11_said_0 dd_X11_said_0a.2.2.2.2.2.1)).to, ?_⟩
  refine List.forall_mem_cons.mpr ⟨(s_bipush (am_dp pw_X11_said_0 dd_X11_said_0a.2.2.2.2.2.2.1) (by decide)).to, ?_⟩
  refine List.forall_mem_cons.mpr ⟨(s_iloadn (am_dp pw_X11_said_0 dd_X11_said_0a.2.2.2.2.2.2.2) rfl).to, ?_⟩
  refine List.forall_mem_cons.mpr ⟨(s_imul (am_dp pw_X11_said_0 dd_X11_said_0b.1)).to, ?_⟩
  refine List.forall_mem_cons.mpr ⟨(s_iadd (am_dp pw_X11_said_0 dd_X11_said_0b.2.1)).to, ?_⟩
  refine List.forall_mem_cons.mpr ⟨(s_iloadn (am_dp pw_X11_said_0 dd_X11_said_0b.2.2.1) rfl).to, ?_⟩
  refine List.forall_mem_cons.mpr ⟨(s_iadd (am_dp pw_X11_said_0 dd_X11_said_0b.2.2.2.1)).to, ?_⟩
  refine List.forall_mem_cons.mpr ⟨(s_iald (am_dp pw_X11_said_0 dd_X11_said_0b.2.2.2.2.1)).to, ?_⟩
  refine List.forall_mem_cons.mpr ⟨s_iret (am_dp pw_X11_said_0 dd_X11_said_0b.2.2.2.2.2) rfl, ?_⟩
  exact fun _ h => absurd h List.not_mem_nil
theorem sn_tX11_laden : ∀ q ∈ tX11_laden, am_Snd am_P0 RX11 cX11_laden 3 (Option.some FieldType.boolean) "laden" q.1 q.2 := by
  unfold tX11_laden
  refine List.forall_mem_cons.mpr ⟨(s_aloadn (am_dp pw_X11_laden_0 dd_X11_laden_0a.1) rfl).to, ?_⟩
  refine List.forall_mem_cons.mpr ⟨(s_get (ci := 11) (k := 27) (am_dp pw_X11_laden_0 dd_X11_laden_0a.2.1) rfl (by decide) wd1360 inX11 rfl).to, ?_⟩
  refine List.forall_mem_cons.mpr ⟨(s_sipush (am_dp pw_X11_laden_0 dd_X11_laden_0a.2.2.1) (by decide)).to, ?_⟩
  refine List.forall_mem_cons.mpr ⟨(s_aloadn (am_dp pw_X11_laden_0 dd_X11_laden_0a.2.2.2.1) rfl).to, ?_⟩
  refine List.forall_mem_cons.mpr ⟨(s_get (ci := 11) (k := 12) (am_dp pw_X11_laden_0 dd_X11_laden_0a.2.2.2.2.1) rfl (by decide) wd1345 inX11 rfl).to, ?_⟩
  refine List.forall_mem_cons.mpr ⟨(s_imul (am_dp pw_X11_laden_0 dd_X11_laden_0a.2.2.2.2.2.1)).to, ?_⟩
  refine List.forall_mem_cons.mpr ⟨(s_bipush (am_dp pw_X11_laden_0 dd_X11_laden_0a.2.2.2.2.2.2.1) (by decide)).to, ?_⟩
  refine List.forall_mem_cons.mpr ⟨(s_iloadn (am_dp pw_X11_laden_0 dd_X11_laden_0a.2.2.2.2.2.2.2) rfl).to, ?_⟩
  refine List.forall_mem_cons.mpr ⟨(s_imul (am_dp pw_X11_laden_0 dd_X11_laden_0b.1)).to, ?_⟩
  refine List.forall_mem_cons.mpr ⟨(s_iadd (am_dp pw_X11_laden_0 dd_X11_laden_0b.2.1)).to, ?_⟩
  refine List.forall_mem_cons.mpr ⟨(s_iloadn (am_dp pw_X11_laden_0 dd_X11_laden_0b.2.2.1) rfl).to, ?_⟩
  refine List.forall_mem_cons.mpr ⟨(s_iadd (am_dp pw_X11_laden_0 dd_X11_laden_0b.2.2.2.1)).to, ?_⟩
  refine List.forall_mem_cons.mpr ⟨(s_zald (am_dp pw_X11_laden_0 dd_X11_laden_0b.2.2.2.2.1)).to, ?_⟩
  refine List.forall_mem_cons.mpr ⟨s_zret (am_dp pw_X11_laden_0 dd_X11_laden_0b.2.2.2.2.2) rfl, ?_⟩
  exact fun _ h => absurd h List.not_mem_nil
theorem sn_tX11_sayingsOf : ∀ q ∈ tX11_sayingsOf, am_Snd am_P0 RX11 cX11_sayingsOf 4 (Option.some FieldType.int) "sayingsOf" q.1 q.2 := by
  unfold tX11_sayingsOf
  refine List.forall_mem_cons.mpr ⟨(s_iconst (am_dp pw_X11_sayingsOf_0 dd_X11_sayingsOf_0a.1) (by decide)).to, ?_⟩
  refine List.forall_mem_cons.mpr ⟨(s_istoren (am_dp pw_X11_sayingsOf_0 dd_X11_sayingsOf_0a.2.1) rfl (by decide)).to, ?_⟩
  refine List.forall_mem_cons.mpr ⟨(s_iconst (am_dp pw_X11_sayingsOf_0 dd_X11_sayingsOf_0a.2.2.1) (by decide)).to, ?_⟩
  refine List.forall_mem_cons.mpr ⟨(s_istoren (am_dp pw_X11_sayingsOf_0 dd_X11_sayingsOf_0a.2.2.2.1) rfl (by decide)).to, ?_⟩
  refine List.forall_mem_cons.mpr ⟨(s_iloadn (am_dp pw_X11_sayingsOf_0 dd_X11_sayingsOf_0a.2.2.2.2.1) rfl).to, ?_⟩
  refine List.forall_mem_cons.mpr ⟨(s_bipush (am_dp pw_X11_sayingsOf_0 dd_X11_sayingsOf_0a.2.2.2.2.2.1) (by decide)).to, ?_⟩
  refine List.forall_mem_cons.mpr ⟨(s_icmp_ge (am_dp pw_X11_sayingsOf_0 dd_X11_sayingsOf_0a.2.2.2.2.2.2.1) (by decide)).to, ?_⟩
  refine List.forall_mem_cons.mpr ⟨(s_iloadn (am_dp pw_X11_sayingsOf_0 dd_X11_sayingsOf_0a.2.2.2.2.2.2.2) rfl).to, ?_⟩
  refine List.forall_mem_cons.mpr ⟨(s_aloadn (am_dp pw_X11_sayingsOf_0 dd_X11_sayingsOf_0b.1) rfl).to, ?_⟩
  refine List.forall_mem_cons.mpr ⟨(s_iloadn (am_dp pw_X11_sayingsOf_0 dd_X11_sayingsOf_0b.2.1) rfl).to, ?_⟩
  refine List.forall_mem_cons.mpr ⟨(s_iloadn (am_dp pw_X11_sayingsOf_0 dd_X11_sayingsOf_0b.2.2.1) rfl).to, ?_⟩
  refine List.forall_mem_cons.mpr ⟨zw_cv226 (am_dp pw_X11_sayingsOf_0 dd_X11_sayingsOf_0b.2.2.2.1) wd1842, ?_⟩
  refine List.forall_mem_cons.mpr ⟨(s_iconst (am_dp pw_X11_sayingsOf_0 dd_X11_sayingsOf_0b.2.2.2.2.1) (by decide)).to, ?_⟩
  refine List.forall_mem_cons.mpr ⟨(s_icmp_eq (am_dp pw_X11_sayingsOf_0 dd_X11_sayingsOf_0b.2.2.2.2.2.1) (by decide)).to, ?_⟩
  refine List.forall_mem_cons.mpr ⟨(s_iconst (am_dp pw_X11_sayingsOf_0 dd_X11_sayingsOf_0b.2.2.2.2.2.2.1) (by decide)).to, ?_⟩
  refine List.forall_mem_cons.mpr ⟨(s_goto (am_dp pw_X11_sayingsOf_0 dd_X11_sayingsOf_0b.2.2.2.2.2.2.2) (by decide)).to, ?_⟩
  refine List.forall_mem_cons.mpr ⟨(s_iconst (am_dp pw_X11_sayingsOf_0 dd_X11_sayingsOf_0c.1) (by decide)).to, ?_⟩
  refine List.forall_mem_cons.mpr ⟨(s_iadd (am_dp pw_X11_sayingsOf_0 dd_X11_sayingsOf_0c.2.1)).to, ?_⟩
  refine List.forall_mem_cons.mpr ⟨(s_istoren (am_dp pw_X11_sayingsOf_0 dd_X11_sayingsOf_0c.2.2.1) rfl (by decide)).to, ?_⟩
  refine List.forall_mem_cons.mpr ⟨(s_iinc (am_dp pw_X11_sayingsOf_0 dd_X11_sayingsOf_0c.2.2.2.1) (by decide) (by decide)).to, ?_⟩
  refine List.forall_mem_cons.mpr ⟨(s_goto (am_dp pw_X11_sayingsOf_0 dd_X11_sayingsOf_0c.2.2.2.2) (by decide)).to, ?_⟩
  refine List.forall_mem_cons.mpr ⟨(s_iloadn (am_dp pw_X11_sayingsOf_32 dd_X11_sayingsOf_32a.1) rfl).to, ?_⟩
  refine List.forall_mem_cons.mpr ⟨s_iret (am_dp pw_X11_sayingsOf_32 dd_X11_sayingsOf_32a.2) rfl, ?_⟩
  exact fun _ h => absurd h List.not_mem_nil
theorem sn_tX11_hourOf : ∀ q ∈ tX11_hourOf, am_Snd am_P0 RX11 cX11_hourOf 5 (Option.some FieldType.int) "hourOf" q.1 q.2 := by
  unfold tX11_hourOf
  refine List.forall_mem_cons.mpr ⟨(s_iloadn (am_dp pw_X11_hourOf_0 dd_X11_hourOf_0a.1) rfl).to, ?_⟩
  refine List.forall_mem_cons.mpr ⟨(s_istoren (am_dp pw_X11_hourOf_0 dd_X11_hourOf_0a.2.1) rfl (by decide)).to, ?_⟩
  refine List.forall_mem_cons.mpr ⟨(s_iconst (am_dp pw_X11_hourOf_0 dd_X11_hourOf_0a.2.2.1) (by decide)).to, ?_⟩
  refine List.forall_mem_cons.mpr ⟨(s_istore (am_dp pw_X11_hourOf_0 dd_X11_hourOf_0a.2.2.2.1) (by decide)).to, ?_⟩
  refine List.forall_mem_cons.mpr ⟨(s_iload (am_dp pw_X11_hourOf_0 dd_X11_hourOf_0a.2.2.2.2.1)).to, ?_⟩
  refine List.forall_mem_cons.mpr ⟨(s_bipush (am_dp pw_X11_hourOf_0 dd_X11_hourOf_0a.2.2.2.2.2.1) (by decide)).to, ?_⟩
  refine List.forall_mem_cons.mpr ⟨(s_icmp_ge (am_dp pw_X11_hourOf_0 dd_X11_hourOf_0a.2.2.2.2.2.2.1) (by decide)).to, ?_⟩
  refine List.forall_mem_cons.mpr ⟨(s_iloadn (am_dp pw_X11_hourOf_0 dd_X11_hourOf_0a.2.2.2.2.2.2.2) rfl).to, ?_⟩
  refine List.forall_mem_cons.mpr ⟨(s_if_lt (am_dp pw_X11_hourOf_0 dd_X11_hourOf_0b.1) (by decide)).to, ?_⟩
  refine List.forall_mem_cons.mpr ⟨(s_aloadn (am_dp pw_X11_hourOf_0 dd_X11_hourOf_0b.2.1) rfl).to, ?_⟩
  refine List.forall_mem_cons.mpr ⟨(s_iloadn (am_dp pw_X11_hourOf_0 dd_X11_hourOf_0b.2.2.1) rfl).to, ?_⟩
  refine List.forall_mem_cons.mpr ⟨(s_iload (am_dp pw_X11_hourOf_0 dd_X11_hourOf_0b.2.2.2.1)).to, ?_⟩
  refine List.forall_mem_cons.mpr ⟨zw_cv226 (am_dp pw_X11_hourOf_0 dd_X11_hourOf_0b.2.2.2.2.1) wd1842, ?_⟩
  refine List.forall_mem_cons.mpr ⟨(s_iconst (am_dp pw_X11_hourOf_0 dd_X11_hourOf_0b.2.2.2.2.2.1) (by decide)).to, ?_⟩
  refine List.forall_mem_cons.mpr ⟨(s_icmp_ne (am_dp pw_X11_hourOf_0 dd_X11_hourOf_0b.2.2.2.2.2.2.1) (by decide)).to, ?_⟩
  refine List.forall_mem_cons.mpr ⟨(s_goto (am_dp pw_X11_hourOf_0 dd_X11_hourOf_0b.2.2.2.2.2.2.2) (by decide)).to, ?_⟩
  refine List.forall_mem_cons.mpr ⟨(s_iloadn (am_dp pw_X11_hourOf_0 dd_X11_hourOf_0c.1) rfl).to, ?_⟩
  refine List.forall_mem_cons.mpr ⟨(s_if_ne (am_dp pw_X11_hourOf_0 dd_X11_hourOf_0c.2) (by decide)).to, ?_⟩
  refine List.forall_mem_cons.mpr ⟨(s_iload (am_dp pw_X11_hourOf_32 dd_X11_hourOf_32a.1)).to, ?_⟩
  refine List.forall_mem_cons.mpr ⟨s_iret (am_dp pw_X11_hourOf_32 dd_X11_hourOf_32a.2.1) rfl, ?_⟩
  refine List.forall_mem_cons.mpr ⟨(s_iinc (am_dp pw_X11_hourOf_32 dd_X11_hourOf_32a.2.2.1) (by decide) (by decide)).to, ?_⟩
  refine List.forall_mem_cons.mpr ⟨(s_iinc (am_dp pw_X11_hourOf_32 dd_X11_hourOf_32a.2.2.2.1) (by decide) (by decide)).to, ?_⟩
  refine List.forall_mem_cons.mpr ⟨(s_goto (am_dp pw_X11_hourOf_32 dd_X11_hourOf_32a.2.2.2.2.1) (by decide)).to, ?_⟩
  refine List.forall_mem_cons.mpr ⟨(s_iconst (am_dp pw_X11_hourOf_32 dd_X11_hourOf_32a.2.2.2.2.2.1) (by decide)).to, ?_⟩
  refine List.forall_mem_cons.mpr ⟨s_iret (am_dp pw_X11_hourOf_32 dd_X11_hourOf_32a.2.2.2.2.2.2) rfl, ?_⟩
  exact fun _ h => absurd h List.not_mem_nil
theorem sn_tX11_numberOf : ∀ q ∈ tX11_numberOf, am_Snd am_P0 RX11 cX11_numberOf 5 (Option.some FieldType.int) "numberOf" q.1 q.2 := by
  unfold tX11_numberOf
  refine List.forall_mem_cons.mpr ⟨(s_iconst (am_dp pw_X11_numberOf_0 dd_X11_numberOf_0a.1) (by decide)).to, ?_⟩
  refine List.forall_mem_cons.mpr ⟨(s_istoren (am_dp pw_X11_numberOf_0 dd_X11_numberOf_0a.2.1) rfl (by decide)).to, ?_⟩
  refine List.forall_mem_cons.mpr ⟨(s_iconst (am_dp pw_X11_numberOf_0 dd_X11_numberOf_0a.2.2.1) (by decide)).to, ?_⟩
  refine List.forall_mem_cons.mpr ⟨(s_istore (am_dp pw_X11_numberOf_0 dd_X11_numberOf_0a.2.2.2.1) (by decide)).to, ?_⟩
  refine List.forall_mem_cons.mpr ⟨(s_iload (am_dp pw_X11_numberOf_0 dd_X11_numberOf_0a.2.2.2.2.1)).to, ?_⟩
  refine List.forall_mem_cons.mpr ⟨(s_iloadn (am_dp pw_X11_numberOf_0 dd_X11_numberOf_0a.2.2.2.2.2.1) rfl).to, ?_⟩
  refine List.forall_mem_cons.mpr ⟨(s_icmp_ge (am_dp pw_X11_numberOf_0 dd_X11_numberOf_0a.2.2.2.2.2.2.1) (by decide)).to, ?_⟩
  refine List.forall_mem_cons.mpr ⟨(s_iloadn (am_dp pw_X11_numberOf_0 dd_X11_numberOf_0a.2.2.2.2.2.2.2) rfl).to, ?_⟩
  refine List.forall_mem_cons.mpr ⟨(s_aloadn (am_dp pw_X11_numberOf_0 dd_X11_numberOf_0b.1) rfl).to, ?_⟩
  refine List.forall_mem_cons.mpr ⟨(s_iloadn (am_dp pw_X11_numberOf_0 dd_X11_numberOf_0b.2.1) rfl).to, ?_⟩
  refine List.forall_mem_cons.mpr ⟨(s_iload (am_dp pw_X11_numberOf_0 dd_X11_numberOf_0b.2.2.1)).to, ?_⟩
  refine List.forall_mem_cons.mpr ⟨zw_cv226 (am_dp pw_X11_numberOf_0 dd_X11_numberOf_0b.2.2.2.1) wd1842, ?_⟩
  refine List.forall_mem_cons.mpr ⟨(s_iconst (am_dp pw_X11_numberOf_0 dd_X11_numberOf_0b.2.2.2.2.1) (by decide)).to, ?_⟩
  refine List.forall_mem_cons.mpr ⟨(s_icmp_eq (am_dp pw_X11_numberOf_0 dd_X11_numberOf_0b.2.2.2.2.2.1) (by decide)).to, ?_⟩
  refine List.forall_mem_cons.mpr ⟨(s_iconst (am_dp pw_X11_numberOf_0 dd_X11_numberOf_0b.2.2.2.2.2.2.1) (by decide)).to, ?_⟩
  refine List.forall_mem_cons.mpr ⟨(s_goto (am_dp pw_X11_numberOf_0 dd_X11_numberOf_0b.2.2.2.2.2.2.2) (by decide)).to, ?_⟩
  refine List.forall_mem_cons.mpr ⟨(s_iconst (am_dp pw_X11_numberOf_0 dd_X11_numberOf_0c.1) (by decide)).to, ?_⟩
  refine List.forall_mem_cons.mpr ⟨(s_iadd (am_dp pw_X11_numberOf_0 dd_X11_numberOf_0c.2.1)).to, ?_⟩
  refine List.forall_mem_cons.mpr ⟨(s_istoren (am_dp pw_X11_numberOf_0 dd_X11_numberOf_0c.2.2.1) rfl (by decide)).to, ?_⟩
  refine List.forall_mem_cons.mpr ⟨(s_iinc (am_dp pw_X11_numberOf_0 dd_X11_numberOf_0c.2.2.2) (by decide) (by decide)).to, ?_⟩
  refine List.forall_mem_cons.mpr ⟨(s_goto (am_dp pw_X11_numberOf_32 dd_X11_numberOf_32a.1) (by decide)).to, ?_⟩
  refine List.forall_mem_cons.mpr ⟨(s_iloadn (am_dp pw_X11_numberOf_32 dd_X11_numberOf_32a.2.1) rfl).to, ?_⟩
  refine List.forall_mem_cons.mpr ⟨s_iret (am_dp pw_X11_numberOf_32 dd_X11_numberOf_32a.2.2) rfl, ?_⟩
  exact fun _ h => absurd h List.not_mem_nil
end
section
/-! the machine follows each instruction (by program: gen_prog.py) -/
theorem sn_tX11_booksOf : ∀ q ∈ tX11_booksOf, am_Snd am_P0 RX11 cX11_booksOf 4 (Option.some FieldType.int) "booksOf" q.1 q.2 := by
  unfold tX11_booksOf
  refine List.forall_mem_cons.mpr ⟨(s_iconst (am_dp pw_X11_booksOf_0 dd_X11_booksOf_0a.1) (by decide)).to, ?_⟩
  refine List.forall_mem_cons.mpr ⟨(s_istoren (am_dp pw_X11_booksOf_0 dd_X11_booksOf_0a.2.1) rfl (by decide)).to, ?_⟩
  refine List.forall_mem_cons.mpr ⟨(s_iconst (am_dp pw_X11_booksOf_0 dd_X11_booksOf_0a.2.2.1) (by decide)).to, ?_⟩
  refine List.forall_mem_cons.mpr ⟨(s_istoren (am_dp pw_X11_booksOf_0 dd_X11_booksOf_0a.2.2.2.1) rfl (by decide)).to, ?_⟩
  refine List.forall_mem_cons.mpr ⟨(s_iloadn (am_dp pw_X11_booksOf_0 dd_X11_booksOf_0a.2.2.2.2.1) rfl).to, ?_⟩
  refine List.forall_mem_cons.mpr ⟨(s_aloadn (am_dp pw_X11_booksOf_0 dd_X11_booksOf_0a.2.2.2.2.2.1) rfl).to, ?_⟩
  refine List.forall_mem_cons.mpr ⟨(s_get (ci := 11) (k := 28) (am_dp pw_X11_booksOf_0 dd_X11_booksOf_0a.2.2.2.2.2.2.1) rfl (by decide) wd1361 inX11 rfl).to, ?_⟩
  refine List.forall_mem_cons.mpr ⟨(s_aloadn (am_dp pw_X11_booksOf_0 dd_X11_booksOf_0a.2.2.2.2.2.2.2) rfl).to, ?_⟩
  refine List.forall_mem_cons.mpr ⟨(s_get (ci := 11) (k := 12) (am_dp pw_X11_booksOf_0 dd_X11_booksOf_0b.1) rfl (by decide) wd1345 inX11 rfl).to, ?_⟩
  refine List.forall_mem_cons.mpr ⟨(s_iald (am_dp pw_X11_booksOf_0 dd_X11_booksOf_0b.2.1)).to, ?_⟩
  refine List.forall_mem_cons.mpr ⟨(s_icmp_ge (am_dp pw_X11_booksOf_0 dd_X11_booksOf_0b.2.2.1) (by decide)).to, ?_⟩
  refine List.forall_mem_cons.mpr ⟨(s_iloadn (am_dp pw_X11_booksOf_0 dd_X11_booksOf_0b.2.2.2.1) rfl).to, ?_⟩
  refine List.forall_mem_cons.mpr ⟨(s_aloadn (am_dp pw_X11_booksOf_0 dd_X11_booksOf_0b.2.2.2.2.1) rfl).to, ?_⟩
  refine List.forall_mem_cons.mpr ⟨(s_get (ci := 11) (k := 29) (am_dp pw_X11_booksOf_0 dd_X11_booksOf_0b.2.2.2.2.2.1) rfl (by decide) wd1362 inX11 rfl).to, ?_⟩
  refine List.forall_mem_cons.mpr ⟨(s_bipush (am_dp pw_X11_booksOf_0 dd_X11_booksOf_0b.2.2.2.2.2.2.1) (by decide)).to, ?_⟩
  refine List.forall_mem_cons.mpr ⟨(s_aloadn (am_dp pw_X11_booksOf_0 dd_X11_booksOf_0b.2.2.2.2.2.2.2) rfl).to, ?_⟩
  refine List.forall_mem_cons.mpr ⟨(s_get (ci := 11) (k := 12) (am_dp pw_X11_booksOf_0 dd_X11_booksOf_0c.1) rfl (by decide) wd1345 inX11 rfl).to, ?_⟩
  refine List.forall_mem_cons.mpr ⟨(s_imul (am_dp pw_X11_booksOf_0 dd_X11_booksOf_0c.2.1)).to, ?_⟩
  refine List.forall_mem_cons.mpr ⟨(s_iloadn (am_dp pw_X11_booksOf_0 dd_X11_booksOf_0c.2.2.1) rfl).to, ?_⟩
  refine List.forall_mem_cons.mpr ⟨(s_iadd (am_dp pw_X11_booksOf_0 dd_X11_booksOf_0c.2.2.2.1)).to, ?_⟩
  refine List.forall_mem_cons.mpr ⟨(s_iald (am_dp pw_X11_booksOf_0 dd_X11_booksOf_0c.2.2.2.2)).to, ?_⟩
  refine List.forall_mem_cons.mpr ⟨(s_iloadn (am_dp pw_X11_booksOf_32 dd_X11_booksOf_32a.1) rfl).to, ?_⟩
  refine List.forall_mem_cons.mpr ⟨(s_icmp_ne (am_dp pw_X11_booksOf_32 dd_X11_booksOf_32a.2.1) (by decide)).to, ?_⟩
  refine List.forall_mem_cons.mpr ⟨(s_iconst (am_dp pw_X11_booksOf_32 dd_X11_booksOf_32a.2.2.1) (by decide)).to, ?_⟩
  refine List.forall_mem_cons.mpr ⟨(s_goto (am_dp pw_X11_booksOf_32 dd_X11_booksOf_32a.2.2.2.1) (by decide)).to, ?_⟩
  refine List.forall_mem_cons.mpr ⟨(s_iconst (am_dp pw_X11_booksOf_32 dd_X11_booksOf_32a.2.2.2.2.1) (by decide)).to, ?_⟩
  refine List.forall_mem_cons.mpr ⟨(s_iadd (am_dp pw_X11_booksOf_32 dd_X11_booksOf_32a.2.2.2.2.2.1)).to, ?_⟩
  refine List.forall_mem_cons.mpr ⟨(s_istoren (am_dp pw_X11_booksOf_32 dd_X11_booksOf_32a.2.2.2.2.2.2.1) rfl (by decide)).to, ?_⟩
  refine List.forall_mem_cons.mpr ⟨(s_iinc (am_dp pw_X11_booksOf_32 dd_X11_booksOf_32a.2.2.2.2.2.2.2) (by decide) (by decide)).to, ?_⟩
  refine List.forall_mem_cons.mpr ⟨(s_goto (am_dp pw_X11_booksOf_32 dd_X11_booksOf_32b.1) (by decide)).to, ?_⟩
  refine List.forall_mem_cons.mpr ⟨(s_iloadn (am_dp pw_X11_booksOf_32 dd_X11_booksOf_32b.2.1) rfl).to, ?_⟩
  refine List.forall_mem_cons.mpr ⟨s_iret (am_dp pw_X11_booksOf_32 dd_X11_booksOf_32b.2.2) rfl, ?_⟩
  exact fun _ h => absurd h List.not_mem_nil
theorem sn_tX11_has_0 : ∀ q ∈ tX11_has_0, am_Snd am_P0 RX11 cX11_has 4 (Option.some FieldType.int) "has" q.1 q.2 := by
  unfold tX11_has_0
  refine List.forall_mem_cons.mpr ⟨(s_iconst (am_dp pw_X11_has_0 dd_X11_has_0a.1) (by decide)).to, ?_⟩
  refine List.forall_mem_cons.mpr ⟨(s_istoren (am_dp pw_X11_has_0 dd_X11_has_0a.2.1) rfl (by decide)).to, ?_⟩
  refine List.forall_mem_cons.mpr ⟨(s_iloadn (am_dp pw_X11_has_0 dd_X11_has_0a.2.2) rfl).to, ?_⟩
  refine List.forall_mem_cons.mpr ⟨(s_table (by decide +kernel : decode cX11_has 3 = .ok (.tableswitch 154 0 7 #[45, 55, 65, 75, 85, 95, 105, 115], 45)) (by decide) (by decide) (by decide) (by decide)).to, ?_⟩
  refine List.forall_mem_cons.mpr ⟨(s_aloadn (am_dp pw_X11_has_32 dd_X11_has_32a.1) rfl).to, ?_⟩
  refine List.forall_mem_cons.mpr ⟨(s_get (ci := 11) (k := 13) (am_dp pw_X11_has_32 dd_X11_has_32a.2.1) rfl (by decide) wd1346 inX11 rfl).to, ?_⟩
  refine List.forall_mem_cons.mpr ⟨(s_aloadn (am_dp pw_X11_has_32 dd_X11_has_32a.2.2.1) rfl).to, ?_⟩
  refine List.forall_mem_cons.mpr ⟨(s_get (ci := 11) (k := 12) (am_dp pw_X11_has_32 dd_X11_has_32a.2.2.2.1) rfl (by decide) wd1345 inX11 rfl).to, ?_⟩
  refine List.forall_mem_cons.mpr ⟨(s_iald (am_dp pw_X11_has_32 dd_X11_has_32a.2.2.2.2.1)).to, ?_⟩
  refine List.forall_mem_cons.mpr ⟨s_iret (am_dp pw_X11_has_32 dd_X11_has_32a.2.2.2.2.2.1) rfl, ?_⟩
  refine List.forall_mem_cons.mpr ⟨(s_aloadn (am_dp pw_X11_has_32 dd_X11_has_32a.2.2.2.2.2.2.1) rfl).to, ?_⟩
  refine List.forall_mem_cons.mpr ⟨(s_get (ci := 11) (k := 14) (am_dp pw_X11_has_32 dd_X11_has_32a.2.2.2.2.2.2.2) rfl (by decide) wd1347 inX11 rfl).to, ?_⟩
  refine List.forall_mem_cons.mpr ⟨(s_aloadn (am_dp pw_X11_has_32 dd_X11_has_32b.1) rfl).to, ?_⟩
  refine List.forall_mem_cons.mpr ⟨(s_get (ci := 11) (k := 12) (am_dp pw_X11_has_32 dd_X11_has_32b.2) rfl (by decide) wd1345 inX11 rfl).to, ?_⟩
  refine List.forall_mem_cons.mpr ⟨(s_iald (am_dp pw_X11_has_64 dd_X11_has_64a.1)).to, ?_⟩
  refine List.forall_mem_cons.mpr ⟨s_iret (am_dp pw_X11_has_64 dd_X11_has_64a.2.1) rfl, ?_⟩
  refine List.forall_mem_cons.mpr ⟨(s_aloadn (am_dp pw_X11_has_64 dd_X11_has_64a.2.2.1) rfl).to, ?_⟩
  refine List.forall_mem_cons.mpr ⟨(s_get (ci := 11) (k := 19) (am_dp pw_X11_has_64 dd_X11_has_64a.2.2.2.1) rfl (by decide) wd1352 inX11 rfl).to, ?_⟩
  refine List.forall_mem_cons.mpr ⟨(s_aloadn (am_dp pw_X11_has_64 dd_X11_has_64a.2.2.2.2.1) rfl).to, ?_⟩
  refine List.forall_mem_cons.mpr ⟨(s_get (ci := 11) (k := 12) (am_dp pw_X11_has_64 dd_X11_has_64a.2.2.2.2.2.1) rfl (by decide) wd1345 inX11 rfl).to, ?_⟩
  refine List.forall_mem_cons.mpr ⟨(s_iald (am_dp pw_X11_has_64 dd_X11_has_64a.2.2.2.2.2.2.1)).to, ?_⟩
  refine List.forall_mem_cons.mpr ⟨s_iret (am_dp pw_X11_has_64 dd_X11_has_64a.2.2.2.2.2.2.2) rfl, ?_⟩
  refine List.forall_mem_cons.mpr ⟨(s_aloadn (am_dp pw_X11_has_64 dd_X11_has_64b.1) rfl).to, ?_⟩
  refine List.forall_mem_cons.mpr ⟨(s_get (ci := 11) (k := 25) (am_dp pw_X11_has_64 dd_X11_has_64b.2.1) rfl (by decide) wd1358 inX11 rfl).to, ?_⟩
  refine List.forall_mem_cons.mpr ⟨(s_aloadn (am_dp pw_X11_has_64 dd_X11_has_64b.2.2.1) rfl).to, ?_⟩
  refine List.forall_mem_cons.mpr ⟨(s_get (ci := 11) (k := 12) (am_dp pw_X11_has_64 dd_X11_has_64b.2.2.2.1) rfl (by decide) wd1345 inX11 rfl).to, ?_⟩
  refine List.forall_mem_cons.mpr ⟨(s_iald (am_dp pw_X11_has_64 dd_X11_has_64b.2.2.2.2.1)).to, ?_⟩
  refine List.forall_mem_cons.mpr ⟨s_iret (am_dp pw_X11_has_64 dd_X11_has_64b.2.2.2.2.2.1) rfl, ?_⟩
  refine List.forall_mem_cons.mpr ⟨(s_aloadn (am_dp pw_X11_has_64 dd_X11_has_64b.2.2.2.2.2.2.1) rfl).to, ?_⟩
  refine List.forall_mem_cons.mpr ⟨(s_get (ci := 11) (k := 28) (am_dp pw_X11_has_64 dd_X11_has_64b.2.2.2.2.2.2.2) rfl (by decide) wd1361 inX11 rfl).to, ?_⟩
  refine List.forall_mem_cons.mpr ⟨(s_aloadn (am_dp pw_X11_has_64 dd_X11_has_64c.1) rfl).to, ?_⟩
  refine List.forall_mem_cons.mpr ⟨(s_get (ci := 11) (k := 12) (am_dp pw_X11_has_64 dd_X11_has_64c.2) rfl (by decide) wd1345 inX11 rfl).to, ?_⟩
  refine List.forall_mem_cons.mpr ⟨(s_iald (am_dp pw_X11_has_96 dd_X11_has_96a.1)).to, ?_⟩
  refine List.forall_mem_cons.mpr ⟨s_iret (am_dp pw_X11_has_96 dd_X11_has_96a.2.1) rfl, ?_⟩
  refine List.forall_mem_cons.mpr ⟨(s_aloadn (am_dp pw_X11_has_96 dd_X11_has_96a.2.2.1) rfl).to, ?_⟩
  refine List.forall_mem_cons.mpr ⟨(s_get (ci := 11) (k := 33) (am_dp pw_X11_has_96 dd_X11_has_96a.2.2.2.1) rfl (by decide) wd1366 inX11 rfl).to, ?_⟩
  refine List.forall_mem_cons.mpr ⟨(s_aloadn (am_dp pw_X11_has_96 dd_X11_has_96a.2.2.2.2.1) rfl).to, ?_⟩
  refine List.forall_mem_cons.mpr ⟨(s_get (ci := 11) (k := 12) (am_dp pw_X11_has_96 dd_X11_has_96a.2.2.2.2.2.1) rfl (by decide) wd1345 inX11 rfl).to, ?_⟩
  refine List.forall_mem_cons.mpr ⟨(s_iald (am_dp pw_X11_has_96 dd_X11_has_96a.2.2.2.2.2.2.1)).to, ?_⟩
  refine List.forall_mem_cons.mpr ⟨s_iret (am_dp pw_X11_has_96 dd_X11_has_96a.2.2.2.2.2.2.2) rfl, ?_⟩
  refine List.forall_mem_cons.mpr ⟨(s_aloadn (am_dp pw_X11_has_96 dd_X11_has_96b.1) rfl).to, ?_⟩
  refine List.forall_mem_cons.mpr ⟨(s_get (ci := 11) (k := 37) (am_dp pw_X11_has_96 dd_X11_has_96b.2.1) rfl (by decide) wd1370 inX11 rfl).to, ?_⟩
  refine List.forall_mem_cons.mpr ⟨(s_aloadn (am_dp pw_X11_has_96 dd_X11_has_96b.2.2.1) rfl).to, ?_⟩
  refine List.forall_mem_cons.mpr ⟨(s_get (ci := 11) (k := 12) (am_dp pw_X11_has_96 dd_X11_has_96b.2.2.2.1) rfl (by decide) wd1345 inX11 rfl).to, ?_⟩
  refine List.forall_mem_cons.mpr ⟨(s_iald (am_dp pw_X11_has_96 dd_X11_has_96b.2.2.2.2.1)).to, ?_⟩
  refine List.forall_mem_cons.mpr ⟨s_iret (am_dp pw_X11_has_96 dd_X11_has_96b.2.2.2.2.2.1) rfl, ?_⟩
  refine List.forall_mem_cons.mpr ⟨(s_iconst (am_dp pw_X11_has_96 dd_X11_has_96b.2.2.2.2.2.2.1) (by decide)).to, ?_⟩
  refine List.forall_mem_cons.mpr ⟨(s_istoren (am_dp pw_X11_has_96 dd_X11_has_96b.2.2.2.2.2.2.2) rfl (by decide)).to, ?_⟩
  refine List.forall_mem_cons.mpr ⟨(s_iloadn (am_dp pw_X11_has_96 dd_X11_has_96c.1) rfl).to, ?_⟩
  refine List.forall_mem_cons.mpr ⟨(s_aloadn (am_dp pw_X11_has_96 dd_X11_has_96c.2.1) rfl).to, ?_⟩
  refine List.forall_mem_cons.mpr ⟨(s_get (ci := 11) (k := 19) (am_dp pw_X11_has_96 dd_X11_has_96c.2.2.1) rfl (by decide) wd1352 inX11 rfl).to, ?_⟩
  refine List.forall_mem_cons.mpr ⟨(s_aloadn (am_dp pw_X11_has_96 dd_X11_has_96c.2.2.2.1) rfl).to, ?_⟩
  refine List.forall_mem_cons.mpr ⟨(s_get (ci := 11) (k := 12) (am_dp pw_X11_has_96 dd_X11_has_96c.2.2.2.2) rfl (by decide) wd1345 inX11 rfl).to, ?_⟩
  refine List.forall_mem_cons.mpr ⟨(s_iald (am_dp pw_X11_has_128 dd_X11_has_128a.1)).to, ?_⟩
  refine List.forall_mem_cons.mpr ⟨(s_icmp_ge (am_dp pw_X11_has_128 dd_X11_has_128a.2.1) (by decide)).to, ?_⟩
  refine List.forall_mem_cons.mpr ⟨(s_iloadn (am_dp pw_X11_has_128 dd_X11_has_128a.2.2.1) rfl).to, ?_⟩
  refine List.forall_mem_cons.mpr ⟨(s_aloadn (am_dp pw_X11_has_128 dd_X11_has_128a.2.2.2.1) rfl).to, ?_⟩
  refine List.forall_mem_cons.mpr ⟨(s_iloadn (am_dp pw_X11_has_128 dd_X11_has_128a.2.2.2.2.1) rfl).to, ?_⟩
  refine List.forall_mem_cons.mpr ⟨zw_cv228 (am_dp pw_X11_has_128 dd_X11_has_128a.2.2.2.2.2.1) wd1838, ?_⟩
  refine List.forall_mem_cons.mpr ⟨(s_if_le (am_dp pw_X11_has_128 dd_X11_has_128a.2.2.2.2.2.2.1) (by decide)).to, ?_⟩
  exact fun _ h => absurd h List.not_mem_nil
theorem sn_tX11_has_1 : ∀ q ∈ tX11_has_1, am_Snd am_P0 RX11 cX11_has 4 (Option.some FieldType.int) "has" q.1 q.2 := by
  unfold tX11_has_1
  refine List.forall_mem_cons.mpr ⟨(s_iconst (am_dp pw_X11_has_128 dd_X11_has_128a.2.2.2.2.2.2.2) (by decide)).to, ?_⟩
  refine List.forall_mem_cons.mpr ⟨(s_goto (am_dp pw_X11_has_128 dd_X11_has_128b.1) (by decide)).to, ?_⟩
  refine List.forall_mem_cons.mpr ⟨(s_iconst (am_dp pw_X11_has_128 dd_X11_has_128b.2.1) (by decide)).to, ?_⟩
  refine List.forall_mem_cons.mpr ⟨(s_iadd (am_dp pw_X11_has_128 dd_X11_has_128b.2.2.1)).to, ?_⟩
  refine List.forall_mem_cons.mpr ⟨(s_istoren (am_dp pw_X11_has_128 dd_X11_has_128b.2.2.2.1) rfl (by decide)).to, ?_⟩
  refine List.forall_mem_cons.mpr ⟨(s_iinc (am_dp pw_X11_has_128 dd_X11_has_128b.2.2.2.2.1) (by decide) (by decide)).to, ?_⟩
  refine List.forall_mem_cons.mpr ⟨(s_goto (am_dp pw_X11_has_128 dd_X11_has_128b.2.2.2.2.2.1) (by decide)).to, ?_⟩
  refine List.forall_mem_cons.mpr ⟨(s_iloadn (am_dp pw_X11_has_128 dd_X11_has_128b.2.2.2.2.2.2.1) rfl).to, ?_⟩
  refine List.forall_mem_cons.mpr ⟨s_iret (am_dp pw_X11_has_128 dd_X11_has_128b.2.2.2.2.2.2.2) rfl, ?_⟩
  refine List.forall_mem_cons.mpr ⟨(s_iconst (am_dp pw_X11_has_128 dd_X11_has_128c.1) (by decide)).to, ?_⟩
  refine List.forall_mem_cons.mpr ⟨s_iret (am_dp pw_X11_has_128 dd_X11_has_128c.2) rfl, ?_⟩
  exact fun _ h => absurd h List.not_mem_nil
theorem sn_tX11_has : ∀ q ∈ tX11_has, am_Snd am_P0 RX11 cX11_has 4 (Option.some FieldType.int) "has" q.1 q.2 := by
  unfold tX11_has
  exact List.forall_mem_append.mpr ⟨sn_tX11_has_0, sn_tX11_has_1⟩
theorem sn_tX11_letter : ∀ q ∈ tX11_letter, am_Snd am_P0 RX11 cX11_letter 8 (Option.some FieldType.int) "letter" q.1 q.2 := by
  unfold tX11_letter
  refine List.forall_mem_cons.mpr ⟨(s_aloadn (am_dp pw_X11_letter_0 dd_X11_letter_0a.1) rfl).to, ?_⟩
  refine List.forall_mem_cons.mpr ⟨(s_iloadn (am_dp pw_X11_letter_0 dd_X11_letter_0a.2.1) rfl).to, ?_⟩
  refine List.forall_mem_cons.mpr ⟨zw_cv220 (am_dp pw_X11_letter_0 dd_X11_letter_0a.2.2.1) wd1850, ?_⟩
  refine List.forall_mem_cons.mpr ⟨(s_if_ne (am_dp pw_X11_letter_0 dd_X11_letter_0a.2.2.2.1) (by decide)).to, ?_⟩
  refine List.forall_mem_cons.mpr ⟨(s_iconst (am_dp pw_X11_letter_0 dd_X11_letter_0a.2.2.2.2.1) (by decide)).to, ?_⟩
  refine List.forall_mem_cons.mpr ⟨s_iret (am_dp pw_X11_letter_0 dd_X11_letter_0a.2.2.2.2.2.1) rfl, ?_⟩
  refine List.forall_mem_cons.mpr ⟨(s_aloadn (am_dp pw_X11_letter_0 dd_X11_letter_0a.2.2.2.2.2.2.1) rfl).to, ?_⟩
  refine List.forall_mem_cons.mpr ⟨(s_get (ci := 11) (k := 20) (am_dp pw_X11_letter_0 dd_X11_letter_0a.2.2.2.2.2.2.2) rfl (by decide) wd1353 inX11 rfl).to, ?_⟩
  refine List.forall_mem_cons.mpr ⟨(s_bipush (am_dp pw_X11_letter_0 dd_X11_letter_0b.1) (by decide)).to, ?_⟩
  refine List.forall_mem_cons.mpr ⟨(s_aloadn (am_dp pw_X11_letter_0 dd_X11_letter_0b.2.1) rfl).to, ?_⟩
  refine List.forall_mem_cons.mpr ⟨(s_get (ci := 11) (k := 12) (am_dp pw_X11_letter_0 dd_X11_letter_0b.2.2.1) rfl (by decide) wd1345 inX11 rfl).to, ?_⟩
  refine List.forall_mem_cons.mpr ⟨(s_imul (am_dp pw_X11_letter_0 dd_X11_letter_0b.2.2.2.1)).to, ?_⟩
  refine List.forall_mem_cons.mpr ⟨(s_iloadn (am_dp pw_X11_letter_0 dd_X11_letter_0b.2.2.2.2.1) rfl).to, ?_⟩
  refine List.forall_mem_cons.mpr ⟨(s_iadd (am_dp pw_X11_letter_0 dd_X11_letter_0b.2.2.2.2.2.1)).to, ?_⟩
  refine List.forall_mem_cons.mpr ⟨(s_lald (am_dp pw_X11_letter_0 dd_X11_letter_0b.2.2.2.2.2.2.1)).to, ?_⟩
  refine List.forall_mem_cons.mpr ⟨(s_lstoren (am_dp pw_X11_letter_0 dd_X11_letter_0b.2.2.2.2.2.2.2) rfl (by decide)).to, ?_⟩
  refine List.forall_mem_cons.mpr ⟨(s_iconst (am_dp pw_X11_letter_0 dd_X11_letter_0c.1) (by decide)).to, ?_⟩
  refine List.forall_mem_cons.mpr ⟨(s_istore (am_dp pw_X11_letter_0 dd_X11_letter_0c.2.1) (by decide)).to, ?_⟩
  refine List.forall_mem_cons.mpr ⟨(s_lloadn (am_dp pw_X11_letter_0 dd_X11_letter_0c.2.2.1) rfl).to, ?_⟩
  refine List.forall_mem_cons.mpr ⟨(s_lstore (am_dp pw_X11_letter_0 dd_X11_letter_0c.2.2.2.1) (by decide)).to, ?_⟩
  refine List.forall_mem_cons.mpr ⟨(s_lload (am_dp pw_X11_letter_0 dd_X11_letter_0c.2.2.2.2)).to, ?_⟩
  refine List.forall_mem_cons.mpr ⟨(s_lconst (am_dp pw_X11_letter_32 dd_X11_letter_32a.1) (by decide)).to, ?_⟩
  refine List.forall_mem_cons.mpr ⟨(s_lcmp (am_dp pw_X11_letter_32 dd_X11_letter_32a.2.1)).to, ?_⟩
  refine List.forall_mem_cons.mpr ⟨(s_if_eq (am_dp pw_X11_letter_32 dd_X11_letter_32a.2.2.1) (by decide)).to, ?_⟩
  refine List.forall_mem_cons.mpr ⟨(s_iinc (am_dp pw_X11_letter_32 dd_X11_letter_32a.2.2.2.1) (by decide) (by decide)).to, ?_⟩
  refine List.forall_mem_cons.mpr ⟨(s_lload (am_dp pw_X11_letter_32 dd_X11_letter_32a.2.2.2.2.1)).to, ?_⟩
  refine List.forall_mem_cons.mpr ⟨(s_bipush (am_dp pw_X11_letter_32 dd_X11_letter_32a.2.2.2.2.2.1) (by decide)).to, ?_⟩
  refine List.forall_mem_cons.mpr ⟨(s_lushr (am_dp pw_X11_letter_32 dd_X11_letter_32a.2.2.2.2.2.2.1)).to, ?_⟩
  refine List.forall_mem_cons.mpr ⟨(s_lstore (am_dp pw_X11_letter_32 dd_X11_letter_32a.2.2.2.2.2.2.2) (by decide)).to, ?_⟩
  refine List.forall_mem_cons.mpr ⟨(s_goto (am_dp pw_X11_letter_32 dd_X11_letter_32b.1) (by decide)).to, ?_⟩
  refine List.forall_mem_cons.mpr ⟨(s_iloadn (am_dp pw_X11_letter_32 dd_X11_letter_32b.2.1) rfl).to, ?_⟩
  refine List.forall_mem_cons.mpr ⟨(s_if_lt (am_dp pw_X11_letter_32 dd_X11_letter_32b.2.2.1) (by decide)).to, ?_⟩
  refine List.forall_mem_cons.mpr ⟨(s_iloadn (am_dp pw_X11_letter_32 dd_X11_letter_32b.2.2.2.1) rfl).to, ?_⟩
  refine List.forall_mem_cons.mpr ⟨(s_iload (am_dp pw_X11_letter_32 dd_X11_letter_32b.2.2.2.2.1)).to, ?_⟩
  refine List.forall_mem_cons.mpr ⟨(s_icmp_lt (am_dp pw_X11_letter_32 dd_X11_letter_32b.2.2.2.2.2.1) (by decide)).to, ?_⟩
  refine List.forall_mem_cons.mpr ⟨(s_iconst (am_dp pw_X11_letter_32 dd_X11_letter_32b.2.2.2.2.2.2.1) (by decide)).to, ?_⟩
  refine List.forall_mem_cons.mpr ⟨(s_goto (am_dp pw_X11_letter_32 dd_X11_letter_32b.2.2.2.2.2.2.2) (by decide)).to, ?_⟩
  refine List.forall_mem_cons.mpr ⟨(s_lloadn (am_dp pw_X11_letter_64 dd_X11_letter_64a.1) rfl).to, ?_⟩
  refine List.forall_mem_cons.mpr ⟨(s_bipush (am_dp pw_X11_letter_64 dd_X11_letter_64a.2.1) (by decide)).to, ?_⟩
  refine List.forall_mem_cons.mpr ⟨(s_iload (am_dp pw_X11_letter_64 dd_X11_letter_64a.2.2.1)).to, ?_⟩
  refine List.forall_mem_cons.mpr ⟨(s_iconst (am_dp pw_X11_letter_64 dd_X11_letter_64a.2.2.2.1) (by decide)).to, ?_⟩
  refine List.forall_mem_cons.mpr ⟨(s_isub (am_dp pw_X11_letter_64 dd_X11_letter_64a.2.2.2.2.1)).to, ?_⟩
  refine List.forall_mem_cons.mpr ⟨(s_iloadn (am_dp pw_X11_letter_64 dd_X11_letter_64a.2.2.2.2.2.1) rfl).to, ?_⟩
  refine List.forall_mem_cons.mpr ⟨(s_isub (am_dp pw_X11_letter_64 dd_X11_letter_64a.2.2.2.2.2.2.1)).to, ?_⟩
  refine List.forall_mem_cons.mpr ⟨(s_imul (am_dp pw_X11_letter_64 dd_X11_letter_64a.2.2.2.2.2.2.2)).to, ?_⟩
  refine List.forall_mem_cons.mpr ⟨(s_lushr (am_dp pw_X11_letter_64 dd_X11_letter_64b.1)).to, ?_⟩
  refine List.forall_mem_cons.mpr ⟨(s_ldc2 (am_dp pw_X11_letter_64 dd_X11_letter_64b.2.1) wd1854).to, ?_⟩
  refine List.forall_mem_cons.mpr ⟨(s_land (am_dp pw_X11_letter_64 dd_X11_letter_64b.2.2.1)).to, ?_⟩
  refine List.forall_mem_cons.mpr ⟨(s_l2i (am_dp pw_X11_letter_64 dd_X11_letter_64b.2.2.2.1)).to, ?_⟩
  refine List.forall_mem_cons.mpr ⟨s_iret (am_dp pw_X11_letter_64 dd_X11_letter_64b.2.2.2.2) rfl, ?_⟩
  exact fun _ h => absurd h List.not_mem_nil
theorem sn_tX11_isWater : ∀ q ∈ tX11_isWater, am_Snd am_P0 RX11 cX11_isWater 3 (Option.some FieldType.boolean) "isWater" q.1 q.2 := by
  unfold tX11_isWater
  refine List.forall_mem_cons.mpr ⟨(s_aloadn (am_dp pw_X11_isWater_0 dd_X11_isWater_0a.1) rfl).to, ?_⟩
  refine List.forall_mem_cons.mpr ⟨(s_get (ci := 11) (k := 55) (am_dp pw_X11_isWater_0 dd_X11_isWater_0a.2.1) rfl (by decide) wd1388 inX11 rfl).to, ?_⟩
  refine List.forall_mem_cons.mpr ⟨(s_iloadn (am_dp pw_X11_isWater_0 dd_X11_isWater_0a.2.2.1) rfl).to, ?_⟩
  refine List.forall_mem_cons.mpr ⟨(s_iald (am_dp pw_X11_isWater_0 dd_X11_isWater_0a.2.2.2.1)).to, ?_⟩
  refine List.forall_mem_cons.mpr ⟨(s_aloadn (am_dp pw_X11_isWater_0 dd_X11_isWater_0a.2.2.2.2.1) rfl).to, ?_⟩
  refine List.forall_mem_cons.mpr ⟨(s_get (ci := 11) (k := 23) (am_dp pw_X11_isWater_0 dd_X11_isWater_0a.2.2.2.2.2.1) rfl (by decide) wd1356 inX11 rfl).to, ?_⟩
  refine List.forall_mem_cons.mpr ⟨(s_bipush (am_dp pw_X11_isWater_0 dd_X11_isWater_0a.2.2.2.2.2.2.1) (by decide)).to, ?_⟩
  refine List.forall_mem_cons.mpr ⟨(s_aloadn (am_dp pw_X11_isWater_0 dd_X11_isWater_0a.2.2.2.2.2.2.2) rfl).to, ?_⟩
  refine List.forall_mem_cons.mpr ⟨(s_get (ci := 11) (k := 12) (am_dp pw_X11_isWater_0 dd_X11_isWater_0b.1) rfl (by decide) wd1345 inX11 rfl).to, ?_⟩
  refine List.forall_mem_cons.mpr ⟨(s_imul (am_dp pw_X11_isWater_0 dd_X11_isWater_0b.2.1)).to, ?_⟩
  refine List.forall_mem_cons.mpr ⟨(s_iloadn (am_dp pw_X11_isWater_0 dd_X11_isWater_0b.2.2.1) rfl).to, ?_⟩
  refine List.forall_mem_cons.mpr ⟨(s_iadd (am_dp pw_X11_isWater_0 dd_X11_isWater_0b.2.2.2.1)).to, ?_⟩
  refine List.forall_mem_cons.mpr ⟨(s_iald (am_dp pw_X11_isWater_0 dd_X11_isWater_0b.2.2.2.2.1)).to, ?_⟩
  refine List.forall_mem_cons.mpr ⟨(s_icmp_lt (am_dp pw_X11_isWater_0 dd_X11_isWater_0b.2.2.2.2.2.1) (by decide)).to, ?_⟩
  refine List.forall_mem_cons.mpr ⟨(s_iconst (am_dp pw_X11_isWater_0 dd_X11_isWater_0b.2.2.2.2.2.2.1) (by decide)).to, ?_⟩
  refine List.forall_mem_cons.mpr ⟨(s_goto (am_dp pw_X11_isWater_0 dd_X11_isWater_0b.2.2.2.2.2.2.2) (by decide)).to, ?_⟩
  refine List.forall_mem_cons.mpr ⟨(s_iconst (am_dp pw_X11_isWater_0 dd_X11_isWater_0c.1) (by decide)).to, ?_⟩
  refine List.forall_mem_cons.mpr ⟨s_zret (am_dp pw_X11_isWater_0 dd_X11_isWater_0c.2) rfl, ?_⟩
  exact fun _ h => absurd h List.not_mem_nil
theorem sn_tX11_isSound : ∀ q ∈ tX11_isSound, am_Snd am_P0 RX11 cX11_isSound 4 (Option.some FieldType.boolean) "isSound" q.1 q.2 := by
  unfold tX11_isSound
  refine List.forall_mem_cons.mpr ⟨(s_aloadn (am_dp pw_X11_isSound_0 dd_X11_isSound_0a.1) rfl).to, ?_⟩
  refine List.forall_mem_cons.mpr ⟨(s_get (ci := 11) (k := 55) (am_dp pw_X11_isSound_0 dd_X11_isSound_0a.2.1) rfl (by decide) wd1388 inX11 rfl).to, ?_⟩
  refine List.forall_mem_cons.mpr ⟨(s_iloadn (am_dp pw_X11_isSound_0 dd_X11_isSound_0a.2.2.1) rfl).to, ?_⟩
  refine List.forall_mem_cons.mpr ⟨(s_iald (am_dp pw_X11_isSound_0 dd_X11_isSound_0a.2.2.2.1)).to, ?_⟩
  refine List.forall_mem_cons.mpr ⟨(s_aloadn (am_dp pw_X11_isSound_0 dd_X11_isSound_0a.2.2.2.2.1) rfl).to, ?_⟩
  refine List.forall_mem_cons.mpr ⟨(s_get (ci := 11) (k := 23) (am_dp pw_X11_isSound_0 dd_X11_isSound_0a.2.2.2.2.2.1) rfl (by decide) wd1356 inX11 rfl).to, ?_⟩
  refine List.forall_mem_cons.mpr ⟨(s_bipush (am_dp pw_X11_isSound_0 dd_X11_isSound_0a.2.2.2.2.2.2.1) (by decide)).to, ?_⟩
  refine List.forall_mem_cons.mpr ⟨(s_aloadn (am_dp pw_X11_isSound_0 dd_X11_isSound_0a.2.2.2.2.2.2.2) rfl).to, ?_⟩
  refine List.forall_mem_cons.mpr ⟨(s_get (ci := 11) (k := 12) (am_dp pw_X11_isSound_0 dd_X11_isSound_0b.1) rfl (by decide) wd1345 inX11 rfl).to, ?_⟩
  refine List.forall_mem_cons.mpr ⟨(s_imul (am_dp pw_X11_isSound_0 dd_X11_isSound_0b.2.1)).to, ?_⟩
  refine List.forall_mem_cons.mpr ⟨(s_iloadn (am_dp pw_X11_isSound_0 dd_X11_isSound_0b.2.2.1) rfl).to, ?_⟩
  refine List.forall_mem_cons.mpr ⟨(s_iadd (am_dp pw_X11_isSound_0 dd_X11_isSound_0b.2.2.2.1)).to, ?_⟩
  refine List.forall_mem_cons.mpr ⟨(s_iald (am_dp pw_X11_isSound_0 dd_X11_isSound_0b.2.2.2.2.1)).to, ?_⟩
  refine List.forall_mem_cons.mpr ⟨(s_iloadn (am_dp pw_X11_isSound_0 dd_X11_isSound_0b.2.2.2.2.2.1) rfl).to, ?_⟩
  refine List.forall_mem_cons.mpr ⟨(s_if_eq (am_dp pw_X11_isSound_0 dd_X11_isSound_0b.2.2.2.2.2.2.1) (by decide)).to, ?_⟩
  refine List.forall_mem_cons.mpr ⟨(s_aloadn (am_dp pw_X11_isSound_0 dd_X11_isSound_0b.2.2.2.2.2.2.2) rfl).to, ?_⟩
  refine List.forall_mem_cons.mpr ⟨(s_get (ci := 11) (k := 24) (am_dp pw_X11_isSound_0 dd_X11_isSound_0c.1) rfl (by decide) wd1357 inX11 rfl).to, ?_⟩
  refine List.forall_mem_cons.mpr ⟨(s_bipush (am_dp pw_X11_isSound_0 dd_X11_isSound_0c.2.1) (by decide)).to, ?_⟩
  refine List.forall_mem_cons.mpr ⟨(s_aloadn (am_dp pw_X11_isSound_0 dd_X11_isSound_0c.2.2.1) rfl).to, ?_⟩
  refine List.forall_mem_cons.mpr ⟨(s_get (ci := 11) (k := 12) (am_dp pw_X11_isSound_0 dd_X11_isSound_0c.2.2.2) rfl (by decide) wd1345 inX11 rfl).to, ?_⟩
  refine List.forall_mem_cons.mpr ⟨(s_imul (am_dp pw_X11_isSound_32 dd_X11_isSound_32a.1)).to, ?_⟩
  refine List.forall_mem_cons.mpr ⟨(s_iloadn (am_dp pw_X11_isSound_32 dd_X11_isSound_32a.2.1) rfl).to, ?_⟩
  refine List.forall_mem_cons.mpr ⟨(s_iadd (am_dp pw_X11_isSound_32 dd_X11_isSound_32a.2.2.1)).to, ?_⟩
  refine List.forall_mem_cons.mpr ⟨(s_iald (am_dp pw_X11_isSound_32 dd_X11_isSound_32a.2.2.2.1)).to, ?_⟩
  refine List.forall_mem_cons.mpr ⟨(s_goto (am_dp pw_X11_isSound_32 dd_X11_isSound_32a.2.2.2.2.1) (by decide)).to, ?_⟩
  refine List.forall_mem_cons.mpr ⟨(s_iconst (am_dp pw_X11_isSound_32 dd_X11_isSound_32a.2.2.2.2.2.1) (by decide)).to, ?_⟩
  refine List.forall_mem_cons.mpr ⟨(s_iadd (am_dp pw_X11_isSound_32 dd_X11_isSound_32a.2.2.2.2.2.2.1)).to, ?_⟩
  refine List.forall_mem_cons.mpr ⟨(s_icmp_lt (am_dp pw_X11_isSound_32 dd_X11_isSound_32a.2.2.2.2.2.2.2) (by decide)).to, ?_⟩
  refine List.forall_mem_cons.mpr ⟨(s_iconst (am_dp pw_X11_isSound_32 dd_X11_isSound_32b.1) (by decide)).to, ?_⟩
  refine List.forall_mem_cons.mpr ⟨(s_goto (am_dp pw_X11_isSound_32 dd_X11_isSound_32b.2.1) (by decide)).to, ?_⟩
  refine List.forall_mem_cons.mpr ⟨(s_iconst (am_dp pw_X11_isSound_32 dd_X11_isSound_32b.2.2.1) (by decide)).to, ?_⟩
  refine List.forall_mem_cons.mpr ⟨s_zret (am_dp pw_X11_isSound_32 dd_X11_isSound_32b.2.2.2) rfl, ?_⟩
  exact fun _ h => absurd h List.not_mem_nil
theorem sn_tX11_reaches : ∀ q ∈ tX11_reaches, am_Snd am_P0 RX11 cX11_reaches 6 (Option.none : Option FieldType) "reaches" q.1 q.2 := by
  unfold tX11_reaches
  refine List.forall_mem_cons.mpr ⟨(s_aloadn (am_dp pw_X11_reaches_0 dd_X11_reaches_0a.1) rfl).to, ?_⟩
  refine List.forall_mem_cons.mpr ⟨(s_iloadn (am_dp pw_X11_reaches_0 dd_X11_reaches_0a.2.1) rfl).to, ?_⟩
  refine List.forall_mem_cons.mpr ⟨(s_iloadn (am_dp pw_X11_reaches_0 dd_X11_reaches_0a.2.2.1) rfl).to, ?_⟩
  refine List.forall_mem_cons.mpr ⟨zw_cv217 (am_dp pw_X11_reaches_0 dd_X11_reaches_0a.2.2.2.1) wd1819, ?_⟩
  refine List.forall_mem_cons.mpr ⟨(s_if_ne (am_dp pw_X11_reaches_0 dd_X11_reaches_0a.2.2.2.2.1) (by decide)).to, ?_⟩
  refine List.forall_mem_cons.mpr ⟨s_vret (am_dp pw_X11_reaches_0 dd_X11_reaches_0a.2.2.2.2.2.1) rfl, ?_⟩
  refine List.forall_mem_cons.mpr ⟨(s_aloadn (am_dp pw_X11_reaches_0 dd_X11_reaches_0a.2.2.2.2.2.2.1) rfl).to, ?_⟩
  refine List.forall_mem_cons.mpr ⟨(s_iloadn (am_dp pw_X11_reaches_0 dd_X11_reaches_0a.2.2.2.2.2.2.2) rfl).to, ?_⟩
  refine List.forall_mem_cons.mpr ⟨(s_iloadn (am_dp pw_X11_reaches_0 dd_X11_reaches_0b.1) rfl).to, ?_⟩
  refine List.forall_mem_cons.mpr ⟨zw_cv218 (am_dp pw_X11_reaches_0 dd_X11_reaches_0b.2.1) wd1826, ?_⟩
  refine List.forall_mem_cons.mpr ⟨(s_istore (am_dp pw_X11_reaches_0 dd_X11_reaches_0b.2.2.1) (by decide)).to, ?_⟩
  refine List.forall_mem_cons.mpr ⟨(s_aloadn (am_dp pw_X11_reaches_0 dd_X11_reaches_0b.2.2.2.1) rfl).to, ?_⟩
  refine List.forall_mem_cons.mpr ⟨(s_get (ci := 11) (k := 57) (am_dp pw_X11_reaches_0 dd_X11_reaches_0b.2.2.2.2.1) rfl (by decide) wd1390 inX11 rfl).to, ?_⟩
  refine List.forall_mem_cons.mpr ⟨(s_iload (am_dp pw_X11_reaches_0 dd_X11_reaches_0b.2.2.2.2.2.1)).to, ?_⟩
  refine List.forall_mem_cons.mpr ⟨(s_iald (am_dp pw_X11_reaches_0 dd_X11_reaches_0b.2.2.2.2.2.2.1)).to, ?_⟩
  refine List.forall_mem_cons.mpr ⟨(s_iconst (am_dp pw_X11_reaches_0 dd_X11_reaches_0b.2.2.2.2.2.2.2) (by decide)).to, ?_⟩
  refine List.forall_mem_cons.mpr ⟨(s_icmp_ne (am_dp pw_X11_reaches_0 dd_X11_reaches_0c.1) (by decide)).to, ?_⟩
  refine List.forall_mem_cons.mpr ⟨(s_aloadn (am_dp pw_X11_reaches_0 dd_X11_reaches_0c.2.1) rfl).to, ?_⟩
  refine List.forall_mem_cons.mpr ⟨(s_iloadn (am_dp pw_X11_reaches_0 dd_X11_reaches_0c.2.2.1) rfl).to, ?_⟩
  refine List.forall_mem_cons.mpr ⟨(s_iload (am_dp pw_X11_reaches_0 dd_X11_reaches_0c.2.2.2)).to, ?_⟩
  refine List.forall_mem_cons.mpr ⟨zw_cv234 (am_dp pw_X11_reaches_32 dd_X11_reaches_32a.1) wd1867, ?_⟩
  refine List.forall_mem_cons.mpr ⟨(s_if_ne (am_dp pw_X11_reaches_32 dd_X11_reaches_32a.2.1) (by decide)).to, ?_⟩
  refine List.forall_mem_cons.mpr ⟨s_vret (am_dp pw_X11_reaches_32 dd_X11_reaches_32a.2.2.1) rfl, ?_⟩
  refine List.forall_mem_cons.mpr ⟨(s_aloadn (am_dp pw_X11_reaches_32 dd_X11_reaches_32a.2.2.2.1) rfl).to, ?_⟩
  refine List.forall_mem_cons.mpr ⟨(s_get (ci := 11) (k := 57) (am_dp pw_X11_reaches_32 dd_X11_reaches_32a.2.2.2.2.1) rfl (by decide) wd1390 inX11 rfl).to, ?_⟩
  refine List.forall_mem_cons.mpr ⟨(s_iload (am_dp pw_X11_reaches_32 dd_X11_reaches_32a.2.2.2.2.2.1)).to, ?_⟩
  refine List.forall_mem_cons.mpr ⟨(s_iload (am_dp pw_X11_reaches_32 dd_X11_reaches_32a.2.2.2.2.2.2.1)).to, ?_⟩
  refine List.forall_mem_cons.mpr ⟨(s_iast (am_dp pw_X11_reaches_32 dd_X11_reaches_32a.2.2.2.2.2.2.2)).to, ?_⟩
  refine List.forall_mem_cons.mpr ⟨(s_aloadn (am_dp pw_X11_reaches_32 dd_X11_reaches_32b.1) rfl).to, ?_⟩
  refine List.forall_mem_cons.mpr ⟨(s_get (ci := 11) (k := 58) (am_dp pw_X11_reaches_32 dd_X11_reaches_32b.2.1) rfl (by decide) wd1391 inX11 rfl).to, ?_⟩
  refine List.forall_mem_cons.mpr ⟨(s_aloadn (am_dp pw_X11_reaches_32 dd_X11_reaches_32b.2.2.1) rfl).to, ?_⟩
  refine List.forall_mem_cons.mpr ⟨(s_get (ci := 11) (k := 59) (am_dp pw_X11_reaches_32 dd_X11_reaches_32b.2.2.2.1) rfl (by decide) wd1392 inX11 rfl).to, ?_⟩
  refine List.forall_mem_cons.mpr ⟨(s_iload (am_dp pw_X11_reaches_32 dd_X11_reaches_32b.2.2.2.2.1)).to, ?_⟩
  refine List.forall_mem_cons.mpr ⟨(s_iast (am_dp pw_X11_reaches_32 dd_X11_reaches_32b.2.2.2.2.2.1)).to, ?_⟩
  refine List.forall_mem_cons.mpr ⟨(s_aloadn (am_dp pw_X11_reaches_32 dd_X11_reaches_32b.2.2.2.2.2.2.1) rfl).to, ?_⟩
  refine List.forall_mem_cons.mpr ⟨(s_dup (am_dp pw_X11_reaches_32 dd_X11_reaches_32b.2.2.2.2.2.2.2)).to, ?_⟩
  refine List.forall_mem_cons.mpr ⟨(s_get (ci := 11) (k := 59) (am_dp pw_X11_reaches_32 dd_X11_reaches_32c) rfl (by decide) wd1392 inX11 rfl).to, ?_⟩
  refine List.forall_mem_cons.mpr ⟨(s_iconst (am_dp pw_X11_reaches_64 dd_X11_reaches_64a.1) (by decide)).to, ?_⟩
  refine List.forall_mem_cons.mpr ⟨(s_iadd (am_dp pw_X11_reaches_64 dd_X11_reaches_64a.2.1)).to, ?_⟩
  refine List.forall_mem_cons.mpr ⟨(s_put (ci := 11) (k := 59) (am_dp pw_X11_reaches_64 dd_X11_reaches_64a.2.2.1) rfl (by decide) wd1392 inX11 tyX11_ok nmX11 rfl rfl).to, ?_⟩
  refine List.forall_mem_cons.mpr ⟨s_vret (am_dp pw_X11_reaches_64 dd_X11_reaches_64a.2.2.2) rfl, ?_⟩
  exact fun _ h => absurd h List.not_mem_nil
theorem sn_tX11_goes_0 : ∀ q ∈ tX11_goes_0, am_Snd am_P0 RX11 cX11_goes 7 (Option.none : Option FieldType) "goes" q.1 q.2 := by
  unfold tX11_goes_0
  refine List.forall_mem_cons.mpr ⟨(s_iconst (am_dp pw_X11_goes_0 dd_X11_goes_0a.1) (by decide)).to, ?_⟩
  refine List.forall_mem_cons.mpr ⟨(s_istoren (am_dp pw_X11_goes_0 dd_X11_goes_0a.2.1) rfl (by decide)).to, ?_⟩
  refine List.forall_mem_cons.mpr ⟨(s_iloadn (am_dp pw_X11_goes_0 dd_X11_goes_0a.2.2.1) rfl).to, ?_⟩
  refine List.forall_mem_cons.mpr ⟨(s_aloadn (am_dp pw_X11_goes_0 dd_X11_goes_0a.2.2.2.1) rfl).to, ?_⟩
  refine List.forall_mem_cons.mpr ⟨zw_cv214 (am_dp pw_X11_goes_0 dd_X11_goes_0a.2.2.2.2.1) wd1771, ?_⟩
  refine List.forall_mem_cons.mpr ⟨(s_icmp_ge (am_dp pw_X11_goes_0 dd_X11_goes_0a.2.2.2.2.2.1) (by decide)).to, ?_⟩
  refine List.forall_mem_cons.mpr ⟨(s_aloadn (am_dp pw_X11_goes_0 dd_X11_goes_0a.2.2.2.2.2.2.1) rfl).to, ?_⟩
  refine List.forall_mem_cons.mpr ⟨(s_get (ci := 11) (k := 57) (am_dp pw_X11_goes_0 dd_X11_goes_0a.2.2.2.2.2.2.2) rfl (by decide) wd1390 inX11 rfl).to, ?_⟩
  refine List.forall_mem_cons.mpr ⟨(s_iloadn (am_dp pw_X11_goes_0 dd_X11_goes_0b.1) rfl).to, ?_⟩
  refine List.forall_mem_cons.mpr ⟨(s_iconst (am_dp pw_X11_goes_0 dd_X11_goes_0b.2.1) (by decide)).to, ?_⟩
  refine List.forall_mem_cons.mpr ⟨(s_iast (am_dp pw_X11_goes_0 dd_X11_goes_0b.2.2.1)).to, ?_⟩
  refine List.forall_mem_cons.mpr ⟨(s_iinc (am_dp pw_X11_goes_0 dd_X11_goes_0b.2.2.2.1) (by decide) (by decide)).to, ?_⟩
  refine List.forall_mem_cons.mpr ⟨(s_goto (am_dp pw_X11_goes_0 dd_X11_goes_0b.2.2.2.2.1) (by decide)).to, ?_⟩
  refine List.forall_mem_cons.mpr ⟨(s_aloadn (am_dp pw_X11_goes_0 dd_X11_goes_0b.2.2.2.2.2.1) rfl).to, ?_⟩
  refine List.forall_mem_cons.mpr ⟨(s_iconst (am_dp pw_X11_goes_0 dd_X11_goes_0b.2.2.2.2.2.2.1) (by decide)).to, ?_⟩
  refine List.forall_mem_cons.mpr ⟨(s_put (ci := 11) (k := 59) (am_dp pw_X11_goes_0 dd_X11_goes_0b.2.2.2.2.2.2.2) rfl (by decide) wd1392 inX11 tyX11_ok nmX11 rfl rfl).to, ?_⟩
  refine List.forall_mem_cons.mpr ⟨(s_aloadn (am_dp pw_X11_goes_0 dd_X11_goes_0c.1) rfl).to, ?_⟩
  refine List.forall_mem_cons.mpr ⟨(s_iloadn (am_dp pw_X11_goes_0 dd_X11_goes_0c.2.1) rfl).to, ?_⟩
  refine List.forall_mem_cons.mpr ⟨(s_aloadn (am_dp pw_X11_goes_0 dd_X11_goes_0c.2.2.1) rfl).to, ?_⟩
  refine List.forall_mem_cons.mpr ⟨(s_iloadn (am_dp pw_X11_goes_0 dd_X11_goes_0c.2.2.2) rfl).to, ?_⟩
  refine List.forall_mem_cons.mpr ⟨zw_cv215 (am_dp pw_X11_goes_32 dd_X11_goes_32a.1) wd1783, ?_⟩
  refine List.forall_mem_cons.mpr ⟨(s_aloadn (am_dp pw_X11_goes_32 dd_X11_goes_32a.2.1) rfl).to, ?_⟩
  refine List.forall_mem_cons.mpr ⟨(s_iloadn (am_dp pw_X11_goes_32 dd_X11_goes_32a.2.2.1) rfl).to, ?_⟩
  refine List.forall_mem_cons.mpr ⟨zw_cv216 (am_dp pw_X11_goes_32 dd_X11_goes_32a.2.2.2.1) wd1787, ?_⟩
  refine List.forall_mem_cons.mpr ⟨(s_iconst (am_dp pw_X11_goes_32 dd_X11_goes_32a.2.2.2.2.1) (by decide)).to, ?_⟩
  refine List.forall_mem_cons.mpr ⟨zw_cv236 (am_dp pw_X11_goes_32 dd_X11_goes_32a.2.2.2.2.2.1) wd1863, ?_⟩
  refine List.forall_mem_cons.mpr ⟨(s_iconst (am_dp pw_X11_goes_32 dd_X11_goes_32a.2.2.2.2.2.2.1) (by decide)).to, ?_⟩
  refine List.forall_mem_cons.mpr ⟨(s_istoren (am_dp pw_X11_goes_32 dd_X11_goes_32a.2.2.2.2.2.2.2) rfl (by decide)).to, ?_⟩
  refine List.forall_mem_cons.mpr ⟨(s_iloadn (am_dp pw_X11_goes_32 dd_X11_goes_32b.1) rfl).to, ?_⟩
  refine List.forall_mem_cons.mpr ⟨(s_aloadn (am_dp pw_X11_goes_32 dd_X11_goes_32b.2.1) rfl).to, ?_⟩
  refine List.forall_mem_cons.mpr ⟨(s_get (ci := 11) (k := 59) (am_dp pw_X11_goes_32 dd_X11_goes_32b.2.2.1) rfl (by decide) wd1392 inX11 rfl).to, ?_⟩
  refine List.forall_mem_cons.mpr ⟨(s_icmp_ge (am_dp pw_X11_goes_32 dd_X11_goes_32b.2.2.2.1) (by decide)).to, ?_⟩
  refine List.forall_mem_cons.mpr ⟨(s_aloadn (am_dp pw_X11_goes_32 dd_X11_goes_32b.2.2.2.2.1) rfl).to, ?_⟩
  refine List.forall_mem_cons.mpr ⟨(s_get (ci := 11) (k := 58) (am_dp pw_X11_goes_32 dd_X11_goes_32b.2.2.2.2.2.1) rfl (by decide) wd1391 inX11 rfl).to, ?_⟩
  refine List.forall_mem_cons.mpr ⟨(s_iloadn (am_dp pw_X11_goes_32 dd_X11_goes_32b.2.2.2.2.2.2.1) rfl).to, ?_⟩
  refine List.forall_mem_cons.mpr ⟨(s_iald (am_dp pw_X11_goes_32 dd_X11_goes_32b.2.2.2.2.2.2.2)).to, ?_⟩
  refine List.forall_mem_cons.mpr ⟨(s_istore (am_dp pw_X11_goes_32 dd_X11_goes_32c.1) (by decide)).to, ?_⟩
  refine List.forall_mem_cons.mpr ⟨(s_aloadn (am_dp pw_X11_goes_32 dd_X11_goes_32c.2.1) rfl).to, ?_⟩
  refine List.forall_mem_cons.mpr ⟨(s_iload (am_dp pw_X11_goes_32 dd_X11_goes_32c.2.2)).to, ?_⟩
  refine List.forall_mem_cons.mpr ⟨zw_cv215 (am_dp pw_X11_goes_64 dd_X11_goes_64a.1) wd1783, ?_⟩
  refine List.forall_mem_cons.mpr ⟨(s_istore (am_dp pw_X11_goes_64 dd_X11_goes_64a.2.1) (by decide)).to, ?_⟩
  refine List.forall_mem_cons.mpr ⟨(s_aloadn (am_dp pw_X11_goes_64 dd_X11_goes_64a.2.2.1) rfl).to, ?_⟩
  refine List.forall_mem_cons.mpr ⟨(s_iload (am_dp pw_X11_goes_64 dd_X11_goes_64a.2.2.2.1)).to, ?_⟩
  refine List.forall_mem_cons.mpr ⟨zw_cv216 (am_dp pw_X11_goes_64 dd_X11_goes_64a.2.2.2.2.1) wd1787, ?_⟩
  refine List.forall_mem_cons.mpr ⟨(s_istore (am_dp pw_X11_goes_64 dd_X11_goes_64a.2.2.2.2.2.1) (by decide)).to, ?_⟩
  refine List.forall_mem_cons.mpr ⟨(s_aloadn (am_dp pw_X11_goes_64 dd_X11_goes_64a.2.2.2.2.2.2.1) rfl).to, ?_⟩
  refine List.forall_mem_cons.mpr ⟨(s_iloadn (am_dp pw_X11_goes_64 dd_X11_goes_64a.2.2.2.2.2.2.2) rfl).to, ?_⟩
  refine List.forall_mem_cons.mpr ⟨(s_iload (am_dp pw_X11_goes_64 dd_X11_goes_64b.1)).to, ?_⟩
  refine List.forall_mem_cons.mpr ⟨(s_iconst (am_dp pw_X11_goes_64 dd_X11_goes_64b.2.1) (by decide)).to, ?_⟩
  refine List.forall_mem_cons.mpr ⟨(s_isub (am_dp pw_X11_goes_64 dd_X11_goes_64b.2.2.1)).to, ?_⟩
  refine List.forall_mem_cons.mpr ⟨(s_iload (am_dp pw_X11_goes_64 dd_X11_goes_64b.2.2.2.1)).to, ?_⟩
  refine List.forall_mem_cons.mpr ⟨(s_aloadn (am_dp pw_X11_goes_64 dd_X11_goes_64b.2.2.2.2.1) rfl).to, ?_⟩
  refine List.forall_mem_cons.mpr ⟨(s_get (ci := 11) (k := 57) (am_dp pw_X11_goes_64 dd_X11_goes_64b.2.2.2.2.2.1) rfl (by decide) wd1390 inX11 rfl).to, ?_⟩
  refine List.forall_mem_cons.mpr ⟨(s_iload (am_dp pw_X11_goes_64 dd_X11_goes_64b.2.2.2.2.2.2.1)).to, ?_⟩
  refine List.forall_mem_cons.mpr ⟨(s_iald (am_dp pw_X11_goes_64 dd_X11_goes_64b.2.2.2.2.2.2.2)).to, ?_⟩
  refine List.forall_mem_cons.mpr ⟨(s_iconst (am_dp pw_X11_goes_64 dd_X11_goes_64c.1) (by decide)).to, ?_⟩
  refine List.forall_mem_cons.mpr ⟨(s_iadd (am_dp pw_X11_goes_64 dd_X11_goes_64c.2.1)).to, ?_⟩
  refine List.forall_mem_cons.mpr ⟨zw_cv236 (am_dp pw_X11_goes_64 dd_X11_goes_64c.2.2) wd1863, ?_⟩
  refine List.forall_mem_cons.mpr ⟨(s_aloadn (am_dp pw_X11_goes_96 dd_X11_goes_96a.1) rfl).to, ?_⟩
  refine List.forall_mem_cons.mpr ⟨(s_iloadn (am_dp pw_X11_goes_96 dd_X11_goes_96a.2.1) rfl).to, ?_⟩
  exact fun _ h => absurd h List.not_mem_nil
theorem sn_tX11_goes_1 : ∀ q ∈ tX11_goes_1, am_Snd am_P0 RX11 cX11_goes 7 (Option.none : Option FieldType) "goes" q.1 q.2 := by
  unfold tX11_goes_1
  refine List.forall_mem_cons.mpr ⟨(s_iload (am_dp pw_X11_goes_96 dd_X11_goes_96a.2.2.1)).to, ?_⟩
  refine List.forall_mem_cons.mpr ⟨(s_iconst (am_dp pw_X11_goes_96 dd_X11_goes_96a.2.2.2.1) (by decide)).to, ?_⟩
  refine List.forall_mem_cons.mpr ⟨(s_iadd (am_dp pw_X11_goes_96 dd_X11_goes_96a.2.2.2.2.1)).to, ?_⟩
  refine List.forall_mem_cons.mpr ⟨(s_iload (am_dp pw_X11_goes_96 dd_X11_goes_96a.2.2.2.2.2.1)).to, ?_⟩
  refine List.forall_mem_cons.mpr ⟨(s_aloadn (am_dp pw_X11_goes_96 dd_X11_goes_96a.2.2.2.2.2.2.1) rfl).to, ?_⟩
  refine List.forall_mem_cons.mpr ⟨(s_get (ci := 11) (k := 57) (am_dp pw_X11_goes_96 dd_X11_goes_96a.2.2.2.2.2.2.2) rfl (by decide) wd1390 inX11 rfl).to, ?_⟩
  refine List.forall_mem_cons.mpr ⟨(s_iload (am_dp pw_X11_goes_96 dd_X11_goes_96b.1)).to, ?_⟩
  refine List.forall_mem_cons.mpr ⟨(s_iald (am_dp pw_X11_goes_96 dd_X11_goes_96b.2.1)).to, ?_⟩
  refine List.forall_mem_cons.mpr ⟨(s_iconst (am_dp pw_X11_goes_96 dd_X11_goes_96b.2.2.1) (by decide)).to, ?_⟩
  refine List.forall_mem_cons.mpr ⟨(s_iadd (am_dp pw_X11_goes_96 dd_X11_goes_96b.2.2.2.1)).to, ?_⟩
  refine List.forall_mem_cons.mpr ⟨zw_cv236 (am_dp pw_X11_goes_96 dd_X11_goes_96b.2.2.2.2.1) wd1863, ?_⟩
  refine List.forall_mem_cons.mpr ⟨(s_aloadn (am_dp pw_X11_goes_96 dd_X11_goes_96b.2.2.2.2.2.1) rfl).to, ?_⟩
  refine List.forall_mem_cons.mpr ⟨(s_iloadn (am_dp pw_X11_goes_96 dd_X11_goes_96b.2.2.2.2.2.2.1) rfl).to, ?_⟩
  refine List.forall_mem_cons.mpr ⟨(s_iload (am_dp pw_X11_goes_96 dd_X11_goes_96b.2.2.2.2.2.2.2)).to, ?_⟩
  refine List.forall_mem_cons.mpr ⟨(s_iload (am_dp pw_X11_goes_96 dd_X11_goes_96c.1)).to, ?_⟩
  refine List.forall_mem_cons.mpr ⟨(s_iconst (am_dp pw_X11_goes_96 dd_X11_goes_96c.2.1) (by decide)).to, ?_⟩
  refine List.forall_mem_cons.mpr ⟨(s_isub (am_dp pw_X11_goes_96 dd_X11_goes_96c.2.2.1)).to, ?_⟩
  refine List.forall_mem_cons.mpr ⟨(s_aloadn (am_dp pw_X11_goes_96 dd_X11_goes_96c.2.2.2.1) rfl).to, ?_⟩
  refine List.forall_mem_cons.mpr ⟨(s_get (ci := 11) (k := 57) (am_dp pw_X11_goes_96 dd_X11_goes_96c.2.2.2.2) rfl (by decide) wd1390 inX11 rfl).to, ?_⟩
  refine List.forall_mem_cons.mpr ⟨(s_iload (am_dp pw_X11_goes_128 dd_X11_goes_128a.1)).to, ?_⟩
  refine List.forall_mem_cons.mpr ⟨(s_iald (am_dp pw_X11_goes_128 dd_X11_goes_128a.2.1)).to, ?_⟩
  refine List.forall_mem_cons.mpr ⟨(s_iconst (am_dp pw_X11_goes_128 dd_X11_goes_128a.2.2.1) (by decide)).to, ?_⟩
  refine List.forall_mem_cons.mpr ⟨(s_iadd (am_dp pw_X11_goes_128 dd_X11_goes_128a.2.2.2.1)).to, ?_⟩
  refine List.forall_mem_cons.mpr ⟨zw_cv236 (am_dp pw_X11_goes_128 dd_X11_goes_128a.2.2.2.2.1) wd1863, ?_⟩
  refine List.forall_mem_cons.mpr ⟨(s_aloadn (am_dp pw_X11_goes_128 dd_X11_goes_128a.2.2.2.2.2.1) rfl).to, ?_⟩
  refine List.forall_mem_cons.mpr ⟨(s_iloadn (am_dp pw_X11_goes_128 dd_X11_goes_128a.2.2.2.2.2.2.1) rfl).to, ?_⟩
  refine List.forall_mem_cons.mpr ⟨(s_iload (am_dp pw_X11_goes_128 dd_X11_goes_128a.2.2.2.2.2.2.2)).to, ?_⟩
  refine List.forall_mem_cons.mpr ⟨(s_iload (am_dp pw_X11_goes_128 dd_X11_goes_128b.1)).to, ?_⟩
  refine List.forall_mem_cons.mpr ⟨(s_iconst (am_dp pw_X11_goes_128 dd_X11_goes_128b.2.1) (by decide)).to, ?_⟩
  refine List.forall_mem_cons.mpr ⟨(s_iadd (am_dp pw_X11_goes_128 dd_X11_goes_128b.2.2.1)).to, ?_⟩
  refine List.forall_mem_cons.mpr ⟨(s_aloadn (am_dp pw_X11_goes_128 dd_X11_goes_128b.2.2.2.1) rfl).to, ?_⟩
  refine List.forall_mem_cons.mpr ⟨(s_get (ci := 11) (k := 57) (am_dp pw_X11_goes_128 dd_X11_goes_128b.2.2.2.2.1) rfl (by decide) wd1390 inX11 rfl).to, ?_⟩
  refine List.forall_mem_cons.mpr ⟨(s_iload (am_dp pw_X11_goes_128 dd_X11_goes_128b.2.2.2.2.2.1)).to, ?_⟩
  refine List.forall_mem_cons.mpr ⟨(s_iald (am_dp pw_X11_goes_128 dd_X11_goes_128b.2.2.2.2.2.2.1)).to, ?_⟩
  refine List.forall_mem_cons.mpr ⟨(s_iconst (am_dp pw_X11_goes_128 dd_X11_goes_128b.2.2.2.2.2.2.2) (by decide)).to, ?_⟩
  refine List.forall_mem_cons.mpr ⟨(s_iadd (am_dp pw_X11_goes_128 dd_X11_goes_128c.1)).to, ?_⟩
  refine List.forall_mem_cons.mpr ⟨zw_cv236 (am_dp pw_X11_goes_128 dd_X11_goes_128c.2.1) wd1863, ?_⟩
  refine List.forall_mem_cons.mpr ⟨(s_iinc (am_dp pw_X11_goes_128 dd_X11_goes_128c.2.2) (by decide) (by decide)).to, ?_⟩
  refine List.forall_mem_cons.mpr ⟨(s_goto (am_dp pw_X11_goes_160 dd_X11_goes_160a.1) (by decide)).to, ?_⟩
  refine List.forall_mem_cons.mpr ⟨s_vret (am_dp pw_X11_goes_160 dd_X11_goes_160a.2) rfl, ?_⟩
  exact fun _ h => absurd h List.not_mem_nil
theorem sn_tX11_goes : ∀ q ∈ tX11_goes, am_Snd am_P0 RX11 cX11_goes 7 (Option.none : Option FieldType) "goes" q.1 q.2 := by
  unfold tX11_goes
  exact List.forall_mem_append.mpr ⟨sn_tX11_goes_0, sn_tX11_goes_1⟩
theorem sn_tX11_hoursTo : ∀ q ∈ tX11_hoursTo, am_Snd am_P0 RX11 cX11_hoursTo 4 (Option.some FieldType.int) "hoursTo" q.1 q.2 := by
  unfold tX11_hoursTo
  refine List.forall_mem_cons.mpr ⟨(s_aloadn (am_dp pw_X11_hoursTo_0 dd_X11_hoursTo_0a.1) rfl).to, ?_⟩
  refine List.forall_mem_cons.mpr ⟨(s_get (ci := 11) (k := 22) (am_dp pw_X11_hoursTo_0 dd_X11_hoursTo_0a.2.1) rfl (by decide) wd1355 inX11 rfl).to, ?_⟩
  refine List.forall_mem_cons.mpr ⟨(s_bipush (am_dp pw_X11_hoursTo_0 dd_X11_hoursTo_0a.2.2.1) (by decide)).to, ?_⟩
  refine List.forall_mem_cons.mpr ⟨(s_aloadn (am_dp pw_X11_hoursTo_0 dd_X11_hoursTo_0a.2.2.2.1) rfl).to, ?_⟩
  refine List.forall_mem_cons.mpr ⟨(s_get (ci := 11) (k := 12) (am_dp pw_X11_hoursTo_0 dd_X11_hoursTo_0a.2.2.2.2.1) rfl (by decide) wd1345 inX11 rfl).to, ?_⟩
  refine List.forall_mem_cons.mpr ⟨(s_imul (am_dp pw_X11_hoursTo_0 dd_X11_hoursTo_0a.2.2.2.2.2.1)).to, ?_⟩
  refine List.forall_mem_cons.mpr ⟨(s_iloadn (am_dp pw_X11_hoursTo_0 dd_X11_hoursTo_0a.2.2.2.2.2.2.1) rfl).to, ?_⟩
  refine List.forall_mem_cons.mpr ⟨(s_iadd (am_dp pw_X11_hoursTo_0 dd_X11_hoursTo_0a.2.2.2.2.2.2.2)).to, ?_⟩
  refine List.forall_mem_cons.mpr ⟨(s_iald (am_dp pw_X11_hoursTo_0 dd_X11_hoursTo_0b.1)).to, ?_⟩
  refine List.forall_mem_cons.mpr ⟨(s_istoren (am_dp pw_X11_hoursTo_0 dd_X11_hoursTo_0b.2.1) rfl (by decide)).to, ?_⟩
  refine List.forall_mem_cons.mpr ⟨(s_aloadn (am_dp pw_X11_hoursTo_0 dd_X11_hoursTo_0b.2.2.1) rfl).to, ?_⟩
  refine List.forall_mem_cons.mpr ⟨(s_get (ci := 11) (k := 57) (am_dp pw_X11_hoursTo_0 dd_X11_hoursTo_0b.2.2.2.1) rfl (by decide) wd1390 inX11 rfl).to, ?_⟩
  refine List.forall_mem_cons.mpr ⟨(s_iloadn (am_dp pw_X11_hoursTo_0 dd_X11_hoursTo_0b.2.2.2.2.1) rfl).to, ?_⟩
  refine List.forall_mem_cons.mpr ⟨(s_iald (am_dp pw_X11_hoursTo_0 dd_X11_hoursTo_0b.2.2.2.2.2.1)).to, ?_⟩
  refine List.forall_mem_cons.mpr ⟨(s_iconst (am_dp pw_X11_hoursTo_0 dd_X11_hoursTo_0b.2.2.2.2.2.2.1) (by decide)).to, ?_⟩
  refine List.forall_mem_cons.mpr ⟨(s_icmp_ne (am_dp pw_X11_hoursTo_0 dd_X11_hoursTo_0b.2.2.2.2.2.2.2) (by decide)).to, ?_⟩
  refine List.forall_mem_cons.mpr ⟨(s_sipush (am_dp pw_X11_hoursTo_0 dd_X11_hoursTo_0c.1) (by decide)).to, ?_⟩
  refine List.forall_mem_cons.mpr ⟨(s_goto (am_dp pw_X11_hoursTo_0 dd_X11_hoursTo_0c.2.1) (by decide)).to, ?_⟩
  refine List.forall_mem_cons.mpr ⟨(s_aloadn (am_dp pw_X11_hoursTo_0 dd_X11_hoursTo_0c.2.2) rfl).to, ?_⟩
  refine List.forall_mem_cons.mpr ⟨(s_get (ci := 11) (k := 57) (am_dp pw_X11_hoursTo_32 dd_X11_hoursTo_32a.1) rfl (by decide) wd1390 inX11 rfl).to, ?_⟩
  refine List.forall_mem_cons.mpr ⟨(s_iloadn (am_dp pw_X11_hoursTo_32 dd_X11_hoursTo_32a.2.1) rfl).to, ?_⟩
  refine List.forall_mem_cons.mpr ⟨(s_iald (am_dp pw_X11_hoursTo_32 dd_X11_hoursTo_32a.2.2.1)).to, ?_⟩
  refine List.forall_mem_cons.mpr ⟨(s_iloadn (am_dp pw_X11_hoursTo_32 dd_X11_hoursTo_32a.2.2.2.1) rfl).to, ?_⟩
  refine List.forall_mem_cons.mpr ⟨(s_iadd (am_dp pw_X11_hoursTo_32 dd_X11_hoursTo_32a.2.2.2.2.1)).to, ?_⟩
  refine List.forall_mem_cons.mpr ⟨(s_iconst (am_dp pw_X11_hoursTo_32 dd_X11_hoursTo_32a.2.2.2.2.2.1) (by decide)).to, ?_⟩
  refine List.forall_mem_cons.mpr ⟨(s_isub (am_dp pw_X11_hoursTo_32 dd_X11_hoursTo_32a.2.2.2.2.2.2.1)).to, ?_⟩
  refine List.forall_mem_cons.mpr ⟨(s_iloadn (am_dp pw_X11_hoursTo_32 dd_X11_hoursTo_32a.2.2.2.2.2.2.2) rfl).to, ?_⟩
  refine List.forall_mem_cons.mpr ⟨(s_idiv (am_dp pw_X11_hoursTo_32 dd_X11_hoursTo_32b.1)).to, ?_⟩
  refine List.forall_mem_cons.mpr ⟨s_iret (am_dp pw_X11_hoursTo_32 dd_X11_hoursTo_32b.2) rfl, ?_⟩
  exact fun _ h => absurd h List.not_mem_nil
theorem sn_tX11_far : ∀ q ∈ tX11_far, am_Snd am_P0 RX11 cX11_far 7 (Option.some FieldType.int) "far" q.1 q.2 := by
  unfold tX11_far
  refine List.forall_mem_cons.mpr ⟨(s_aloadn (am_dp pw_X11_far_0 dd_X11_far_0a.1) rfl).to, ?_⟩
  refine List.forall_mem_cons.mpr ⟨(s_iloadn (am_dp pw_X11_far_0 dd_X11_far_0a.2.1) rfl).to, ?_⟩
  refine List.forall_mem_cons.mpr ⟨zw_cv220 (am_dp pw_X11_far_0 dd_X11_far_0a.2.2.1) wd1850, ?_⟩
  refine List.forall_mem_cons.mpr ⟨(s_if_eq (am_dp pw_X11_far_0 dd_X11_far_0a.2.2.2.1) (by decide)).to, ?_⟩
  refine List.forall_mem_cons.mpr ⟨(s_aloadn (am_dp pw_X11_far_0 dd_X11_far_0a.2.2.2.2.1) rfl).to, ?_⟩
  refine List.forall_mem_cons.mpr ⟨(s_iloadn (am_dp pw_X11_far_0 dd_X11_far_0a.2.2.2.2.2.1) rfl).to, ?_⟩
  refine List.forall_mem_cons.mpr ⟨(s_iloadn (am_dp pw_X11_far_0 dd_X11_far_0a.2.2.2.2.2.2.1) rfl).to, ?_⟩
  refine List.forall_mem_cons.mpr ⟨zw_cv217 (am_dp pw_X11_far_0 dd_X11_far_0a.2.2.2.2.2.2.2) wd1819, ?_⟩
  refine List.forall_mem_cons.mpr ⟨(s_if_eq (am_dp pw_X11_far_0 dd_X11_far_0b.1) (by decide)).to, ?_⟩
  refine List.forall_mem_cons.mpr ⟨(s_aloadn (am_dp pw_X11_far_0 dd_X11_far_0b.2.1) rfl).to, ?_⟩
  refine List.forall_mem_cons.mpr ⟨(s_iload (am_dp pw_X11_far_0 dd_X11_far_0b.2.2.1)).to, ?_⟩
  refine List.forall_mem_cons.mpr ⟨(s_iload (am_dp pw_X11_far_0 dd_X11_far_0b.2.2.2.1)).to, ?_⟩
  refine List.forall_mem_cons.mpr ⟨zw_cv217 (am_dp pw_X11_far_0 dd_X11_far_0b.2.2.2.2.1) wd1819, ?_⟩
  refine List.forall_mem_cons.mpr ⟨(s_if_ne (am_dp pw_X11_far_0 dd_X11_far_0b.2.2.2.2.2.1) (by decide)).to, ?_⟩
  refine List.forall_mem_cons.mpr ⟨(s_iconst (am_dp pw_X11_far_0 dd_X11_far_0b.2.2.2.2.2.2.1) (by decide)).to, ?_⟩
  refine List.forall_mem_cons.mpr ⟨s_iret (am_dp pw_X11_far_0 dd_X11_far_0b.2.2.2.2.2.2.2) rfl, ?_⟩
  refine List.forall_mem_cons.mpr ⟨(s_aloadn (am_dp pw_X11_far_0 dd_X11_far_0c.1) rfl).to, ?_⟩
  refine List.forall_mem_cons.mpr ⟨(s_iloadn (am_dp pw_X11_far_0 dd_X11_far_0c.2) rfl).to, ?_⟩
  refine List.forall_mem_cons.mpr ⟨(s_aloadn (am_dp pw_X11_far_32 dd_X11_far_32a.1) rfl).to, ?_⟩
  refine List.forall_mem_cons.mpr ⟨(s_iloadn (am_dp pw_X11_far_32 dd_X11_far_32a.2.1) rfl).to, ?_⟩
  refine List.forall_mem_cons.mpr ⟨(s_iloadn (am_dp pw_X11_far_32 dd_X11_far_32a.2.2.1) rfl).to, ?_⟩
  refine List.forall_mem_cons.mpr ⟨zw_cv218 (am_dp pw_X11_far_32 dd_X11_far_32a.2.2.2.1) wd1826, ?_⟩
  refine List.forall_mem_cons.mpr ⟨zw_cv237 (am_dp pw_X11_far_32 dd_X11_far_32a.2.2.2.2.1) wd1859, ?_⟩
  refine List.forall_mem_cons.mpr ⟨(s_aloadn (am_dp pw_X11_far_32 dd_X11_far_32a.2.2.2.2.2.1) rfl).to, ?_⟩
  refine List.forall_mem_cons.mpr ⟨(s_iloadn (am_dp pw_X11_far_32 dd_X11_far_32a.2.2.2.2.2.2.1) rfl).to, ?_⟩
  refine List.forall_mem_cons.mpr ⟨(s_aloadn (am_dp pw_X11_far_32 dd_X11_far_32a.2.2.2.2.2.2.2) rfl).to, ?_⟩
  refine List.forall_mem_cons.mpr ⟨(s_iload (am_dp pw_X11_far_32 dd_X11_far_32b.1)).to, ?_⟩
  refine List.forall_mem_cons.mpr ⟨(s_iload (am_dp pw_X11_far_32 dd_X11_far_32b.2.1)).to, ?_⟩
  refine List.forall_mem_cons.mpr ⟨zw_cv218 (am_dp pw_X11_far_32 dd_X11_far_32b.2.2.1) wd1826, ?_⟩
  refine List.forall_mem_cons.mpr ⟨zw_cv238 (am_dp pw_X11_far_32 dd_X11_far_32b.2.2.2.1) wd1871, ?_⟩
  refine List.forall_mem_cons.mpr ⟨(s_istore (am_dp pw_X11_far_32 dd_X11_far_32b.2.2.2.2.1) (by decide)).to, ?_⟩
  refine List.forall_mem_cons.mpr ⟨(s_iload (am_dp pw_X11_far_32 dd_X11_far_32b.2.2.2.2.2.1)).to, ?_⟩
  refine List.forall_mem_cons.mpr ⟨(s_sipush (am_dp pw_X11_far_32 dd_X11_far_32b.2.2.2.2.2.2.1) (by decide)).to, ?_⟩
  refine List.forall_mem_cons.mpr ⟨(s_icmp_ne (am_dp pw_X11_far_32 dd_X11_far_32b.2.2.2.2.2.2.2) (by decide)).to, ?_⟩
  refine List.forall_mem_cons.mpr ⟨(s_iconst (am_dp pw_X11_far_64 dd_X11_far_64a.1) (by decide)).to, ?_⟩
  refine List.forall_mem_cons.mpr ⟨(s_goto (am_dp pw_X11_far_64 dd_X11_far_64a.2.1) (by decide)).to, ?_⟩
  refine List.forall_mem_cons.mpr ⟨(s_iload (am_dp pw_X11_far_64 dd_X11_far_64a.2.2.1)).to, ?_⟩
  refine List.forall_mem_cons.mpr ⟨s_iret (am_dp pw_X11_far_64 dd_X11_far_64a.2.2.2) rfl, ?_⟩
  exact fun _ h => absurd h List.not_mem_nil
theorem sn_tX11_fact : ∀ q ∈ tX11_fact, am_Snd am_P0 RX11 cX11_fact 4 (Option.none : Option FieldType) "fact" q.1 q.2 := by
  unfold tX11_fact
  refine List.forall_mem_cons.mpr ⟨(s_aloadn (am_dp pw_X11_fact_0 dd_X11_fact_0a.1) rfl).to, ?_⟩
  refine List.forall_mem_cons.mpr ⟨(s_get (ci := 11) (k := 61) (am_dp pw_X11_fact_0 dd_X11_fact_0a.2.1) rfl (by decide) wd1394 inX11 rfl).to, ?_⟩
  refine List.forall_mem_cons.mpr ⟨(s_aloadn (am_dp pw_X11_fact_0 dd_X11_fact_0a.2.2.1) rfl).to, ?_⟩
  refine List.forall_mem_cons.mpr ⟨(s_get (ci := 11) (k := 60) (am_dp pw_X11_fact_0 dd_X11_fact_0a.2.2.2.1) rfl (by decide) wd1393 inX11 rfl).to, ?_⟩
  refine List.forall_mem_cons.mpr ⟨(s_iloadn (am_dp pw_X11_fact_0 dd_X11_fact_0a.2.2.2.2.1) rfl).to, ?_⟩
  refine List.forall_mem_cons.mpr ⟨(s_iast (am_dp pw_X11_fact_0 dd_X11_fact_0a.2.2.2.2.2.1)).to, ?_⟩
  refine List.forall_mem_cons.mpr ⟨(s_aloadn (am_dp pw_X11_fact_0 dd_X11_fact_0a.2.2.2.2.2.2.1) rfl).to, ?_⟩
  refine List.forall_mem_cons.mpr ⟨(s_get (ci := 11) (k := 62) (am_dp pw_X11_fact_0 dd_X11_fact_0a.2.2.2.2.2.2.2) rfl (by decide) wd1395 inX11 rfl).to, ?_⟩
  refine List.forall_mem_cons.mpr ⟨(s_aloadn (am_dp pw_X11_fact_0 dd_X11_fact_0b.1) rfl).to, ?_⟩
  refine List.forall_mem_cons.mpr ⟨(s_get (ci := 11) (k := 60) (am_dp pw_X11_fact_0 dd_X11_fact_0b.2.1) rfl (by decide) wd1393 inX11 rfl).to, ?_⟩
  refine List.forall_mem_cons.mpr ⟨(s_iloadn (am_dp pw_X11_fact_0 dd_X11_fact_0b.2.2.1) rfl).to, ?_⟩
  refine List.forall_mem_cons.mpr ⟨(s_iast (am_dp pw_X11_fact_0 dd_X11_fact_0b.2.2.2.1)).to, ?_⟩
  refine List.forall_mem_cons.mpr ⟨(s_aloadn (am_dp pw_X11_fact_0 dd_X11_fact_0b.2.2.2.2.1) rfl).to, ?_⟩
  refine List.forall_mem_cons.mpr ⟨(s_get (ci := 11) (k := 63) (am_dp pw_X11_fact_0 dd_X11_fact_0b.2.2.2.2.2.1) rfl (by decide) wd1396 inX11 rfl).to, ?_⟩
  refine List.forall_mem_cons.mpr ⟨(s_aloadn (am_dp pw_X11_fact_0 dd_X11_fact_0b.2.2.2.2.2.2.1) rfl).to, ?_⟩
  refine List.forall_mem_cons.mpr ⟨(s_get (ci := 11) (k := 60) (am_dp pw_X11_fact_0 dd_X11_fact_0b.2.2.2.2.2.2.2) rfl (by decide) wd1393 inX11 rfl).to, ?_⟩
  refine List.forall_mem_cons.mpr ⟨(s_iloadn (am_dp pw_X11_fact_0 dd_X11_fact_0c.1) rfl).to, ?_⟩
  refine List.forall_mem_cons.mpr ⟨(s_iast (am_dp pw_X11_fact_0 dd_X11_fact_0c.2.1)).to, ?_⟩
  refine List.forall_mem_cons.mpr ⟨(s_aloadn (am_dp pw_X11_fact_0 dd_X11_fact_0c.2.2.1) rfl).to, ?_⟩
  refine List.forall_mem_cons.mpr ⟨(s_dup (am_dp pw_X11_fact_0 dd_X11_fact_0c.2.2.2)).to, ?_⟩
  refine List.forall_mem_cons.mpr ⟨(s_get (ci := 11) (k := 60) (am_dp pw_X11_fact_32 dd_X11_fact_32a.1) rfl (by decide) wd1393 inX11 rfl).to, ?_⟩
  refine List.forall_mem_cons.mpr ⟨(s_iconst (am_dp pw_X11_fact_32 dd_X11_fact_32a.2.1) (by decide)).to, ?_⟩
  refine List.forall_mem_cons.mpr ⟨(s_iadd (am_dp pw_X11_fact_32 dd_X11_fact_32a.2.2.1)).to, ?_⟩
  refine List.forall_mem_cons.mpr ⟨(s_put (ci := 11) (k := 60) (am_dp pw_X11_fact_32 dd_X11_fact_32a.2.2.2.1) rfl (by decide) wd1393 inX11 tyX11_ok nmX11 rfl rfl).to, ?_⟩
  refine List.forall_mem_cons.mpr ⟨s_vret (am_dp pw_X11_fact_32 dd_X11_fact_32a.2.2.2.2) rfl, ?_⟩
  exact fun _ h => absurd h List.not_mem_nil
theorem sn_tX11_addBooks : ∀ q ∈ tX11_addBooks, am_Snd am_P0 RX11 cX11_addBooks 3 (Option.none : Option FieldType) "addBooks" q.1 q.2 := by
  unfold tX11_addBooks
  refine List.forall_mem_cons.mpr ⟨(s_bipush (am_dp pw_X11_addBooks_0 dd_X11_addBooks_0a.1) (by decide)).to, ?_⟩
  refine List.forall_mem_cons.mpr ⟨(s_aloadn (am_dp pw_X11_addBooks_0 dd_X11_addBooks_0a.2.1) rfl).to, ?_⟩
  refine List.forall_mem_cons.mpr ⟨(s_get (ci := 11) (k := 12) (am_dp pw_X11_addBooks_0 dd_X11_addBooks_0a.2.2.1) rfl (by decide) wd1345 inX11 rfl).to, ?_⟩
  refine List.forall_mem_cons.mpr ⟨(s_imul (am_dp pw_X11_addBooks_0 dd_X11_addBooks_0a.2.2.2.1)).to, ?_⟩
  refine List.forall_mem_cons.mpr ⟨(s_istoren (am_dp pw_X11_addBooks_0 dd_X11_addBooks_0a.2.2.2.2.1) rfl (by decide)).to, ?_⟩
  refine List.forall_mem_cons.mpr ⟨(s_iloadn (am_dp pw_X11_addBooks_0 dd_X11_addBooks_0a.2.2.2.2.2.1) rfl).to, ?_⟩
  refine List.forall_mem_cons.mpr ⟨(s_bipush (am_dp pw_X11_addBooks_0 dd_X11_addBooks_0a.2.2.2.2.2.2.1) (by decide)).to, ?_⟩
  refine List.forall_mem_cons.mpr ⟨(s_aloadn (am_dp pw_X11_addBooks_0 dd_X11_addBooks_0a.2.2.2.2.2.2.2) rfl).to, ?_⟩
  refine List.forall_mem_cons.mpr ⟨(s_get (ci := 11) (k := 12) (am_dp pw_X11_addBooks_0 dd_X11_addBooks_0b.1) rfl (by decide) wd1345 inX11 rfl).to, ?_⟩
  refine List.forall_mem_cons.mpr ⟨(s_imul (am_dp pw_X11_addBooks_0 dd_X11_addBooks_0b.2.1)).to, ?_⟩
  refine List.forall_mem_cons.mpr ⟨(s_aloadn (am_dp pw_X11_addBooks_0 dd_X11_addBooks_0b.2.2.1) rfl).to, ?_⟩
  refine List.forall_mem_cons.mpr ⟨(s_get (ci := 11) (k := 28) (am_dp pw_X11_addBooks_0 dd_X11_addBooks_0b.2.2.2.1) rfl (by decide) wd1361 inX11 rfl).to, ?_⟩
  refine List.forall_mem_cons.mpr ⟨(s_aloadn (am_dp pw_X11_addBooks_0 dd_X11_addBooks_0b.2.2.2.2.1) rfl).to, ?_⟩
  refine List.forall_mem_cons.mpr ⟨(s_get (ci := 11) (k := 12) (am_dp pw_X11_addBooks_0 dd_X11_addBooks_0b.2.2.2.2.2.1) rfl (by decide) wd1345 inX11 rfl).to, ?_⟩
  refine List.forall_mem_cons.mpr ⟨(s_iald (am_dp pw_X11_addBooks_0 dd_X11_addBooks_0b.2.2.2.2.2.2.1)).to, ?_⟩
  refine List.forall_mem_cons.mpr ⟨(s_iadd (am_dp pw_X11_addBooks_0 dd_X11_addBooks_0b.2.2.2.2.2.2.2)).to, ?_⟩
  refine List.forall_mem_cons.mpr ⟨(s_icmp_ge (am_dp pw_X11_addBooks_0 dd_X11_addBooks_0c.1) (by decide)).to, ?_⟩
  refine List.forall_mem_cons.mpr ⟨(s_aloadn (am_dp pw_X11_addBooks_0 dd_X11_addBooks_0c.2.1) rfl).to, ?_⟩
  refine List.forall_mem_cons.mpr ⟨(s_get (ci := 11) (k := 29) (am_dp pw_X11_addBooks_0 dd_X11_addBooks_0c.2.2) rfl (by decide) wd1362 inX11 rfl).to, ?_⟩
  refine List.forall_mem_cons.mpr ⟨(s_iloadn (am_dp pw_X11_addBooks_32 dd_X11_addBooks_32a.1) rfl).to, ?_⟩
  refine List.forall_mem_cons.mpr ⟨(s_iald (am_dp pw_X11_addBooks_32 dd_X11_addBooks_32a.2.1)).to, ?_⟩
  refine List.forall_mem_cons.mpr ⟨(s_iloadn (am_dp pw_X11_addBooks_32 dd_X11_addBooks_32a.2.2.1) rfl).to, ?_⟩
  refine List.forall_mem_cons.mpr ⟨(s_icmp_ne (am_dp pw_X11_addBooks_32 dd_X11_addBooks_32a.2.2.2.1) (by decide)).to, ?_⟩
  refine List.forall_mem_cons.mpr ⟨(s_aloadn (am_dp pw_X11_addBooks_32 dd_X11_addBooks_32a.2.2.2.2.1) rfl).to, ?_⟩
  refine List.forall_mem_cons.mpr ⟨(s_aloadn (am_dp pw_X11_addBooks_32 dd_X11_addBooks_32a.2.2.2.2.2.1) rfl).to, ?_⟩
  refine List.forall_mem_cons.mpr ⟨(s_get (ci := 11) (k := 30) (am_dp pw_X11_addBooks_32 dd_X11_addBooks_32a.2.2.2.2.2.2.1) rfl (by decide) wd1363 inX11 rfl).to, ?_⟩
  refine List.forall_mem_cons.mpr ⟨(s_iloadn (am_dp pw_X11_addBooks_32 dd_X11_addBooks_32a.2.2.2.2.2.2.2) rfl).to, ?_⟩
  refine List.forall_mem_cons.mpr ⟨(s_iald (am_dp pw_X11_addBooks_32 dd_X11_addBooks_32b.1)).to, ?_⟩
  refine List.forall_mem_cons.mpr ⟨(s_aloadn (am_dp pw_X11_addBooks_32 dd_X11_addBooks_32b.2.1) rfl).to, ?_⟩
  refine List.forall_mem_cons.mpr ⟨(s_get (ci := 11) (k := 31) (am_dp pw_X11_addBooks_32 dd_X11_addBooks_32b.2.2.1) rfl (by decide) wd1364 inX11 rfl).to, ?_⟩
  refine List.forall_mem_cons.mpr ⟨(s_iloadn (am_dp pw_X11_addBooks_32 dd_X11_addBooks_32b.2.2.2.1) rfl).to, ?_⟩
  refine List.forall_mem_cons.mpr ⟨(s_iald (am_dp pw_X11_addBooks_32 dd_X11_addBooks_32b.2.2.2.2.1)).to, ?_⟩
  refine List.forall_mem_cons.mpr ⟨(s_aloadn (am_dp pw_X11_addBooks_32 dd_X11_addBooks_32b.2.2.2.2.2.1) rfl).to, ?_⟩
  refine List.forall_mem_cons.mpr ⟨(s_get (ci := 11) (k := 32) (am_dp pw_X11_addBooks_32 dd_X11_addBooks_32b.2.2.2.2.2.2.1) rfl (by decide) wd1365 inX11 rfl).to, ?_⟩
  refine List.forall_mem_cons.mpr ⟨(s_iloadn (am_dp pw_X11_addBooks_32 dd_X11_addBooks_32b.2.2.2.2.2.2.2) rfl).to, ?_⟩
  refine List.forall_mem_cons.mpr ⟨(s_iald (am_dp pw_X11_addBooks_32 dd_X11_addBooks_32c.1)).to, ?_⟩
  refine List.forall_mem_cons.mpr ⟨zw_cv240 (am_dp pw_X11_addBooks_32 dd_X11_addBooks_32c.2.1) wd1891, ?_⟩
  refine List.forall_mem_cons.mpr ⟨(s_iinc (am_dp pw_X11_addBooks_32 dd_X11_addBooks_32c.2.2) (by decide) (by decide)).to, ?_⟩
  refine List.forall_mem_cons.mpr ⟨(s_goto (am_dp pw_X11_addBooks_64 dd_X11_addBooks_64a.1) (by decide)).to, ?_⟩
  refine List.forall_mem_cons.mpr ⟨s_vret (am_dp pw_X11_addBooks_64 dd_X11_addBooks_64a.2) rfl, ?_⟩
  exact fun _ h => absurd h List.not_mem_nil
theorem sn_tX11_addSayings : ∀ q ∈ tX11_addSayings, am_Snd am_P0 RX11 cX11_addSayings 6 (Option.some FieldType.boolean) "addSayings" q.1 q.2 := by
  unfold tX11_addSayings
  refine List.forall_mem_cons.mpr ⟨(s_iconst (am_dp pw_X11_addSayings_0 dd_X11_addSayings_0a.1) (by decide)).to, ?_⟩
  refine List.forall_mem_cons.mpr ⟨(s_istore (am_dp pw_X11_addSayings_0 dd_X11_addSayings_0a.2.1) (by decide)).to, ?_⟩
  refine List.forall_mem_cons.mpr ⟨(s_iconst (am_dp pw_X11_addSayings_0 dd_X11_addSayings_0a.2.2.1) (by decide)).to, ?_⟩
  refine List.forall_mem_cons.mpr ⟨(s_istore (am_dp pw_X11_addSayings_0 dd_X11_addSayings_0a.2.2.2.1) (by decide)).to, ?_⟩
  refine List.forall_mem_cons.mpr ⟨(s_iload (am_dp pw_X11_addSayings_0 dd_X11_addSayings_0a.2.2.2.2.1)).to, ?_⟩
  refine List.forall_mem_cons.mpr ⟨(s_bipush (am_dp pw_X11_addSayings_0 dd_X11_addSayings_0a.2.2.2.2.2.1) (by decide)).to, ?_⟩
  refine List.forall_mem_cons.mpr ⟨(s_icmp_ge (am_dp pw_X11_addSayings_0 dd_X11_addSayings_0a.2.2.2.2.2.2.1) (by decide)).to, ?_⟩
  refine List.forall_mem_cons.mpr ⟨(s_aloadn (am_dp pw_X11_addSayings_0 dd_X11_addSayings_0a.2.2.2.2.2.2.2) rfl).to, ?_⟩
  refine List.forall_mem_cons.mpr ⟨(s_iloadn (am_dp pw_X11_addSayings_0 dd_X11_addSayings_0b.1) rfl).to, ?_⟩
  refine List.forall_mem_cons.mpr ⟨(s_iload (am_dp pw_X11_addSayings_0 dd_X11_addSayings_0b.2.1)).to, ?_⟩
  refine List.forall_mem_cons.mpr ⟨zw_cv226 (am_dp pw_X11_addSayings_0 dd_X11_addSayings_0b.2.2.1) wd1842, ?_⟩
  refine List.forall_mem_cons.mpr ⟨(s_iconst (am_dp pw_X11_addSayings_0 dd_X11_addSayings_0b.2.2.2.1) (by decide)).to, ?_⟩
  refine List.forall_mem_cons.mpr ⟨(s_icmp_eq (am_dp pw_X11_addSayings_0 dd_X11_addSayings_0b.2.2.2.2.1) (by decide)).to, ?_⟩
  refine List.forall_mem_cons.mpr ⟨(s_iload (am_dp pw_X11_addSayings_0 dd_X11_addSayings_0b.2.2.2.2.2.1)).to, ?_⟩
  refine List.forall_mem_cons.mpr ⟨(s_iloadn (am_dp pw_X11_addSayings_0 dd_X11_addSayings_0b.2.2.2.2.2.2.1) rfl).to, ?_⟩
  refine List.forall_mem_cons.mpr ⟨(s_iadd (am_dp pw_X11_addSayings_0 dd_X11_addSayings_0b.2.2.2.2.2.2.2)).to, ?_⟩
  refine List.forall_mem_cons.mpr ⟨zw_cs219 (am_dp pw_X11_addSayings_0 dd_X11_addSayings_0c.1) wd1823, ?_⟩
  refine List.forall_mem_cons.mpr ⟨(s_if_ne (am_dp pw_X11_addSayings_0 dd_X11_addSayings_0c.2) (by decide)).to, ?_⟩
  refine List.forall_mem_cons.mpr ⟨(s_goto (am_dp pw_X11_addSayings_32 dd_X11_addSayings_32a.1) (by decide)).to, ?_⟩
  refine List.forall_mem_cons.mpr ⟨(s_aloadn (am_dp pw_X11_addSayings_32 dd_X11_addSayings_32a.2.1) rfl).to, ?_⟩
  refine List.forall_mem_cons.mpr ⟨(s_aloadn (am_dp pw_X11_addSayings_32 dd_X11_addSayings_32a.2.2.1) rfl).to, ?_⟩
  refine List.forall_mem_cons.mpr ⟨(s_iloadn (am_dp pw_X11_addSayings_32 dd_X11_addSayings_32a.2.2.2.1) rfl).to, ?_⟩
  refine List.forall_mem_cons.mpr ⟨(s_iload (am_dp pw_X11_addSayings_32 dd_X11_addSayings_32a.2.2.2.2.1)).to, ?_⟩
  refine List.forall_mem_cons.mpr ⟨zw_cv226 (am_dp pw_X11_addSayings_32 dd_X11_addSayings_32a.2.2.2.2.2.1) wd1842, ?_⟩
  refine List.forall_mem_cons.mpr ⟨(s_iload (am_dp pw_X11_addSayings_32 dd_X11_addSayings_32a.2.2.2.2.2.2.1)).to, ?_⟩
  refine List.forall_mem_cons.mpr ⟨(s_iloadn (am_dp pw_X11_addSayings_32 dd_X11_addSayings_32a.2.2.2.2.2.2.2) rfl).to, ?_⟩
  refine List.forall_mem_cons.mpr ⟨(s_iadd (am_dp pw_X11_addSayings_32 dd_X11_addSayings_32b.1)).to, ?_⟩
  refine List.forall_mem_cons.mpr ⟨(s_iload (am_dp pw_X11_addSayings_32 dd_X11_addSayings_32b.2.1)).to, ?_⟩
  refine List.forall_mem_cons.mpr ⟨(s_iloadn (am_dp pw_X11_addSayings_32 dd_X11_addSayings_32b.2.2.1) rfl).to, ?_⟩
  refine List.forall_mem_cons.mpr ⟨(s_iadd (am_dp pw_X11_addSayings_32 dd_X11_addSayings_32b.2.2.2.1)).to, ?_⟩
  refine List.forall_mem_cons.mpr ⟨zw_cv240 (am_dp pw_X11_addSayings_32 dd_X11_addSayings_32b.2.2.2.2.1) wd1891, ?_⟩
  refine List.forall_mem_cons.mpr ⟨(s_iload (am_dp pw_X11_addSayings_32 dd_X11_addSayings_32b.2.2.2.2.2.1)).to, ?_⟩
  refine List.forall_mem_cons.mpr ⟨(s_if_eq (am_dp pw_X11_addSayings_32 dd_X11_addSayings_32b.2.2.2.2.2.2.1) (by decide)).to, ?_⟩
  refine List.forall_mem_cons.mpr ⟨(s_aloadn (am_dp pw_X11_addSayings_32 dd_X11_addSayings_32b.2.2.2.2.2.2.2) rfl).to, ?_⟩
  refine List.forall_mem_cons.mpr ⟨(s_iloadn (am_dp pw_X11_addSayings_32 dd_X11_addSayings_32c.1) rfl).to, ?_⟩
  refine List.forall_mem_cons.mpr ⟨(s_aloadn (am_dp pw_X11_addSayings_32 dd_X11_addSayings_32c.2) rfl).to, ?_⟩
  refine List.forall_mem_cons.mpr ⟨(s_iloadn (am_dp pw_X11_addSayings_64 dd_X11_addSayings_64a.1) rfl).to, ?_⟩
  refine List.forall_mem_cons.mpr ⟨(s_iload (am_dp pw_X11_addSayings_64 dd_X11_addSayings_64a.2.1)).to, ?_⟩
  refine List.forall_mem_cons.mpr ⟨zw_cv226 (am_dp pw_X11_addSayings_64 dd_X11_addSayings_64a.2.2.1) wd1842, ?_⟩
  refine List.forall_mem_cons.mpr ⟨(s_aloadn (am_dp pw_X11_addSayings_64 dd_X11_addSayings_64a.2.2.2.1) rfl).to, ?_⟩
  refine List.forall_mem_cons.mpr ⟨(s_iloadn (am_dp pw_X11_addSayings_64 dd_X11_addSayings_64a.2.2.2.2.1) rfl).to, ?_⟩
  refine List.forall_mem_cons.mpr ⟨(s_iload (am_dp pw_X11_addSayings_64 dd_X11_addSayings_64a.2.2.2.2.2.1)).to, ?_⟩
  refine List.forall_mem_cons.mpr ⟨zw_cv227 (am_dp pw_X11_addSayings_64 dd_X11_addSayings_64a.2.2.2.2.2.2.1) wd1910, ?_⟩
  refine List.forall_mem_cons.mpr ⟨zw_cv235 (am_dp pw_X11_addSayings_64 dd_X11_addSayings_64a.2.2.2.2.2.2.2) wd1914, ?_⟩
  refine List.forall_mem_cons.mpr ⟨(s_if_eq (am_dp pw_X11_addSayings_64 dd_X11_addSayings_64b.1) (by decide)).to, ?_⟩
  refine List.forall_mem_cons.mpr ⟨(s_iconst (am_dp pw_X11_addSayings_64 dd_X11_addSayings_64b.2.1) (by decide)).to, ?_⟩
  refine List.forall_mem_cons.mpr ⟨(s_goto (am_dp pw_X11_addSayings_64 dd_X11_addSayings_64b.2.2.1) (by decide)).to, ?_⟩
  refine List.forall_mem_cons.mpr ⟨(s_iconst (am_dp pw_X11_addSayings_64 dd_X11_addSayings_64b.2.2.2.1) (by decide)).to, ?_⟩
  refine List.forall_mem_cons.mpr ⟨(s_istore (am_dp pw_X11_addSayings_64 dd_X11_addSayings_64b.2.2.2.2.1) (by decide)).to, ?_⟩
  refine List.forall_mem_cons.mpr ⟨(s_iinc (am_dp pw_X11_addSayings_64 dd_X11_addSayings_64b.2.2.2.2.2.1) (by decide) (by decide)).to, ?_⟩
  refine List.forall_mem_cons.mpr ⟨(s_goto (am_dp pw_X11_addSayings_64 dd_X11_addSayings_64b.2.2.2.2.2.2) (by decide)).to, ?_⟩
  refine List.forall_mem_cons.mpr ⟨(s_iload (am_dp pw_X11_addSayings_96 dd_X11_addSayings_96a.1)).to, ?_⟩
  refine List.forall_mem_cons.mpr ⟨s_zret (am_dp pw_X11_addSayings_96 dd_X11_addSayings_96a.2) rfl, ?_⟩
  exact fun _ h => absurd h List.not_mem_nil
theorem sn_tX11_between : ∀ q ∈ tX11_between, am_Snd am_P0 RX11 cX11_between 4 (Option.some FieldType.int) "between" q.1 q.2 := by
  unfold tX11_between
  refine List.forall_mem_cons.mpr ⟨(s_iloadn (am_dp pw_X11_between_0 dd_X11_between_0a.1) rfl).to, ?_⟩
  refine List.forall_mem_cons.mpr ⟨(s_iloadn (am_dp pw_X11_between_0 dd_X11_between_0a.2.1) rfl).to, ?_⟩
  refine List.forall_mem_cons.mpr ⟨(s_icmp_le (am_dp pw_X11_between_0 dd_X11_between_0a.2.2.1) (by decide)).to, ?_⟩
  refine List.forall_mem_cons.mpr ⟨(s_iloadn (am_dp pw_X11_between_0 dd_X11_between_0a.2.2.2.1) rfl).to, ?_⟩
  refine List.forall_mem_cons.mpr ⟨(s_iloadn (am_dp pw_X11_between_0 dd_X11_between_0a.2.2.2.2.1) rfl).to, ?_⟩
  refine List.forall_mem_cons.mpr ⟨(s_isub (am_dp pw_X11_between_0 dd_X11_between_0a.2.2.2.2.2.1)).to, ?_⟩
  refine List.forall_mem_cons.mpr ⟨(s_goto (am_dp pw_X11_between_0 dd_X11_between_0a.2.2.2.2.2.2.1) (by decide)).to, ?_⟩
  refine List.forall_mem_cons.mpr ⟨(s_iloadn (am_dp pw_X11_between_0 dd_X11_between_0a.2.2.2.2.2.2.2) rfl).to, ?_⟩
  refine List.forall_mem_cons.mpr ⟨(s_iloadn (am_dp pw_X11_between_0 dd_X11_between_0b.1) rfl).to, ?_⟩
  refine List.forall_mem_cons.mpr ⟨(s_icmp_le (am_dp pw_X11_between_0 dd_X11_between_0b.2.1) (by decide)).to, ?_⟩
  refine List.forall_mem_cons.mpr ⟨(s_iloadn (am_dp pw_X11_between_0 dd_X11_between_0b.2.2.1) rfl).to, ?_⟩
  refine List.forall_mem_cons.mpr ⟨(s_iloadn (am_dp pw_X11_between_0 dd_X11_between_0b.2.2.2.1) rfl).to, ?_⟩
  refine List.forall_mem_cons.mpr ⟨(s_isub (am_dp pw_X11_between_0 dd_X11_between_0b.2.2.2.2.1)).to, ?_⟩
  refine List.forall_mem_cons.mpr ⟨(s_goto (am_dp pw_X11_between_0 dd_X11_between_0b.2.2.2.2.2.1) (by decide)).to, ?_⟩
  refine List.forall_mem_cons.mpr ⟨(s_iconst (am_dp pw_X11_between_0 dd_X11_between_0b.2.2.2.2.2.2.1) (by decide)).to, ?_⟩
  refine List.forall_mem_cons.mpr ⟨s_iret (am_dp pw_X11_between_0 dd_X11_between_0b.2.2.2.2.2.2.2) rfl, ?_⟩
  exact fun _ h => absurd h List.not_mem_nil
theorem sn_tX11_fit : ∀ q ∈ tX11_fit, am_Snd am_P0 RX11 cX11_fit 4 (Option.some FieldType.boolean) "fit" q.1 q.2 := by
  unfold tX11_fit
  refine List.forall_mem_cons.mpr ⟨(s_iconst (am_dp pw_X11_fit_0 dd_X11_fit_0a.1) (by decide)).to, ?_⟩
  refine List.forall_mem_cons.mpr ⟨(s_istoren (am_dp pw_X11_fit_0 dd_X11_fit_0a.2.1) rfl (by decide)).to, ?_⟩
  refine List.forall_mem_cons.mpr ⟨(s_iloadn (am_dp pw_X11_fit_0 dd_X11_fit_0a.2.2.1) rfl).to, ?_⟩
  refine List.forall_mem_cons.mpr ⟨(s_aloadn (am_dp pw_X11_fit_0 dd_X11_fit_0a.2.2.2.1) rfl).to, ?_⟩
  refine List.forall_mem_cons.mpr ⟨(s_get (ci := 11) (k := 60) (am_dp pw_X11_fit_0 dd_X11_fit_0a.2.2.2.2.1) rfl (by decide) wd1393 inX11 rfl).to, ?_⟩
  refine List.forall_mem_cons.mpr ⟨(s_icmp_ge (am_dp pw_X11_fit_0 dd_X11_fit_0a.2.2.2.2.2.1) (by decide)).to, ?_⟩
  refine List.forall_mem_cons.mpr ⟨(s_aloadn (am_dp pw_X11_fit_0 dd_X11_fit_0a.2.2.2.2.2.2.1) rfl).to, ?_⟩
  refine List.forall_mem_cons.mpr ⟨(s_iloadn (am_dp pw_X11_fit_0 dd_X11_fit_0a.2.2.2.2.2.2.2) rfl).to, ?_⟩
  refine List.forall_mem_cons.mpr ⟨(s_aloadn (am_dp pw_X11_fit_0 dd_X11_fit_0b.1) rfl).to, ?_⟩
  refine List.forall_mem_cons.mpr ⟨(s_get (ci := 11) (k := 61) (am_dp pw_X11_fit_0 dd_X11_fit_0b.2.1) rfl (by decide) wd1394 inX11 rfl).to, ?_⟩
  refine List.forall_mem_cons.mpr ⟨(s_iloadn (am_dp pw_X11_fit_0 dd_X11_fit_0b.2.2.1) rfl).to, ?_⟩
  refine List.forall_mem_cons.mpr ⟨(s_iald (am_dp pw_X11_fit_0 dd_X11_fit_0b.2.2.2.1)).to, ?_⟩
  refine List.forall_mem_cons.mpr ⟨zw_cv237 (am_dp pw_X11_fit_0 dd_X11_fit_0b.2.2.2.2.1) wd1859, ?_⟩
  refine List.forall_mem_cons.mpr ⟨(s_iconst (am_dp pw_X11_fit_0 dd_X11_fit_0b.2.2.2.2.2.1) (by decide)).to, ?_⟩
  refine List.forall_mem_cons.mpr ⟨(s_istoren (am_dp pw_X11_fit_0 dd_X11_fit_0b.2.2.2.2.2.2.1) rfl (by decide)).to, ?_⟩
  refine List.forall_mem_cons.mpr ⟨(s_iloadn (am_dp pw_X11_fit_0 dd_X11_fit_0b.2.2.2.2.2.2.2) rfl).to, ?_⟩
  refine List.forall_mem_cons.mpr ⟨(s_aloadn (am_dp pw_X11_fit_0 dd_X11_fit_0c.1) rfl).to, ?_⟩
  refine List.forall_mem_cons.mpr ⟨(s_get (ci := 11) (k := 60) (am_dp pw_X11_fit_0 dd_X11_fit_0c.2.1) rfl (by decide) wd1393 inX11 rfl).to, ?_⟩
  refine List.forall_mem_cons.mpr ⟨(s_icmp_ge (am_dp pw_X11_fit_0 dd_X11_fit_0c.2.2.1) (by decide)).to, ?_⟩
  refine List.forall_mem_cons.mpr ⟨(s_aloadn (am_dp pw_X11_fit_0 dd_X11_fit_0c.2.2.2) rfl).to, ?_⟩
  refine List.forall_mem_cons.mpr ⟨(s_iloadn (am_dp pw_X11_fit_32 dd_X11_fit_32a.1) rfl).to, ?_⟩
  refine List.forall_mem_cons.mpr ⟨(s_aloadn (am_dp pw_X11_fit_32 dd_X11_fit_32a.2.1) rfl).to, ?_⟩
  refine List.forall_mem_cons.mpr ⟨(s_get (ci := 11) (k := 61) (am_dp pw_X11_fit_32 dd_X11_fit_32a.2.2.1) rfl (by decide) wd1394 inX11 rfl).to, ?_⟩
  refine List.forall_mem_cons.mpr ⟨(s_iloadn (am_dp pw_X11_fit_32 dd_X11_fit_32a.2.2.2.1) rfl).to, ?_⟩
  refine List.forall_mem_cons.mpr ⟨(s_iald (am_dp pw_X11_fit_32 dd_X11_fit_32a.2.2.2.2.1)).to, ?_⟩
  refine List.forall_mem_cons.mpr ⟨zw_cv238 (am_dp pw_X11_fit_32 dd_X11_fit_32a.2.2.2.2.2.1) wd1871, ?_⟩
  refine List.forall_mem_cons.mpr ⟨(s_aloadn (am_dp pw_X11_fit_32 dd_X11_fit_32a.2.2.2.2.2.2.1) rfl).to, ?_⟩
  refine List.forall_mem_cons.mpr ⟨(s_get (ci := 11) (k := 62) (am_dp pw_X11_fit_32 dd_X11_fit_32a.2.2.2.2.2.2.2) rfl (by decide) wd1395 inX11 rfl).to, ?_⟩
  refine List.forall_mem_cons.mpr ⟨(s_iloadn (am_dp pw_X11_fit_32 dd_X11_fit_32b.1) rfl).to, ?_⟩
  refine List.forall_mem_cons.mpr ⟨(s_iald (am_dp pw_X11_fit_32 dd_X11_fit_32b.2.1)).to, ?_⟩
  refine List.forall_mem_cons.mpr ⟨(s_aloadn (am_dp pw_X11_fit_32 dd_X11_fit_32b.2.2.1) rfl).to, ?_⟩
  refine List.forall_mem_cons.mpr ⟨(s_get (ci := 11) (k := 63) (am_dp pw_X11_fit_32 dd_X11_fit_32b.2.2.2.1) rfl (by decide) wd1396 inX11 rfl).to, ?_⟩
  refine List.forall_mem_cons.mpr ⟨(s_iloadn (am_dp pw_X11_fit_32 dd_X11_fit_32b.2.2.2.2.1) rfl).to, ?_⟩
  refine List.forall_mem_cons.mpr ⟨(s_iald (am_dp pw_X11_fit_32 dd_X11_fit_32b.2.2.2.2.2.1)).to, ?_⟩
  refine List.forall_mem_cons.mpr ⟨(s_aloadn (am_dp pw_X11_fit_32 dd_X11_fit_32b.2.2.2.2.2.2.1) rfl).to, ?_⟩
  refine List.forall_mem_cons.mpr ⟨(s_get (ci := 11) (k := 62) (am_dp pw_X11_fit_32 dd_X11_fit_32b.2.2.2.2.2.2.2) rfl (by decide) wd1395 inX11 rfl).to, ?_⟩
  refine List.forall_mem_cons.mpr ⟨(s_iloadn (am_dp pw_X11_fit_32 dd_X11_fit_32c.1) rfl).to, ?_⟩
  refine List.forall_mem_cons.mpr ⟨(s_iald (am_dp pw_X11_fit_32 dd_X11_fit_32c.2.1)).to, ?_⟩
  refine List.forall_mem_cons.mpr ⟨(s_aloadn (am_dp pw_X11_fit_32 dd_X11_fit_32c.2.2.1) rfl).to, ?_⟩
  refine List.forall_mem_cons.mpr ⟨(s_get (ci := 11) (k := 63) (am_dp pw_X11_fit_32 dd_X11_fit_32c.2.2.2) rfl (by decide) wd1396 inX11 rfl).to, ?_⟩
  refine List.forall_mem_cons.mpr ⟨(s_iloadn (am_dp pw_X11_fit_64 dd_X11_fit_64a.1) rfl).to, ?_⟩
  refine List.forall_mem_cons.mpr ⟨(s_iald (am_dp pw_X11_fit_64 dd_X11_fit_64a.2.1)).to, ?_⟩
  refine List.forall_mem_cons.mpr ⟨zw_cs243 (am_dp pw_X11_fit_64 dd_X11_fit_64a.2.2.1) wd1899, ?_⟩
  refine List.forall_mem_cons.mpr ⟨(s_icmp_le (am_dp pw_X11_fit_64 dd_X11_fit_64a.2.2.2.1) (by decide)).to, ?_⟩
  refine List.forall_mem_cons.mpr ⟨(s_iconst (am_dp pw_X11_fit_64 dd_X11_fit_64a.2.2.2.2.1) (by decide)).to, ?_⟩
  refine List.forall_mem_cons.mpr ⟨s_zret (am_dp pw_X11_fit_64 dd_X11_fit_64a.2.2.2.2.2.1) rfl, ?_⟩
  refine List.forall_mem_cons.mpr ⟨(s_iinc (am_dp pw_X11_fit_64 dd_X11_fit_64a.2.2.2.2.2.2.1) (by decide) (by decide)).to, ?_⟩
  refine List.forall_mem_cons.mpr ⟨(s_goto (am_dp pw_X11_fit_64 dd_X11_fit_64a.2.2.2.2.2.2.2) (by decide)).to, ?_⟩
  refine List.forall_mem_cons.mpr ⟨(s_iinc (am_dp pw_X11_fit_64 dd_X11_fit_64b.1) (by decide) (by decide)).to, ?_⟩
  refine List.forall_mem_cons.mpr ⟨(s_goto (am_dp pw_X11_fit_64 dd_X11_fit_64b.2.1) (by decide)).to, ?_⟩
  refine List.forall_mem_cons.mpr ⟨(s_iconst (am_dp pw_X11_fit_64 dd_X11_fit_64b.2.2.1) (by decide)).to, ?_⟩
  refine List.forall_mem_cons.mpr ⟨s_zret (am_dp pw_X11_fit_64 dd_X11_fit_64b.2.2.2) rfl, ?_⟩
  exact fun _ h => absurd h List.not_mem_nil
theorem sn_tX11_booksFit : ∀ q ∈ tX11_booksFit, am_Snd am_P0 RX11 cX11_booksFit 2 (Option.some FieldType.boolean) "booksFit" q.1 q.2 := by
  unfold tX11_booksFit
  refine List.forall_mem_cons.mpr ⟨(s_aloadn (am_dp pw_X11_booksFit_0 dd_X11_booksFit_0a.1) rfl).to, ?_⟩
  refine List.forall_mem_cons.mpr ⟨(s_iconst (am_dp pw_X11_booksFit_0 dd_X11_booksFit_0a.2.1) (by decide)).to, ?_⟩
  refine List.forall_mem_cons.mpr ⟨(s_put (ci := 11) (k := 60) (am_dp pw_X11_booksFit_0 dd_X11_booksFit_0a.2.2.1) rfl (by decide) wd1393 inX11 tyX11_ok nmX11 rfl rfl).to, ?_⟩
  refine List.forall_mem_cons.mpr ⟨(s_aloadn (am_dp pw_X11_booksFit_0 dd_X11_booksFit_0a.2.2.2.1) rfl).to, ?_⟩
  refine List.forall_mem_cons.mpr ⟨(s_iloadn (am_dp pw_X11_booksFit_0 dd_X11_booksFit_0a.2.2.2.2.1) rfl).to, ?_⟩
  refine List.forall_mem_cons.mpr ⟨zw_cv241 (am_dp pw_X11_booksFit_0 dd_X11_booksFit_0a.2.2.2.2.2.1) wd1887, ?_⟩
  refine List.forall_mem_cons.mpr ⟨(s_aloadn (am_dp pw_X11_booksFit_0 dd_X11_booksFit_0a.2.2.2.2.2.2.1) rfl).to, ?_⟩
  refine List.forall_mem_cons.mpr ⟨(s_iloadn (am_dp pw_X11_booksFit_0 dd_X11_booksFit_0a.2.2.2.2.2.2.2) rfl).to, ?_⟩
  refine List.forall_mem_cons.mpr ⟨zw_cv244 (am_dp pw_X11_booksFit_0 dd_X11_booksFit_0b.1) wd1895, ?_⟩
  refine List.forall_mem_cons.mpr ⟨s_zret (am_dp pw_X11_booksFit_0 dd_X11_booksFit_0b.2) rfl, ?_⟩
  exact fun _ h => absurd h List.not_mem_nil
theorem sn_tX11_withBooks : ∀ q ∈ tX11_withBooks, am_Snd am_P0 RX11 cX11_withBooks 5 (Option.some FieldType.boolean) "withBooks" q.1 q.2 := by
  unfold tX11_withBooks
  refine List.forall_mem_cons.mpr ⟨(s_aloadn (am_dp pw_X11_withBooks_0 dd_X11_withBooks_0a.1) rfl).to, ?_⟩
  refine List.forall_mem_cons.mpr ⟨(s_iloadn (am_dp pw_X11_withBooks_0 dd_X11_withBooks_0a.2.1) rfl).to, ?_⟩
  refine List.forall_mem_cons.mpr ⟨(s_iloadn (am_dp pw_X11_withBooks_0 dd_X11_withBooks_0a.2.2.1) rfl).to, ?_⟩
  refine List.forall_mem_cons.mpr ⟨zw_cv237 (am_dp pw_X11_withBooks_0 dd_X11_withBooks_0a.2.2.2.1) wd1859, ?_⟩
  refine List.forall_mem_cons.mpr ⟨(s_bipush (am_dp pw_X11_withBooks_0 dd_X11_withBooks_0a.2.2.2.2.1) (by decide)).to, ?_⟩
  refine List.forall_mem_cons.mpr ⟨(s_aloadn (am_dp pw_X11_withBooks_0 dd_X11_withBooks_0a.2.2.2.2.2.1) rfl).to, ?_⟩
  refine List.forall_mem_cons.mpr ⟨(s_get (ci := 11) (k := 12) (am_dp pw_X11_withBooks_0 dd_X11_withBooks_0a.2.2.2.2.2.2.1) rfl (by decide) wd1345 inX11 rfl).to, ?_⟩
  refine List.forall_mem_cons.mpr ⟨(s_imul (am_dp pw_X11_withBooks_0 dd_X11_withBooks_0a.2.2.2.2.2.2.2)).to, ?_⟩
  refine List.forall_mem_cons.mpr ⟨(s_istore (am_dp pw_X11_withBooks_0 dd_X11_withBooks_0b.1) (by decide)).to, ?_⟩
  refine List.forall_mem_cons.mpr ⟨(s_iload (am_dp pw_X11_withBooks_0 dd_X11_withBooks_0b.2.1)).to, ?_⟩
  refine List.forall_mem_cons.mpr ⟨(s_bipush (am_dp pw_X11_withBooks_0 dd_X11_withBooks_0b.2.2.1) (by decide)).to, ?_⟩
  refine List.forall_mem_cons.mpr ⟨(s_aloadn (am_dp pw_X11_withBooks_0 dd_X11_withBooks_0b.2.2.2.1) rfl).to, ?_⟩
  refine List.forall_mem_cons.mpr ⟨(s_get (ci := 11) (k := 12) (am_dp pw_X11_withBooks_0 dd_X11_withBooks_0b.2.2.2.2.1) rfl (by decide) wd1345 inX11 rfl).to, ?_⟩
  refine List.forall_mem_cons.mpr ⟨(s_imul (am_dp pw_X11_withBooks_0 dd_X11_withBooks_0b.2.2.2.2.2.1)).to, ?_⟩
  refine List.forall_mem_cons.mpr ⟨(s_aloadn (am_dp pw_X11_withBooks_0 dd_X11_withBooks_0b.2.2.2.2.2.2.1) rfl).to, ?_⟩
  refine List.forall_mem_cons.mpr ⟨(s_get (ci := 11) (k := 28) (am_dp pw_X11_withBooks_0 dd_X11_withBooks_0b.2.2.2.2.2.2.2) rfl (by decide) wd1361 inX11 rfl).to, ?_⟩
  refine List.forall_mem_cons.mpr ⟨(s_aloadn (am_dp pw_X11_withBooks_0 dd_X11_withBooks_0c.1) rfl).to, ?_⟩
  refine List.forall_mem_cons.mpr ⟨(s_get (ci := 11) (k := 12) (am_dp pw_X11_withBooks_0 dd_X11_withBooks_0c.2) rfl (by decide) wd1345 inX11 rfl).to, ?_⟩
  refine List.forall_mem_cons.mpr ⟨(s_iald (am_dp pw_X11_withBooks_32 dd_X11_withBooks_32a.1)).to, ?_⟩
  refine List.forall_mem_cons.mpr ⟨(s_iadd (am_dp pw_X11_withBooks_32 dd_X11_withBooks_32a.2.1)).to, ?_⟩
  refine List.forall_mem_cons.mpr ⟨(s_icmp_ge (am_dp pw_X11_withBooks_32 dd_X11_withBooks_32a.2.2.1) (by decide)).to, ?_⟩
  refine List.forall_mem_cons.mpr ⟨(s_aloadn (am_dp pw_X11_withBooks_32 dd_X11_withBooks_32a.2.2.2.1) rfl).to, ?_⟩
  refine List.forall_mem_cons.mpr ⟨(s_get (ci := 11) (k := 29) (am_dp pw_X11_withBooks_32 dd_X11_withBooks_32a.2.2.2.2.1) rfl (by decide) wd1362 inX11 rfl).to, ?_⟩
  refine List.forall_mem_cons.mpr ⟨(s_iload (am_dp pw_X11_withBooks_32 dd_X11_withBooks_32a.2.2.2.2.2.1)).to, ?_⟩
  refine List.forall_mem_cons.mpr ⟨(s_iald (am_dp pw_X11_withBooks_32 dd_X11_withBooks_32a.2.2.2.2.2.2.1)).to, ?_⟩
  refine List.forall_mem_cons.mpr ⟨(s_iloadn (am_dp pw_X11_withBooks_32 dd_X11_withBooks_32a.2.2.2.2.2.2.2) rfl).to, ?_⟩
  refine List.forall_mem_cons.mpr ⟨(s_icmp_ne (am_dp pw_X11_withBooks_32 dd_X11_withBooks_32b.1) (by decide)).to, ?_⟩
  refine List.forall_mem_cons.mpr ⟨(s_aloadn (am_dp pw_X11_withBooks_32 dd_X11_withBooks_32b.2.1) rfl).to, ?_⟩
  refine List.forall_mem_cons.mpr ⟨(s_iloadn (am_dp pw_X11_withBooks_32 dd_X11_withBooks_32b.2.2.1) rfl).to, ?_⟩
  refine List.forall_mem_cons.mpr ⟨(s_aloadn (am_dp pw_X11_withBooks_32 dd_X11_withBooks_32b.2.2.2.1) rfl).to, ?_⟩
  refine List.forall_mem_cons.mpr ⟨(s_get (ci := 11) (k := 30) (am_dp pw_X11_withBooks_32 dd_X11_withBooks_32b.2.2.2.2.1) rfl (by decide) wd1363 inX11 rfl).to, ?_⟩
  refine List.forall_mem_cons.mpr ⟨(s_iload (am_dp pw_X11_withBooks_32 dd_X11_withBooks_32b.2.2.2.2.2.1)).to, ?_⟩
  refine List.forall_mem_cons.mpr ⟨(s_iald (am_dp pw_X11_withBooks_32 dd_X11_withBooks_32b.2.2.2.2.2.2.1)).to, ?_⟩
  refine List.forall_mem_cons.mpr ⟨zw_cv238 (am_dp pw_X11_withBooks_32 dd_X11_withBooks_32b.2.2.2.2.2.2.2) wd1871, ?_⟩
  refine List.forall_mem_cons.mpr ⟨(s_iloadn (am_dp pw_X11_withBooks_32 dd_X11_withBooks_32c.1) rfl).to, ?_⟩
  refine List.forall_mem_cons.mpr ⟨(s_iloadn (am_dp pw_X11_withBooks_32 dd_X11_withBooks_32c.2.1) rfl).to, ?_⟩
  refine List.forall_mem_cons.mpr ⟨(s_aloadn (am_dp pw_X11_withBooks_32 dd_X11_withBooks_32c.2.2.1) rfl).to, ?_⟩
  refine List.forall_mem_cons.mpr ⟨(s_get (ci := 11) (k := 31) (am_dp pw_X11_withBooks_32 dd_X11_withBooks_32c.2.2.2) rfl (by decide) wd1364 inX11 rfl).to, ?_⟩
  refine List.forall_mem_cons.mpr ⟨(s_iload (am_dp pw_X11_withBooks_64 dd_X11_withBooks_64a.1)).to, ?_⟩
  refine List.forall_mem_cons.mpr ⟨(s_iald (am_dp pw_X11_withBooks_64 dd_X11_withBooks_64a.2.1)).to, ?_⟩
  refine List.forall_mem_cons.mpr ⟨(s_aloadn (am_dp pw_X11_withBooks_64 dd_X11_withBooks_64a.2.2.1) rfl).to, ?_⟩
  refine List.forall_mem_cons.mpr ⟨(s_get (ci := 11) (k := 32) (am_dp pw_X11_withBooks_64 dd_X11_withBooks_64a.2.2.2.1) rfl (by decide) wd1365 inX11 rfl).to, ?_⟩
  refine List.forall_mem_cons.mpr ⟨(s_iload (am_dp pw_X11_withBooks_64 dd_X11_withBooks_64a.2.2.2.2.1)).to, ?_⟩
  refine List.forall_mem_cons.mpr ⟨(s_iald (am_dp pw_X11_withBooks_64 dd_X11_withBooks_64a.2.2.2.2.2.1)).to, ?_⟩
  refine List.forall_mem_cons.mpr ⟨zw_cs243 (am_dp pw_X11_withBooks_64 dd_X11_withBooks_64a.2.2.2.2.2.2.1) wd1899, ?_⟩
  refine List.forall_mem_cons.mpr ⟨(s_icmp_le (am_dp pw_X11_withBooks_64 dd_X11_withBooks_64a.2.2.2.2.2.2.2) (by decide)).to, ?_⟩
  refine List.forall_mem_cons.mpr ⟨(s_iconst (am_dp pw_X11_withBooks_64 dd_X11_withBooks_64b.1) (by decide)).to, ?_⟩
  refine List.forall_mem_cons.mpr ⟨s_zret (am_dp pw_X11_withBooks_64 dd_X11_withBooks_64b.2.1) rfl, ?_⟩
  refine List.forall_mem_cons.mpr ⟨(s_iinc (am_dp pw_X11_withBooks_64 dd_X11_withBooks_64b.2.2.1) (by decide) (by decide)).to, ?_⟩
  refine List.forall_mem_cons.mpr ⟨(s_goto (am_dp pw_X11_withBooks_64 dd_X11_withBooks_64b.2.2.2.1) (by decide)).to, ?_⟩
  refine List.forall_mem_cons.mpr ⟨(s_iconst (am_dp pw_X11_withBooks_64 dd_X11_withBooks_64b.2.2.2.2.1) (by decide)).to, ?_⟩
  refine List.forall_mem_cons.mpr ⟨s_zret (am_dp pw_X11_withBooks_64 dd_X11_withBooks_64b.2.2.2.2.2) rfl, ?_⟩
  exact fun _ h => absurd h List.not_mem_nil
theorem sn_tX11_pairs_0 : ∀ q ∈ tX11_pairs_0, am_Snd am_P0 RX11 cX11_pairs 5 (Option.none : Option FieldType) "pairs" q.1 q.2 := by
  unfold tX11_pairs_0
  refine List.forall_mem_cons.mpr ⟨(s_aloadn (am_dp pw_X11_pairs_0 dd_X11_pairs_0a.1) rfl).to, ?_⟩
  refine List.forall_mem_cons.mpr ⟨(s_iconst (am_dp pw_X11_pairs_0 dd_X11_pairs_0a.2.1) (by decide)).to, ?_⟩
  refine List.forall_mem_cons.mpr ⟨(s_put (ci := 11) (k := 65) (am_dp pw_X11_pairs_0 dd_X11_pairs_0a.2.2.1) rfl (by decide) wd1398 inX11 tyX11_ok nmX11 rfl rfl).to, ?_⟩
  refine List.forall_mem_cons.mpr ⟨(s_iconst (am_dp pw_X11_pairs_0 dd_X11_pairs_0a.2.2.2.1) (by decide)).to, ?_⟩
  refine List.forall_mem_cons.mpr ⟨(s_istoren (am_dp pw_X11_pairs_0 dd_X11_pairs_0a.2.2.2.2.1) rfl (by decide)).to, ?_⟩
  refine List.forall_mem_cons.mpr ⟨(s_iloadn (am_dp pw_X11_pairs_0 dd_X11_pairs_0a.2.2.2.2.2.1) rfl).to, ?_⟩
  refine List.forall_mem_cons.mpr ⟨(s_bipush (am_dp pw_X11_pairs_0 dd_X11_pairs_0a.2.2.2.2.2.2.1) (by decide)).to, ?_⟩
  refine List.forall_mem_cons.mpr ⟨(s_icmp_ge (am_dp pw_X11_pairs_0 dd_X11_pairs_0a.2.2.2.2.2.2.2) (by decide)).to, ?_⟩
  refine List.forall_mem_cons.mpr ⟨(s_aloadn (am_dp pw_X11_pairs_0 dd_X11_pairs_0b.1) rfl).to, ?_⟩
  refine List.forall_mem_cons.mpr ⟨(s_iloadn (am_dp pw_X11_pairs_0 dd_X11_pairs_0b.2.1) rfl).to, ?_⟩
  refine List.forall_mem_cons.mpr ⟨(s_iloadn (am_dp pw_X11_pairs_0 dd_X11_pairs_0b.2.2.1) rfl).to, ?_⟩
  refine List.forall_mem_cons.mpr ⟨zw_cv226 (am_dp pw_X11_pairs_0 dd_X11_pairs_0b.2.2.2.1) wd1842, ?_⟩
  refine List.forall_mem_cons.mpr ⟨(s_iconst (am_dp pw_X11_pairs_0 dd_X11_pairs_0b.2.2.2.2.1) (by decide)).to, ?_⟩
  refine List.forall_mem_cons.mpr ⟨(s_icmp_ne (am_dp pw_X11_pairs_0 dd_X11_pairs_0b.2.2.2.2.2.1) (by decide)).to, ?_⟩
  refine List.forall_mem_cons.mpr ⟨(s_goto (am_dp pw_X11_pairs_0 dd_X11_pairs_0b.2.2.2.2.2.2.1) (by decide)).to, ?_⟩
  refine List.forall_mem_cons.mpr ⟨(s_aloadn (am_dp pw_X11_pairs_0 dd_X11_pairs_0b.2.2.2.2.2.2.2) rfl).to, ?_⟩
  refine List.forall_mem_cons.mpr ⟨(s_get (ci := 11) (k := 67) (am_dp pw_X11_pairs_0 dd_X11_pairs_0c.1) rfl (by decide) wd1400 inX11 rfl).to, ?_⟩
  refine List.forall_mem_cons.mpr ⟨(s_aloadn (am_dp pw_X11_pairs_0 dd_X11_pairs_0c.2.1) rfl).to, ?_⟩
  refine List.forall_mem_cons.mpr ⟨(s_get (ci := 11) (k := 65) (am_dp pw_X11_pairs_0 dd_X11_pairs_0c.2.2) rfl (by decide) wd1398 inX11 rfl).to, ?_⟩
  refine List.forall_mem_cons.mpr ⟨(s_iloadn (am_dp pw_X11_pairs_32 dd_X11_pairs_32a.1) rfl).to, ?_⟩
  refine List.forall_mem_cons.mpr ⟨(s_iast (am_dp pw_X11_pairs_32 dd_X11_pairs_32a.2.1)).to, ?_⟩
  refine List.forall_mem_cons.mpr ⟨(s_aloadn (am_dp pw_X11_pairs_32 dd_X11_pairs_32a.2.2.1) rfl).to, ?_⟩
  refine List.forall_mem_cons.mpr ⟨(s_dup (am_dp pw_X11_pairs_32 dd_X11_pairs_32a.2.2.2.1)).to, ?_⟩
  refine List.forall_mem_cons.mpr ⟨(s_get (ci := 11) (k := 65) (am_dp pw_X11_pairs_32 dd_X11_pairs_32a.2.2.2.2.1) rfl (by decide) wd1398 inX11 rfl).to, ?_⟩
  refine List.forall_mem_cons.mpr ⟨(s_iconst (am_dp pw_X11_pairs_32 dd_X11_pairs_32a.2.2.2.2.2.1) (by decide)).to, ?_⟩
  refine List.forall_mem_cons.mpr ⟨(s_iadd (am_dp pw_X11_pairs_32 dd_X11_pairs_32a.2.2.2.2.2.2.1)).to, ?_⟩
  refine List.forall_mem_cons.mpr ⟨(s_put (ci := 11) (k := 65) (am_dp pw_X11_pairs_32 dd_X11_pairs_32a.2.2.2.2.2.2.2) rfl (by decide) wd1398 inX11 tyX11_ok nmX11 rfl rfl).to, ?_⟩
  refine List.forall_mem_cons.mpr ⟨(s_iinc (am_dp pw_X11_pairs_32 dd_X11_pairs_32b.1) (by decide) (by decide)).to, ?_⟩
  refine List.forall_mem_cons.mpr ⟨(s_goto (am_dp pw_X11_pairs_32 dd_X11_pairs_32b.2.1) (by decide)).to, ?_⟩
  refine List.forall_mem_cons.mpr ⟨(s_iconst (am_dp pw_X11_pairs_32 dd_X11_pairs_32b.2.2.1) (by decide)).to, ?_⟩
  refine List.forall_mem_cons.mpr ⟨(s_istoren (am_dp pw_X11_pairs_32 dd_X11_pairs_32b.2.2.2.1) rfl (by decide)).to, ?_⟩
  refine List.forall_mem_cons.mpr ⟨(s_iloadn (am_dp pw_X11_pairs_32 dd_X11_pairs_32b.2.2.2.2.1) rfl).to, ?_⟩
  refine List.forall_mem_cons.mpr ⟨(s_aloadn (am_dp pw_X11_pairs_32 dd_X11_pairs_32b.2.2.2.2.2.1) rfl).to, ?_⟩
  refine List.forall_mem_cons.mpr ⟨(s_get (ci := 11) (k := 65) (am_dp pw_X11_pairs_32 dd_X11_pairs_32b.2.2.2.2.2.2.1) rfl (by decide) wd1398 inX11 rfl).to, ?_⟩
  refine List.forall_mem_cons.mpr ⟨(s_icmp_ge (am_dp pw_X11_pairs_32 dd_X11_pairs_32b.2.2.2.2.2.2.2) (by decide)).to, ?_⟩
  refine List.forall_mem_cons.mpr ⟨(s_aloadn (am_dp pw_X11_pairs_32 dd_X11_pairs_32c.1) rfl).to, ?_⟩
  refine List.forall_mem_cons.mpr ⟨(s_iloadn (am_dp pw_X11_pairs_32 dd_X11_pairs_32c.2) rfl).to, ?_⟩
  refine List.forall_mem_cons.mpr ⟨(s_aloadn (am_dp pw_X11_pairs_64 dd_X11_pairs_64a.1) rfl).to, ?_⟩
  refine List.forall_mem_cons.mpr ⟨(s_get (ci := 11) (k := 67) (am_dp pw_X11_pairs_64 dd_X11_pairs_64a.2.1) rfl (by decide) wd1400 inX11 rfl).to, ?_⟩
  refine List.forall_mem_cons.mpr ⟨(s_iloadn (am_dp pw_X11_pairs_64 dd_X11_pairs_64a.2.2.1) rfl).to, ?_⟩
  refine List.forall_mem_cons.mpr ⟨(s_iald (am_dp pw_X11_pairs_64 dd_X11_pairs_64a.2.2.2.1)).to, ?_⟩
  refine List.forall_mem_cons.mpr ⟨zw_cv226 (am_dp pw_X11_pairs_64 dd_X11_pairs_64a.2.2.2.2.1) wd1842, ?_⟩
  refine List.forall_mem_cons.mpr ⟨(s_istoren (am_dp pw_X11_pairs_64 dd_X11_pairs_64a.2.2.2.2.2.1) rfl (by decide)).to, ?_⟩
  refine List.forall_mem_cons.mpr ⟨(s_aloadn (am_dp pw_X11_pairs_64 dd_X11_pairs_64a.2.2.2.2.2.2.1) rfl).to, ?_⟩
  refine List.forall_mem_cons.mpr ⟨(s_get (ci := 11) (k := 68) (am_dp pw_X11_pairs_64 dd_X11_pairs_64a.2.2.2.2.2.2.2) rfl (by decide) wd1401 inX11 rfl).to, ?_⟩
  refine List.forall_mem_cons.mpr ⟨(s_iloadn (am_dp pw_X11_pairs_64 dd_X11_pairs_64b.1) rfl).to, ?_⟩
  refine List.forall_mem_cons.mpr ⟨(s_aloadn (am_dp pw_X11_pairs_64 dd_X11_pairs_64b.2.1) rfl).to, ?_⟩
  refine List.forall_mem_cons.mpr ⟨(s_iloadn (am_dp pw_X11_pairs_64 dd_X11_pairs_64b.2.2.1) rfl).to, ?_⟩
  refine List.forall_mem_cons.mpr ⟨(s_iloadn (am_dp pw_X11_pairs_64 dd_X11_pairs_64b.2.2.2.1) rfl).to, ?_⟩
  refine List.forall_mem_cons.mpr ⟨(s_aloadn (am_dp pw_X11_pairs_64 dd_X11_pairs_64b.2.2.2.2.1) rfl).to, ?_⟩
  refine List.forall_mem_cons.mpr ⟨(s_iloadn (am_dp pw_X11_pairs_64 dd_X11_pairs_64b.2.2.2.2.2.1) rfl).to, ?_⟩
  refine List.forall_mem_cons.mpr ⟨(s_aloadn (am_dp pw_X11_pairs_64 dd_X11_pairs_64b.2.2.2.2.2.2.1) rfl).to, ?_⟩
  refine List.forall_mem_cons.mpr ⟨(s_get (ci := 11) (k := 67) (am_dp pw_X11_pairs_64 dd_X11_pairs_64b.2.2.2.2.2.2.2) rfl (by decide) wd1400 inX11 rfl).to, ?_⟩
  refine List.forall_mem_cons.mpr ⟨(s_iloadn (am_dp pw_X11_pairs_64 dd_X11_pairs_64c.1) rfl).to, ?_⟩
  refine List.forall_mem_cons.mpr ⟨(s_iald (am_dp pw_X11_pairs_64 dd_X11_pairs_64c.2.1)).to, ?_⟩
  refine List.forall_mem_cons.mpr ⟨zw_cv227 (am_dp pw_X11_pairs_64 dd_X11_pairs_64c.2.2.1) wd1910, ?_⟩
  refine List.forall_mem_cons.mpr ⟨zw_cv235 (am_dp pw_X11_pairs_64 dd_X11_pairs_64c.2.2.2) wd1914, ?_⟩
  refine List.forall_mem_cons.mpr ⟨(s_if_eq (am_dp pw_X11_pairs_96 dd_X11_pairs_96a.1) (by decide)).to, ?_⟩
  refine List.forall_mem_cons.mpr ⟨(s_aloadn (am_dp pw_X11_pairs_96 dd_X11_pairs_96a.2.1) rfl).to, ?_⟩
  refine List.forall_mem_cons.mpr ⟨(s_iloadn (am_dp pw_X11_pairs_96 dd_X11_pairs_96a.2.2.1) rfl).to, ?_⟩
  exact fun _ h => absurd h List.not_mem_nil
theorem sn_tX11_pairs_1 : ∀ q ∈ tX11_pairs_1, am_Snd am_P0 RX11 cX11_pairs 5 (Option.none : Option FieldType) "pairs" q.1 q.2 := by
  unfold tX11_pairs_1
  refine List.forall_mem_cons.mpr ⟨(s_iloadn (am_dp pw_X11_pairs_96 dd_X11_pairs_96a.2.2.2.1) rfl).to, ?_⟩
  refine List.forall_mem_cons.mpr ⟨(s_aloadn (am_dp pw_X11_pairs_96 dd_X11_pairs_96a.2.2.2.2.1) rfl).to, ?_⟩
  refine List.forall_mem_cons.mpr ⟨(s_get (ci := 11) (k := 67) (am_dp pw_X11_pairs_96 dd_X11_pairs_96a.2.2.2.2.2.1) rfl (by decide) wd1400 inX11 rfl).to, ?_⟩
  refine List.forall_mem_cons.mpr ⟨(s_iloadn (am_dp pw_X11_pairs_96 dd_X11_pairs_96a.2.2.2.2.2.2.1) rfl).to, ?_⟩
  refine List.forall_mem_cons.mpr ⟨(s_iald (am_dp pw_X11_pairs_96 dd_X11_pairs_96a.2.2.2.2.2.2.2)).to, ?_⟩
  refine List.forall_mem_cons.mpr ⟨zw_cv246 (am_dp pw_X11_pairs_96 dd_X11_pairs_96b.1) wd1918, ?_⟩
  refine List.forall_mem_cons.mpr ⟨(s_if_eq (am_dp pw_X11_pairs_96 dd_X11_pairs_96b.2.1) (by decide)).to, ?_⟩
  refine List.forall_mem_cons.mpr ⟨(s_iconst (am_dp pw_X11_pairs_96 dd_X11_pairs_96b.2.2.1) (by decide)).to, ?_⟩
  refine List.forall_mem_cons.mpr ⟨(s_goto (am_dp pw_X11_pairs_96 dd_X11_pairs_96b.2.2.2.1) (by decide)).to, ?_⟩
  refine List.forall_mem_cons.mpr ⟨(s_iconst (am_dp pw_X11_pairs_96 dd_X11_pairs_96b.2.2.2.2.1) (by decide)).to, ?_⟩
  refine List.forall_mem_cons.mpr ⟨(s_zast (am_dp pw_X11_pairs_96 dd_X11_pairs_96b.2.2.2.2.2.1)).to, ?_⟩
  refine List.forall_mem_cons.mpr ⟨(s_aloadn (am_dp pw_X11_pairs_96 dd_X11_pairs_96b.2.2.2.2.2.2.1) rfl).to, ?_⟩
  refine List.forall_mem_cons.mpr ⟨(s_iloadn (am_dp pw_X11_pairs_96 dd_X11_pairs_96b.2.2.2.2.2.2.2) rfl).to, ?_⟩
  refine List.forall_mem_cons.mpr ⟨(s_iloadn (am_dp pw_X11_pairs_96 dd_X11_pairs_96c.1) rfl).to, ?_⟩
  refine List.forall_mem_cons.mpr ⟨zw_cv237 (am_dp pw_X11_pairs_96 dd_X11_pairs_96c.2.1) wd1859, ?_⟩
  refine List.forall_mem_cons.mpr ⟨(s_iconst (am_dp pw_X11_pairs_96 dd_X11_pairs_96c.2.2.1) (by decide)).to, ?_⟩
  refine List.forall_mem_cons.mpr ⟨(s_istore (am_dp pw_X11_pairs_96 dd_X11_pairs_96c.2.2.2) (by decide)).to, ?_⟩
  refine List.forall_mem_cons.mpr ⟨(s_iload (am_dp pw_X11_pairs_128 dd_X11_pairs_128a.1)).to, ?_⟩
  refine List.forall_mem_cons.mpr ⟨(s_aloadn (am_dp pw_X11_pairs_128 dd_X11_pairs_128a.2.1) rfl).to, ?_⟩
  refine List.forall_mem_cons.mpr ⟨(s_get (ci := 11) (k := 65) (am_dp pw_X11_pairs_128 dd_X11_pairs_128a.2.2.1) rfl (by decide) wd1398 inX11 rfl).to, ?_⟩
  refine List.forall_mem_cons.mpr ⟨(s_icmp_ge (am_dp pw_X11_pairs_128 dd_X11_pairs_128a.2.2.2.1) (by decide)).to, ?_⟩
  refine List.forall_mem_cons.mpr ⟨(s_aloadn (am_dp pw_X11_pairs_128 dd_X11_pairs_128a.2.2.2.2.1) rfl).to, ?_⟩
  refine List.forall_mem_cons.mpr ⟨(s_get (ci := 11) (k := 70) (am_dp pw_X11_pairs_128 dd_X11_pairs_128a.2.2.2.2.2.1) rfl (by decide) wd1403 inX11 rfl).to, ?_⟩
  refine List.forall_mem_cons.mpr ⟨(s_bipush (am_dp pw_X11_pairs_128 dd_X11_pairs_128a.2.2.2.2.2.2.1) (by decide)).to, ?_⟩
  refine List.forall_mem_cons.mpr ⟨(s_iloadn (am_dp pw_X11_pairs_128 dd_X11_pairs_128a.2.2.2.2.2.2.2) rfl).to, ?_⟩
  refine List.forall_mem_cons.mpr ⟨(s_imul (am_dp pw_X11_pairs_128 dd_X11_pairs_128b.1)).to, ?_⟩
  refine List.forall_mem_cons.mpr ⟨(s_iload (am_dp pw_X11_pairs_128 dd_X11_pairs_128b.2.1)).to, ?_⟩
  refine List.forall_mem_cons.mpr ⟨(s_iadd (am_dp pw_X11_pairs_128 dd_X11_pairs_128b.2.2.1)).to, ?_⟩
  refine List.forall_mem_cons.mpr ⟨(s_aloadn (am_dp pw_X11_pairs_128 dd_X11_pairs_128b.2.2.2.1) rfl).to, ?_⟩
  refine List.forall_mem_cons.mpr ⟨(s_iloadn (am_dp pw_X11_pairs_128 dd_X11_pairs_128b.2.2.2.2.1) rfl).to, ?_⟩
  refine List.forall_mem_cons.mpr ⟨(s_aloadn (am_dp pw_X11_pairs_128 dd_X11_pairs_128b.2.2.2.2.2.1) rfl).to, ?_⟩
  refine List.forall_mem_cons.mpr ⟨(s_iloadn (am_dp pw_X11_pairs_128 dd_X11_pairs_128b.2.2.2.2.2.2.1) rfl).to, ?_⟩
  refine List.forall_mem_cons.mpr ⟨(s_aloadn (am_dp pw_X11_pairs_128 dd_X11_pairs_128b.2.2.2.2.2.2.2) rfl).to, ?_⟩
  refine List.forall_mem_cons.mpr ⟨(s_get (ci := 11) (k := 67) (am_dp pw_X11_pairs_128 dd_X11_pairs_128c.1) rfl (by decide) wd1400 inX11 rfl).to, ?_⟩
  refine List.forall_mem_cons.mpr ⟨(s_iload (am_dp pw_X11_pairs_128 dd_X11_pairs_128c.2.1)).to, ?_⟩
  refine List.forall_mem_cons.mpr ⟨(s_iald (am_dp pw_X11_pairs_128 dd_X11_pairs_128c.2.2)).to, ?_⟩
  refine List.forall_mem_cons.mpr ⟨zw_cv226 (am_dp pw_X11_pairs_160 dd_X11_pairs_160a.1) wd1842, ?_⟩
  refine List.forall_mem_cons.mpr ⟨zw_cv238 (am_dp pw_X11_pairs_160 dd_X11_pairs_160a.2.1) wd1871, ?_⟩
  refine List.forall_mem_cons.mpr ⟨(s_aloadn (am_dp pw_X11_pairs_160 dd_X11_pairs_160a.2.2.1) rfl).to, ?_⟩
  refine List.forall_mem_cons.mpr ⟨(s_get (ci := 11) (k := 67) (am_dp pw_X11_pairs_160 dd_X11_pairs_160a.2.2.2.1) rfl (by decide) wd1400 inX11 rfl).to, ?_⟩
  refine List.forall_mem_cons.mpr ⟨(s_iloadn (am_dp pw_X11_pairs_160 dd_X11_pairs_160a.2.2.2.2.1) rfl).to, ?_⟩
  refine List.forall_mem_cons.mpr ⟨(s_iald (am_dp pw_X11_pairs_160 dd_X11_pairs_160a.2.2.2.2.2.1)).to, ?_⟩
  refine List.forall_mem_cons.mpr ⟨(s_aloadn (am_dp pw_X11_pairs_160 dd_X11_pairs_160a.2.2.2.2.2.2.1) rfl).to, ?_⟩
  refine List.forall_mem_cons.mpr ⟨(s_get (ci := 11) (k := 67) (am_dp pw_X11_pairs_160 dd_X11_pairs_160a.2.2.2.2.2.2.2) rfl (by decide) wd1400 inX11 rfl).to, ?_⟩
  refine List.forall_mem_cons.mpr ⟨(s_iload (am_dp pw_X11_pairs_160 dd_X11_pairs_160b.1)).to, ?_⟩
  refine List.forall_mem_cons.mpr ⟨(s_iald (am_dp pw_X11_pairs_160 dd_X11_pairs_160b.2.1)).to, ?_⟩
  refine List.forall_mem_cons.mpr ⟨(s_icmp_ge (am_dp pw_X11_pairs_160 dd_X11_pairs_160b.2.2.1) (by decide)).to, ?_⟩
  refine List.forall_mem_cons.mpr ⟨(s_aloadn (am_dp pw_X11_pairs_160 dd_X11_pairs_160b.2.2.2.1) rfl).to, ?_⟩
  refine List.forall_mem_cons.mpr ⟨(s_get (ci := 11) (k := 67) (am_dp pw_X11_pairs_160 dd_X11_pairs_160b.2.2.2.2.1) rfl (by decide) wd1400 inX11 rfl).to, ?_⟩
  refine List.forall_mem_cons.mpr ⟨(s_iload (am_dp pw_X11_pairs_160 dd_X11_pairs_160b.2.2.2.2.2.1)).to, ?_⟩
  refine List.forall_mem_cons.mpr ⟨(s_iald (am_dp pw_X11_pairs_160 dd_X11_pairs_160b.2.2.2.2.2.2.1)).to, ?_⟩
  refine List.forall_mem_cons.mpr ⟨(s_aloadn (am_dp pw_X11_pairs_160 dd_X11_pairs_160b.2.2.2.2.2.2.2) rfl).to, ?_⟩
  refine List.forall_mem_cons.mpr ⟨(s_get (ci := 11) (k := 67) (am_dp pw_X11_pairs_160 dd_X11_pairs_160c) rfl (by decide) wd1400 inX11 rfl).to, ?_⟩
  refine List.forall_mem_cons.mpr ⟨(s_iloadn (am_dp pw_X11_pairs_192 dd_X11_pairs_192a.1) rfl).to, ?_⟩
  refine List.forall_mem_cons.mpr ⟨(s_iald (am_dp pw_X11_pairs_192 dd_X11_pairs_192a.2.1)).to, ?_⟩
  refine List.forall_mem_cons.mpr ⟨(s_isub (am_dp pw_X11_pairs_192 dd_X11_pairs_192a.2.2.1)).to, ?_⟩
  refine List.forall_mem_cons.mpr ⟨(s_goto (am_dp pw_X11_pairs_192 dd_X11_pairs_192a.2.2.2.1) (by decide)).to, ?_⟩
  refine List.forall_mem_cons.mpr ⟨(s_aloadn (am_dp pw_X11_pairs_192 dd_X11_pairs_192a.2.2.2.2.1) rfl).to, ?_⟩
  refine List.forall_mem_cons.mpr ⟨(s_get (ci := 11) (k := 67) (am_dp pw_X11_pairs_192 dd_X11_pairs_192a.2.2.2.2.2.1) rfl (by decide) wd1400 inX11 rfl).to, ?_⟩
  refine List.forall_mem_cons.mpr ⟨(s_iloadn (am_dp pw_X11_pairs_192 dd_X11_pairs_192a.2.2.2.2.2.2.1) rfl).to, ?_⟩
  exact fun _ h => absurd h List.not_mem_nil
theorem sn_tX11_pairs_2 : ∀ q ∈ tX11_pairs_2, am_Snd am_P0 RX11 cX11_pairs 5 (Option.none : Option FieldType) "pairs" q.1 q.2 := by
  unfold tX11_pairs_2
  refine List.forall_mem_cons.mpr ⟨(s_iald (am_dp pw_X11_pairs_192 dd_X11_pairs_192a.2.2.2.2.2.2.2)).to, ?_⟩
  refine List.forall_mem_cons.mpr ⟨(s_aloadn (am_dp pw_X11_pairs_192 dd_X11_pairs_192b.1) rfl).to, ?_⟩
  refine List.forall_mem_cons.mpr ⟨(s_get (ci := 11) (k := 67) (am_dp pw_X11_pairs_192 dd_X11_pairs_192b.2.1) rfl (by decide) wd1400 inX11 rfl).to, ?_⟩
  refine List.forall_mem_cons.mpr ⟨(s_iload (am_dp pw_X11_pairs_192 dd_X11_pairs_192b.2.2.1)).to, ?_⟩
  refine List.forall_mem_cons.mpr ⟨(s_iald (am_dp pw_X11_pairs_192 dd_X11_pairs_192b.2.2.2.1)).to, ?_⟩
  refine List.forall_mem_cons.mpr ⟨(s_isub (am_dp pw_X11_pairs_192 dd_X11_pairs_192b.2.2.2.2.1)).to, ?_⟩
  refine List.forall_mem_cons.mpr ⟨(s_icmp_gt (am_dp pw_X11_pairs_192 dd_X11_pairs_192b.2.2.2.2.2.1) (by decide)).to, ?_⟩
  refine List.forall_mem_cons.mpr ⟨(s_iconst (am_dp pw_X11_pairs_192 dd_X11_pairs_192b.2.2.2.2.2.2.1) (by decide)).to, ?_⟩
  refine List.forall_mem_cons.mpr ⟨(s_goto (am_dp pw_X11_pairs_192 dd_X11_pairs_192b.2.2.2.2.2.2.2) (by decide)).to, ?_⟩
  refine List.forall_mem_cons.mpr ⟨(s_iconst (am_dp pw_X11_pairs_192 dd_X11_pairs_192c.1) (by decide)).to, ?_⟩
  refine List.forall_mem_cons.mpr ⟨(s_zast (am_dp pw_X11_pairs_192 dd_X11_pairs_192c.2.1)).to, ?_⟩
  refine List.forall_mem_cons.mpr ⟨(s_iinc (am_dp pw_X11_pairs_192 dd_X11_pairs_192c.2.2) (by decide) (by decide)).to, ?_⟩
  refine List.forall_mem_cons.mpr ⟨(s_goto (am_dp pw_X11_pairs_224 dd_X11_pairs_224a.1) (by decide)).to, ?_⟩
  refine List.forall_mem_cons.mpr ⟨(s_iinc (am_dp pw_X11_pairs_224 dd_X11_pairs_224a.2.1) (by decide) (by decide)).to, ?_⟩
  refine List.forall_mem_cons.mpr ⟨(s_goto (am_dp pw_X11_pairs_224 dd_X11_pairs_224a.2.2.1) (by decide)).to, ?_⟩
  refine List.forall_mem_cons.mpr ⟨s_vret (am_dp pw_X11_pairs_224 dd_X11_pairs_224a.2.2.2) rfl, ?_⟩
  exact fun _ h => absurd h List.not_mem_nil
theorem sn_tX11_pairs : ∀ q ∈ tX11_pairs, am_Snd am_P0 RX11 cX11_pairs 5 (Option.none : Option FieldType) "pairs" q.1 q.2 := by
  unfold tX11_pairs
  exact List.forall_mem_append.mpr ⟨List.forall_mem_append.mpr ⟨sn_tX11_pairs_0, sn_tX11_pairs_1⟩, sn_tX11_pairs_2⟩
theorem sn_tX11_keeps_0 : ∀ q ∈ tX11_keeps_0, am_Snd am_P0 RX11 cX11_keeps 5 (Option.none : Option FieldType) "keeps" q.1 q.2 := by
  unfold tX11_keeps_0
  refine List.forall_mem_cons.mpr ⟨(s_aloadn (am_dp pw_X11_keeps_0 dd_X11_keeps_0a.1) rfl).to, ?_⟩
  refine List.forall_mem_cons.mpr ⟨(s_aloadn (am_dp pw_X11_keeps_0 dd_X11_keeps_0a.2.1) rfl).to, ?_⟩
  refine List.forall_mem_cons.mpr ⟨(s_iloadn (am_dp pw_X11_keeps_0 dd_X11_keeps_0a.2.2.1) rfl).to, ?_⟩
  refine List.forall_mem_cons.mpr ⟨zw_cv245 (am_dp pw_X11_keeps_0 dd_X11_keeps_0a.2.2.2.1) wd1883, ?_⟩
  refine List.forall_mem_cons.mpr ⟨(s_put (ci := 11) (k := 64) (am_dp pw_X11_keeps_0 dd_X11_keeps_0a.2.2.2.2.1) rfl (by decide) wd1397 inX11 tyX11_ok nmX11 rfl rfl).to, ?_⟩
  refine List.forall_mem_cons.mpr ⟨(s_aloadn (am_dp pw_X11_keeps_0 dd_X11_keeps_0a.2.2.2.2.2.1) rfl).to, ?_⟩
  refine List.forall_mem_cons.mpr ⟨(s_iloadn (am_dp pw_X11_keeps_0 dd_X11_keeps_0a.2.2.2.2.2.2.1) rfl).to, ?_⟩
  refine List.forall_mem_cons.mpr ⟨zw_cv247 (am_dp pw_X11_keeps_0 dd_X11_keeps_0a.2.2.2.2.2.2.2) wd1906, ?_⟩
  refine List.forall_mem_cons.mpr ⟨(s_aloadn (am_dp pw_X11_keeps_0 dd_X11_keeps_0b.1) rfl).to, ?_⟩
  refine List.forall_mem_cons.mpr ⟨(s_iconst (am_dp pw_X11_keeps_0 dd_X11_keeps_0b.2.1) (by decide)).to, ?_⟩
  refine List.forall_mem_cons.mpr ⟨(s_put (ci := 11) (k := 66) (am_dp pw_X11_keeps_0 dd_X11_keeps_0b.2.2.1) rfl (by decide) wd1399 inX11 tyX11_ok nmX11 rfl rfl).to, ?_⟩
  refine List.forall_mem_cons.mpr ⟨(s_iconst (am_dp pw_X11_keeps_0 dd_X11_keeps_0b.2.2.2.1) (by decide)).to, ?_⟩
  refine List.forall_mem_cons.mpr ⟨(s_istoren (am_dp pw_X11_keeps_0 dd_X11_keeps_0b.2.2.2.2.1) rfl (by decide)).to, ?_⟩
  refine List.forall_mem_cons.mpr ⟨(s_iloadn (am_dp pw_X11_keeps_0 dd_X11_keeps_0b.2.2.2.2.2.1) rfl).to, ?_⟩
  refine List.forall_mem_cons.mpr ⟨(s_aloadn (am_dp pw_X11_keeps_0 dd_X11_keeps_0b.2.2.2.2.2.2.1) rfl).to, ?_⟩
  refine List.forall_mem_cons.mpr ⟨(s_get (ci := 11) (k := 65) (am_dp pw_X11_keeps_0 dd_X11_keeps_0b.2.2.2.2.2.2.2) rfl (by decide) wd1398 inX11 rfl).to, ?_⟩
  refine List.forall_mem_cons.mpr ⟨(s_icmp_ge (am_dp pw_X11_keeps_0 dd_X11_keeps_0c.1) (by decide)).to, ?_⟩
  refine List.forall_mem_cons.mpr ⟨(s_aloadn (am_dp pw_X11_keeps_0 dd_X11_keeps_0c.2.1) rfl).to, ?_⟩
  refine List.forall_mem_cons.mpr ⟨(s_get (ci := 11) (k := 69) (am_dp pw_X11_keeps_0 dd_X11_keeps_0c.2.2) rfl (by decide) wd1402 inX11 rfl).to, ?_⟩
  refine List.forall_mem_cons.mpr ⟨(s_iloadn (am_dp pw_X11_keeps_32 dd_X11_keeps_32a.1) rfl).to, ?_⟩
  refine List.forall_mem_cons.mpr ⟨(s_iconst (am_dp pw_X11_keeps_32 dd_X11_keeps_32a.2.1) (by decide)).to, ?_⟩
  refine List.forall_mem_cons.mpr ⟨(s_zast (am_dp pw_X11_keeps_32 dd_X11_keeps_32a.2.2.1)).to, ?_⟩
  refine List.forall_mem_cons.mpr ⟨(s_iinc (am_dp pw_X11_keeps_32 dd_X11_keeps_32a.2.2.2.1) (by decide) (by decide)).to, ?_⟩
  refine List.forall_mem_cons.mpr ⟨(s_goto (am_dp pw_X11_keeps_32 dd_X11_keeps_32a.2.2.2.2.1) (by decide)).to, ?_⟩
  refine List.forall_mem_cons.mpr ⟨(s_aloadn (am_dp pw_X11_keeps_32 dd_X11_keeps_32a.2.2.2.2.2.1) rfl).to, ?_⟩
  refine List.forall_mem_cons.mpr ⟨(s_get (ci := 11) (k := 64) (am_dp pw_X11_keeps_32 dd_X11_keeps_32a.2.2.2.2.2.2.1) rfl (by decide) wd1397 inX11 rfl).to, ?_⟩
  refine List.forall_mem_cons.mpr ⟨(s_if_ne (am_dp pw_X11_keeps_32 dd_X11_keeps_32a.2.2.2.2.2.2.2) (by decide)).to, ?_⟩
  refine List.forall_mem_cons.mpr ⟨s_vret (am_dp pw_X11_keeps_32 dd_X11_keeps_32b.1) rfl, ?_⟩
  refine List.forall_mem_cons.mpr ⟨(s_iconst (am_dp pw_X11_keeps_32 dd_X11_keeps_32b.2.1) (by decide)).to, ?_⟩
  refine List.forall_mem_cons.mpr ⟨(s_istoren (am_dp pw_X11_keeps_32 dd_X11_keeps_32b.2.2.1) rfl (by decide)).to, ?_⟩
  refine List.forall_mem_cons.mpr ⟨(s_aloadn (am_dp pw_X11_keeps_32 dd_X11_keeps_32b.2.2.2.1) rfl).to, ?_⟩
  refine List.forall_mem_cons.mpr ⟨(s_get (ci := 11) (k := 65) (am_dp pw_X11_keeps_32 dd_X11_keeps_32b.2.2.2.2.1) rfl (by decide) wd1398 inX11 rfl).to, ?_⟩
  refine List.forall_mem_cons.mpr ⟨(s_iconst (am_dp pw_X11_keeps_32 dd_X11_keeps_32b.2.2.2.2.2.1) (by decide)).to, ?_⟩
  refine List.forall_mem_cons.mpr ⟨(s_isub (am_dp pw_X11_keeps_32 dd_X11_keeps_32b.2.2.2.2.2.2.1)).to, ?_⟩
  refine List.forall_mem_cons.mpr ⟨(s_istoren (am_dp pw_X11_keeps_32 dd_X11_keeps_32b.2.2.2.2.2.2.2) rfl (by decide)).to, ?_⟩
  refine List.forall_mem_cons.mpr ⟨(s_iloadn (am_dp pw_X11_keeps_32 dd_X11_keeps_32c.1) rfl).to, ?_⟩
  refine List.forall_mem_cons.mpr ⟨(s_if_lt (am_dp pw_X11_keeps_32 dd_X11_keeps_32c.2.1) (by decide)).to, ?_⟩
  refine List.forall_mem_cons.mpr ⟨(s_aloadn (am_dp pw_X11_keeps_32 dd_X11_keeps_32c.2.2) rfl).to, ?_⟩
  refine List.forall_mem_cons.mpr ⟨(s_get (ci := 11) (k := 71) (am_dp pw_X11_keeps_64 dd_X11_keeps_64a.1) rfl (by decide) wd1404 inX11 rfl).to, ?_⟩
  refine List.forall_mem_cons.mpr ⟨(s_iloadn (am_dp pw_X11_keeps_64 dd_X11_keeps_64a.2.1) rfl).to, ?_⟩
  refine List.forall_mem_cons.mpr ⟨(s_aloadn (am_dp pw_X11_keeps_64 dd_X11_keeps_64a.2.2.1) rfl).to, ?_⟩
  refine List.forall_mem_cons.mpr ⟨(s_get (ci := 11) (k := 68) (am_dp pw_X11_keeps_64 dd_X11_keeps_64a.2.2.2.1) rfl (by decide) wd1401 inX11 rfl).to, ?_⟩
  refine List.forall_mem_cons.mpr ⟨(s_iloadn (am_dp pw_X11_keeps_64 dd_X11_keeps_64a.2.2.2.2.1) rfl).to, ?_⟩
  refine List.forall_mem_cons.mpr ⟨(s_zald (am_dp pw_X11_keeps_64 dd_X11_keeps_64a.2.2.2.2.2.1)).to, ?_⟩
  refine List.forall_mem_cons.mpr ⟨(s_if_eq (am_dp pw_X11_keeps_64 dd_X11_keeps_64a.2.2.2.2.2.2.1) (by decide)).to, ?_⟩
  refine List.forall_mem_cons.mpr ⟨(s_iconst (am_dp pw_X11_keeps_64 dd_X11_keeps_64a.2.2.2.2.2.2.2) (by decide)).to, ?_⟩
  refine List.forall_mem_cons.mpr ⟨(s_goto (am_dp pw_X11_keeps_64 dd_X11_keeps_64b.1) (by decide)).to, ?_⟩
  refine List.forall_mem_cons.mpr ⟨(s_iconst (am_dp pw_X11_keeps_64 dd_X11_keeps_64b.2.1) (by decide)).to, ?_⟩
  refine List.forall_mem_cons.mpr ⟨(s_iast (am_dp pw_X11_keeps_64 dd_X11_keeps_64b.2.2.1)).to, ?_⟩
  refine List.forall_mem_cons.mpr ⟨(s_iloadn (am_dp pw_X11_keeps_64 dd_X11_keeps_64b.2.2.2.1) rfl).to, ?_⟩
  refine List.forall_mem_cons.mpr ⟨(s_iconst (am_dp pw_X11_keeps_64 dd_X11_keeps_64b.2.2.2.2.1) (by decide)).to, ?_⟩
  refine List.forall_mem_cons.mpr ⟨(s_iadd (am_dp pw_X11_keeps_64 dd_X11_keeps_64b.2.2.2.2.2.1)).to, ?_⟩
  refine List.forall_mem_cons.mpr ⟨(s_istore (am_dp pw_X11_keeps_64 dd_X11_keeps_64b.2.2.2.2.2.2.1) (by decide)).to, ?_⟩
  refine List.forall_mem_cons.mpr ⟨(s_iload (am_dp pw_X11_keeps_64 dd_X11_keeps_64b.2.2.2.2.2.2.2)).to, ?_⟩
  refine List.forall_mem_cons.mpr ⟨(s_aloadn (am_dp pw_X11_keeps_64 dd_X11_keeps_64c.1) rfl).to, ?_⟩
  refine List.forall_mem_cons.mpr ⟨(s_get (ci := 11) (k := 65) (am_dp pw_X11_keeps_64 dd_X11_keeps_64c.2.1) rfl (by decide) wd1398 inX11 rfl).to, ?_⟩
  refine List.forall_mem_cons.mpr ⟨(s_icmp_ge (am_dp pw_X11_keeps_64 dd_X11_keeps_64c.2.2) (by decide)).to, ?_⟩
  refine List.forall_mem_cons.mpr ⟨(s_aloadn (am_dp pw_X11_keeps_96 dd_X11_keeps_96a.1) rfl).to, ?_⟩
  refine List.forall_mem_cons.mpr ⟨(s_get (ci := 11) (k := 68) (am_dp pw_X11_keeps_96 dd_X11_keeps_96a.2.1) rfl (by decide) wd1401 inX11 rfl).to, ?_⟩
  refine List.forall_mem_cons.mpr ⟨(s_iloadn (am_dp pw_X11_keeps_96 dd_X11_keeps_96a.2.2.1) rfl).to, ?_⟩
  exact fun _ h => absurd h List.not_mem_nil
theorem sn_tX11_keeps_1 : ∀ q ∈ tX11_keeps_1, am_Snd am_P0 RX11 cX11_keeps 5 (Option.none : Option FieldType) "keeps" q.1 q.2 := by
  unfold tX11_keeps_1
  refine List.forall_mem_cons.mpr ⟨(s_zald (am_dp pw_X11_keeps_96 dd_X11_keeps_96a.2.2.2.1)).to, ?_⟩
  refine List.forall_mem_cons.mpr ⟨(s_if_eq (am_dp pw_X11_keeps_96 dd_X11_keeps_96a.2.2.2.2.1) (by decide)).to, ?_⟩
  refine List.forall_mem_cons.mpr ⟨(s_aloadn (am_dp pw_X11_keeps_96 dd_X11_keeps_96a.2.2.2.2.2.1) rfl).to, ?_⟩
  refine List.forall_mem_cons.mpr ⟨(s_get (ci := 11) (k := 70) (am_dp pw_X11_keeps_96 dd_X11_keeps_96a.2.2.2.2.2.2.1) rfl (by decide) wd1403 inX11 rfl).to, ?_⟩
  refine List.forall_mem_cons.mpr ⟨(s_bipush (am_dp pw_X11_keeps_96 dd_X11_keeps_96a.2.2.2.2.2.2.2) (by decide)).to, ?_⟩
  refine List.forall_mem_cons.mpr ⟨(s_iloadn (am_dp pw_X11_keeps_96 dd_X11_keeps_96b.1) rfl).to, ?_⟩
  refine List.forall_mem_cons.mpr ⟨(s_imul (am_dp pw_X11_keeps_96 dd_X11_keeps_96b.2.1)).to, ?_⟩
  refine List.forall_mem_cons.mpr ⟨(s_iload (am_dp pw_X11_keeps_96 dd_X11_keeps_96b.2.2.1)).to, ?_⟩
  refine List.forall_mem_cons.mpr ⟨(s_iadd (am_dp pw_X11_keeps_96 dd_X11_keeps_96b.2.2.2.1)).to, ?_⟩
  refine List.forall_mem_cons.mpr ⟨(s_zald (am_dp pw_X11_keeps_96 dd_X11_keeps_96b.2.2.2.2.1)).to, ?_⟩
  refine List.forall_mem_cons.mpr ⟨(s_if_eq (am_dp pw_X11_keeps_96 dd_X11_keeps_96b.2.2.2.2.2.1) (by decide)).to, ?_⟩
  refine List.forall_mem_cons.mpr ⟨(s_aloadn (am_dp pw_X11_keeps_96 dd_X11_keeps_96b.2.2.2.2.2.2.1) rfl).to, ?_⟩
  refine List.forall_mem_cons.mpr ⟨(s_get (ci := 11) (k := 68) (am_dp pw_X11_keeps_96 dd_X11_keeps_96b.2.2.2.2.2.2.2) rfl (by decide) wd1401 inX11 rfl).to, ?_⟩
  refine List.forall_mem_cons.mpr ⟨(s_iload (am_dp pw_X11_keeps_96 dd_X11_keeps_96c.1)).to, ?_⟩
  refine List.forall_mem_cons.mpr ⟨(s_zald (am_dp pw_X11_keeps_96 dd_X11_keeps_96c.2)).to, ?_⟩
  refine List.forall_mem_cons.mpr ⟨(s_if_eq (am_dp pw_X11_keeps_128 dd_X11_keeps_128a.1) (by decide)).to, ?_⟩
  refine List.forall_mem_cons.mpr ⟨(s_aloadn (am_dp pw_X11_keeps_128 dd_X11_keeps_128a.2.1) rfl).to, ?_⟩
  refine List.forall_mem_cons.mpr ⟨(s_get (ci := 11) (k := 71) (am_dp pw_X11_keeps_128 dd_X11_keeps_128a.2.2.1) rfl (by decide) wd1404 inX11 rfl).to, ?_⟩
  refine List.forall_mem_cons.mpr ⟨(s_iload (am_dp pw_X11_keeps_128 dd_X11_keeps_128a.2.2.2.1)).to, ?_⟩
  refine List.forall_mem_cons.mpr ⟨(s_iald (am_dp pw_X11_keeps_128 dd_X11_keeps_128a.2.2.2.2.1)).to, ?_⟩
  refine List.forall_mem_cons.mpr ⟨(s_iconst (am_dp pw_X11_keeps_128 dd_X11_keeps_128a.2.2.2.2.2.1) (by decide)).to, ?_⟩
  refine List.forall_mem_cons.mpr ⟨(s_iadd (am_dp pw_X11_keeps_128 dd_X11_keeps_128a.2.2.2.2.2.2.1)).to, ?_⟩
  refine List.forall_mem_cons.mpr ⟨(s_aloadn (am_dp pw_X11_keeps_128 dd_X11_keeps_128a.2.2.2.2.2.2.2) rfl).to, ?_⟩
  refine List.forall_mem_cons.mpr ⟨(s_get (ci := 11) (k := 71) (am_dp pw_X11_keeps_128 dd_X11_keeps_128b.1) rfl (by decide) wd1404 inX11 rfl).to, ?_⟩
  refine List.forall_mem_cons.mpr ⟨(s_iloadn (am_dp pw_X11_keeps_128 dd_X11_keeps_128b.2.1) rfl).to, ?_⟩
  refine List.forall_mem_cons.mpr ⟨(s_iald (am_dp pw_X11_keeps_128 dd_X11_keeps_128b.2.2.1)).to, ?_⟩
  refine List.forall_mem_cons.mpr ⟨(s_icmp_le (am_dp pw_X11_keeps_128 dd_X11_keeps_128b.2.2.2.1) (by decide)).to, ?_⟩
  refine List.forall_mem_cons.mpr ⟨(s_aloadn (am_dp pw_X11_keeps_128 dd_X11_keeps_128b.2.2.2.2.1) rfl).to, ?_⟩
  refine List.forall_mem_cons.mpr ⟨(s_get (ci := 11) (k := 71) (am_dp pw_X11_keeps_128 dd_X11_keeps_128b.2.2.2.2.2.1) rfl (by decide) wd1404 inX11 rfl).to, ?_⟩
  refine List.forall_mem_cons.mpr ⟨(s_iloadn (am_dp pw_X11_keeps_128 dd_X11_keeps_128b.2.2.2.2.2.2.1) rfl).to, ?_⟩
  refine List.forall_mem_cons.mpr ⟨(s_aloadn (am_dp pw_X11_keeps_128 dd_X11_keeps_128b.2.2.2.2.2.2.2) rfl).to, ?_⟩
  refine List.forall_mem_cons.mpr ⟨(s_get (ci := 11) (k := 71) (am_dp pw_X11_keeps_128 dd_X11_keeps_128c.1) rfl (by decide) wd1404 inX11 rfl).to, ?_⟩
  refine List.forall_mem_cons.mpr ⟨(s_iload (am_dp pw_X11_keeps_128 dd_X11_keeps_128c.2)).to, ?_⟩
  refine List.forall_mem_cons.mpr ⟨(s_iald (am_dp pw_X11_keeps_160 dd_X11_keeps_160a.1)).to, ?_⟩
  refine List.forall_mem_cons.mpr ⟨(s_iconst (am_dp pw_X11_keeps_160 dd_X11_keeps_160a.2.1) (by decide)).to, ?_⟩
  refine List.forall_mem_cons.mpr ⟨(s_iadd (am_dp pw_X11_keeps_160 dd_X11_keeps_160a.2.2.1)).to, ?_⟩
  refine List.forall_mem_cons.mpr ⟨(s_iast (am_dp pw_X11_keeps_160 dd_X11_keeps_160a.2.2.2.1)).to, ?_⟩
  refine List.forall_mem_cons.mpr ⟨(s_iinc (am_dp pw_X11_keeps_160 dd_X11_keeps_160a.2.2.2.2.1) (by decide) (by decide)).to, ?_⟩
  refine List.forall_mem_cons.mpr ⟨(s_goto (am_dp pw_X11_keeps_160 dd_X11_keeps_160a.2.2.2.2.2.1) (by decide)).to, ?_⟩
  refine List.forall_mem_cons.mpr ⟨(s_aloadn (am_dp pw_X11_keeps_160 dd_X11_keeps_160a.2.2.2.2.2.2.1) rfl).to, ?_⟩
  refine List.forall_mem_cons.mpr ⟨(s_get (ci := 11) (k := 71) (am_dp pw_X11_keeps_160 dd_X11_keeps_160a.2.2.2.2.2.2.2) rfl (by decide) wd1404 inX11 rfl).to, ?_⟩
  refine List.forall_mem_cons.mpr ⟨(s_iloadn (am_dp pw_X11_keeps_160 dd_X11_keeps_160b.1) rfl).to, ?_⟩
  refine List.forall_mem_cons.mpr ⟨(s_iald (am_dp pw_X11_keeps_160 dd_X11_keeps_160b.2.1)).to, ?_⟩
  refine List.forall_mem_cons.mpr ⟨(s_iloadn (am_dp pw_X11_keeps_160 dd_X11_keeps_160b.2.2.1) rfl).to, ?_⟩
  refine List.forall_mem_cons.mpr ⟨(s_icmp_le (am_dp pw_X11_keeps_160 dd_X11_keeps_160b.2.2.2.1) (by decide)).to, ?_⟩
  refine List.forall_mem_cons.mpr ⟨(s_aloadn (am_dp pw_X11_keeps_160 dd_X11_keeps_160b.2.2.2.2.1) rfl).to, ?_⟩
  refine List.forall_mem_cons.mpr ⟨(s_get (ci := 11) (k := 71) (am_dp pw_X11_keeps_160 dd_X11_keeps_160b.2.2.2.2.2.1) rfl (by decide) wd1404 inX11 rfl).to, ?_⟩
  refine List.forall_mem_cons.mpr ⟨(s_iloadn (am_dp pw_X11_keeps_160 dd_X11_keeps_160b.2.2.2.2.2.2.1) rfl).to, ?_⟩
  refine List.forall_mem_cons.mpr ⟨(s_iald (am_dp pw_X11_keeps_160 dd_X11_keeps_160b.2.2.2.2.2.2.2)).to, ?_⟩
  refine List.forall_mem_cons.mpr ⟨(s_goto (am_dp pw_X11_keeps_160 dd_X11_keeps_160c.1) (by decide)).to, ?_⟩
  refine List.forall_mem_cons.mpr ⟨(s_iloadn (am_dp pw_X11_keeps_160 dd_X11_keeps_160c.2.1) rfl).to, ?_⟩
  refine List.forall_mem_cons.mpr ⟨(s_istoren (am_dp pw_X11_keeps_160 dd_X11_keeps_160c.2.2.1) rfl (by decide)).to, ?_⟩
  refine List.forall_mem_cons.mpr ⟨(s_iinc (am_dp pw_X11_keeps_160 dd_X11_keeps_160c.2.2.2) (by decide) (by decide)).to, ?_⟩
  refine List.forall_mem_cons.mpr ⟨(s_goto (am_dp pw_X11_keeps_192 dd_X11_keeps_192a.1) (by decide)).to, ?_⟩
  refine List.forall_mem_cons.mpr ⟨(s_aloadn (am_dp pw_X11_keeps_192 dd_X11_keeps_192a.2.1) rfl).to, ?_⟩
  refine List.forall_mem_cons.mpr ⟨(s_iloadn (am_dp pw_X11_keeps_192 dd_X11_keeps_192a.2.2.1) rfl).to, ?_⟩
  refine List.forall_mem_cons.mpr ⟨(s_put (ci := 11) (k := 66) (am_dp pw_X11_keeps_192 dd_X11_keeps_192a.2.2.2.1) rfl (by decide) wd1399 inX11 tyX11_ok nmX11 rfl rfl).to, ?_⟩
  refine List.forall_mem_cons.mpr ⟨(s_iconst (am_dp pw_X11_keeps_192 dd_X11_keeps_192a.2.2.2.2.1) (by decide)).to, ?_⟩
  refine List.forall_mem_cons.mpr ⟨(s_istoren (am_dp pw_X11_keeps_192 dd_X11_keeps_192a.2.2.2.2.2.1) rfl (by decide)).to, ?_⟩
  refine List.forall_mem_cons.mpr ⟨(s_iconst (am_dp pw_X11_keeps_192 dd_X11_keeps_192a.2.2.2.2.2.2.1) (by decide)).to, ?_⟩
  exact fun _ h => absurd h List.not_mem_nil
theorem sn_tX11_keeps_2 : ∀ q ∈ tX11_keeps_2, am_Snd am_P0 RX11 cX11_keeps 5 (Option.none : Option FieldType) "keeps" q.1 q.2 := by
  unfold tX11_keeps_2
  refine List.forall_mem_cons.mpr ⟨(s_istore (am_dp pw_X11_keeps_192 dd_X11_keeps_192a.2.2.2.2.2.2.2) (by decide)).to, ?_⟩
  refine List.forall_mem_cons.mpr ⟨(s_iload (am_dp pw_X11_keeps_192 dd_X11_keeps_192b.1)).to, ?_⟩
  refine List.forall_mem_cons.mpr ⟨(s_aloadn (am_dp pw_X11_keeps_192 dd_X11_keeps_192b.2.1) rfl).to, ?_⟩
  refine List.forall_mem_cons.mpr ⟨(s_get (ci := 11) (k := 65) (am_dp pw_X11_keeps_192 dd_X11_keeps_192b.2.2.1) rfl (by decide) wd1398 inX11 rfl).to, ?_⟩
  refine List.forall_mem_cons.mpr ⟨(s_icmp_ge (am_dp pw_X11_keeps_192 dd_X11_keeps_192b.2.2.2.1) (by decide)).to, ?_⟩
  refine List.forall_mem_cons.mpr ⟨(s_iloadn (am_dp pw_X11_keeps_192 dd_X11_keeps_192b.2.2.2.2.1) rfl).to, ?_⟩
  refine List.forall_mem_cons.mpr ⟨(s_if_le (am_dp pw_X11_keeps_192 dd_X11_keeps_192b.2.2.2.2.2.1) (by decide)).to, ?_⟩
  refine List.forall_mem_cons.mpr ⟨(s_aloadn (am_dp pw_X11_keeps_192 dd_X11_keeps_192b.2.2.2.2.2.2.1) rfl).to, ?_⟩
  refine List.forall_mem_cons.mpr ⟨(s_get (ci := 11) (k := 71) (am_dp pw_X11_keeps_192 dd_X11_keeps_192b.2.2.2.2.2.2.2) rfl (by decide) wd1404 inX11 rfl).to, ?_⟩
  refine List.forall_mem_cons.mpr ⟨(s_iload (am_dp pw_X11_keeps_224 dd_X11_keeps_224a.1)).to, ?_⟩
  refine List.forall_mem_cons.mpr ⟨(s_iald (am_dp pw_X11_keeps_224 dd_X11_keeps_224a.2.1)).to, ?_⟩
  refine List.forall_mem_cons.mpr ⟨(s_iloadn (am_dp pw_X11_keeps_224 dd_X11_keeps_224a.2.2.1) rfl).to, ?_⟩
  refine List.forall_mem_cons.mpr ⟨(s_icmp_ne (am_dp pw_X11_keeps_224 dd_X11_keeps_224a.2.2.2.1) (by decide)).to, ?_⟩
  refine List.forall_mem_cons.mpr ⟨(s_iloadn (am_dp pw_X11_keeps_224 dd_X11_keeps_224a.2.2.2.2.1) rfl).to, ?_⟩
  refine List.forall_mem_cons.mpr ⟨(s_iconst (am_dp pw_X11_keeps_224 dd_X11_keeps_224a.2.2.2.2.2.1) (by decide)).to, ?_⟩
  refine List.forall_mem_cons.mpr ⟨(s_icmp_eq (am_dp pw_X11_keeps_224 dd_X11_keeps_224a.2.2.2.2.2.2.1) (by decide)).to, ?_⟩
  refine List.forall_mem_cons.mpr ⟨(s_aloadn (am_dp pw_X11_keeps_224 dd_X11_keeps_224a.2.2.2.2.2.2.2) rfl).to, ?_⟩
  refine List.forall_mem_cons.mpr ⟨(s_get (ci := 11) (k := 70) (am_dp pw_X11_keeps_224 dd_X11_keeps_224b.1) rfl (by decide) wd1403 inX11 rfl).to, ?_⟩
  refine List.forall_mem_cons.mpr ⟨(s_bipush (am_dp pw_X11_keeps_224 dd_X11_keeps_224b.2.1) (by decide)).to, ?_⟩
  refine List.forall_mem_cons.mpr ⟨(s_iloadn (am_dp pw_X11_keeps_224 dd_X11_keeps_224b.2.2.1) rfl).to, ?_⟩
  refine List.forall_mem_cons.mpr ⟨(s_imul (am_dp pw_X11_keeps_224 dd_X11_keeps_224b.2.2.2.1)).to, ?_⟩
  refine List.forall_mem_cons.mpr ⟨(s_iload (am_dp pw_X11_keeps_224 dd_X11_keeps_224b.2.2.2.2.1)).to, ?_⟩
  refine List.forall_mem_cons.mpr ⟨(s_iadd (am_dp pw_X11_keeps_224 dd_X11_keeps_224b.2.2.2.2.2.1)).to, ?_⟩
  refine List.forall_mem_cons.mpr ⟨(s_zald (am_dp pw_X11_keeps_224 dd_X11_keeps_224b.2.2.2.2.2.2.1)).to, ?_⟩
  refine List.forall_mem_cons.mpr ⟨(s_if_ne (am_dp pw_X11_keeps_224 dd_X11_keeps_224b.2.2.2.2.2.2.2) (by decide)).to, ?_⟩
  refine List.forall_mem_cons.mpr ⟨(s_goto (am_dp pw_X11_keeps_224 dd_X11_keeps_224c.1) (by decide)).to, ?_⟩
  refine List.forall_mem_cons.mpr ⟨(s_aloadn (am_dp pw_X11_keeps_224 dd_X11_keeps_224c.2.1) rfl).to, ?_⟩
  refine List.forall_mem_cons.mpr ⟨(s_get (ci := 11) (k := 69) (am_dp pw_X11_keeps_224 dd_X11_keeps_224c.2.2) rfl (by decide) wd1402 inX11 rfl).to, ?_⟩
  refine List.forall_mem_cons.mpr ⟨(s_iload (am_dp pw_X11_keeps_256 dd_X11_keeps_256a.1)).to, ?_⟩
  refine List.forall_mem_cons.mpr ⟨(s_iconst (am_dp pw_X11_keeps_256 dd_X11_keeps_256a.2.1) (by decide)).to, ?_⟩
  refine List.forall_mem_cons.mpr ⟨(s_zast (am_dp pw_X11_keeps_256 dd_X11_keeps_256a.2.2.1)).to, ?_⟩
  refine List.forall_mem_cons.mpr ⟨(s_iload (am_dp pw_X11_keeps_256 dd_X11_keeps_256a.2.2.2.1)).to, ?_⟩
  refine List.forall_mem_cons.mpr ⟨(s_istoren (am_dp pw_X11_keeps_256 dd_X11_keeps_256a.2.2.2.2.1) rfl (by decide)).to, ?_⟩
  refine List.forall_mem_cons.mpr ⟨(s_iinc (am_dp pw_X11_keeps_256 dd_X11_keeps_256a.2.2.2.2.2.1) (by decide) (by decide)).to, ?_⟩
  refine List.forall_mem_cons.mpr ⟨(s_iinc (am_dp pw_X11_keeps_256 dd_X11_keeps_256a.2.2.2.2.2.2.1) (by decide) (by decide)).to, ?_⟩
  refine List.forall_mem_cons.mpr ⟨(s_goto (am_dp pw_X11_keeps_256 dd_X11_keeps_256a.2.2.2.2.2.2.2) (by decide)).to, ?_⟩
  refine List.forall_mem_cons.mpr ⟨s_vret (am_dp pw_X11_keeps_256 dd_X11_keeps_256b) rfl, ?_⟩
  exact fun _ h => absurd h List.not_mem_nil
theorem sn_tX11_keeps : ∀ q ∈ tX11_keeps, am_Snd am_P0 RX11 cX11_keeps 5 (Option.none : Option FieldType) "keeps" q.1 q.2 := by
  unfold tX11_keeps
  exact List.forall_mem_append.mpr ⟨List.forall_mem_append.mpr ⟨sn_tX11_keeps_0, sn_tX11_keeps_1⟩, sn_tX11_keeps_2⟩
theorem sn_tX11_lays__0 : ∀ q ∈ tX11_lays__0, am_Snd am_P0 RX11 cX11_lays_ 4 (Option.none : Option FieldType) "lays" q.1 q.2 := by
  unfold tX11_lays__0
  refine List.forall_mem_cons.mpr ⟨(s_aloadn (am_dp pw_X11_lays__0 dd_X11_lays__0a.1) rfl).to, ?_⟩
  refine List.forall_mem_cons.mpr ⟨(s_iloadn (am_dp pw_X11_lays__0 dd_X11_lays__0a.2.1) rfl).to, ?_⟩
  refine List.forall_mem_cons.mpr ⟨zw_cv248 (am_dp pw_X11_lays__0 dd_X11_lays__0a.2.2.1) wd1902, ?_⟩
  refine List.forall_mem_cons.mpr ⟨(s_aloadn (am_dp pw_X11_lays__0 dd_X11_lays__0a.2.2.2.1) rfl).to, ?_⟩
  refine List.forall_mem_cons.mpr ⟨(s_iconst (am_dp pw_X11_lays__0 dd_X11_lays__0a.2.2.2.2.1) (by decide)).to, ?_⟩
  refine List.forall_mem_cons.mpr ⟨(s_put (ci := 11) (k := 60) (am_dp pw_X11_lays__0 dd_X11_lays__0a.2.2.2.2.2.1) rfl (by decide) wd1393 inX11 tyX11_ok nmX11 rfl rfl).to, ?_⟩
  refine List.forall_mem_cons.mpr ⟨(s_aloadn (am_dp pw_X11_lays__0 dd_X11_lays__0a.2.2.2.2.2.2.1) rfl).to, ?_⟩
  refine List.forall_mem_cons.mpr ⟨(s_iloadn (am_dp pw_X11_lays__0 dd_X11_lays__0a.2.2.2.2.2.2.2) rfl).to, ?_⟩
  refine List.forall_mem_cons.mpr ⟨zw_cv241 (am_dp pw_X11_lays__0 dd_X11_lays__0b.1) wd1887, ?_⟩
  refine List.forall_mem_cons.mpr ⟨(s_iconst (am_dp pw_X11_lays__0 dd_X11_lays__0b.2.1) (by decide)).to, ?_⟩
  refine List.forall_mem_cons.mpr ⟨(s_istoren (am_dp pw_X11_lays__0 dd_X11_lays__0b.2.2.1) rfl (by decide)).to, ?_⟩
  refine List.forall_mem_cons.mpr ⟨(s_iloadn (am_dp pw_X11_lays__0 dd_X11_lays__0b.2.2.2.1) rfl).to, ?_⟩
  refine List.forall_mem_cons.mpr ⟨(s_aloadn (am_dp pw_X11_lays__0 dd_X11_lays__0b.2.2.2.2.1) rfl).to, ?_⟩
  refine List.forall_mem_cons.mpr ⟨(s_get (ci := 11) (k := 65) (am_dp pw_X11_lays__0 dd_X11_lays__0b.2.2.2.2.2.1) rfl (by decide) wd1398 inX11 rfl).to, ?_⟩
  refine List.forall_mem_cons.mpr ⟨(s_icmp_ge (am_dp pw_X11_lays__0 dd_X11_lays__0b.2.2.2.2.2.2.1) (by decide)).to, ?_⟩
  refine List.forall_mem_cons.mpr ⟨(s_aloadn (am_dp pw_X11_lays__0 dd_X11_lays__0b.2.2.2.2.2.2.2) rfl).to, ?_⟩
  refine List.forall_mem_cons.mpr ⟨(s_get (ci := 11) (k := 69) (am_dp pw_X11_lays__0 dd_X11_lays__0c.1) rfl (by decide) wd1402 inX11 rfl).to, ?_⟩
  refine List.forall_mem_cons.mpr ⟨(s_iloadn (am_dp pw_X11_lays__0 dd_X11_lays__0c.2.1) rfl).to, ?_⟩
  refine List.forall_mem_cons.mpr ⟨(s_zald (am_dp pw_X11_lays__0 dd_X11_lays__0c.2.2.1)).to, ?_⟩
  refine List.forall_mem_cons.mpr ⟨(s_if_eq (am_dp pw_X11_lays__0 dd_X11_lays__0c.2.2.2) (by decide)).to, ?_⟩
  refine List.forall_mem_cons.mpr ⟨(s_aloadn (am_dp pw_X11_lays__32 dd_X11_lays__32a.1) rfl).to, ?_⟩
  refine List.forall_mem_cons.mpr ⟨(s_aloadn (am_dp pw_X11_lays__32 dd_X11_lays__32a.2.1) rfl).to, ?_⟩
  refine List.forall_mem_cons.mpr ⟨(s_iloadn (am_dp pw_X11_lays__32 dd_X11_lays__32a.2.2.1) rfl).to, ?_⟩
  refine List.forall_mem_cons.mpr ⟨(s_aloadn (am_dp pw_X11_lays__32 dd_X11_lays__32a.2.2.2.1) rfl).to, ?_⟩
  refine List.forall_mem_cons.mpr ⟨(s_get (ci := 11) (k := 67) (am_dp pw_X11_lays__32 dd_X11_lays__32a.2.2.2.2.1) rfl (by decide) wd1400 inX11 rfl).to, ?_⟩
  refine List.forall_mem_cons.mpr ⟨(s_iloadn (am_dp pw_X11_lays__32 dd_X11_lays__32a.2.2.2.2.2.1) rfl).to, ?_⟩
  refine List.forall_mem_cons.mpr ⟨(s_iald (am_dp pw_X11_lays__32 dd_X11_lays__32a.2.2.2.2.2.2.1)).to, ?_⟩
  refine List.forall_mem_cons.mpr ⟨zw_cv226 (am_dp pw_X11_lays__32 dd_X11_lays__32a.2.2.2.2.2.2.2) wd1842, ?_⟩
  refine List.forall_mem_cons.mpr ⟨(s_aloadn (am_dp pw_X11_lays__32 dd_X11_lays__32b.1) rfl).to, ?_⟩
  refine List.forall_mem_cons.mpr ⟨(s_get (ci := 11) (k := 67) (am_dp pw_X11_lays__32 dd_X11_lays__32b.2.1) rfl (by decide) wd1400 inX11 rfl).to, ?_⟩
  refine List.forall_mem_cons.mpr ⟨(s_iloadn (am_dp pw_X11_lays__32 dd_X11_lays__32b.2.2.1) rfl).to, ?_⟩
  refine List.forall_mem_cons.mpr ⟨(s_iald (am_dp pw_X11_lays__32 dd_X11_lays__32b.2.2.2.1)).to, ?_⟩
  refine List.forall_mem_cons.mpr ⟨(s_aloadn (am_dp pw_X11_lays__32 dd_X11_lays__32b.2.2.2.2.1) rfl).to, ?_⟩
  refine List.forall_mem_cons.mpr ⟨(s_get (ci := 11) (k := 67) (am_dp pw_X11_lays__32 dd_X11_lays__32b.2.2.2.2.2.1) rfl (by decide) wd1400 inX11 rfl).to, ?_⟩
  refine List.forall_mem_cons.mpr ⟨(s_iloadn (am_dp pw_X11_lays__32 dd_X11_lays__32b.2.2.2.2.2.2.1) rfl).to, ?_⟩
  refine List.forall_mem_cons.mpr ⟨(s_iald (am_dp pw_X11_lays__32 dd_X11_lays__32b.2.2.2.2.2.2.2)).to, ?_⟩
  refine List.forall_mem_cons.mpr ⟨zw_cv240 (am_dp pw_X11_lays__32 dd_X11_lays__32c.1) wd1891, ?_⟩
  refine List.forall_mem_cons.mpr ⟨(s_iinc (am_dp pw_X11_lays__32 dd_X11_lays__32c.2) (by decide) (by decide)).to, ?_⟩
  refine List.forall_mem_cons.mpr ⟨(s_goto (am_dp pw_X11_lays__64 dd_X11_lays__64a.1) (by decide)).to, ?_⟩
  refine List.forall_mem_cons.mpr ⟨(s_iconst (am_dp pw_X11_lays__64 dd_X11_lays__64a.2.1) (by decide)).to, ?_⟩
  refine List.forall_mem_cons.mpr ⟨(s_istoren (am_dp pw_X11_lays__64 dd_X11_lays__64a.2.2.1) rfl (by decide)).to, ?_⟩
  refine List.forall_mem_cons.mpr ⟨(s_iloadn (am_dp pw_X11_lays__64 dd_X11_lays__64a.2.2.2.1) rfl).to, ?_⟩
  refine List.forall_mem_cons.mpr ⟨(s_aloadn (am_dp pw_X11_lays__64 dd_X11_lays__64a.2.2.2.2.1) rfl).to, ?_⟩
  refine List.forall_mem_cons.mpr ⟨(s_get (ci := 11) (k := 60) (am_dp pw_X11_lays__64 dd_X11_lays__64a.2.2.2.2.2.1) rfl (by decide) wd1393 inX11 rfl).to, ?_⟩
  refine List.forall_mem_cons.mpr ⟨(s_icmp_ge (am_dp pw_X11_lays__64 dd_X11_lays__64a.2.2.2.2.2.2.1) (by decide)).to, ?_⟩
  refine List.forall_mem_cons.mpr ⟨(s_aloadn (am_dp pw_X11_lays__64 dd_X11_lays__64a.2.2.2.2.2.2.2) rfl).to, ?_⟩
  refine List.forall_mem_cons.mpr ⟨(s_iloadn (am_dp pw_X11_lays__64 dd_X11_lays__64b.1) rfl).to, ?_⟩
  refine List.forall_mem_cons.mpr ⟨(s_aloadn (am_dp pw_X11_lays__64 dd_X11_lays__64b.2.1) rfl).to, ?_⟩
  refine List.forall_mem_cons.mpr ⟨(s_get (ci := 11) (k := 61) (am_dp pw_X11_lays__64 dd_X11_lays__64b.2.2.1) rfl (by decide) wd1394 inX11 rfl).to, ?_⟩
  refine List.forall_mem_cons.mpr ⟨(s_iloadn (am_dp pw_X11_lays__64 dd_X11_lays__64b.2.2.2.1) rfl).to, ?_⟩
  refine List.forall_mem_cons.mpr ⟨(s_iald (am_dp pw_X11_lays__64 dd_X11_lays__64b.2.2.2.2.1)).to, ?_⟩
  refine List.forall_mem_cons.mpr ⟨zw_cv237 (am_dp pw_X11_lays__64 dd_X11_lays__64b.2.2.2.2.2.1) wd1859, ?_⟩
  refine List.forall_mem_cons.mpr ⟨(s_iconst (am_dp pw_X11_lays__64 dd_X11_lays__64b.2.2.2.2.2.2.1) (by decide)).to, ?_⟩
  refine List.forall_mem_cons.mpr ⟨(s_istoren (am_dp pw_X11_lays__64 dd_X11_lays__64b.2.2.2.2.2.2.2) rfl (by decide)).to, ?_⟩
  refine List.forall_mem_cons.mpr ⟨(s_iloadn (am_dp pw_X11_lays__64 dd_X11_lays__64c.1) rfl).to, ?_⟩
  refine List.forall_mem_cons.mpr ⟨(s_aloadn (am_dp pw_X11_lays__64 dd_X11_lays__64c.2.1) rfl).to, ?_⟩
  refine List.forall_mem_cons.mpr ⟨zw_cv214 (am_dp pw_X11_lays__64 dd_X11_lays__64c.2.2.1) wd1771, ?_⟩
  refine List.forall_mem_cons.mpr ⟨(s_icmp_ge (am_dp pw_X11_lays__64 dd_X11_lays__64c.2.2.2) (by decide)).to, ?_⟩
  refine List.forall_mem_cons.mpr ⟨(s_aloadn (am_dp pw_X11_lays__96 dd_X11_lays__96a.1) rfl).to, ?_⟩
  refine List.forall_mem_cons.mpr ⟨(s_get (ci := 11) (k := 72) (am_dp pw_X11_lays__96 dd_X11_lays__96a.2.1) rfl (by decide) wd1405 inX11 rfl).to, ?_⟩
  exact fun _ h => absurd h List.not_mem_nil
theorem sn_tX11_lays__1 : ∀ q ∈ tX11_lays__1, am_Snd am_P0 RX11 cX11_lays_ 4 (Option.none : Option FieldType) "lays" q.1 q.2 := by
  unfold tX11_lays__1
  refine List.forall_mem_cons.mpr ⟨(s_sipush (am_dp pw_X11_lays__96 dd_X11_lays__96a.2.2.1) (by decide)).to, ?_⟩
  refine List.forall_mem_cons.mpr ⟨(s_iloadn (am_dp pw_X11_lays__96 dd_X11_lays__96a.2.2.2.1) rfl).to, ?_⟩
  refine List.forall_mem_cons.mpr ⟨(s_imul (am_dp pw_X11_lays__96 dd_X11_lays__96a.2.2.2.2.1)).to, ?_⟩
  refine List.forall_mem_cons.mpr ⟨(s_iloadn (am_dp pw_X11_lays__96 dd_X11_lays__96a.2.2.2.2.2.1) rfl).to, ?_⟩
  refine List.forall_mem_cons.mpr ⟨(s_iadd (am_dp pw_X11_lays__96 dd_X11_lays__96a.2.2.2.2.2.2.1)).to, ?_⟩
  refine List.forall_mem_cons.mpr ⟨(s_aloadn (am_dp pw_X11_lays__96 dd_X11_lays__96a.2.2.2.2.2.2.2) rfl).to, ?_⟩
  refine List.forall_mem_cons.mpr ⟨(s_iloadn (am_dp pw_X11_lays__96 dd_X11_lays__96b.1) rfl).to, ?_⟩
  refine List.forall_mem_cons.mpr ⟨(s_iloadn (am_dp pw_X11_lays__96 dd_X11_lays__96b.2.1) rfl).to, ?_⟩
  refine List.forall_mem_cons.mpr ⟨zw_cv238 (am_dp pw_X11_lays__96 dd_X11_lays__96b.2.2.1) wd1871, ?_⟩
  refine List.forall_mem_cons.mpr ⟨(s_iast (am_dp pw_X11_lays__96 dd_X11_lays__96b.2.2.2.1)).to, ?_⟩
  refine List.forall_mem_cons.mpr ⟨(s_iinc (am_dp pw_X11_lays__96 dd_X11_lays__96b.2.2.2.2.1) (by decide) (by decide)).to, ?_⟩
  refine List.forall_mem_cons.mpr ⟨(s_goto (am_dp pw_X11_lays__96 dd_X11_lays__96b.2.2.2.2.2.1) (by decide)).to, ?_⟩
  refine List.forall_mem_cons.mpr ⟨(s_iinc (am_dp pw_X11_lays__96 dd_X11_lays__96b.2.2.2.2.2.2.1) (by decide) (by decide)).to, ?_⟩
  refine List.forall_mem_cons.mpr ⟨(s_goto (am_dp pw_X11_lays__96 dd_X11_lays__96b.2.2.2.2.2.2.2) (by decide)).to, ?_⟩
  refine List.forall_mem_cons.mpr ⟨s_vret (am_dp pw_X11_lays__128 dd_X11_lays__128a) rfl, ?_⟩
  exact fun _ h => absurd h List.not_mem_nil
theorem sn_tX11_lays_ : ∀ q ∈ tX11_lays_, am_Snd am_P0 RX11 cX11_lays_ 4 (Option.none : Option FieldType) "lays" q.1 q.2 := by
  unfold tX11_lays_
  exact List.forall_mem_append.mpr ⟨sn_tX11_lays__0, sn_tX11_lays__1⟩
theorem sn_tX11_mayBe : ∀ q ∈ tX11_mayBe, am_Snd am_P0 RX11 cX11_mayBe 5 (Option.some FieldType.boolean) "mayBe" q.1 q.2 := by
  unfold tX11_mayBe
  refine List.forall_mem_cons.mpr ⟨(s_aloadn (am_dp pw_X11_mayBe_0 dd_X11_mayBe_0a.1) rfl).to, ?_⟩
  refine List.forall_mem_cons.mpr ⟨(s_get (ci := 11) (k := 64) (am_dp pw_X11_mayBe_0 dd_X11_mayBe_0a.2.1) rfl (by decide) wd1397 inX11 rfl).to, ?_⟩
  refine List.forall_mem_cons.mpr ⟨(s_if_eq (am_dp pw_X11_mayBe_0 dd_X11_mayBe_0a.2.2.1) (by decide)).to, ?_⟩
  refine List.forall_mem_cons.mpr ⟨(s_aloadn (am_dp pw_X11_mayBe_0 dd_X11_mayBe_0a.2.2.2.1) rfl).to, ?_⟩
  refine List.forall_mem_cons.mpr ⟨(s_iloadn (am_dp pw_X11_mayBe_0 dd_X11_mayBe_0a.2.2.2.2.1) rfl).to, ?_⟩
  refine List.forall_mem_cons.mpr ⟨(s_iloadn (am_dp pw_X11_mayBe_0 dd_X11_mayBe_0a.2.2.2.2.2.1) rfl).to, ?_⟩
  refine List.forall_mem_cons.mpr ⟨zw_cv234 (am_dp pw_X11_mayBe_0 dd_X11_mayBe_0a.2.2.2.2.2.2.1) wd1867, ?_⟩
  refine List.forall_mem_cons.mpr ⟨(s_if_ne (am_dp pw_X11_mayBe_0 dd_X11_mayBe_0a.2.2.2.2.2.2.2) (by decide)).to, ?_⟩
  refine List.forall_mem_cons.mpr ⟨(s_iconst (am_dp pw_X11_mayBe_0 dd_X11_mayBe_0b.1) (by decide)).to, ?_⟩
  refine List.forall_mem_cons.mpr ⟨s_zret (am_dp pw_X11_mayBe_0 dd_X11_mayBe_0b.2.1) rfl, ?_⟩
  refine List.forall_mem_cons.mpr ⟨(s_iconst (am_dp pw_X11_mayBe_0 dd_X11_mayBe_0b.2.2.1) (by decide)).to, ?_⟩
  refine List.forall_mem_cons.mpr ⟨(s_istore (am_dp pw_X11_mayBe_0 dd_X11_mayBe_0b.2.2.2.1) (by decide)).to, ?_⟩
  refine List.forall_mem_cons.mpr ⟨(s_iload (am_dp pw_X11_mayBe_0 dd_X11_mayBe_0b.2.2.2.2.1)).to, ?_⟩
  refine List.forall_mem_cons.mpr ⟨(s_aloadn (am_dp pw_X11_mayBe_0 dd_X11_mayBe_0b.2.2.2.2.2.1) rfl).to, ?_⟩
  refine List.forall_mem_cons.mpr ⟨(s_get (ci := 11) (k := 60) (am_dp pw_X11_mayBe_0 dd_X11_mayBe_0b.2.2.2.2.2.2.1) rfl (by decide) wd1393 inX11 rfl).to, ?_⟩
  refine List.forall_mem_cons.mpr ⟨(s_icmp_ge (am_dp pw_X11_mayBe_0 dd_X11_mayBe_0b.2.2.2.2.2.2.2) (by decide)).to, ?_⟩
  refine List.forall_mem_cons.mpr ⟨(s_aloadn (am_dp pw_X11_mayBe_0 dd_X11_mayBe_0c.1) rfl).to, ?_⟩
  refine List.forall_mem_cons.mpr ⟨(s_get (ci := 11) (k := 72) (am_dp pw_X11_mayBe_0 dd_X11_mayBe_0c.2) rfl (by decide) wd1405 inX11 rfl).to, ?_⟩
  refine List.forall_mem_cons.mpr ⟨(s_sipush (am_dp pw_X11_mayBe_32 dd_X11_mayBe_32a.1) (by decide)).to, ?_⟩
  refine List.forall_mem_cons.mpr ⟨(s_iload (am_dp pw_X11_mayBe_32 dd_X11_mayBe_32a.2.1)).to, ?_⟩
  refine List.forall_mem_cons.mpr ⟨(s_imul (am_dp pw_X11_mayBe_32 dd_X11_mayBe_32a.2.2.1)).to, ?_⟩
  refine List.forall_mem_cons.mpr ⟨(s_iloadn (am_dp pw_X11_mayBe_32 dd_X11_mayBe_32a.2.2.2.1) rfl).to, ?_⟩
  refine List.forall_mem_cons.mpr ⟨(s_iadd (am_dp pw_X11_mayBe_32 dd_X11_mayBe_32a.2.2.2.2.1)).to, ?_⟩
  refine List.forall_mem_cons.mpr ⟨(s_iald (am_dp pw_X11_mayBe_32 dd_X11_mayBe_32a.2.2.2.2.2.1)).to, ?_⟩
  refine List.forall_mem_cons.mpr ⟨(s_iloadn (am_dp pw_X11_mayBe_32 dd_X11_mayBe_32a.2.2.2.2.2.2.1) rfl).to, ?_⟩
  refine List.forall_mem_cons.mpr ⟨(s_iloadn (am_dp pw_X11_mayBe_32 dd_X11_mayBe_32a.2.2.2.2.2.2.2) rfl).to, ?_⟩
  refine List.forall_mem_cons.mpr ⟨(s_aloadn (am_dp pw_X11_mayBe_32 dd_X11_mayBe_32b.1) rfl).to, ?_⟩
  refine List.forall_mem_cons.mpr ⟨(s_get (ci := 11) (k := 62) (am_dp pw_X11_mayBe_32 dd_X11_mayBe_32b.2.1) rfl (by decide) wd1395 inX11 rfl).to, ?_⟩
  refine List.forall_mem_cons.mpr ⟨(s_iload (am_dp pw_X11_mayBe_32 dd_X11_mayBe_32b.2.2.1)).to, ?_⟩
  refine List.forall_mem_cons.mpr ⟨(s_iald (am_dp pw_X11_mayBe_32 dd_X11_mayBe_32b.2.2.2.1)).to, ?_⟩
  refine List.forall_mem_cons.mpr ⟨(s_aloadn (am_dp pw_X11_mayBe_32 dd_X11_mayBe_32b.2.2.2.2.1) rfl).to, ?_⟩
  refine List.forall_mem_cons.mpr ⟨(s_get (ci := 11) (k := 63) (am_dp pw_X11_mayBe_32 dd_X11_mayBe_32b.2.2.2.2.2.1) rfl (by decide) wd1396 inX11 rfl).to, ?_⟩
  refine List.forall_mem_cons.mpr ⟨(s_iload (am_dp pw_X11_mayBe_32 dd_X11_mayBe_32b.2.2.2.2.2.2.1)).to, ?_⟩
  refine List.forall_mem_cons.mpr ⟨(s_iald (am_dp pw_X11_mayBe_32 dd_X11_mayBe_32b.2.2.2.2.2.2.2)).to, ?_⟩
  refine List.forall_mem_cons.mpr ⟨zw_cs243 (am_dp pw_X11_mayBe_32 dd_X11_mayBe_32c.1) wd1899, ?_⟩
  refine List.forall_mem_cons.mpr ⟨(s_icmp_le (am_dp pw_X11_mayBe_32 dd_X11_mayBe_32c.2) (by decide)).to, ?_⟩
  refine List.forall_mem_cons.mpr ⟨(s_iconst (am_dp pw_X11_mayBe_64 dd_X11_mayBe_64a.1) (by decide)).to, ?_⟩
  refine List.forall_mem_cons.mpr ⟨s_zret (am_dp pw_X11_mayBe_64 dd_X11_mayBe_64a.2.1) rfl, ?_⟩
  refine List.forall_mem_cons.mpr ⟨(s_iinc (am_dp pw_X11_mayBe_64 dd_X11_mayBe_64a.2.2.1) (by decide) (by decide)).to, ?_⟩
  refine List.forall_mem_cons.mpr ⟨(s_goto (am_dp pw_X11_mayBe_64 dd_X11_mayBe_64a.2.2.2.1) (by decide)).to, ?_⟩
  refine List.forall_mem_cons.mpr ⟨(s_iconst (am_dp pw_X11_mayBe_64 dd_X11_mayBe_64a.2.2.2.2.1) (by decide)).to, ?_⟩
  refine List.forall_mem_cons.mpr ⟨s_zret (am_dp pw_X11_mayBe_64 dd_X11_mayBe_64a.2.2.2.2.2) rfl, ?_⟩
  exact fun _ h => absurd h List.not_mem_nil
theorem sn_tX11_cellsOf : ∀ q ∈ tX11_cellsOf, am_Snd am_P0 RX11 cX11_cellsOf 5 (Option.some FieldType.int) "cellsOf" q.1 q.2 := by
  unfold tX11_cellsOf
  refine List.forall_mem_cons.mpr ⟨(s_iconst (am_dp pw_X11_cellsOf_0 dd_X11_cellsOf_0a.1) (by decide)).to, ?_⟩
  refine List.forall_mem_cons.mpr ⟨(s_istoren (am_dp pw_X11_cellsOf_0 dd_X11_cellsOf_0a.2.1) rfl (by decide)).to, ?_⟩
  refine List.forall_mem_cons.mpr ⟨(s_iconst (am_dp pw_X11_cellsOf_0 dd_X11_cellsOf_0a.2.2.1) (by decide)).to, ?_⟩
  refine List.forall_mem_cons.mpr ⟨(s_istore (am_dp pw_X11_cellsOf_0 dd_X11_cellsOf_0a.2.2.2.1) (by decide)).to, ?_⟩
  refine List.forall_mem_cons.mpr ⟨(s_iload (am_dp pw_X11_cellsOf_0 dd_X11_cellsOf_0a.2.2.2.2.1)).to, ?_⟩
  refine List.forall_mem_cons.mpr ⟨(s_aloadn (am_dp pw_X11_cellsOf_0 dd_X11_cellsOf_0a.2.2.2.2.2.1) rfl).to, ?_⟩
  refine List.forall_mem_cons.mpr ⟨zw_cv214 (am_dp pw_X11_cellsOf_0 dd_X11_cellsOf_0a.2.2.2.2.2.2.1) wd1771, ?_⟩
  refine List.forall_mem_cons.mpr ⟨(s_icmp_ge (am_dp pw_X11_cellsOf_0 dd_X11_cellsOf_0a.2.2.2.2.2.2.2) (by decide)).to, ?_⟩
  refine List.forall_mem_cons.mpr ⟨(s_iloadn (am_dp pw_X11_cellsOf_0 dd_X11_cellsOf_0b.1) rfl).to, ?_⟩
  refine List.forall_mem_cons.mpr ⟨(s_aloadn (am_dp pw_X11_cellsOf_0 dd_X11_cellsOf_0b.2.1) rfl).to, ?_⟩
  refine List.forall_mem_cons.mpr ⟨(s_iloadn (am_dp pw_X11_cellsOf_0 dd_X11_cellsOf_0b.2.2.1) rfl).to, ?_⟩
  refine List.forall_mem_cons.mpr ⟨(s_iload (am_dp pw_X11_cellsOf_0 dd_X11_cellsOf_0b.2.2.2.1)).to, ?_⟩
  refine List.forall_mem_cons.mpr ⟨(s_iloadn (am_dp pw_X11_cellsOf_0 dd_X11_cellsOf_0b.2.2.2.2.1) rfl).to, ?_⟩
  refine List.forall_mem_cons.mpr ⟨zw_cv250 (am_dp pw_X11_cellsOf_0 dd_X11_cellsOf_0b.2.2.2.2.2.1) wd1946, ?_⟩
  refine List.forall_mem_cons.mpr ⟨(s_if_eq (am_dp pw_X11_cellsOf_0 dd_X11_cellsOf_0b.2.2.2.2.2.2.1) (by decide)).to, ?_⟩
  refine List.forall_mem_cons.mpr ⟨(s_iconst (am_dp pw_X11_cellsOf_0 dd_X11_cellsOf_0b.2.2.2.2.2.2.2) (by decide)).to, ?_⟩
  refine List.forall_mem_cons.mpr ⟨(s_goto (am_dp pw_X11_cellsOf_0 dd_X11_cellsOf_0c.1) (by decide)).to, ?_⟩
  refine List.forall_mem_cons.mpr ⟨(s_iconst (am_dp pw_X11_cellsOf_0 dd_X11_cellsOf_0c.2.1) (by decide)).to, ?_⟩
  refine List.forall_mem_cons.mpr ⟨(s_iadd (am_dp pw_X11_cellsOf_0 dd_X11_cellsOf_0c.2.2)).to, ?_⟩
  refine List.forall_mem_cons.mpr ⟨(s_istoren (am_dp pw_X11_cellsOf_32 dd_X11_cellsOf_32a.1) rfl (by decide)).to, ?_⟩
  refine List.forall_mem_cons.mpr ⟨(s_iinc (am_dp pw_X11_cellsOf_32 dd_X11_cellsOf_32a.2.1) (by decide) (by decide)).to, ?_⟩
  refine List.forall_mem_cons.mpr ⟨(s_goto (am_dp pw_X11_cellsOf_32 dd_X11_cellsOf_32a.2.2.1) (by decide)).to, ?_⟩
  refine List.forall_mem_cons.mpr ⟨(s_iloadn (am_dp pw_X11_cellsOf_32 dd_X11_cellsOf_32a.2.2.2.1) rfl).to, ?_⟩
  refine List.forall_mem_cons.mpr ⟨s_iret (am_dp pw_X11_cellsOf_32 dd_X11_cellsOf_32a.2.2.2.2) rfl, ?_⟩
  exact fun _ h => absurd h List.not_mem_nil
theorem sn_tX11_isHonest : ∀ q ∈ tX11_isHonest, am_Snd am_P0 RX11 cX11_isHonest 4 (Option.some FieldType.boolean) "isHonest" q.1 q.2 := by
  unfold tX11_isHonest
  refine List.forall_mem_cons.mpr ⟨(s_iconst (am_dp pw_X11_isHonest_0 dd_X11_isHonest_0a.1) (by decide)).to, ?_⟩
  refine List.forall_mem_cons.mpr ⟨(s_istoren (am_dp pw_X11_isHonest_0 dd_X11_isHonest_0a.2.1) rfl (by decide)).to, ?_⟩
  refine List.forall_mem_cons.mpr ⟨(s_iloadn (am_dp pw_X11_isHonest_0 dd_X11_isHonest_0a.2.2.1) rfl).to, ?_⟩
  refine List.forall_mem_cons.mpr ⟨(s_aloadn (am_dp pw_X11_isHonest_0 dd_X11_isHonest_0a.2.2.2.1) rfl).to, ?_⟩
  refine List.forall_mem_cons.mpr ⟨zw_cv214 (am_dp pw_X11_isHonest_0 dd_X11_isHonest_0a.2.2.2.2.1) wd1771, ?_⟩
  refine List.forall_mem_cons.mpr ⟨(s_icmp_ge (am_dp pw_X11_isHonest_0 dd_X11_isHonest_0a.2.2.2.2.2.1) (by decide)).to, ?_⟩
  refine List.forall_mem_cons.mpr ⟨(s_aloadn (am_dp pw_X11_isHonest_0 dd_X11_isHonest_0a.2.2.2.2.2.2.1) rfl).to, ?_⟩
  refine List.forall_mem_cons.mpr ⟨(s_iloadn (am_dp pw_X11_isHonest_0 dd_X11_isHonest_0a.2.2.2.2.2.2.2) rfl).to, ?_⟩
  refine List.forall_mem_cons.mpr ⟨(s_iloadn (am_dp pw_X11_isHonest_0 dd_X11_isHonest_0b.1) rfl).to, ?_⟩
  refine List.forall_mem_cons.mpr ⟨(s_iloadn (am_dp pw_X11_isHonest_0 dd_X11_isHonest_0b.2.1) rfl).to, ?_⟩
  refine List.forall_mem_cons.mpr ⟨zw_cv250 (am_dp pw_X11_isHonest_0 dd_X11_isHonest_0b.2.2.1) wd1946, ?_⟩
  refine List.forall_mem_cons.mpr ⟨(s_if_eq (am_dp pw_X11_isHonest_0 dd_X11_isHonest_0b.2.2.2.1) (by decide)).to, ?_⟩
  refine List.forall_mem_cons.mpr ⟨(s_aloadn (am_dp pw_X11_isHonest_0 dd_X11_isHonest_0b.2.2.2.2.1) rfl).to, ?_⟩
  refine List.forall_mem_cons.mpr ⟨(s_iloadn (am_dp pw_X11_isHonest_0 dd_X11_isHonest_0b.2.2.2.2.2.1) rfl).to, ?_⟩
  refine List.forall_mem_cons.mpr ⟨(s_iloadn (am_dp pw_X11_isHonest_0 dd_X11_isHonest_0b.2.2.2.2.2.2.1) rfl).to, ?_⟩
  refine List.forall_mem_cons.mpr ⟨zw_cv224 (am_dp pw_X11_isHonest_0 dd_X11_isHonest_0b.2.2.2.2.2.2.2) wd1830, ?_⟩
  refine List.forall_mem_cons.mpr ⟨(s_if_eq (am_dp pw_X11_isHonest_0 dd_X11_isHonest_0c.1) (by decide)).to, ?_⟩
  refine List.forall_mem_cons.mpr ⟨(s_iconst (am_dp pw_X11_isHonest_0 dd_X11_isHonest_0c.2.1) (by decide)).to, ?_⟩
  refine List.forall_mem_cons.mpr ⟨s_zret (am_dp pw_X11_isHonest_0 dd_X11_isHonest_0c.2.2.1) rfl, ?_⟩
  refine List.forall_mem_cons.mpr ⟨(s_iinc (am_dp pw_X11_isHonest_0 dd_X11_isHonest_0c.2.2.2) (by decide) (by decide)).to, ?_⟩
  refine List.forall_mem_cons.mpr ⟨(s_goto (am_dp pw_X11_isHonest_32 dd_X11_isHonest_32a.1) (by decide)).to, ?_⟩
  refine List.forall_mem_cons.mpr ⟨(s_iconst (am_dp pw_X11_isHonest_32 dd_X11_isHonest_32a.2.1) (by decide)).to, ?_⟩
  refine List.forall_mem_cons.mpr ⟨s_zret (am_dp pw_X11_isHonest_32 dd_X11_isHonest_32a.2.2) rfl, ?_⟩
  exact fun _ h => absurd h List.not_mem_nil
theorem sn_tX11_ship__0 : ∀ q ∈ tX11_ship__0, am_Snd am_P0 RX11 cX11_ship_ 4 (Option.some FieldType.int) "ship" q.1 q.2 := by
  unfold tX11_ship__0
  refine List.forall_mem_cons.mpr ⟨(s_aloadn (am_dp pw_X11_ship__0 dd_X11_ship__0a.1) rfl).to, ?_⟩
  refine List.forall_mem_cons.mpr ⟨(s_iloadn (am_dp pw_X11_ship__0 dd_X11_ship__0a.2.1) rfl).to, ?_⟩
  refine List.forall_mem_cons.mpr ⟨zw_cv220 (am_dp pw_X11_ship__0 dd_X11_ship__0a.2.2.1) wd1850, ?_⟩
  refine List.forall_mem_cons.mpr ⟨(s_if_eq (am_dp pw_X11_ship__0 dd_X11_ship__0a.2.2.2.1) (by decide)).to, ?_⟩
  refine List.forall_mem_cons.mpr ⟨(s_iloadn (am_dp pw_X11_ship__0 dd_X11_ship__0a.2.2.2.2.1) rfl).to, ?_⟩
  refine List.forall_mem_cons.mpr ⟨(s_iconst (am_dp pw_X11_ship__0 dd_X11_ship__0a.2.2.2.2.2.1) (by decide)).to, ?_⟩
  refine List.forall_mem_cons.mpr ⟨(s_bipush (am_dp pw_X11_ship__0 dd_X11_ship__0a.2.2.2.2.2.2.1) (by decide)).to, ?_⟩
  refine List.forall_mem_cons.mpr ⟨zw_cs167 (am_dp pw_X11_ship__0 dd_X11_ship__0a.2.2.2.2.2.2.2) wd1630, ?_⟩
  refine List.forall_mem_cons.mpr ⟨(s_if_ne (am_dp pw_X11_ship__0 dd_X11_ship__0b.1) (by decide)).to, ?_⟩
  refine List.forall_mem_cons.mpr ⟨(s_iconst (am_dp pw_X11_ship__0 dd_X11_ship__0b.2.1) (by decide)).to, ?_⟩
  refine List.forall_mem_cons.mpr ⟨s_iret (am_dp pw_X11_ship__0 dd_X11_ship__0b.2.2.1) rfl, ?_⟩
  refine List.forall_mem_cons.mpr ⟨(s_bipush (am_dp pw_X11_ship__0 dd_X11_ship__0b.2.2.2.1) (by decide)).to, ?_⟩
  refine List.forall_mem_cons.mpr ⟨(s_aloadn (am_dp pw_X11_ship__0 dd_X11_ship__0b.2.2.2.2.1) rfl).to, ?_⟩
  refine List.forall_mem_cons.mpr ⟨(s_get (ci := 11) (k := 12) (am_dp pw_X11_ship__0 dd_X11_ship__0b.2.2.2.2.2.1) rfl (by decide) wd1345 inX11 rfl).to, ?_⟩
  refine List.forall_mem_cons.mpr ⟨(s_imul (am_dp pw_X11_ship__0 dd_X11_ship__0b.2.2.2.2.2.2.1)).to, ?_⟩
  refine List.forall_mem_cons.mpr ⟨(s_iloadn (am_dp pw_X11_ship__0 dd_X11_ship__0b.2.2.2.2.2.2.2) rfl).to, ?_⟩
  refine List.forall_mem_cons.mpr ⟨(s_iadd (am_dp pw_X11_ship__0 dd_X11_ship__0c.1)).to, ?_⟩
  refine List.forall_mem_cons.mpr ⟨(s_istoren (am_dp pw_X11_ship__0 dd_X11_ship__0c.2.1) rfl (by decide)).to, ?_⟩
  refine List.forall_mem_cons.mpr ⟨(s_iloadn (am_dp pw_X11_ship__0 dd_X11_ship__0c.2.2) rfl).to, ?_⟩
  refine List.forall_mem_cons.mpr ⟨(s_table (by decide +kernel : decode cX11_ship_ 31 = .ok (.tableswitch 103 0 8 #[49, 56, 63, 70, 77, 103, 103, 83, 89], 49)) (by decide) (by decide) (by decide) (by decide)).to, ?_⟩
  refine List.forall_mem_cons.mpr ⟨(s_aloadn (am_dp pw_X11_ship__64 dd_X11_ship__64a.1) rfl).to, ?_⟩
  refine List.forall_mem_cons.mpr ⟨(s_get (ci := 11) (k := 21) (am_dp pw_X11_ship__64 dd_X11_ship__64a.2.1) rfl (by decide) wd1354 inX11 rfl).to, ?_⟩
  refine List.forall_mem_cons.mpr ⟨(s_iloadn (am_dp pw_X11_ship__64 dd_X11_ship__64a.2.2.1) rfl).to, ?_⟩
  refine List.forall_mem_cons.mpr ⟨(s_iald (am_dp pw_X11_ship__64 dd_X11_ship__64a.2.2.2.1)).to, ?_⟩
  refine List.forall_mem_cons.mpr ⟨s_iret (am_dp pw_X11_ship__64 dd_X11_ship__64a.2.2.2.2.1) rfl, ?_⟩
  refine List.forall_mem_cons.mpr ⟨(s_aloadn (am_dp pw_X11_ship__64 dd_X11_ship__64a.2.2.2.2.2.1) rfl).to, ?_⟩
  refine List.forall_mem_cons.mpr ⟨(s_get (ci := 11) (k := 22) (am_dp pw_X11_ship__64 dd_X11_ship__64a.2.2.2.2.2.2.1) rfl (by decide) wd1355 inX11 rfl).to, ?_⟩
  refine List.forall_mem_cons.mpr ⟨(s_iloadn (am_dp pw_X11_ship__64 dd_X11_ship__64a.2.2.2.2.2.2.2) rfl).to, ?_⟩
  refine List.forall_mem_cons.mpr ⟨(s_iald (am_dp pw_X11_ship__64 dd_X11_ship__64b.1)).to, ?_⟩
  refine List.forall_mem_cons.mpr ⟨s_iret (am_dp pw_X11_ship__64 dd_X11_ship__64b.2.1) rfl, ?_⟩
  refine List.forall_mem_cons.mpr ⟨(s_aloadn (am_dp pw_X11_ship__64 dd_X11_ship__64b.2.2.1) rfl).to, ?_⟩
  refine List.forall_mem_cons.mpr ⟨(s_get (ci := 11) (k := 23) (am_dp pw_X11_ship__64 dd_X11_ship__64b.2.2.2) rfl (by decide) wd1356 inX11 rfl).to, ?_⟩
  refine List.forall_mem_cons.mpr ⟨(s_iloadn (am_dp pw_X11_ship__96 dd_X11_ship__96a.1) rfl).to, ?_⟩
  refine List.forall_mem_cons.mpr ⟨(s_iald (am_dp pw_X11_ship__96 dd_X11_ship__96a.2.1)).to, ?_⟩
  refine List.forall_mem_cons.mpr ⟨s_iret (am_dp pw_X11_ship__96 dd_X11_ship__96a.2.2.1) rfl, ?_⟩
  refine List.forall_mem_cons.mpr ⟨(s_aloadn (am_dp pw_X11_ship__96 dd_X11_ship__96a.2.2.2.1) rfl).to, ?_⟩
  refine List.forall_mem_cons.mpr ⟨(s_get (ci := 11) (k := 24) (am_dp pw_X11_ship__96 dd_X11_ship__96a.2.2.2.2.1) rfl (by decide) wd1357 inX11 rfl).to, ?_⟩
  refine List.forall_mem_cons.mpr ⟨(s_iloadn (am_dp pw_X11_ship__96 dd_X11_ship__96a.2.2.2.2.2.1) rfl).to, ?_⟩
  refine List.forall_mem_cons.mpr ⟨(s_iald (am_dp pw_X11_ship__96 dd_X11_ship__96a.2.2.2.2.2.2.1)).to, ?_⟩
  refine List.forall_mem_cons.mpr ⟨s_iret (am_dp pw_X11_ship__96 dd_X11_ship__96a.2.2.2.2.2.2.2) rfl, ?_⟩
  refine List.forall_mem_cons.mpr ⟨(s_aloadn (am_dp pw_X11_ship__96 dd_X11_ship__96b.1) rfl).to, ?_⟩
  refine List.forall_mem_cons.mpr ⟨(s_iloadn (am_dp pw_X11_ship__96 dd_X11_ship__96b.2.1) rfl).to, ?_⟩
  refine List.forall_mem_cons.mpr ⟨zw_cv228 (am_dp pw_X11_ship__96 dd_X11_ship__96b.2.2.1) wd1838, ?_⟩
  refine List.forall_mem_cons.mpr ⟨s_iret (am_dp pw_X11_ship__96 dd_X11_ship__96b.2.2.2.1) rfl, ?_⟩
  refine List.forall_mem_cons.mpr ⟨(s_aloadn (am_dp pw_X11_ship__96 dd_X11_ship__96b.2.2.2.2.1) rfl).to, ?_⟩
  refine List.forall_mem_cons.mpr ⟨(s_iloadn (am_dp pw_X11_ship__96 dd_X11_ship__96b.2.2.2.2.2.1) rfl).to, ?_⟩
  refine List.forall_mem_cons.mpr ⟨zw_cv231 (am_dp pw_X11_ship__96 dd_X11_ship__96b.2.2.2.2.2.2.1) wd1879, ?_⟩
  refine List.forall_mem_cons.mpr ⟨s_iret (am_dp pw_X11_ship__96 dd_X11_ship__96b.2.2.2.2.2.2.2) rfl, ?_⟩
  refine List.forall_mem_cons.mpr ⟨(s_aloadn (am_dp pw_X11_ship__96 dd_X11_ship__96c.1) rfl).to, ?_⟩
  refine List.forall_mem_cons.mpr ⟨(s_iloadn (am_dp pw_X11_ship__96 dd_X11_ship__96c.2.1) rfl).to, ?_⟩
  refine List.forall_mem_cons.mpr ⟨zw_cv245 (am_dp pw_X11_ship__96 dd_X11_ship__96c.2.2.1) wd1883, ?_⟩
  refine List.forall_mem_cons.mpr ⟨(s_if_eq (am_dp pw_X11_ship__96 dd_X11_ship__96c.2.2.2) (by decide)).to, ?_⟩
  refine List.forall_mem_cons.mpr ⟨(s_iconst (am_dp pw_X11_ship__128 dd_X11_ship__128a.1) (by decide)).to, ?_⟩
  refine List.forall_mem_cons.mpr ⟨(s_goto (am_dp pw_X11_ship__128 dd_X11_ship__128a.2.1) (by decide)).to, ?_⟩
  refine List.forall_mem_cons.mpr ⟨(s_iconst (am_dp pw_X11_ship__128 dd_X11_ship__128a.2.2.1) (by decide)).to, ?_⟩
  refine List.forall_mem_cons.mpr ⟨s_iret (am_dp pw_X11_ship__128 dd_X11_ship__128a.2.2.2.1) rfl, ?_⟩
  refine List.forall_mem_cons.mpr ⟨(s_aloadn (am_dp pw_X11_ship__128 dd_X11_ship__128a.2.2.2.2.1) rfl).to, ?_⟩
  refine List.forall_mem_cons.mpr ⟨(s_iloadn (am_dp pw_X11_ship__128 dd_X11_ship__128a.2.2.2.2.2.1) rfl).to, ?_⟩
  refine List.forall_mem_cons.mpr ⟨zw_cv248 (am_dp pw_X11_ship__128 dd_X11_ship__128a.2.2.2.2.2.2.1) wd1902, ?_⟩
  refine List.forall_mem_cons.mpr ⟨(s_iloadn (am_dp pw_X11_ship__128 dd_X11_ship__128a.2.2.2.2.2.2.2) rfl).to, ?_⟩
  exact fun _ h => absurd h List.not_mem_nil
theorem sn_tX11_ship__1 : ∀ q ∈ tX11_ship__1, am_Snd am_P0 RX11 cX11_ship_ 4 (Option.some FieldType.int) "ship" q.1 q.2 := by
  unfold tX11_ship__1
  refine List.forall_mem_cons.mpr ⟨(s_iconst (am_dp pw_X11_ship__128 dd_X11_ship__128b.1) (by decide)).to, ?_⟩
  refine List.forall_mem_cons.mpr ⟨(s_icmp_ne (am_dp pw_X11_ship__128 dd_X11_ship__128b.2.1) (by decide)).to, ?_⟩
  refine List.forall_mem_cons.mpr ⟨(s_aloadn (am_dp pw_X11_ship__128 dd_X11_ship__128b.2.2.1) rfl).to, ?_⟩
  refine List.forall_mem_cons.mpr ⟨(s_get (ci := 11) (k := 66) (am_dp pw_X11_ship__128 dd_X11_ship__128b.2.2.2.1) rfl (by decide) wd1399 inX11 rfl).to, ?_⟩
  refine List.forall_mem_cons.mpr ⟨(s_goto (am_dp pw_X11_ship__128 dd_X11_ship__128b.2.2.2.2.1) (by decide)).to, ?_⟩
  refine List.forall_mem_cons.mpr ⟨(s_aloadn (am_dp pw_X11_ship__128 dd_X11_ship__128b.2.2.2.2.2.1) rfl).to, ?_⟩
  refine List.forall_mem_cons.mpr ⟨(s_get (ci := 11) (k := 65) (am_dp pw_X11_ship__128 dd_X11_ship__128b.2.2.2.2.2.2.1) rfl (by decide) wd1398 inX11 rfl).to, ?_⟩
  refine List.forall_mem_cons.mpr ⟨(s_aloadn (am_dp pw_X11_ship__128 dd_X11_ship__128b.2.2.2.2.2.2.2) rfl).to, ?_⟩
  refine List.forall_mem_cons.mpr ⟨(s_get (ci := 11) (k := 66) (am_dp pw_X11_ship__128 dd_X11_ship__128c.1) rfl (by decide) wd1399 inX11 rfl).to, ?_⟩
  refine List.forall_mem_cons.mpr ⟨(s_isub (am_dp pw_X11_ship__128 dd_X11_ship__128c.2)).to, ?_⟩
  refine List.forall_mem_cons.mpr ⟨s_iret (am_dp pw_X11_ship__160 dd_X11_ship__160a) rfl, ?_⟩
  exact fun _ h => absurd h List.not_mem_nil
theorem sn_tX11_ship_ : ∀ q ∈ tX11_ship_, am_Snd am_P0 RX11 cX11_ship_ 4 (Option.some FieldType.int) "ship" q.1 q.2 := by
  unfold tX11_ship_
  exact List.forall_mem_append.mpr ⟨sn_tX11_ship__0, sn_tX11_ship__1⟩
theorem sn_tX11_saying_0 : ∀ q ∈ tX11_saying_0, am_Snd am_P0 RX11 cX11_saying 5 (Option.some FieldType.int) "saying" q.1 q.2 := by
  unfold tX11_saying_0
  refine List.forall_mem_cons.mpr ⟨(s_aloadn (am_dp pw_X11_saying_0 dd_X11_saying_0a.1) rfl).to, ?_⟩
  refine List.forall_mem_cons.mpr ⟨(s_iloadn (am_dp pw_X11_saying_0 dd_X11_saying_0a.2.1) rfl).to, ?_⟩
  refine List.forall_mem_cons.mpr ⟨zw_cv220 (am_dp pw_X11_saying_0 dd_X11_saying_0a.2.2.1) wd1850, ?_⟩
  refine List.forall_mem_cons.mpr ⟨(s_if_eq (am_dp pw_X11_saying_0 dd_X11_saying_0a.2.2.2.1) (by decide)).to, ?_⟩
  refine List.forall_mem_cons.mpr ⟨(s_aloadn (am_dp pw_X11_saying_0 dd_X11_saying_0a.2.2.2.2.1) rfl).to, ?_⟩
  refine List.forall_mem_cons.mpr ⟨(s_iloadn (am_dp pw_X11_saying_0 dd_X11_saying_0a.2.2.2.2.2.1) rfl).to, ?_⟩
  refine List.forall_mem_cons.mpr ⟨(s_iloadn (am_dp pw_X11_saying_0 dd_X11_saying_0a.2.2.2.2.2.2.1) rfl).to, ?_⟩
  refine List.forall_mem_cons.mpr ⟨zw_cv229 (am_dp pw_X11_saying_0 dd_X11_saying_0a.2.2.2.2.2.2.2) wd1926, ?_⟩
  refine List.forall_mem_cons.mpr ⟨(s_goto (am_dp pw_X11_saying_0 dd_X11_saying_0b.1) (by decide)).to, ?_⟩
  refine List.forall_mem_cons.mpr ⟨(s_iconst (am_dp pw_X11_saying_0 dd_X11_saying_0b.2.1) (by decide)).to, ?_⟩
  refine List.forall_mem_cons.mpr ⟨(s_istore (am_dp pw_X11_saying_0 dd_X11_saying_0b.2.2.1) (by decide)).to, ?_⟩
  refine List.forall_mem_cons.mpr ⟨(s_iload (am_dp pw_X11_saying_0 dd_X11_saying_0b.2.2.2.1)).to, ?_⟩
  refine List.forall_mem_cons.mpr ⟨(s_iconst (am_dp pw_X11_saying_0 dd_X11_saying_0b.2.2.2.2.1) (by decide)).to, ?_⟩
  refine List.forall_mem_cons.mpr ⟨(s_icmp_ne (am_dp pw_X11_saying_0 dd_X11_saying_0b.2.2.2.2.2.1) (by decide)).to, ?_⟩
  refine List.forall_mem_cons.mpr ⟨(s_iconst (am_dp pw_X11_saying_0 dd_X11_saying_0b.2.2.2.2.2.2.1) (by decide)).to, ?_⟩
  refine List.forall_mem_cons.mpr ⟨s_iret (am_dp pw_X11_saying_0 dd_X11_saying_0b.2.2.2.2.2.2.2) rfl, ?_⟩
  refine List.forall_mem_cons.mpr ⟨(s_iloadn (am_dp pw_X11_saying_0 dd_X11_saying_0c) rfl).to, ?_⟩
  refine List.forall_mem_cons.mpr ⟨(s_table (by decide +kernel : decode cX11_saying 29 = .ok (.tableswitch 110 0 4 #[35, 38, 46, 62, 90], 35)) (by decide) (by decide) (by decide) (by decide)).to, ?_⟩
  refine List.forall_mem_cons.mpr ⟨(s_iload (am_dp pw_X11_saying_64 dd_X11_saying_64a.1)).to, ?_⟩
  refine List.forall_mem_cons.mpr ⟨s_iret (am_dp pw_X11_saying_64 dd_X11_saying_64a.2.1) rfl, ?_⟩
  refine List.forall_mem_cons.mpr ⟨(s_aloadn (am_dp pw_X11_saying_64 dd_X11_saying_64a.2.2.1) rfl).to, ?_⟩
  refine List.forall_mem_cons.mpr ⟨(s_iloadn (am_dp pw_X11_saying_64 dd_X11_saying_64a.2.2.2.1) rfl).to, ?_⟩
  refine List.forall_mem_cons.mpr ⟨(s_iload (am_dp pw_X11_saying_64 dd_X11_saying_64a.2.2.2.2.1)).to, ?_⟩
  refine List.forall_mem_cons.mpr ⟨zw_cv226 (am_dp pw_X11_saying_64 dd_X11_saying_64a.2.2.2.2.2.1) wd1842, ?_⟩
  refine List.forall_mem_cons.mpr ⟨s_iret (am_dp pw_X11_saying_64 dd_X11_saying_64a.2.2.2.2.2.2.1) rfl, ?_⟩
  refine List.forall_mem_cons.mpr ⟨(s_aloadn (am_dp pw_X11_saying_64 dd_X11_saying_64a.2.2.2.2.2.2.2) rfl).to, ?_⟩
  refine List.forall_mem_cons.mpr ⟨(s_iloadn (am_dp pw_X11_saying_64 dd_X11_saying_64b.1) rfl).to, ?_⟩
  refine List.forall_mem_cons.mpr ⟨(s_iload (am_dp pw_X11_saying_64 dd_X11_saying_64b.2.1)).to, ?_⟩
  refine List.forall_mem_cons.mpr ⟨zw_cv227 (am_dp pw_X11_saying_64 dd_X11_saying_64b.2.2.1) wd1910, ?_⟩
  refine List.forall_mem_cons.mpr ⟨(s_if_eq (am_dp pw_X11_saying_64 dd_X11_saying_64b.2.2.2.1) (by decide)).to, ?_⟩
  refine List.forall_mem_cons.mpr ⟨(s_iconst (am_dp pw_X11_saying_64 dd_X11_saying_64b.2.2.2.2.1) (by decide)).to, ?_⟩
  refine List.forall_mem_cons.mpr ⟨(s_goto (am_dp pw_X11_saying_64 dd_X11_saying_64b.2.2.2.2.2.1) (by decide)).to, ?_⟩
  refine List.forall_mem_cons.mpr ⟨(s_iconst (am_dp pw_X11_saying_64 dd_X11_saying_64b.2.2.2.2.2.2.1) (by decide)).to, ?_⟩
  refine List.forall_mem_cons.mpr ⟨s_iret (am_dp pw_X11_saying_64 dd_X11_saying_64b.2.2.2.2.2.2.2) rfl, ?_⟩
  refine List.forall_mem_cons.mpr ⟨(s_aloadn (am_dp pw_X11_saying_64 dd_X11_saying_64c.1) rfl).to, ?_⟩
  refine List.forall_mem_cons.mpr ⟨(s_iloadn (am_dp pw_X11_saying_64 dd_X11_saying_64c.2.1) rfl).to, ?_⟩
  refine List.forall_mem_cons.mpr ⟨(s_aloadn (am_dp pw_X11_saying_64 dd_X11_saying_64c.2.2.1) rfl).to, ?_⟩
  refine List.forall_mem_cons.mpr ⟨(s_iloadn (am_dp pw_X11_saying_64 dd_X11_saying_64c.2.2.2.1) rfl).to, ?_⟩
  refine List.forall_mem_cons.mpr ⟨(s_iload (am_dp pw_X11_saying_64 dd_X11_saying_64c.2.2.2.2)).to, ?_⟩
  refine List.forall_mem_cons.mpr ⟨zw_cv226 (am_dp pw_X11_saying_96 dd_X11_saying_96a.1) wd1842, ?_⟩
  refine List.forall_mem_cons.mpr ⟨(s_aloadn (am_dp pw_X11_saying_96 dd_X11_saying_96a.2.1) rfl).to, ?_⟩
  refine List.forall_mem_cons.mpr ⟨(s_iloadn (am_dp pw_X11_saying_96 dd_X11_saying_96a.2.2.1) rfl).to, ?_⟩
  refine List.forall_mem_cons.mpr ⟨(s_iload (am_dp pw_X11_saying_96 dd_X11_saying_96a.2.2.2.1)).to, ?_⟩
  refine List.forall_mem_cons.mpr ⟨zw_cv227 (am_dp pw_X11_saying_96 dd_X11_saying_96a.2.2.2.2.1) wd1910, ?_⟩
  refine List.forall_mem_cons.mpr ⟨zw_cv235 (am_dp pw_X11_saying_96 dd_X11_saying_96a.2.2.2.2.2.1) wd1914, ?_⟩
  refine List.forall_mem_cons.mpr ⟨(s_if_eq (am_dp pw_X11_saying_96 dd_X11_saying_96a.2.2.2.2.2.2.1) (by decide)).to, ?_⟩
  refine List.forall_mem_cons.mpr ⟨(s_iconst (am_dp pw_X11_saying_96 dd_X11_saying_96a.2.2.2.2.2.2.2) (by decide)).to, ?_⟩
  refine List.forall_mem_cons.mpr ⟨(s_goto (am_dp pw_X11_saying_96 dd_X11_saying_96b.1) (by decide)).to, ?_⟩
  refine List.forall_mem_cons.mpr ⟨(s_iconst (am_dp pw_X11_saying_96 dd_X11_saying_96b.2.1) (by decide)).to, ?_⟩
  refine List.forall_mem_cons.mpr ⟨s_iret (am_dp pw_X11_saying_96 dd_X11_saying_96b.2.2.1) rfl, ?_⟩
  refine List.forall_mem_cons.mpr ⟨(s_aloadn (am_dp pw_X11_saying_96 dd_X11_saying_96b.2.2.2.1) rfl).to, ?_⟩
  refine List.forall_mem_cons.mpr ⟨(s_iloadn (am_dp pw_X11_saying_96 dd_X11_saying_96b.2.2.2.2.1) rfl).to, ?_⟩
  refine List.forall_mem_cons.mpr ⟨zw_cv248 (am_dp pw_X11_saying_96 dd_X11_saying_96b.2.2.2.2.2.1) wd1902, ?_⟩
  refine List.forall_mem_cons.mpr ⟨(s_aloadn (am_dp pw_X11_saying_96 dd_X11_saying_96b.2.2.2.2.2.2.1) rfl).to, ?_⟩
  refine List.forall_mem_cons.mpr ⟨(s_get (ci := 11) (k := 69) (am_dp pw_X11_saying_96 dd_X11_saying_96b.2.2.2.2.2.2.2) rfl (by decide) wd1402 inX11 rfl).to, ?_⟩
  refine List.forall_mem_cons.mpr ⟨(s_iloadn (am_dp pw_X11_saying_128 dd_X11_saying_128a.1) rfl).to, ?_⟩
  refine List.forall_mem_cons.mpr ⟨(s_zald (am_dp pw_X11_saying_128 dd_X11_saying_128a.2.1)).to, ?_⟩
  refine List.forall_mem_cons.mpr ⟨(s_if_eq (am_dp pw_X11_saying_128 dd_X11_saying_128a.2.2.1) (by decide)).to, ?_⟩
  refine List.forall_mem_cons.mpr ⟨(s_iconst (am_dp pw_X11_saying_128 dd_X11_saying_128a.2.2.2.1) (by decide)).to, ?_⟩
  refine List.forall_mem_cons.mpr ⟨(s_goto (am_dp pw_X11_saying_128 dd_X11_saying_128a.2.2.2.2.1) (by decide)).to, ?_⟩
  exact fun _ h => absurd h List.not_mem_nil
theorem sn_tX11_saying_1 : ∀ q ∈ tX11_saying_1, am_Snd am_P0 RX11 cX11_saying 5 (Option.some FieldType.int) "saying" q.1 q.2 := by
  unfold tX11_saying_1
  refine List.forall_mem_cons.mpr ⟨(s_iconst (am_dp pw_X11_saying_128 dd_X11_saying_128a.2.2.2.2.2.1) (by decide)).to, ?_⟩
  refine List.forall_mem_cons.mpr ⟨s_iret (am_dp pw_X11_saying_128 dd_X11_saying_128a.2.2.2.2.2.2.1) rfl, ?_⟩
  refine List.forall_mem_cons.mpr ⟨(s_iconst (am_dp pw_X11_saying_128 dd_X11_saying_128a.2.2.2.2.2.2.2) (by decide)).to, ?_⟩
  refine List.forall_mem_cons.mpr ⟨s_iret (am_dp pw_X11_saying_128 dd_X11_saying_128b) rfl, ?_⟩
  exact fun _ h => absurd h List.not_mem_nil
theorem sn_tX11_saying : ∀ q ∈ tX11_saying, am_Snd am_P0 RX11 cX11_saying 5 (Option.some FieldType.int) "saying" q.1 q.2 := by
  unfold tX11_saying
  exact List.forall_mem_append.mpr ⟨sn_tX11_saying_0, sn_tX11_saying_1⟩
end
section
/-! the machine follows each instruction (by program: gen_prog.py) -/
theorem sn_tX11_can : ∀ q ∈ tX11_can, am_Snd am_P0 RX11 cX11_can 4 (Option.some FieldType.int) "can" q.1 q.2 := by
  unfold tX11_can
  refine List.forall_mem_cons.mpr ⟨(s_aloadn (am_dp pw_X11_can_0 dd_X11_can_0a.1) rfl).to, ?_⟩
  refine List.forall_mem_cons.mpr ⟨(s_iloadn (am_dp pw_X11_can_0 dd_X11_can_0a.2.1) rfl).to, ?_⟩
  refine List.forall_mem_cons.mpr ⟨zw_cv220 (am_dp pw_X11_can_0 dd_X11_can_0a.2.2.1) wd1850, ?_⟩
  refine List.forall_mem_cons.mpr ⟨(s_if_eq (am_dp pw_X11_can_0 dd_X11_can_0a.2.2.2.1) (by decide)).to, ?_⟩
  refine List.forall_mem_cons.mpr ⟨(s_iloadn (am_dp pw_X11_can_0 dd_X11_can_0a.2.2.2.2.1) rfl).to, ?_⟩
  refine List.forall_mem_cons.mpr ⟨(s_iloadn (am_dp pw_X11_can_0 dd_X11_can_0a.2.2.2.2.2.1) rfl).to, ?_⟩
  refine List.forall_mem_cons.mpr ⟨(s_icmp_eq (am_dp pw_X11_can_0 dd_X11_can_0a.2.2.2.2.2.2.1) (by decide)).to, ?_⟩
  refine List.forall_mem_cons.mpr ⟨(s_aloadn (am_dp pw_X11_can_0 dd_X11_can_0a.2.2.2.2.2.2.2) rfl).to, ?_⟩
  refine List.forall_mem_cons.mpr ⟨(s_iloadn (am_dp pw_X11_can_0 dd_X11_can_0b.1) rfl).to, ?_⟩
  refine List.forall_mem_cons.mpr ⟨(s_iloadn (am_dp pw_X11_can_0 dd_X11_can_0b.2.1) rfl).to, ?_⟩
  refine List.forall_mem_cons.mpr ⟨zw_cv229 (am_dp pw_X11_can_0 dd_X11_can_0b.2.2.1) wd1926, ?_⟩
  refine List.forall_mem_cons.mpr ⟨(s_iconst (am_dp pw_X11_can_0 dd_X11_can_0b.2.2.2.1) (by decide)).to, ?_⟩
  refine List.forall_mem_cons.mpr ⟨(s_icmp_eq (am_dp pw_X11_can_0 dd_X11_can_0b.2.2.2.2.1) (by decide)).to, ?_⟩
  refine List.forall_mem_cons.mpr ⟨(s_aloadn (am_dp pw_X11_can_0 dd_X11_can_0b.2.2.2.2.2.1) rfl).to, ?_⟩
  refine List.forall_mem_cons.mpr ⟨(s_iloadn (am_dp pw_X11_can_0 dd_X11_can_0b.2.2.2.2.2.2.1) rfl).to, ?_⟩
  refine List.forall_mem_cons.mpr ⟨(s_iloadn (am_dp pw_X11_can_0 dd_X11_can_0b.2.2.2.2.2.2.2) rfl).to, ?_⟩
  refine List.forall_mem_cons.mpr ⟨zw_cv229 (am_dp pw_X11_can_0 dd_X11_can_0c.1) wd1926, ?_⟩
  refine List.forall_mem_cons.mpr ⟨(s_iconst (am_dp pw_X11_can_0 dd_X11_can_0c.2.1) (by decide)).to, ?_⟩
  refine List.forall_mem_cons.mpr ⟨(s_icmp_ne (am_dp pw_X11_can_0 dd_X11_can_0c.2.2) (by decide)).to, ?_⟩
  refine List.forall_mem_cons.mpr ⟨(s_iconst (am_dp pw_X11_can_32 dd_X11_can_32a.1) (by decide)).to, ?_⟩
  refine List.forall_mem_cons.mpr ⟨s_iret (am_dp pw_X11_can_32 dd_X11_can_32a.2.1) rfl, ?_⟩
  refine List.forall_mem_cons.mpr ⟨(s_aloadn (am_dp pw_X11_can_32 dd_X11_can_32a.2.2.1) rfl).to, ?_⟩
  refine List.forall_mem_cons.mpr ⟨(s_iloadn (am_dp pw_X11_can_32 dd_X11_can_32a.2.2.2.1) rfl).to, ?_⟩
  refine List.forall_mem_cons.mpr ⟨zw_cv247 (am_dp pw_X11_can_32 dd_X11_can_32a.2.2.2.2.1) wd1906, ?_⟩
  refine List.forall_mem_cons.mpr ⟨(s_aloadn (am_dp pw_X11_can_32 dd_X11_can_32a.2.2.2.2.2.1) rfl).to, ?_⟩
  refine List.forall_mem_cons.mpr ⟨(s_get (ci := 11) (k := 70) (am_dp pw_X11_can_32 dd_X11_can_32a.2.2.2.2.2.2.1) rfl (by decide) wd1403 inX11 rfl).to, ?_⟩
  refine List.forall_mem_cons.mpr ⟨(s_bipush (am_dp pw_X11_can_32 dd_X11_can_32a.2.2.2.2.2.2.2) (by decide)).to, ?_⟩
  refine List.forall_mem_cons.mpr ⟨(s_iloadn (am_dp pw_X11_can_32 dd_X11_can_32b.1) rfl).to, ?_⟩
  refine List.forall_mem_cons.mpr ⟨(s_imul (am_dp pw_X11_can_32 dd_X11_can_32b.2.1)).to, ?_⟩
  refine List.forall_mem_cons.mpr ⟨(s_iloadn (am_dp pw_X11_can_32 dd_X11_can_32b.2.2.1) rfl).to, ?_⟩
  refine List.forall_mem_cons.mpr ⟨(s_iadd (am_dp pw_X11_can_32 dd_X11_can_32b.2.2.2.1)).to, ?_⟩
  refine List.forall_mem_cons.mpr ⟨(s_zald (am_dp pw_X11_can_32 dd_X11_can_32b.2.2.2.2.1)).to, ?_⟩
  refine List.forall_mem_cons.mpr ⟨(s_if_eq (am_dp pw_X11_can_32 dd_X11_can_32b.2.2.2.2.2.1) (by decide)).to, ?_⟩
  refine List.forall_mem_cons.mpr ⟨(s_iconst (am_dp pw_X11_can_32 dd_X11_can_32b.2.2.2.2.2.2.1) (by decide)).to, ?_⟩
  refine List.forall_mem_cons.mpr ⟨(s_goto (am_dp pw_X11_can_32 dd_X11_can_32b.2.2.2.2.2.2.2) (by decide)).to, ?_⟩
  refine List.forall_mem_cons.mpr ⟨(s_iconst (am_dp pw_X11_can_32 dd_X11_can_32c.1) (by decide)).to, ?_⟩
  refine List.forall_mem_cons.mpr ⟨s_iret (am_dp pw_X11_can_32 dd_X11_can_32c.2) rfl, ?_⟩
  exact fun _ h => absurd h List.not_mem_nil
theorem sn_tX11_reach : ∀ q ∈ tX11_reach, am_Snd am_P0 RX11 cX11_reach 6 (Option.some FieldType.int) "reach" q.1 q.2 := by
  unfold tX11_reach
  refine List.forall_mem_cons.mpr ⟨(s_aloadn (am_dp pw_X11_reach_0 dd_X11_reach_0a.1) rfl).to, ?_⟩
  refine List.forall_mem_cons.mpr ⟨(s_iloadn (am_dp pw_X11_reach_0 dd_X11_reach_0a.2.1) rfl).to, ?_⟩
  refine List.forall_mem_cons.mpr ⟨zw_cv220 (am_dp pw_X11_reach_0 dd_X11_reach_0a.2.2.1) wd1850, ?_⟩
  refine List.forall_mem_cons.mpr ⟨(s_if_eq (am_dp pw_X11_reach_0 dd_X11_reach_0a.2.2.2.1) (by decide)).to, ?_⟩
  refine List.forall_mem_cons.mpr ⟨(s_iloadn (am_dp pw_X11_reach_0 dd_X11_reach_0a.2.2.2.2.1) rfl).to, ?_⟩
  refine List.forall_mem_cons.mpr ⟨zw_cs219 (am_dp pw_X11_reach_0 dd_X11_reach_0a.2.2.2.2.2.1) wd1823, ?_⟩
  refine List.forall_mem_cons.mpr ⟨(s_if_ne (am_dp pw_X11_reach_0 dd_X11_reach_0a.2.2.2.2.2.2.1) (by decide)).to, ?_⟩
  refine List.forall_mem_cons.mpr ⟨(s_iconst (am_dp pw_X11_reach_0 dd_X11_reach_0a.2.2.2.2.2.2.2) (by decide)).to, ?_⟩
  refine List.forall_mem_cons.mpr ⟨s_iret (am_dp pw_X11_reach_0 dd_X11_reach_0b.1) rfl, ?_⟩
  refine List.forall_mem_cons.mpr ⟨(s_aloadn (am_dp pw_X11_reach_0 dd_X11_reach_0b.2.1) rfl).to, ?_⟩
  refine List.forall_mem_cons.mpr ⟨(s_iloadn (am_dp pw_X11_reach_0 dd_X11_reach_0b.2.2.1) rfl).to, ?_⟩
  refine List.forall_mem_cons.mpr ⟨zw_cv249 (am_dp pw_X11_reach_0 dd_X11_reach_0b.2.2.2.1) wd1938, ?_⟩
  refine List.forall_mem_cons.mpr ⟨(s_iloadn (am_dp pw_X11_reach_0 dd_X11_reach_0b.2.2.2.2.1) rfl).to, ?_⟩
  refine List.forall_mem_cons.mpr ⟨(s_iconst (am_dp pw_X11_reach_0 dd_X11_reach_0b.2.2.2.2.2.1) (by decide)).to, ?_⟩
  refine List.forall_mem_cons.mpr ⟨(s_icmp_ne (am_dp pw_X11_reach_0 dd_X11_reach_0b.2.2.2.2.2.2.1) (by decide)).to, ?_⟩
  refine List.forall_mem_cons.mpr ⟨(s_aloadn (am_dp pw_X11_reach_0 dd_X11_reach_0b.2.2.2.2.2.2.2) rfl).to, ?_⟩
  refine List.forall_mem_cons.mpr ⟨(s_iloadn (am_dp pw_X11_reach_0 dd_X11_reach_0c.1) rfl).to, ?_⟩
  refine List.forall_mem_cons.mpr ⟨(s_iloadn (am_dp pw_X11_reach_0 dd_X11_reach_0c.2.1) rfl).to, ?_⟩
  refine List.forall_mem_cons.mpr ⟨zw_cv251 (am_dp pw_X11_reach_0 dd_X11_reach_0c.2.2) wd1942, ?_⟩
  refine List.forall_mem_cons.mpr ⟨s_iret (am_dp pw_X11_reach_32 dd_X11_reach_32a.1) rfl, ?_⟩
  refine List.forall_mem_cons.mpr ⟨(s_iloadn (am_dp pw_X11_reach_32 dd_X11_reach_32a.2.1) rfl).to, ?_⟩
  refine List.forall_mem_cons.mpr ⟨(s_istore (am_dp pw_X11_reach_32 dd_X11_reach_32a.2.2.1) (by decide)).to, ?_⟩
  refine List.forall_mem_cons.mpr ⟨(s_iconst (am_dp pw_X11_reach_32 dd_X11_reach_32a.2.2.2.1) (by decide)).to, ?_⟩
  refine List.forall_mem_cons.mpr ⟨(s_istore (am_dp pw_X11_reach_32 dd_X11_reach_32a.2.2.2.2.1) (by decide)).to, ?_⟩
  refine List.forall_mem_cons.mpr ⟨(s_iload (am_dp pw_X11_reach_32 dd_X11_reach_32a.2.2.2.2.2.1)).to, ?_⟩
  refine List.forall_mem_cons.mpr ⟨(s_aloadn (am_dp pw_X11_reach_32 dd_X11_reach_32a.2.2.2.2.2.2.1) rfl).to, ?_⟩
  refine List.forall_mem_cons.mpr ⟨zw_cv214 (am_dp pw_X11_reach_32 dd_X11_reach_32a.2.2.2.2.2.2.2) wd1771, ?_⟩
  refine List.forall_mem_cons.mpr ⟨(s_icmp_ge (am_dp pw_X11_reach_32 dd_X11_reach_32b.1) (by decide)).to, ?_⟩
  refine List.forall_mem_cons.mpr ⟨(s_iload (am_dp pw_X11_reach_32 dd_X11_reach_32b.2.1)).to, ?_⟩
  refine List.forall_mem_cons.mpr ⟨(s_if_lt (am_dp pw_X11_reach_32 dd_X11_reach_32b.2.2.1) (by decide)).to, ?_⟩
  refine List.forall_mem_cons.mpr ⟨(s_aloadn (am_dp pw_X11_reach_32 dd_X11_reach_32b.2.2.2.1) rfl).to, ?_⟩
  refine List.forall_mem_cons.mpr ⟨(s_iloadn (am_dp pw_X11_reach_32 dd_X11_reach_32b.2.2.2.2.1) rfl).to, ?_⟩
  refine List.forall_mem_cons.mpr ⟨(s_iload (am_dp pw_X11_reach_32 dd_X11_reach_32b.2.2.2.2.2.1)).to, ?_⟩
  refine List.forall_mem_cons.mpr ⟨(s_iloadn (am_dp pw_X11_reach_32 dd_X11_reach_32b.2.2.2.2.2.2.1) rfl).to, ?_⟩
  refine List.forall_mem_cons.mpr ⟨zw_cv250 (am_dp pw_X11_reach_32 dd_X11_reach_32b.2.2.2.2.2.2.2) wd1946, ?_⟩
  refine List.forall_mem_cons.mpr ⟨(s_if_ne (am_dp pw_X11_reach_32 dd_X11_reach_32c) (by decide)).to, ?_⟩
  refine List.forall_mem_cons.mpr ⟨(s_goto (am_dp pw_X11_reach_64 dd_X11_reach_64a.1) (by decide)).to, ?_⟩
  refine List.forall_mem_cons.mpr ⟨(s_iload (am_dp pw_X11_reach_64 dd_X11_reach_64a.2.1)).to, ?_⟩
  refine List.forall_mem_cons.mpr ⟨(s_if_ne (am_dp pw_X11_reach_64 dd_X11_reach_64a.2.2.1) (by decide)).to, ?_⟩
  refine List.forall_mem_cons.mpr ⟨(s_iload (am_dp pw_X11_reach_64 dd_X11_reach_64a.2.2.2.1)).to, ?_⟩
  refine List.forall_mem_cons.mpr ⟨s_iret (am_dp pw_X11_reach_64 dd_X11_reach_64a.2.2.2.2.1) rfl, ?_⟩
  refine List.forall_mem_cons.mpr ⟨(s_iinc (am_dp pw_X11_reach_64 dd_X11_reach_64a.2.2.2.2.2.1) (by decide) (by decide)).to, ?_⟩
  refine List.forall_mem_cons.mpr ⟨(s_iinc (am_dp pw_X11_reach_64 dd_X11_reach_64a.2.2.2.2.2.2.1) (by decide) (by decide)).to, ?_⟩
  refine List.forall_mem_cons.mpr ⟨(s_goto (am_dp pw_X11_reach_64 dd_X11_reach_64a.2.2.2.2.2.2.2) (by decide)).to, ?_⟩
  refine List.forall_mem_cons.mpr ⟨(s_iconst (am_dp pw_X11_reach_64 dd_X11_reach_64b.1) (by decide)).to, ?_⟩
  refine List.forall_mem_cons.mpr ⟨s_iret (am_dp pw_X11_reach_64 dd_X11_reach_64b.2) rfl, ?_⟩
  exact fun _ h => absurd h List.not_mem_nil
theorem sn_tX11_may : ∀ q ∈ tX11_may, am_Snd am_P0 RX11 cX11_may 5 (Option.some FieldType.int) "may" q.1 q.2 := by
  unfold tX11_may
  refine List.forall_mem_cons.mpr ⟨(s_aloadn (am_dp pw_X11_may_0 dd_X11_may_0a.1) rfl).to, ?_⟩
  refine List.forall_mem_cons.mpr ⟨(s_iloadn (am_dp pw_X11_may_0 dd_X11_may_0a.2.1) rfl).to, ?_⟩
  refine List.forall_mem_cons.mpr ⟨zw_cv220 (am_dp pw_X11_may_0 dd_X11_may_0a.2.2.1) wd1850, ?_⟩
  refine List.forall_mem_cons.mpr ⟨(s_if_eq (am_dp pw_X11_may_0 dd_X11_may_0a.2.2.2.1) (by decide)).to, ?_⟩
  refine List.forall_mem_cons.mpr ⟨(s_iloadn (am_dp pw_X11_may_0 dd_X11_may_0a.2.2.2.2.1) rfl).to, ?_⟩
  refine List.forall_mem_cons.mpr ⟨zw_cs219 (am_dp pw_X11_may_0 dd_X11_may_0a.2.2.2.2.2.1) wd1823, ?_⟩
  refine List.forall_mem_cons.mpr ⟨(s_if_eq (am_dp pw_X11_may_0 dd_X11_may_0a.2.2.2.2.2.2.1) (by decide)).to, ?_⟩
  refine List.forall_mem_cons.mpr ⟨(s_aloadn (am_dp pw_X11_may_0 dd_X11_may_0a.2.2.2.2.2.2.2) rfl).to, ?_⟩
  refine List.forall_mem_cons.mpr ⟨(s_iloadn (am_dp pw_X11_may_0 dd_X11_may_0b.1) rfl).to, ?_⟩
  refine List.forall_mem_cons.mpr ⟨(s_iload (am_dp pw_X11_may_0 dd_X11_may_0b.2.1)).to, ?_⟩
  refine List.forall_mem_cons.mpr ⟨zw_cv217 (am_dp pw_X11_may_0 dd_X11_may_0b.2.2.1) wd1819, ?_⟩
  refine List.forall_mem_cons.mpr ⟨(s_if_ne (am_dp pw_X11_may_0 dd_X11_may_0b.2.2.2.1) (by decide)).to, ?_⟩
  refine List.forall_mem_cons.mpr ⟨(s_iconst (am_dp pw_X11_may_0 dd_X11_may_0b.2.2.2.2.1) (by decide)).to, ?_⟩
  refine List.forall_mem_cons.mpr ⟨s_iret (am_dp pw_X11_may_0 dd_X11_may_0b.2.2.2.2.2.1) rfl, ?_⟩
  refine List.forall_mem_cons.mpr ⟨(s_aloadn (am_dp pw_X11_may_0 dd_X11_may_0b.2.2.2.2.2.2.1) rfl).to, ?_⟩
  refine List.forall_mem_cons.mpr ⟨(s_iloadn (am_dp pw_X11_may_0 dd_X11_may_0b.2.2.2.2.2.2.2) rfl).to, ?_⟩
  refine List.forall_mem_cons.mpr ⟨zw_cv249 (am_dp pw_X11_may_0 dd_X11_may_0c) wd1938, ?_⟩
  refine List.forall_mem_cons.mpr ⟨(s_aloadn (am_dp pw_X11_may_32 dd_X11_may_32a.1) rfl).to, ?_⟩
  refine List.forall_mem_cons.mpr ⟨(s_iloadn (am_dp pw_X11_may_32 dd_X11_may_32a.2.1) rfl).to, ?_⟩
  refine List.forall_mem_cons.mpr ⟨(s_aloadn (am_dp pw_X11_may_32 dd_X11_may_32a.2.2.1) rfl).to, ?_⟩
  refine List.forall_mem_cons.mpr ⟨(s_iloadn (am_dp pw_X11_may_32 dd_X11_may_32a.2.2.2.1) rfl).to, ?_⟩
  refine List.forall_mem_cons.mpr ⟨(s_iload (am_dp pw_X11_may_32 dd_X11_may_32a.2.2.2.2.1)).to, ?_⟩
  refine List.forall_mem_cons.mpr ⟨zw_cv218 (am_dp pw_X11_may_32 dd_X11_may_32a.2.2.2.2.2.1) wd1826, ?_⟩
  refine List.forall_mem_cons.mpr ⟨(s_iloadn (am_dp pw_X11_may_32 dd_X11_may_32a.2.2.2.2.2.2.1) rfl).to, ?_⟩
  refine List.forall_mem_cons.mpr ⟨zw_cv250 (am_dp pw_X11_may_32 dd_X11_may_32a.2.2.2.2.2.2.2) wd1946, ?_⟩
  refine List.forall_mem_cons.mpr ⟨(s_if_eq (am_dp pw_X11_may_32 dd_X11_may_32b.1) (by decide)).to, ?_⟩
  refine List.forall_mem_cons.mpr ⟨(s_iconst (am_dp pw_X11_may_32 dd_X11_may_32b.2.1) (by decide)).to, ?_⟩
  refine List.forall_mem_cons.mpr ⟨(s_goto (am_dp pw_X11_may_32 dd_X11_may_32b.2.2.1) (by decide)).to, ?_⟩
  refine List.forall_mem_cons.mpr ⟨(s_iconst (am_dp pw_X11_may_32 dd_X11_may_32b.2.2.2.1) (by decide)).to, ?_⟩
  refine List.forall_mem_cons.mpr ⟨s_iret (am_dp pw_X11_may_32 dd_X11_may_32b.2.2.2.2) rfl, ?_⟩
  exact fun _ h => absurd h List.not_mem_nil
theorem sn_tX11_gapsOf : ∀ q ∈ tX11_gapsOf, am_Snd am_P0 RX11 cX11_gapsOf 4 (Option.some FieldType.int) "gapsOf" q.1 q.2 := by
  unfold tX11_gapsOf
  refine List.forall_mem_cons.mpr ⟨(s_aloadn (am_dp pw_X11_gapsOf_0 dd_X11_gapsOf_0a.1) rfl).to, ?_⟩
  refine List.forall_mem_cons.mpr ⟨(s_iloadn (am_dp pw_X11_gapsOf_0 dd_X11_gapsOf_0a.2.1) rfl).to, ?_⟩
  refine List.forall_mem_cons.mpr ⟨zw_cv249 (am_dp pw_X11_gapsOf_0 dd_X11_gapsOf_0a.2.2.1) wd1938, ?_⟩
  refine List.forall_mem_cons.mpr ⟨(s_aloadn (am_dp pw_X11_gapsOf_0 dd_X11_gapsOf_0a.2.2.2.1) rfl).to, ?_⟩
  refine List.forall_mem_cons.mpr ⟨(s_iconst (am_dp pw_X11_gapsOf_0 dd_X11_gapsOf_0a.2.2.2.2.1) (by decide)).to, ?_⟩
  refine List.forall_mem_cons.mpr ⟨(s_put (ci := 11) (k := 73) (am_dp pw_X11_gapsOf_0 dd_X11_gapsOf_0a.2.2.2.2.2.1) rfl (by decide) wd1406 inX11 tyX11_ok nmX11 rfl rfl).to, ?_⟩
  refine List.forall_mem_cons.mpr ⟨(s_iconst (am_dp pw_X11_gapsOf_0 dd_X11_gapsOf_0a.2.2.2.2.2.2.1) (by decide)).to, ?_⟩
  refine List.forall_mem_cons.mpr ⟨(s_istoren (am_dp pw_X11_gapsOf_0 dd_X11_gapsOf_0a.2.2.2.2.2.2.2) rfl (by decide)).to, ?_⟩
  refine List.forall_mem_cons.mpr ⟨(s_aloadn (am_dp pw_X11_gapsOf_0 dd_X11_gapsOf_0b.1) rfl).to, ?_⟩
  refine List.forall_mem_cons.mpr ⟨(s_get (ci := 11) (k := 65) (am_dp pw_X11_gapsOf_0 dd_X11_gapsOf_0b.2.1) rfl (by decide) wd1398 inX11 rfl).to, ?_⟩
  refine List.forall_mem_cons.mpr ⟨(s_if_ne (am_dp pw_X11_gapsOf_0 dd_X11_gapsOf_0b.2.2.1) (by decide)).to, ?_⟩
  refine List.forall_mem_cons.mpr ⟨(s_bipush (am_dp pw_X11_gapsOf_0 dd_X11_gapsOf_0b.2.2.2.1) (by decide)).to, ?_⟩
  refine List.forall_mem_cons.mpr ⟨(s_goto (am_dp pw_X11_gapsOf_0 dd_X11_gapsOf_0b.2.2.2.2.1) (by decide)).to, ?_⟩
  refine List.forall_mem_cons.mpr ⟨(s_aloadn (am_dp pw_X11_gapsOf_0 dd_X11_gapsOf_0b.2.2.2.2.2.1) rfl).to, ?_⟩
  refine List.forall_mem_cons.mpr ⟨(s_get (ci := 11) (k := 67) (am_dp pw_X11_gapsOf_0 dd_X11_gapsOf_0b.2.2.2.2.2.2.1) rfl (by decide) wd1400 inX11 rfl).to, ?_⟩
  refine List.forall_mem_cons.mpr ⟨(s_iconst (am_dp pw_X11_gapsOf_0 dd_X11_gapsOf_0b.2.2.2.2.2.2.2) (by decide)).to, ?_⟩
  refine List.forall_mem_cons.mpr ⟨(s_iald (am_dp pw_X11_gapsOf_0 dd_X11_gapsOf_0c.1)).to, ?_⟩
  refine List.forall_mem_cons.mpr ⟨(s_istoren (am_dp pw_X11_gapsOf_0 dd_X11_gapsOf_0c.2.1) rfl (by decide)).to, ?_⟩
  refine List.forall_mem_cons.mpr ⟨(s_aloadn (am_dp pw_X11_gapsOf_0 dd_X11_gapsOf_0c.2.2) rfl).to, ?_⟩
  refine List.forall_mem_cons.mpr ⟨(s_get (ci := 11) (k := 65) (am_dp pw_X11_gapsOf_32 dd_X11_gapsOf_32a.1) rfl (by decide) wd1398 inX11 rfl).to, ?_⟩
  refine List.forall_mem_cons.mpr ⟨(s_if_le (am_dp pw_X11_gapsOf_32 dd_X11_gapsOf_32a.2.1) (by decide)).to, ?_⟩
  refine List.forall_mem_cons.mpr ⟨(s_iloadn (am_dp pw_X11_gapsOf_32 dd_X11_gapsOf_32a.2.2.1) rfl).to, ?_⟩
  refine List.forall_mem_cons.mpr ⟨(s_aloadn (am_dp pw_X11_gapsOf_32 dd_X11_gapsOf_32a.2.2.2.1) rfl).to, ?_⟩
  refine List.forall_mem_cons.mpr ⟨(s_get (ci := 11) (k := 67) (am_dp pw_X11_gapsOf_32 dd_X11_gapsOf_32a.2.2.2.2.1) rfl (by decide) wd1400 inX11 rfl).to, ?_⟩
  refine List.forall_mem_cons.mpr ⟨(s_aloadn (am_dp pw_X11_gapsOf_32 dd_X11_gapsOf_32a.2.2.2.2.2.1) rfl).to, ?_⟩
  refine List.forall_mem_cons.mpr ⟨(s_get (ci := 11) (k := 65) (am_dp pw_X11_gapsOf_32 dd_X11_gapsOf_32a.2.2.2.2.2.2.1) rfl (by decide) wd1398 inX11 rfl).to, ?_⟩
  refine List.forall_mem_cons.mpr ⟨(s_iconst (am_dp pw_X11_gapsOf_32 dd_X11_gapsOf_32a.2.2.2.2.2.2.2) (by decide)).to, ?_⟩
  refine List.forall_mem_cons.mpr ⟨(s_isub (am_dp pw_X11_gapsOf_32 dd_X11_gapsOf_32b.1)).to, ?_⟩
  refine List.forall_mem_cons.mpr ⟨(s_iald (am_dp pw_X11_gapsOf_32 dd_X11_gapsOf_32b.2.1)).to, ?_⟩
  refine List.forall_mem_cons.mpr ⟨(s_icmp_ge (am_dp pw_X11_gapsOf_32 dd_X11_gapsOf_32b.2.2.1) (by decide)).to, ?_⟩
  refine List.forall_mem_cons.mpr ⟨(s_aloadn (am_dp pw_X11_gapsOf_32 dd_X11_gapsOf_32b.2.2.2.1) rfl).to, ?_⟩
  refine List.forall_mem_cons.mpr ⟨(s_iloadn (am_dp pw_X11_gapsOf_32 dd_X11_gapsOf_32b.2.2.2.2.1) rfl).to, ?_⟩
  refine List.forall_mem_cons.mpr ⟨(s_iloadn (am_dp pw_X11_gapsOf_32 dd_X11_gapsOf_32b.2.2.2.2.2.1) rfl).to, ?_⟩
  refine List.forall_mem_cons.mpr ⟨zw_cv226 (am_dp pw_X11_gapsOf_32 dd_X11_gapsOf_32b.2.2.2.2.2.2.1) wd1842, ?_⟩
  refine List.forall_mem_cons.mpr ⟨(s_iconst (am_dp pw_X11_gapsOf_32 dd_X11_gapsOf_32b.2.2.2.2.2.2.2) (by decide)).to, ?_⟩
  refine List.forall_mem_cons.mpr ⟨(s_icmp_eq (am_dp pw_X11_gapsOf_32 dd_X11_gapsOf_32c.1) (by decide)).to, ?_⟩
  refine List.forall_mem_cons.mpr ⟨(s_goto (am_dp pw_X11_gapsOf_32 dd_X11_gapsOf_32c.2) (by decide)).to, ?_⟩
  refine List.forall_mem_cons.mpr ⟨(s_aloadn (am_dp pw_X11_gapsOf_64 dd_X11_gapsOf_64a.1) rfl).to, ?_⟩
  refine List.forall_mem_cons.mpr ⟨(s_dup (am_dp pw_X11_gapsOf_64 dd_X11_gapsOf_64a.2.1)).to, ?_⟩
  refine List.forall_mem_cons.mpr ⟨(s_get (ci := 11) (k := 73) (am_dp pw_X11_gapsOf_64 dd_X11_gapsOf_64a.2.2.1) rfl (by decide) wd1406 inX11 rfl).to, ?_⟩
  refine List.forall_mem_cons.mpr ⟨(s_iconst (am_dp pw_X11_gapsOf_64 dd_X11_gapsOf_64a.2.2.2.1) (by decide)).to, ?_⟩
  refine List.forall_mem_cons.mpr ⟨(s_iadd (am_dp pw_X11_gapsOf_64 dd_X11_gapsOf_64a.2.2.2.2.1)).to, ?_⟩
  refine List.forall_mem_cons.mpr ⟨(s_put (ci := 11) (k := 73) (am_dp pw_X11_gapsOf_64 dd_X11_gapsOf_64a.2.2.2.2.2.1) rfl (by decide) wd1406 inX11 tyX11_ok nmX11 rfl rfl).to, ?_⟩
  refine List.forall_mem_cons.mpr ⟨(s_iloadn (am_dp pw_X11_gapsOf_64 dd_X11_gapsOf_64a.2.2.2.2.2.2.1) rfl).to, ?_⟩
  refine List.forall_mem_cons.mpr ⟨(s_aloadn (am_dp pw_X11_gapsOf_64 dd_X11_gapsOf_64a.2.2.2.2.2.2.2) rfl).to, ?_⟩
  refine List.forall_mem_cons.mpr ⟨(s_iloadn (am_dp pw_X11_gapsOf_64 dd_X11_gapsOf_64b.1) rfl).to, ?_⟩
  refine List.forall_mem_cons.mpr ⟨(s_iloadn (am_dp pw_X11_gapsOf_64 dd_X11_gapsOf_64b.2.1) rfl).to, ?_⟩
  refine List.forall_mem_cons.mpr ⟨zw_cv252 (am_dp pw_X11_gapsOf_64 dd_X11_gapsOf_64b.2.2.1) wd1994, ?_⟩
  refine List.forall_mem_cons.mpr ⟨(s_if_eq (am_dp pw_X11_gapsOf_64 dd_X11_gapsOf_64b.2.2.2.1) (by decide)).to, ?_⟩
  refine List.forall_mem_cons.mpr ⟨(s_iconst (am_dp pw_X11_gapsOf_64 dd_X11_gapsOf_64b.2.2.2.2.1) (by decide)).to, ?_⟩
  refine List.forall_mem_cons.mpr ⟨(s_goto (am_dp pw_X11_gapsOf_64 dd_X11_gapsOf_64b.2.2.2.2.2.1) (by decide)).to, ?_⟩
  refine List.forall_mem_cons.mpr ⟨(s_iconst (am_dp pw_X11_gapsOf_64 dd_X11_gapsOf_64b.2.2.2.2.2.2.1) (by decide)).to, ?_⟩
  refine List.forall_mem_cons.mpr ⟨(s_iadd (am_dp pw_X11_gapsOf_64 dd_X11_gapsOf_64b.2.2.2.2.2.2.2)).to, ?_⟩
  refine List.forall_mem_cons.mpr ⟨(s_istoren (am_dp pw_X11_gapsOf_64 dd_X11_gapsOf_64c.1) rfl (by decide)).to, ?_⟩
  refine List.forall_mem_cons.mpr ⟨(s_iinc (am_dp pw_X11_gapsOf_64 dd_X11_gapsOf_64c.2) (by decide) (by decide)).to, ?_⟩
  refine List.forall_mem_cons.mpr ⟨(s_goto (am_dp pw_X11_gapsOf_96 dd_X11_gapsOf_96a.1) (by decide)).to, ?_⟩
  refine List.forall_mem_cons.mpr ⟨(s_iloadn (am_dp pw_X11_gapsOf_96 dd_X11_gapsOf_96a.2.1) rfl).to, ?_⟩
  refine List.forall_mem_cons.mpr ⟨s_iret (am_dp pw_X11_gapsOf_96 dd_X11_gapsOf_96a.2.2) rfl, ?_⟩
  exact fun _ h => absurd h List.not_mem_nil
theorem sn_tX11_saidBy : ∀ q ∈ tX11_saidBy, am_Snd am_P0 RX11 cX11_saidBy 4 (Option.some FieldType.boolean) "saidBy" q.1 q.2 := by
  unfold tX11_saidBy
  refine List.forall_mem_cons.mpr ⟨(s_aloadn (am_dp pw_X11_saidBy_0 dd_X11_saidBy_0a.1) rfl).to, ?_⟩
  refine List.forall_mem_cons.mpr ⟨(s_iconst (am_dp pw_X11_saidBy_0 dd_X11_saidBy_0a.2.1) (by decide)).to, ?_⟩
  refine List.forall_mem_cons.mpr ⟨(s_put (ci := 11) (k := 60) (am_dp pw_X11_saidBy_0 dd_X11_saidBy_0a.2.2.1) rfl (by decide) wd1393 inX11 tyX11_ok nmX11 rfl rfl).to, ?_⟩
  refine List.forall_mem_cons.mpr ⟨(s_aloadn (am_dp pw_X11_saidBy_0 dd_X11_saidBy_0a.2.2.2.1) rfl).to, ?_⟩
  refine List.forall_mem_cons.mpr ⟨(s_iloadn (am_dp pw_X11_saidBy_0 dd_X11_saidBy_0a.2.2.2.2.1) rfl).to, ?_⟩
  refine List.forall_mem_cons.mpr ⟨(s_iloadn (am_dp pw_X11_saidBy_0 dd_X11_saidBy_0a.2.2.2.2.2.1) rfl).to, ?_⟩
  refine List.forall_mem_cons.mpr ⟨(s_iconst (am_dp pw_X11_saidBy_0 dd_X11_saidBy_0a.2.2.2.2.2.2.1) (by decide)).to, ?_⟩
  refine List.forall_mem_cons.mpr ⟨zw_cv242 (am_dp pw_X11_saidBy_0 dd_X11_saidBy_0a.2.2.2.2.2.2.2) wd1970, ?_⟩
  refine List.forall_mem_cons.mpr ⟨(s_istoren (am_dp pw_X11_saidBy_0 dd_X11_saidBy_0b.1) rfl (by decide)).to, ?_⟩
  refine List.forall_mem_cons.mpr ⟨(s_aloadn (am_dp pw_X11_saidBy_0 dd_X11_saidBy_0b.2.1) rfl).to, ?_⟩
  refine List.forall_mem_cons.mpr ⟨(s_iloadn (am_dp pw_X11_saidBy_0 dd_X11_saidBy_0b.2.2.1) rfl).to, ?_⟩
  refine List.forall_mem_cons.mpr ⟨(s_iloadn (am_dp pw_X11_saidBy_0 dd_X11_saidBy_0b.2.2.2.1) rfl).to, ?_⟩
  refine List.forall_mem_cons.mpr ⟨(s_iconst (am_dp pw_X11_saidBy_0 dd_X11_saidBy_0b.2.2.2.2.1) (by decide)).to, ?_⟩
  refine List.forall_mem_cons.mpr ⟨zw_cv242 (am_dp pw_X11_saidBy_0 dd_X11_saidBy_0b.2.2.2.2.2.1) wd1970, ?_⟩
  refine List.forall_mem_cons.mpr ⟨(s_if_eq (am_dp pw_X11_saidBy_0 dd_X11_saidBy_0b.2.2.2.2.2.2.1) (by decide)).to, ?_⟩
  refine List.forall_mem_cons.mpr ⟨(s_iloadn (am_dp pw_X11_saidBy_0 dd_X11_saidBy_0b.2.2.2.2.2.2.2) rfl).to, ?_⟩
  refine List.forall_mem_cons.mpr ⟨(s_if_eq (am_dp pw_X11_saidBy_0 dd_X11_saidBy_0c.1) (by decide)).to, ?_⟩
  refine List.forall_mem_cons.mpr ⟨(s_iconst (am_dp pw_X11_saidBy_0 dd_X11_saidBy_0c.2.1) (by decide)).to, ?_⟩
  refine List.forall_mem_cons.mpr ⟨(s_goto (am_dp pw_X11_saidBy_0 dd_X11_saidBy_0c.2.2.1) (by decide)).to, ?_⟩
  refine List.forall_mem_cons.mpr ⟨(s_iconst (am_dp pw_X11_saidBy_0 dd_X11_saidBy_0c.2.2.2) (by decide)).to, ?_⟩
  refine List.forall_mem_cons.mpr ⟨(s_istoren (am_dp pw_X11_saidBy_32 dd_X11_saidBy_32a.1) rfl (by decide)).to, ?_⟩
  refine List.forall_mem_cons.mpr ⟨(s_aloadn (am_dp pw_X11_saidBy_32 dd_X11_saidBy_32a.2.1) rfl).to, ?_⟩
  refine List.forall_mem_cons.mpr ⟨(s_iloadn (am_dp pw_X11_saidBy_32 dd_X11_saidBy_32a.2.2.1) rfl).to, ?_⟩
  refine List.forall_mem_cons.mpr ⟨zw_cv241 (am_dp pw_X11_saidBy_32 dd_X11_saidBy_32a.2.2.2.1) wd1887, ?_⟩
  refine List.forall_mem_cons.mpr ⟨(s_iloadn (am_dp pw_X11_saidBy_32 dd_X11_saidBy_32a.2.2.2.2.1) rfl).to, ?_⟩
  refine List.forall_mem_cons.mpr ⟨(s_if_eq (am_dp pw_X11_saidBy_32 dd_X11_saidBy_32a.2.2.2.2.2.1) (by decide)).to, ?_⟩
  refine List.forall_mem_cons.mpr ⟨(s_aloadn (am_dp pw_X11_saidBy_32 dd_X11_saidBy_32a.2.2.2.2.2.2.1) rfl).to, ?_⟩
  refine List.forall_mem_cons.mpr ⟨(s_iloadn (am_dp pw_X11_saidBy_32 dd_X11_saidBy_32a.2.2.2.2.2.2.2) rfl).to, ?_⟩
  refine List.forall_mem_cons.mpr ⟨zw_cv244 (am_dp pw_X11_saidBy_32 dd_X11_saidBy_32b.1) wd1895, ?_⟩
  refine List.forall_mem_cons.mpr ⟨(s_if_eq (am_dp pw_X11_saidBy_32 dd_X11_saidBy_32b.2.1) (by decide)).to, ?_⟩
  refine List.forall_mem_cons.mpr ⟨(s_iconst (am_dp pw_X11_saidBy_32 dd_X11_saidBy_32b.2.2.1) (by decide)).to, ?_⟩
  refine List.forall_mem_cons.mpr ⟨(s_goto (am_dp pw_X11_saidBy_32 dd_X11_saidBy_32b.2.2.2.1) (by decide)).to, ?_⟩
  refine List.forall_mem_cons.mpr ⟨(s_iconst (am_dp pw_X11_saidBy_32 dd_X11_saidBy_32b.2.2.2.2.1) (by decide)).to, ?_⟩
  refine List.forall_mem_cons.mpr ⟨s_zret (am_dp pw_X11_saidBy_32 dd_X11_saidBy_32b.2.2.2.2.2) rfl, ?_⟩
  exact fun _ h => absurd h List.not_mem_nil
theorem sn_tX11_whoOf : ∀ q ∈ tX11_whoOf, am_Snd am_P0 RX11 cX11_whoOf 4 (Option.some FieldType.int) "whoOf" q.1 q.2 := by
  unfold tX11_whoOf
  refine List.forall_mem_cons.mpr ⟨(s_iconst (am_dp pw_X11_whoOf_0 dd_X11_whoOf_0a.1) (by decide)).to, ?_⟩
  refine List.forall_mem_cons.mpr ⟨(s_istoren (am_dp pw_X11_whoOf_0 dd_X11_whoOf_0a.2.1) rfl (by decide)).to, ?_⟩
  refine List.forall_mem_cons.mpr ⟨(s_iconst (am_dp pw_X11_whoOf_0 dd_X11_whoOf_0a.2.2.1) (by decide)).to, ?_⟩
  refine List.forall_mem_cons.mpr ⟨(s_istoren (am_dp pw_X11_whoOf_0 dd_X11_whoOf_0a.2.2.2.1) rfl (by decide)).to, ?_⟩
  refine List.forall_mem_cons.mpr ⟨(s_iloadn (am_dp pw_X11_whoOf_0 dd_X11_whoOf_0a.2.2.2.2.1) rfl).to, ?_⟩
  refine List.forall_mem_cons.mpr ⟨(s_aloadn (am_dp pw_X11_whoOf_0 dd_X11_whoOf_0a.2.2.2.2.2.1) rfl).to, ?_⟩
  refine List.forall_mem_cons.mpr ⟨(s_get (ci := 11) (k := 19) (am_dp pw_X11_whoOf_0 dd_X11_whoOf_0a.2.2.2.2.2.2.1) rfl (by decide) wd1352 inX11 rfl).to, ?_⟩
  refine List.forall_mem_cons.mpr ⟨(s_aloadn (am_dp pw_X11_whoOf_0 dd_X11_whoOf_0a.2.2.2.2.2.2.2) rfl).to, ?_⟩
  refine List.forall_mem_cons.mpr ⟨(s_get (ci := 11) (k := 12) (am_dp pw_X11_whoOf_0 dd_X11_whoOf_0b.1) rfl (by decide) wd1345 inX11 rfl).to, ?_⟩
  refine List.forall_mem_cons.mpr ⟨(s_iald (am_dp pw_X11_whoOf_0 dd_X11_whoOf_0b.2.1)).to, ?_⟩
  refine List.forall_mem_cons.mpr ⟨(s_icmp_ge (am_dp pw_X11_whoOf_0 dd_X11_whoOf_0b.2.2.1) (by decide)).to, ?_⟩
  refine List.forall_mem_cons.mpr ⟨(s_iloadn (am_dp pw_X11_whoOf_0 dd_X11_whoOf_0b.2.2.2.1) rfl).to, ?_⟩
  refine List.forall_mem_cons.mpr ⟨(s_iloadn (am_dp pw_X11_whoOf_0 dd_X11_whoOf_0b.2.2.2.2.1) rfl).to, ?_⟩
  refine List.forall_mem_cons.mpr ⟨(s_iloadn (am_dp pw_X11_whoOf_0 dd_X11_whoOf_0b.2.2.2.2.2.1) rfl).to, ?_⟩
  refine List.forall_mem_cons.mpr ⟨(s_icmp_eq (am_dp pw_X11_whoOf_0 dd_X11_whoOf_0b.2.2.2.2.2.2.1) (by decide)).to, ?_⟩
  refine List.forall_mem_cons.mpr ⟨(s_aloadn (am_dp pw_X11_whoOf_0 dd_X11_whoOf_0b.2.2.2.2.2.2.2) rfl).to, ?_⟩
  refine List.forall_mem_cons.mpr ⟨(s_iloadn (am_dp pw_X11_whoOf_0 dd_X11_whoOf_0c.1) rfl).to, ?_⟩
  refine List.forall_mem_cons.mpr ⟨zw_cv228 (am_dp pw_X11_whoOf_0 dd_X11_whoOf_0c.2.1) wd1838, ?_⟩
  refine List.forall_mem_cons.mpr ⟨(s_if_le (am_dp pw_X11_whoOf_0 dd_X11_whoOf_0c.2.2.1) (by decide)).to, ?_⟩
  refine List.forall_mem_cons.mpr ⟨(s_aloadn (am_dp pw_X11_whoOf_0 dd_X11_whoOf_0c.2.2.2) rfl).to, ?_⟩
  refine List.forall_mem_cons.mpr ⟨(s_iloadn (am_dp pw_X11_whoOf_32 dd_X11_whoOf_32a.1) rfl).to, ?_⟩
  refine List.forall_mem_cons.mpr ⟨(s_iloadn (am_dp pw_X11_whoOf_32 dd_X11_whoOf_32a.2.1) rfl).to, ?_⟩
  refine List.forall_mem_cons.mpr ⟨zw_cv259 (am_dp pw_X11_whoOf_32 dd_X11_whoOf_32a.2.2.1) wd1966, ?_⟩
  refine List.forall_mem_cons.mpr ⟨(s_if_eq (am_dp pw_X11_whoOf_32 dd_X11_whoOf_32a.2.2.2.1) (by decide)).to, ?_⟩
  refine List.forall_mem_cons.mpr ⟨(s_iconst (am_dp pw_X11_whoOf_32 dd_X11_whoOf_32a.2.2.2.2.1) (by decide)).to, ?_⟩
  refine List.forall_mem_cons.mpr ⟨(s_iloadn (am_dp pw_X11_whoOf_32 dd_X11_whoOf_32a.2.2.2.2.2.1) rfl).to, ?_⟩
  refine List.forall_mem_cons.mpr ⟨(s_ishl (am_dp pw_X11_whoOf_32 dd_X11_whoOf_32a.2.2.2.2.2.2.1)).to, ?_⟩
  refine List.forall_mem_cons.mpr ⟨(s_goto (am_dp pw_X11_whoOf_32 dd_X11_whoOf_32a.2.2.2.2.2.2.2) (by decide)).to, ?_⟩
  refine List.forall_mem_cons.mpr ⟨(s_iconst (am_dp pw_X11_whoOf_32 dd_X11_whoOf_32b.1) (by decide)).to, ?_⟩
  refine List.forall_mem_cons.mpr ⟨(s_ior (am_dp pw_X11_whoOf_32 dd_X11_whoOf_32b.2.1)).to, ?_⟩
  refine List.forall_mem_cons.mpr ⟨(s_istoren (am_dp pw_X11_whoOf_32 dd_X11_whoOf_32b.2.2.1) rfl (by decide)).to, ?_⟩
  refine List.forall_mem_cons.mpr ⟨(s_iinc (am_dp pw_X11_whoOf_32 dd_X11_whoOf_32b.2.2.2.1) (by decide) (by decide)).to, ?_⟩
  refine List.forall_mem_cons.mpr ⟨(s_goto (am_dp pw_X11_whoOf_32 dd_X11_whoOf_32b.2.2.2.2.1) (by decide)).to, ?_⟩
  refine List.forall_mem_cons.mpr ⟨(s_iloadn (am_dp pw_X11_whoOf_32 dd_X11_whoOf_32b.2.2.2.2.2.1) rfl).to, ?_⟩
  refine List.forall_mem_cons.mpr ⟨s_iret (am_dp pw_X11_whoOf_32 dd_X11_whoOf_32b.2.2.2.2.2.2) rfl, ?_⟩
  exact fun _ h => absurd h List.not_mem_nil
theorem sn_tX11_parts_0 : ∀ q ∈ tX11_parts_0, am_Snd am_P0 RX11 cX11_parts 6 (Option.some FieldType.boolean) "parts" q.1 q.2 := by
  unfold tX11_parts_0
  refine List.forall_mem_cons.mpr ⟨(s_aloadn (am_dp pw_X11_parts_0 dd_X11_parts_0a.1) rfl).to, ?_⟩
  refine List.forall_mem_cons.mpr ⟨(s_get (ci := 11) (k := 74) (am_dp pw_X11_parts_0 dd_X11_parts_0a.2.1) rfl (by decide) wd1407 inX11 rfl).to, ?_⟩
  refine List.forall_mem_cons.mpr ⟨(s_iloadn (am_dp pw_X11_parts_0 dd_X11_parts_0a.2.2.1) rfl).to, ?_⟩
  refine List.forall_mem_cons.mpr ⟨(s_iloadn (am_dp pw_X11_parts_0 dd_X11_parts_0a.2.2.2.1) rfl).to, ?_⟩
  refine List.forall_mem_cons.mpr ⟨(s_iast (am_dp pw_X11_parts_0 dd_X11_parts_0a.2.2.2.2.1)).to, ?_⟩
  refine List.forall_mem_cons.mpr ⟨(s_iconst (am_dp pw_X11_parts_0 dd_X11_parts_0a.2.2.2.2.2.1) (by decide)).to, ?_⟩
  refine List.forall_mem_cons.mpr ⟨(s_istoren (am_dp pw_X11_parts_0 dd_X11_parts_0a.2.2.2.2.2.2.1) rfl (by decide)).to, ?_⟩
  refine List.forall_mem_cons.mpr ⟨(s_iloadn (am_dp pw_X11_parts_0 dd_X11_parts_0a.2.2.2.2.2.2.2) rfl).to, ?_⟩
  refine List.forall_mem_cons.mpr ⟨(s_if_eq (am_dp pw_X11_parts_0 dd_X11_parts_0b.1) (by decide)).to, ?_⟩
  refine List.forall_mem_cons.mpr ⟨(s_iconst (am_dp pw_X11_parts_0 dd_X11_parts_0b.2.1) (by decide)).to, ?_⟩
  refine List.forall_mem_cons.mpr ⟨(s_istoren (am_dp pw_X11_parts_0 dd_X11_parts_0b.2.2.1) rfl (by decide)).to, ?_⟩
  refine List.forall_mem_cons.mpr ⟨(s_iconst (am_dp pw_X11_parts_0 dd_X11_parts_0b.2.2.2.1) (by decide)).to, ?_⟩
  refine List.forall_mem_cons.mpr ⟨(s_istore (am_dp pw_X11_parts_0 dd_X11_parts_0b.2.2.2.2.1) (by decide)).to, ?_⟩
  refine List.forall_mem_cons.mpr ⟨(s_iload (am_dp pw_X11_parts_0 dd_X11_parts_0b.2.2.2.2.2.1)).to, ?_⟩
  refine List.forall_mem_cons.mpr ⟨(s_aloadn (am_dp pw_X11_parts_0 dd_X11_parts_0b.2.2.2.2.2.2.1) rfl).to, ?_⟩
  refine List.forall_mem_cons.mpr ⟨(s_get (ci := 11) (k := 65) (am_dp pw_X11_parts_0 dd_X11_parts_0b.2.2.2.2.2.2.2) rfl (by decide) wd1398 inX11 rfl).to, ?_⟩
  refine List.forall_mem_cons.mpr ⟨(s_icmp_ge (am_dp pw_X11_parts_0 dd_X11_parts_0c.1) (by decide)).to, ?_⟩
  refine List.forall_mem_cons.mpr ⟨(s_iconst (am_dp pw_X11_parts_0 dd_X11_parts_0c.2.1) (by decide)).to, ?_⟩
  refine List.forall_mem_cons.mpr ⟨(s_istore (am_dp pw_X11_parts_0 dd_X11_parts_0c.2.2.1) (by decide)).to, ?_⟩
  refine List.forall_mem_cons.mpr ⟨(s_iload (am_dp pw_X11_parts_0 dd_X11_parts_0c.2.2.2)).to, ?_⟩
  refine List.forall_mem_cons.mpr ⟨(s_aloadn (am_dp pw_X11_parts_32 dd_X11_parts_32a.1) rfl).to, ?_⟩
  refine List.forall_mem_cons.mpr ⟨(s_get (ci := 11) (k := 65) (am_dp pw_X11_parts_32 dd_X11_parts_32a.2.1) rfl (by decide) wd1398 inX11 rfl).to, ?_⟩
  refine List.forall_mem_cons.mpr ⟨(s_icmp_ge (am_dp pw_X11_parts_32 dd_X11_parts_32a.2.2.1) (by decide)).to, ?_⟩
  refine List.forall_mem_cons.mpr ⟨(s_aloadn (am_dp pw_X11_parts_32 dd_X11_parts_32a.2.2.2.1) rfl).to, ?_⟩
  refine List.forall_mem_cons.mpr ⟨(s_get (ci := 11) (k := 74) (am_dp pw_X11_parts_32 dd_X11_parts_32a.2.2.2.2.1) rfl (by decide) wd1407 inX11 rfl).to, ?_⟩
  refine List.forall_mem_cons.mpr ⟨(s_iload (am_dp pw_X11_parts_32 dd_X11_parts_32a.2.2.2.2.2.1)).to, ?_⟩
  refine List.forall_mem_cons.mpr ⟨(s_iald (am_dp pw_X11_parts_32 dd_X11_parts_32a.2.2.2.2.2.2.1)).to, ?_⟩
  refine List.forall_mem_cons.mpr ⟨(s_iconst (am_dp pw_X11_parts_32 dd_X11_parts_32a.2.2.2.2.2.2.2) (by decide)).to, ?_⟩
  refine List.forall_mem_cons.mpr ⟨(s_icmp_eq (am_dp pw_X11_parts_32 dd_X11_parts_32b.1) (by decide)).to, ?_⟩
  refine List.forall_mem_cons.mpr ⟨(s_aloadn (am_dp pw_X11_parts_32 dd_X11_parts_32b.2.1) rfl).to, ?_⟩
  refine List.forall_mem_cons.mpr ⟨(s_get (ci := 11) (k := 70) (am_dp pw_X11_parts_32 dd_X11_parts_32b.2.2.1) rfl (by decide) wd1403 inX11 rfl).to, ?_⟩
  refine List.forall_mem_cons.mpr ⟨(s_bipush (am_dp pw_X11_parts_32 dd_X11_parts_32b.2.2.2.1) (by decide)).to, ?_⟩
  refine List.forall_mem_cons.mpr ⟨(s_iload (am_dp pw_X11_parts_32 dd_X11_parts_32b.2.2.2.2.1)).to, ?_⟩
  refine List.forall_mem_cons.mpr ⟨(s_imul (am_dp pw_X11_parts_32 dd_X11_parts_32b.2.2.2.2.2.1)).to, ?_⟩
  refine List.forall_mem_cons.mpr ⟨(s_iload (am_dp pw_X11_parts_32 dd_X11_parts_32b.2.2.2.2.2.2.1)).to, ?_⟩
  refine List.forall_mem_cons.mpr ⟨(s_iadd (am_dp pw_X11_parts_32 dd_X11_parts_32b.2.2.2.2.2.2.2)).to, ?_⟩
  refine List.forall_mem_cons.mpr ⟨(s_zald (am_dp pw_X11_parts_32 dd_X11_parts_32c.1)).to, ?_⟩
  refine List.forall_mem_cons.mpr ⟨(s_if_eq (am_dp pw_X11_parts_32 dd_X11_parts_32c.2) (by decide)).to, ?_⟩
  refine List.forall_mem_cons.mpr ⟨(s_goto (am_dp pw_X11_parts_64 dd_X11_parts_64a.1) (by decide)).to, ?_⟩
  refine List.forall_mem_cons.mpr ⟨(s_aloadn (am_dp pw_X11_parts_64 dd_X11_parts_64a.2.1) rfl).to, ?_⟩
  refine List.forall_mem_cons.mpr ⟨(s_get (ci := 11) (k := 74) (am_dp pw_X11_parts_64 dd_X11_parts_64a.2.2.1) rfl (by decide) wd1407 inX11 rfl).to, ?_⟩
  refine List.forall_mem_cons.mpr ⟨(s_iload (am_dp pw_X11_parts_64 dd_X11_parts_64a.2.2.2.1)).to, ?_⟩
  refine List.forall_mem_cons.mpr ⟨(s_iald (am_dp pw_X11_parts_64 dd_X11_parts_64a.2.2.2.2.1)).to, ?_⟩
  refine List.forall_mem_cons.mpr ⟨(s_aloadn (am_dp pw_X11_parts_64 dd_X11_parts_64a.2.2.2.2.2.1) rfl).to, ?_⟩
  refine List.forall_mem_cons.mpr ⟨(s_get (ci := 11) (k := 74) (am_dp pw_X11_parts_64 dd_X11_parts_64a.2.2.2.2.2.2.1) rfl (by decide) wd1407 inX11 rfl).to, ?_⟩
  refine List.forall_mem_cons.mpr ⟨(s_iload (am_dp pw_X11_parts_64 dd_X11_parts_64a.2.2.2.2.2.2.2)).to, ?_⟩
  refine List.forall_mem_cons.mpr ⟨(s_iald (am_dp pw_X11_parts_64 dd_X11_parts_64b.1)).to, ?_⟩
  refine List.forall_mem_cons.mpr ⟨(s_icmp_ne (am_dp pw_X11_parts_64 dd_X11_parts_64b.2.1) (by decide)).to, ?_⟩
  refine List.forall_mem_cons.mpr ⟨(s_iconst (am_dp pw_X11_parts_64 dd_X11_parts_64b.2.2.1) (by decide)).to, ?_⟩
  refine List.forall_mem_cons.mpr ⟨s_zret (am_dp pw_X11_parts_64 dd_X11_parts_64b.2.2.2.1) rfl, ?_⟩
  refine List.forall_mem_cons.mpr ⟨(s_iloadn (am_dp pw_X11_parts_64 dd_X11_parts_64b.2.2.2.2.1) rfl).to, ?_⟩
  refine List.forall_mem_cons.mpr ⟨(s_if_ne (am_dp pw_X11_parts_64 dd_X11_parts_64b.2.2.2.2.2.1) (by decide)).to, ?_⟩
  refine List.forall_mem_cons.mpr ⟨(s_aloadn (am_dp pw_X11_parts_64 dd_X11_parts_64b.2.2.2.2.2.2.1) rfl).to, ?_⟩
  refine List.forall_mem_cons.mpr ⟨(s_get (ci := 11) (k := 74) (am_dp pw_X11_parts_64 dd_X11_parts_64b.2.2.2.2.2.2.2) rfl (by decide) wd1407 inX11 rfl).to, ?_⟩
  refine List.forall_mem_cons.mpr ⟨(s_iload (am_dp pw_X11_parts_96 dd_X11_parts_96a.1)).to, ?_⟩
  refine List.forall_mem_cons.mpr ⟨(s_iald (am_dp pw_X11_parts_96 dd_X11_parts_96a.2.1)).to, ?_⟩
  refine List.forall_mem_cons.mpr ⟨(s_iconst (am_dp pw_X11_parts_96 dd_X11_parts_96a.2.2.1) (by decide)).to, ?_⟩
  refine List.forall_mem_cons.mpr ⟨(s_icmp_ne (am_dp pw_X11_parts_96 dd_X11_parts_96a.2.2.2.1) (by decide)).to, ?_⟩
  refine List.forall_mem_cons.mpr ⟨(s_iconst (am_dp pw_X11_parts_96 dd_X11_parts_96a.2.2.2.2.1) (by decide)).to, ?_⟩
  refine List.forall_mem_cons.mpr ⟨(s_goto (am_dp pw_X11_parts_96 dd_X11_parts_96a.2.2.2.2.2.1) (by decide)).to, ?_⟩
  exact fun _ h => absurd h List.not_mem_nil
theorem sn_tX11_parts_1 : ∀ q ∈ tX11_parts_1, am_Snd am_P0 RX11 cX11_parts 6 (Option.some FieldType.boolean) "parts" q.1 q.2 := by
  unfold tX11_parts_1
  refine List.forall_mem_cons.mpr ⟨(s_iconst (am_dp pw_X11_parts_96 dd_X11_parts_96a.2.2.2.2.2.2.1) (by decide)).to, ?_⟩
  refine List.forall_mem_cons.mpr ⟨(s_istoren (am_dp pw_X11_parts_96 dd_X11_parts_96a.2.2.2.2.2.2.2) rfl (by decide)).to, ?_⟩
  refine List.forall_mem_cons.mpr ⟨(s_aloadn (am_dp pw_X11_parts_96 dd_X11_parts_96b.1) rfl).to, ?_⟩
  refine List.forall_mem_cons.mpr ⟨(s_get (ci := 11) (k := 74) (am_dp pw_X11_parts_96 dd_X11_parts_96b.2.1) rfl (by decide) wd1407 inX11 rfl).to, ?_⟩
  refine List.forall_mem_cons.mpr ⟨(s_iload (am_dp pw_X11_parts_96 dd_X11_parts_96b.2.2.1)).to, ?_⟩
  refine List.forall_mem_cons.mpr ⟨(s_iconst (am_dp pw_X11_parts_96 dd_X11_parts_96b.2.2.2.1) (by decide)).to, ?_⟩
  refine List.forall_mem_cons.mpr ⟨(s_aloadn (am_dp pw_X11_parts_96 dd_X11_parts_96b.2.2.2.2.1) rfl).to, ?_⟩
  refine List.forall_mem_cons.mpr ⟨(s_get (ci := 11) (k := 74) (am_dp pw_X11_parts_96 dd_X11_parts_96b.2.2.2.2.2.1) rfl (by decide) wd1407 inX11 rfl).to, ?_⟩
  refine List.forall_mem_cons.mpr ⟨(s_iload (am_dp pw_X11_parts_96 dd_X11_parts_96b.2.2.2.2.2.2.1)).to, ?_⟩
  refine List.forall_mem_cons.mpr ⟨(s_iald (am_dp pw_X11_parts_96 dd_X11_parts_96b.2.2.2.2.2.2.2)).to, ?_⟩
  refine List.forall_mem_cons.mpr ⟨(s_isub (am_dp pw_X11_parts_96 dd_X11_parts_96c.1)).to, ?_⟩
  refine List.forall_mem_cons.mpr ⟨(s_iast (am_dp pw_X11_parts_96 dd_X11_parts_96c.2.1)).to, ?_⟩
  refine List.forall_mem_cons.mpr ⟨(s_iinc (am_dp pw_X11_parts_96 dd_X11_parts_96c.2.2) (by decide) (by decide)).to, ?_⟩
  refine List.forall_mem_cons.mpr ⟨(s_goto (am_dp pw_X11_parts_128 dd_X11_parts_128a.1) (by decide)).to, ?_⟩
  refine List.forall_mem_cons.mpr ⟨(s_iinc (am_dp pw_X11_parts_128 dd_X11_parts_128a.2.1) (by decide) (by decide)).to, ?_⟩
  refine List.forall_mem_cons.mpr ⟨(s_goto (am_dp pw_X11_parts_128 dd_X11_parts_128a.2.2.1) (by decide)).to, ?_⟩
  refine List.forall_mem_cons.mpr ⟨(s_goto (am_dp pw_X11_parts_128 dd_X11_parts_128a.2.2.2.1) (by decide)).to, ?_⟩
  refine List.forall_mem_cons.mpr ⟨(s_iconst (am_dp pw_X11_parts_128 dd_X11_parts_128a.2.2.2.2.1) (by decide)).to, ?_⟩
  refine List.forall_mem_cons.mpr ⟨(s_istore (am_dp pw_X11_parts_128 dd_X11_parts_128a.2.2.2.2.2.1) (by decide)).to, ?_⟩
  refine List.forall_mem_cons.mpr ⟨(s_iload (am_dp pw_X11_parts_128 dd_X11_parts_128a.2.2.2.2.2.2.1)).to, ?_⟩
  refine List.forall_mem_cons.mpr ⟨(s_aloadn (am_dp pw_X11_parts_128 dd_X11_parts_128a.2.2.2.2.2.2.2) rfl).to, ?_⟩
  refine List.forall_mem_cons.mpr ⟨(s_get (ci := 11) (k := 65) (am_dp pw_X11_parts_128 dd_X11_parts_128b.1) rfl (by decide) wd1398 inX11 rfl).to, ?_⟩
  refine List.forall_mem_cons.mpr ⟨(s_icmp_ge (am_dp pw_X11_parts_128 dd_X11_parts_128b.2.1) (by decide)).to, ?_⟩
  refine List.forall_mem_cons.mpr ⟨(s_aloadn (am_dp pw_X11_parts_128 dd_X11_parts_128b.2.2.1) rfl).to, ?_⟩
  refine List.forall_mem_cons.mpr ⟨(s_get (ci := 11) (k := 74) (am_dp pw_X11_parts_128 dd_X11_parts_128b.2.2.2.1) rfl (by decide) wd1407 inX11 rfl).to, ?_⟩
  refine List.forall_mem_cons.mpr ⟨(s_iload (am_dp pw_X11_parts_128 dd_X11_parts_128b.2.2.2.2.1)).to, ?_⟩
  refine List.forall_mem_cons.mpr ⟨(s_iald (am_dp pw_X11_parts_128 dd_X11_parts_128b.2.2.2.2.2.1)).to, ?_⟩
  refine List.forall_mem_cons.mpr ⟨(s_if_ne (am_dp pw_X11_parts_128 dd_X11_parts_128b.2.2.2.2.2.2) (by decide)).to, ?_⟩
  refine List.forall_mem_cons.mpr ⟨(s_aloadn (am_dp pw_X11_parts_160 dd_X11_parts_160a.1) rfl).to, ?_⟩
  refine List.forall_mem_cons.mpr ⟨(s_get (ci := 11) (k := 68) (am_dp pw_X11_parts_160 dd_X11_parts_160a.2.1) rfl (by decide) wd1401 inX11 rfl).to, ?_⟩
  refine List.forall_mem_cons.mpr ⟨(s_iload (am_dp pw_X11_parts_160 dd_X11_parts_160a.2.2.1)).to, ?_⟩
  refine List.forall_mem_cons.mpr ⟨(s_zald (am_dp pw_X11_parts_160 dd_X11_parts_160a.2.2.2.1)).to, ?_⟩
  refine List.forall_mem_cons.mpr ⟨(s_if_ne (am_dp pw_X11_parts_160 dd_X11_parts_160a.2.2.2.2.1) (by decide)).to, ?_⟩
  refine List.forall_mem_cons.mpr ⟨(s_iconst (am_dp pw_X11_parts_160 dd_X11_parts_160a.2.2.2.2.2.1) (by decide)).to, ?_⟩
  refine List.forall_mem_cons.mpr ⟨s_zret (am_dp pw_X11_parts_160 dd_X11_parts_160a.2.2.2.2.2.2.1) rfl, ?_⟩
  refine List.forall_mem_cons.mpr ⟨(s_iinc (am_dp pw_X11_parts_160 dd_X11_parts_160a.2.2.2.2.2.2.2) (by decide) (by decide)).to, ?_⟩
  refine List.forall_mem_cons.mpr ⟨(s_goto (am_dp pw_X11_parts_160 dd_X11_parts_160b.1) (by decide)).to, ?_⟩
  refine List.forall_mem_cons.mpr ⟨(s_iconst (am_dp pw_X11_parts_160 dd_X11_parts_160b.2.1) (by decide)).to, ?_⟩
  refine List.forall_mem_cons.mpr ⟨s_zret (am_dp pw_X11_parts_160 dd_X11_parts_160b.2.2) rfl, ?_⟩
  exact fun _ h => absurd h List.not_mem_nil
theorem sn_tX11_parts : ∀ q ∈ tX11_parts, am_Snd am_P0 RX11 cX11_parts 6 (Option.some FieldType.boolean) "parts" q.1 q.2 := by
  unfold tX11_parts
  exact List.forall_mem_append.mpr ⟨sn_tX11_parts_0, sn_tX11_parts_1⟩
theorem sn_tX11_isPair_0 : ∀ q ∈ tX11_isPair_0, am_Snd am_P0 RX11 cX11_isPair 5 (Option.some FieldType.boolean) "isPair" q.1 q.2 := by
  unfold tX11_isPair_0
  refine List.forall_mem_cons.mpr ⟨(s_aloadn (am_dp pw_X11_isPair_0 dd_X11_isPair_0a.1) rfl).to, ?_⟩
  refine List.forall_mem_cons.mpr ⟨(s_iloadn (am_dp pw_X11_isPair_0 dd_X11_isPair_0a.2.1) rfl).to, ?_⟩
  refine List.forall_mem_cons.mpr ⟨zw_cv245 (am_dp pw_X11_isPair_0 dd_X11_isPair_0a.2.2.1) wd1883, ?_⟩
  refine List.forall_mem_cons.mpr ⟨(s_if_ne (am_dp pw_X11_isPair_0 dd_X11_isPair_0a.2.2.2.1) (by decide)).to, ?_⟩
  refine List.forall_mem_cons.mpr ⟨(s_iconst (am_dp pw_X11_isPair_0 dd_X11_isPair_0a.2.2.2.2.1) (by decide)).to, ?_⟩
  refine List.forall_mem_cons.mpr ⟨s_zret (am_dp pw_X11_isPair_0 dd_X11_isPair_0a.2.2.2.2.2.1) rfl, ?_⟩
  refine List.forall_mem_cons.mpr ⟨(s_aloadn (am_dp pw_X11_isPair_0 dd_X11_isPair_0a.2.2.2.2.2.2.1) rfl).to, ?_⟩
  refine List.forall_mem_cons.mpr ⟨(s_iloadn (am_dp pw_X11_isPair_0 dd_X11_isPair_0a.2.2.2.2.2.2.2) rfl).to, ?_⟩
  refine List.forall_mem_cons.mpr ⟨zw_cv247 (am_dp pw_X11_isPair_0 dd_X11_isPair_0b.1) wd1906, ?_⟩
  refine List.forall_mem_cons.mpr ⟨(s_iconst (am_dp pw_X11_isPair_0 dd_X11_isPair_0b.2.1) (by decide)).to, ?_⟩
  refine List.forall_mem_cons.mpr ⟨(s_istoren (am_dp pw_X11_isPair_0 dd_X11_isPair_0b.2.2.1) rfl (by decide)).to, ?_⟩
  refine List.forall_mem_cons.mpr ⟨(s_iconst (am_dp pw_X11_isPair_0 dd_X11_isPair_0b.2.2.2.1) (by decide)).to, ?_⟩
  refine List.forall_mem_cons.mpr ⟨(s_istoren (am_dp pw_X11_isPair_0 dd_X11_isPair_0b.2.2.2.2.1) rfl (by decide)).to, ?_⟩
  refine List.forall_mem_cons.mpr ⟨(s_iloadn (am_dp pw_X11_isPair_0 dd_X11_isPair_0b.2.2.2.2.2.1) rfl).to, ?_⟩
  refine List.forall_mem_cons.mpr ⟨(s_aloadn (am_dp pw_X11_isPair_0 dd_X11_isPair_0b.2.2.2.2.2.2.1) rfl).to, ?_⟩
  refine List.forall_mem_cons.mpr ⟨(s_get (ci := 11) (k := 65) (am_dp pw_X11_isPair_0 dd_X11_isPair_0b.2.2.2.2.2.2.2) rfl (by decide) wd1398 inX11 rfl).to, ?_⟩
  refine List.forall_mem_cons.mpr ⟨(s_icmp_ge (am_dp pw_X11_isPair_0 dd_X11_isPair_0c.1) (by decide)).to, ?_⟩
  refine List.forall_mem_cons.mpr ⟨(s_aloadn (am_dp pw_X11_isPair_0 dd_X11_isPair_0c.2.1) rfl).to, ?_⟩
  refine List.forall_mem_cons.mpr ⟨(s_iloadn (am_dp pw_X11_isPair_0 dd_X11_isPair_0c.2.2.1) rfl).to, ?_⟩
  refine List.forall_mem_cons.mpr ⟨(s_aloadn (am_dp pw_X11_isPair_0 dd_X11_isPair_0c.2.2.2.1) rfl).to, ?_⟩
  refine List.forall_mem_cons.mpr ⟨(s_iloadn (am_dp pw_X11_isPair_0 dd_X11_isPair_0c.2.2.2.2.1) rfl).to, ?_⟩
  refine List.forall_mem_cons.mpr ⟨(s_aloadn (am_dp pw_X11_isPair_0 dd_X11_isPair_0c.2.2.2.2.2) rfl).to, ?_⟩
  refine List.forall_mem_cons.mpr ⟨(s_get (ci := 11) (k := 67) (am_dp pw_X11_isPair_32 dd_X11_isPair_32a.1) rfl (by decide) wd1400 inX11 rfl).to, ?_⟩
  refine List.forall_mem_cons.mpr ⟨(s_iloadn (am_dp pw_X11_isPair_32 dd_X11_isPair_32a.2.1) rfl).to, ?_⟩
  refine List.forall_mem_cons.mpr ⟨(s_iald (am_dp pw_X11_isPair_32 dd_X11_isPair_32a.2.2.1)).to, ?_⟩
  refine List.forall_mem_cons.mpr ⟨zw_cv226 (am_dp pw_X11_isPair_32 dd_X11_isPair_32a.2.2.2.1) wd1842, ?_⟩
  refine List.forall_mem_cons.mpr ⟨(s_aloadn (am_dp pw_X11_isPair_32 dd_X11_isPair_32a.2.2.2.2.1) rfl).to, ?_⟩
  refine List.forall_mem_cons.mpr ⟨(s_iloadn (am_dp pw_X11_isPair_32 dd_X11_isPair_32a.2.2.2.2.2.1) rfl).to, ?_⟩
  refine List.forall_mem_cons.mpr ⟨(s_aloadn (am_dp pw_X11_isPair_32 dd_X11_isPair_32a.2.2.2.2.2.2.1) rfl).to, ?_⟩
  refine List.forall_mem_cons.mpr ⟨(s_get (ci := 11) (k := 67) (am_dp pw_X11_isPair_32 dd_X11_isPair_32a.2.2.2.2.2.2.2) rfl (by decide) wd1400 inX11 rfl).to, ?_⟩
  refine List.forall_mem_cons.mpr ⟨(s_iloadn (am_dp pw_X11_isPair_32 dd_X11_isPair_32b.1) rfl).to, ?_⟩
  refine List.forall_mem_cons.mpr ⟨(s_iald (am_dp pw_X11_isPair_32 dd_X11_isPair_32b.2.1)).to, ?_⟩
  refine List.forall_mem_cons.mpr ⟨zw_cv227 (am_dp pw_X11_isPair_32 dd_X11_isPair_32b.2.2.1) wd1910, ?_⟩
  refine List.forall_mem_cons.mpr ⟨zw_cv235 (am_dp pw_X11_isPair_32 dd_X11_isPair_32b.2.2.2.1) wd1914, ?_⟩
  refine List.forall_mem_cons.mpr ⟨(s_if_ne (am_dp pw_X11_isPair_32 dd_X11_isPair_32b.2.2.2.2.1) (by decide)).to, ?_⟩
  refine List.forall_mem_cons.mpr ⟨(s_iconst (am_dp pw_X11_isPair_32 dd_X11_isPair_32b.2.2.2.2.2.1) (by decide)).to, ?_⟩
  refine List.forall_mem_cons.mpr ⟨s_zret (am_dp pw_X11_isPair_32 dd_X11_isPair_32b.2.2.2.2.2.2.1) rfl, ?_⟩
  refine List.forall_mem_cons.mpr ⟨(s_iloadn (am_dp pw_X11_isPair_32 dd_X11_isPair_32b.2.2.2.2.2.2.2) rfl).to, ?_⟩
  refine List.forall_mem_cons.mpr ⟨(s_if_eq (am_dp pw_X11_isPair_32 dd_X11_isPair_32c.1) (by decide)).to, ?_⟩
  refine List.forall_mem_cons.mpr ⟨(s_aloadn (am_dp pw_X11_isPair_32 dd_X11_isPair_32c.2) rfl).to, ?_⟩
  refine List.forall_mem_cons.mpr ⟨(s_get (ci := 11) (k := 68) (am_dp pw_X11_isPair_64 dd_X11_isPair_64a.1) rfl (by decide) wd1401 inX11 rfl).to, ?_⟩
  refine List.forall_mem_cons.mpr ⟨(s_iloadn (am_dp pw_X11_isPair_64 dd_X11_isPair_64a.2.1) rfl).to, ?_⟩
  refine List.forall_mem_cons.mpr ⟨(s_zald (am_dp pw_X11_isPair_64 dd_X11_isPair_64a.2.2.1)).to, ?_⟩
  refine List.forall_mem_cons.mpr ⟨(s_if_eq (am_dp pw_X11_isPair_64 dd_X11_isPair_64a.2.2.2.1) (by decide)).to, ?_⟩
  refine List.forall_mem_cons.mpr ⟨(s_iconst (am_dp pw_X11_isPair_64 dd_X11_isPair_64a.2.2.2.2.1) (by decide)).to, ?_⟩
  refine List.forall_mem_cons.mpr ⟨(s_goto (am_dp pw_X11_isPair_64 dd_X11_isPair_64a.2.2.2.2.2.1) (by decide)).to, ?_⟩
  refine List.forall_mem_cons.mpr ⟨(s_iconst (am_dp pw_X11_isPair_64 dd_X11_isPair_64a.2.2.2.2.2.2.1) (by decide)).to, ?_⟩
  refine List.forall_mem_cons.mpr ⟨(s_istoren (am_dp pw_X11_isPair_64 dd_X11_isPair_64a.2.2.2.2.2.2.2) rfl (by decide)).to, ?_⟩
  refine List.forall_mem_cons.mpr ⟨(s_iconst (am_dp pw_X11_isPair_64 dd_X11_isPair_64b.1) (by decide)).to, ?_⟩
  refine List.forall_mem_cons.mpr ⟨(s_istore (am_dp pw_X11_isPair_64 dd_X11_isPair_64b.2.1) (by decide)).to, ?_⟩
  refine List.forall_mem_cons.mpr ⟨(s_iload (am_dp pw_X11_isPair_64 dd_X11_isPair_64b.2.2.1)).to, ?_⟩
  refine List.forall_mem_cons.mpr ⟨(s_aloadn (am_dp pw_X11_isPair_64 dd_X11_isPair_64b.2.2.2.1) rfl).to, ?_⟩
  refine List.forall_mem_cons.mpr ⟨(s_get (ci := 11) (k := 65) (am_dp pw_X11_isPair_64 dd_X11_isPair_64b.2.2.2.2.1) rfl (by decide) wd1398 inX11 rfl).to, ?_⟩
  refine List.forall_mem_cons.mpr ⟨(s_icmp_ge (am_dp pw_X11_isPair_64 dd_X11_isPair_64b.2.2.2.2.2.1) (by decide)).to, ?_⟩
  refine List.forall_mem_cons.mpr ⟨(s_iloadn (am_dp pw_X11_isPair_64 dd_X11_isPair_64b.2.2.2.2.2.2.1) rfl).to, ?_⟩
  refine List.forall_mem_cons.mpr ⟨(s_if_eq (am_dp pw_X11_isPair_64 dd_X11_isPair_64b.2.2.2.2.2.2.2) (by decide)).to, ?_⟩
  refine List.forall_mem_cons.mpr ⟨(s_aloadn (am_dp pw_X11_isPair_64 dd_X11_isPair_64c.1) rfl).to, ?_⟩
  refine List.forall_mem_cons.mpr ⟨(s_get (ci := 11) (k := 70) (am_dp pw_X11_isPair_64 dd_X11_isPair_64c.2) rfl (by decide) wd1403 inX11 rfl).to, ?_⟩
  refine List.forall_mem_cons.mpr ⟨(s_bipush (am_dp pw_X11_isPair_96 dd_X11_isPair_96a.1) (by decide)).to, ?_⟩
  refine List.forall_mem_cons.mpr ⟨(s_iloadn (am_dp pw_X11_isPair_96 dd_X11_isPair_96a.2.1) rfl).to, ?_⟩
  exact fun _ h => absurd h List.not_mem_nil
theorem sn_tX11_isPair_1 : ∀ q ∈ tX11_isPair_1, am_Snd am_P0 RX11 cX11_isPair 5 (Option.some FieldType.boolean) "isPair" q.1 q.2 := by
  unfold tX11_isPair_1
  refine List.forall_mem_cons.mpr ⟨(s_imul (am_dp pw_X11_isPair_96 dd_X11_isPair_96a.2.2.1)).to, ?_⟩
  refine List.forall_mem_cons.mpr ⟨(s_iload (am_dp pw_X11_isPair_96 dd_X11_isPair_96a.2.2.2.1)).to, ?_⟩
  refine List.forall_mem_cons.mpr ⟨(s_iadd (am_dp pw_X11_isPair_96 dd_X11_isPair_96a.2.2.2.2.1)).to, ?_⟩
  refine List.forall_mem_cons.mpr ⟨(s_zald (am_dp pw_X11_isPair_96 dd_X11_isPair_96a.2.2.2.2.2.1)).to, ?_⟩
  refine List.forall_mem_cons.mpr ⟨(s_if_eq (am_dp pw_X11_isPair_96 dd_X11_isPair_96a.2.2.2.2.2.2.1) (by decide)).to, ?_⟩
  refine List.forall_mem_cons.mpr ⟨(s_iconst (am_dp pw_X11_isPair_96 dd_X11_isPair_96a.2.2.2.2.2.2.2) (by decide)).to, ?_⟩
  refine List.forall_mem_cons.mpr ⟨(s_goto (am_dp pw_X11_isPair_96 dd_X11_isPair_96b.1) (by decide)).to, ?_⟩
  refine List.forall_mem_cons.mpr ⟨(s_iconst (am_dp pw_X11_isPair_96 dd_X11_isPair_96b.2.1) (by decide)).to, ?_⟩
  refine List.forall_mem_cons.mpr ⟨(s_istoren (am_dp pw_X11_isPair_96 dd_X11_isPair_96b.2.2.1) rfl (by decide)).to, ?_⟩
  refine List.forall_mem_cons.mpr ⟨(s_iinc (am_dp pw_X11_isPair_96 dd_X11_isPair_96b.2.2.2.1) (by decide) (by decide)).to, ?_⟩
  refine List.forall_mem_cons.mpr ⟨(s_goto (am_dp pw_X11_isPair_96 dd_X11_isPair_96b.2.2.2.2.1) (by decide)).to, ?_⟩
  refine List.forall_mem_cons.mpr ⟨(s_aloadn (am_dp pw_X11_isPair_96 dd_X11_isPair_96b.2.2.2.2.2.1) rfl).to, ?_⟩
  refine List.forall_mem_cons.mpr ⟨(s_get (ci := 11) (k := 74) (am_dp pw_X11_isPair_96 dd_X11_isPair_96b.2.2.2.2.2.2.1) rfl (by decide) wd1407 inX11 rfl).to, ?_⟩
  refine List.forall_mem_cons.mpr ⟨(s_iloadn (am_dp pw_X11_isPair_96 dd_X11_isPair_96b.2.2.2.2.2.2.2) rfl).to, ?_⟩
  refine List.forall_mem_cons.mpr ⟨(s_iconst (am_dp pw_X11_isPair_96 dd_X11_isPair_96c.1) (by decide)).to, ?_⟩
  refine List.forall_mem_cons.mpr ⟨(s_iast (am_dp pw_X11_isPair_96 dd_X11_isPair_96c.2)).to, ?_⟩
  refine List.forall_mem_cons.mpr ⟨(s_iinc (am_dp pw_X11_isPair_128 dd_X11_isPair_128a.1) (by decide) (by decide)).to, ?_⟩
  refine List.forall_mem_cons.mpr ⟨(s_goto (am_dp pw_X11_isPair_128 dd_X11_isPair_128a.2.1) (by decide)).to, ?_⟩
  refine List.forall_mem_cons.mpr ⟨(s_iloadn (am_dp pw_X11_isPair_128 dd_X11_isPair_128a.2.2.1) rfl).to, ?_⟩
  refine List.forall_mem_cons.mpr ⟨(s_if_eq (am_dp pw_X11_isPair_128 dd_X11_isPair_128a.2.2.2.1) (by decide)).to, ?_⟩
  refine List.forall_mem_cons.mpr ⟨(s_iconst (am_dp pw_X11_isPair_128 dd_X11_isPair_128a.2.2.2.2.1) (by decide)).to, ?_⟩
  refine List.forall_mem_cons.mpr ⟨s_zret (am_dp pw_X11_isPair_128 dd_X11_isPair_128a.2.2.2.2.2.1) rfl, ?_⟩
  refine List.forall_mem_cons.mpr ⟨(s_iconst (am_dp pw_X11_isPair_128 dd_X11_isPair_128a.2.2.2.2.2.2.1) (by decide)).to, ?_⟩
  refine List.forall_mem_cons.mpr ⟨(s_istoren (am_dp pw_X11_isPair_128 dd_X11_isPair_128a.2.2.2.2.2.2.2) rfl (by decide)).to, ?_⟩
  refine List.forall_mem_cons.mpr ⟨(s_iloadn (am_dp pw_X11_isPair_128 dd_X11_isPair_128b.1) rfl).to, ?_⟩
  refine List.forall_mem_cons.mpr ⟨(s_aloadn (am_dp pw_X11_isPair_128 dd_X11_isPair_128b.2.1) rfl).to, ?_⟩
  refine List.forall_mem_cons.mpr ⟨(s_get (ci := 11) (k := 65) (am_dp pw_X11_isPair_128 dd_X11_isPair_128b.2.2.1) rfl (by decide) wd1398 inX11 rfl).to, ?_⟩
  refine List.forall_mem_cons.mpr ⟨(s_icmp_ge (am_dp pw_X11_isPair_128 dd_X11_isPair_128b.2.2.2.1) (by decide)).to, ?_⟩
  refine List.forall_mem_cons.mpr ⟨(s_aloadn (am_dp pw_X11_isPair_128 dd_X11_isPair_128b.2.2.2.2.1) rfl).to, ?_⟩
  refine List.forall_mem_cons.mpr ⟨(s_get (ci := 11) (k := 74) (am_dp pw_X11_isPair_128 dd_X11_isPair_128b.2.2.2.2.2.1) rfl (by decide) wd1407 inX11 rfl).to, ?_⟩
  refine List.forall_mem_cons.mpr ⟨(s_iloadn (am_dp pw_X11_isPair_128 dd_X11_isPair_128b.2.2.2.2.2.2.1) rfl).to, ?_⟩
  refine List.forall_mem_cons.mpr ⟨(s_iald (am_dp pw_X11_isPair_128 dd_X11_isPair_128b.2.2.2.2.2.2.2)).to, ?_⟩
  refine List.forall_mem_cons.mpr ⟨(s_iconst (am_dp pw_X11_isPair_128 dd_X11_isPair_128c.1) (by decide)).to, ?_⟩
  refine List.forall_mem_cons.mpr ⟨(s_icmp_eq (am_dp pw_X11_isPair_128 dd_X11_isPair_128c.2) (by decide)).to, ?_⟩
  refine List.forall_mem_cons.mpr ⟨(s_goto (am_dp pw_X11_isPair_160 dd_X11_isPair_160a.1) (by decide)).to, ?_⟩
  refine List.forall_mem_cons.mpr ⟨(s_aloadn (am_dp pw_X11_isPair_160 dd_X11_isPair_160a.2.1) rfl).to, ?_⟩
  refine List.forall_mem_cons.mpr ⟨zw_cv263 (am_dp pw_X11_isPair_160 dd_X11_isPair_160a.2.2.1) wd1978, ?_⟩
  refine List.forall_mem_cons.mpr ⟨(s_aloadn (am_dp pw_X11_isPair_160 dd_X11_isPair_160a.2.2.2.1) rfl).to, ?_⟩
  refine List.forall_mem_cons.mpr ⟨(s_get (ci := 11) (k := 68) (am_dp pw_X11_isPair_160 dd_X11_isPair_160a.2.2.2.2.1) rfl (by decide) wd1401 inX11 rfl).to, ?_⟩
  refine List.forall_mem_cons.mpr ⟨(s_iloadn (am_dp pw_X11_isPair_160 dd_X11_isPair_160a.2.2.2.2.2.1) rfl).to, ?_⟩
  refine List.forall_mem_cons.mpr ⟨(s_zald (am_dp pw_X11_isPair_160 dd_X11_isPair_160a.2.2.2.2.2.2.1)).to, ?_⟩
  refine List.forall_mem_cons.mpr ⟨(s_if_eq (am_dp pw_X11_isPair_160 dd_X11_isPair_160a.2.2.2.2.2.2.2) (by decide)).to, ?_⟩
  refine List.forall_mem_cons.mpr ⟨(s_aloadn (am_dp pw_X11_isPair_160 dd_X11_isPair_160b.1) rfl).to, ?_⟩
  refine List.forall_mem_cons.mpr ⟨(s_iloadn (am_dp pw_X11_isPair_160 dd_X11_isPair_160b.2.1) rfl).to, ?_⟩
  refine List.forall_mem_cons.mpr ⟨(s_iconst (am_dp pw_X11_isPair_160 dd_X11_isPair_160b.2.2.1) (by decide)).to, ?_⟩
  refine List.forall_mem_cons.mpr ⟨zw_cv261 (am_dp pw_X11_isPair_160 dd_X11_isPair_160b.2.2.2.1) wd1982, ?_⟩
  refine List.forall_mem_cons.mpr ⟨(s_if_eq (am_dp pw_X11_isPair_160 dd_X11_isPair_160b.2.2.2.2.1) (by decide)).to, ?_⟩
  refine List.forall_mem_cons.mpr ⟨(s_goto (am_dp pw_X11_isPair_160 dd_X11_isPair_160b.2.2.2.2.2.1) (by decide)).to, ?_⟩
  refine List.forall_mem_cons.mpr ⟨(s_aloadn (am_dp pw_X11_isPair_160 dd_X11_isPair_160b.2.2.2.2.2.2.1) rfl).to, ?_⟩
  refine List.forall_mem_cons.mpr ⟨zw_cv264 (am_dp pw_X11_isPair_160 dd_X11_isPair_160b.2.2.2.2.2.2.2) wd1986, ?_⟩
  refine List.forall_mem_cons.mpr ⟨(s_aloadn (am_dp pw_X11_isPair_192 dd_X11_isPair_192a.1) rfl).to, ?_⟩
  refine List.forall_mem_cons.mpr ⟨(s_iloadn (am_dp pw_X11_isPair_192 dd_X11_isPair_192a.2.1) rfl).to, ?_⟩
  refine List.forall_mem_cons.mpr ⟨(s_iconst (am_dp pw_X11_isPair_192 dd_X11_isPair_192a.2.2.1) (by decide)).to, ?_⟩
  refine List.forall_mem_cons.mpr ⟨zw_cv261 (am_dp pw_X11_isPair_192 dd_X11_isPair_192a.2.2.2.1) wd1982, ?_⟩
  refine List.forall_mem_cons.mpr ⟨(s_if_ne (am_dp pw_X11_isPair_192 dd_X11_isPair_192a.2.2.2.2.1) (by decide)).to, ?_⟩
  refine List.forall_mem_cons.mpr ⟨(s_iconst (am_dp pw_X11_isPair_192 dd_X11_isPair_192a.2.2.2.2.2.1) (by decide)).to, ?_⟩
  refine List.forall_mem_cons.mpr ⟨s_zret (am_dp pw_X11_isPair_192 dd_X11_isPair_192a.2.2.2.2.2.2.1) rfl, ?_⟩
  refine List.forall_mem_cons.mpr ⟨(s_iinc (am_dp pw_X11_isPair_192 dd_X11_isPair_192a.2.2.2.2.2.2.2) (by decide) (by decide)).to, ?_⟩
  refine List.forall_mem_cons.mpr ⟨(s_goto (am_dp pw_X11_isPair_192 dd_X11_isPair_192b.1) (by decide)).to, ?_⟩
  refine List.forall_mem_cons.mpr ⟨(s_iconst (am_dp pw_X11_isPair_192 dd_X11_isPair_192b.2.1) (by decide)).to, ?_⟩
  exact fun _ h => absurd h List.not_mem_nil
theorem sn_tX11_isPair_2 : ∀ q ∈ tX11_isPair_2, am_Snd am_P0 RX11 cX11_isPair 5 (Option.some FieldType.boolean) "isPair" q.1 q.2 := by
  unfold tX11_isPair_2
  refine List.forall_mem_cons.mpr ⟨(s_istoren (am_dp pw_X11_isPair_192 dd_X11_isPair_192b.2.2.1) rfl (by decide)).to, ?_⟩
  refine List.forall_mem_cons.mpr ⟨(s_iconst (am_dp pw_X11_isPair_192 dd_X11_isPair_192b.2.2.2.1) (by decide)).to, ?_⟩
  refine List.forall_mem_cons.mpr ⟨(s_istore (am_dp pw_X11_isPair_192 dd_X11_isPair_192b.2.2.2.2.1) (by decide)).to, ?_⟩
  refine List.forall_mem_cons.mpr ⟨(s_iload (am_dp pw_X11_isPair_192 dd_X11_isPair_192b.2.2.2.2.2.1)).to, ?_⟩
  refine List.forall_mem_cons.mpr ⟨(s_aloadn (am_dp pw_X11_isPair_192 dd_X11_isPair_192b.2.2.2.2.2.2.1) rfl).to, ?_⟩
  refine List.forall_mem_cons.mpr ⟨(s_get (ci := 11) (k := 65) (am_dp pw_X11_isPair_192 dd_X11_isPair_192b.2.2.2.2.2.2.2) rfl (by decide) wd1398 inX11 rfl).to, ?_⟩
  refine List.forall_mem_cons.mpr ⟨(s_icmp_ge (am_dp pw_X11_isPair_192 dd_X11_isPair_192c.1) (by decide)).to, ?_⟩
  refine List.forall_mem_cons.mpr ⟨(s_iloadn (am_dp pw_X11_isPair_192 dd_X11_isPair_192c.2) rfl).to, ?_⟩
  refine List.forall_mem_cons.mpr ⟨(s_aloadn (am_dp pw_X11_isPair_224 dd_X11_isPair_224a.1) rfl).to, ?_⟩
  refine List.forall_mem_cons.mpr ⟨(s_get (ci := 11) (k := 74) (am_dp pw_X11_isPair_224 dd_X11_isPair_224a.2.1) rfl (by decide) wd1407 inX11 rfl).to, ?_⟩
  refine List.forall_mem_cons.mpr ⟨(s_iload (am_dp pw_X11_isPair_224 dd_X11_isPair_224a.2.2.1)).to, ?_⟩
  refine List.forall_mem_cons.mpr ⟨(s_iald (am_dp pw_X11_isPair_224 dd_X11_isPair_224a.2.2.2.1)).to, ?_⟩
  refine List.forall_mem_cons.mpr ⟨(s_iadd (am_dp pw_X11_isPair_224 dd_X11_isPair_224a.2.2.2.2.1)).to, ?_⟩
  refine List.forall_mem_cons.mpr ⟨(s_istoren (am_dp pw_X11_isPair_224 dd_X11_isPair_224a.2.2.2.2.2.1) rfl (by decide)).to, ?_⟩
  refine List.forall_mem_cons.mpr ⟨(s_iinc (am_dp pw_X11_isPair_224 dd_X11_isPair_224a.2.2.2.2.2.2.1) (by decide) (by decide)).to, ?_⟩
  refine List.forall_mem_cons.mpr ⟨(s_goto (am_dp pw_X11_isPair_224 dd_X11_isPair_224a.2.2.2.2.2.2.2) (by decide)).to, ?_⟩
  refine List.forall_mem_cons.mpr ⟨(s_iloadn (am_dp pw_X11_isPair_224 dd_X11_isPair_224b.1) rfl).to, ?_⟩
  refine List.forall_mem_cons.mpr ⟨(s_if_le (am_dp pw_X11_isPair_224 dd_X11_isPair_224b.2.1) (by decide)).to, ?_⟩
  refine List.forall_mem_cons.mpr ⟨(s_iloadn (am_dp pw_X11_isPair_224 dd_X11_isPair_224b.2.2.1) rfl).to, ?_⟩
  refine List.forall_mem_cons.mpr ⟨(s_aloadn (am_dp pw_X11_isPair_224 dd_X11_isPair_224b.2.2.2.1) rfl).to, ?_⟩
  refine List.forall_mem_cons.mpr ⟨(s_get (ci := 11) (k := 65) (am_dp pw_X11_isPair_224 dd_X11_isPair_224b.2.2.2.2.1) rfl (by decide) wd1398 inX11 rfl).to, ?_⟩
  refine List.forall_mem_cons.mpr ⟨(s_icmp_ge (am_dp pw_X11_isPair_224 dd_X11_isPair_224b.2.2.2.2.2.1) (by decide)).to, ?_⟩
  refine List.forall_mem_cons.mpr ⟨(s_iconst (am_dp pw_X11_isPair_224 dd_X11_isPair_224b.2.2.2.2.2.2.1) (by decide)).to, ?_⟩
  refine List.forall_mem_cons.mpr ⟨(s_goto (am_dp pw_X11_isPair_224 dd_X11_isPair_224b.2.2.2.2.2.2.2) (by decide)).to, ?_⟩
  refine List.forall_mem_cons.mpr ⟨(s_iconst (am_dp pw_X11_isPair_224 dd_X11_isPair_224c) (by decide)).to, ?_⟩
  refine List.forall_mem_cons.mpr ⟨s_zret (am_dp pw_X11_isPair_256 dd_X11_isPair_256a) rfl, ?_⟩
  exact fun _ h => absurd h List.not_mem_nil
theorem sn_tX11_isPair : ∀ q ∈ tX11_isPair, am_Snd am_P0 RX11 cX11_isPair 5 (Option.some FieldType.boolean) "isPair" q.1 q.2 := by
  unfold tX11_isPair
  exact List.forall_mem_append.mpr ⟨List.forall_mem_append.mpr ⟨sn_tX11_isPair_0, sn_tX11_isPair_1⟩, sn_tX11_isPair_2⟩
theorem sn_tX11_keepsSets : ∀ q ∈ tX11_keepsSets, am_Snd am_P0 RX11 cX11_keepsSets 2 (Option.none : Option FieldType) "keepsSets" q.1 q.2 := by
  unfold tX11_keepsSets
  refine List.forall_mem_cons.mpr ⟨(s_iconst (am_dp pw_X11_keepsSets_0 dd_X11_keepsSets_0a.1) (by decide)).to, ?_⟩
  refine List.forall_mem_cons.mpr ⟨(s_istoren (am_dp pw_X11_keepsSets_0 dd_X11_keepsSets_0a.2.1) rfl (by decide)).to, ?_⟩
  refine List.forall_mem_cons.mpr ⟨(s_iloadn (am_dp pw_X11_keepsSets_0 dd_X11_keepsSets_0a.2.2.1) rfl).to, ?_⟩
  refine List.forall_mem_cons.mpr ⟨(s_bipush (am_dp pw_X11_keepsSets_0 dd_X11_keepsSets_0a.2.2.2.1) (by decide)).to, ?_⟩
  refine List.forall_mem_cons.mpr ⟨(s_icmp_ge (am_dp pw_X11_keepsSets_0 dd_X11_keepsSets_0a.2.2.2.2.1) (by decide)).to, ?_⟩
  refine List.forall_mem_cons.mpr ⟨(s_aloadn (am_dp pw_X11_keepsSets_0 dd_X11_keepsSets_0a.2.2.2.2.2.1) rfl).to, ?_⟩
  refine List.forall_mem_cons.mpr ⟨(s_get (ci := 11) (k := 75) (am_dp pw_X11_keepsSets_0 dd_X11_keepsSets_0a.2.2.2.2.2.2.1) rfl (by decide) wd1408 inX11 rfl).to, ?_⟩
  refine List.forall_mem_cons.mpr ⟨(s_iloadn (am_dp pw_X11_keepsSets_0 dd_X11_keepsSets_0a.2.2.2.2.2.2.2) rfl).to, ?_⟩
  refine List.forall_mem_cons.mpr ⟨(s_aloadn (am_dp pw_X11_keepsSets_0 dd_X11_keepsSets_0b.1) rfl).to, ?_⟩
  refine List.forall_mem_cons.mpr ⟨(s_get (ci := 11) (k := 74) (am_dp pw_X11_keepsSets_0 dd_X11_keepsSets_0b.2.1) rfl (by decide) wd1407 inX11 rfl).to, ?_⟩
  refine List.forall_mem_cons.mpr ⟨(s_iloadn (am_dp pw_X11_keepsSets_0 dd_X11_keepsSets_0b.2.2.1) rfl).to, ?_⟩
  refine List.forall_mem_cons.mpr ⟨(s_iald (am_dp pw_X11_keepsSets_0 dd_X11_keepsSets_0b.2.2.2.1)).to, ?_⟩
  refine List.forall_mem_cons.mpr ⟨(s_iast (am_dp pw_X11_keepsSets_0 dd_X11_keepsSets_0b.2.2.2.2.1)).to, ?_⟩
  refine List.forall_mem_cons.mpr ⟨(s_iinc (am_dp pw_X11_keepsSets_0 dd_X11_keepsSets_0b.2.2.2.2.2.1) (by decide) (by decide)).to, ?_⟩
  refine List.forall_mem_cons.mpr ⟨(s_goto (am_dp pw_X11_keepsSets_0 dd_X11_keepsSets_0b.2.2.2.2.2.2.1) (by decide)).to, ?_⟩
  refine List.forall_mem_cons.mpr ⟨s_vret (am_dp pw_X11_keepsSets_0 dd_X11_keepsSets_0b.2.2.2.2.2.2.2) rfl, ?_⟩
  exact fun _ h => absurd h List.not_mem_nil
theorem sn_tX11_bringsSets : ∀ q ∈ tX11_bringsSets, am_Snd am_P0 RX11 cX11_bringsSets 2 (Option.none : Option FieldType) "bringsSets" q.1 q.2 := by
  unfold tX11_bringsSets
  refine List.forall_mem_cons.mpr ⟨(s_iconst (am_dp pw_X11_bringsSets_0 dd_X11_bringsSets_0a.1) (by decide)).to, ?_⟩
  refine List.forall_mem_cons.mpr ⟨(s_istoren (am_dp pw_X11_bringsSets_0 dd_X11_bringsSets_0a.2.1) rfl (by decide)).to, ?_⟩
  refine List.forall_mem_cons.mpr ⟨(s_iloadn (am_dp pw_X11_bringsSets_0 dd_X11_bringsSets_0a.2.2.1) rfl).to, ?_⟩
  refine List.forall_mem_cons.mpr ⟨(s_bipush (am_dp pw_X11_bringsSets_0 dd_X11_bringsSets_0a.2.2.2.1) (by decide)).to, ?_⟩
  refine List.forall_mem_cons.mpr ⟨(s_icmp_ge (am_dp pw_X11_bringsSets_0 dd_X11_bringsSets_0a.2.2.2.2.1) (by decide)).to, ?_⟩
  refine List.forall_mem_cons.mpr ⟨(s_aloadn (am_dp pw_X11_bringsSets_0 dd_X11_bringsSets_0a.2.2.2.2.2.1) rfl).to, ?_⟩
  refine List.forall_mem_cons.mpr ⟨(s_get (ci := 11) (k := 74) (am_dp pw_X11_bringsSets_0 dd_X11_bringsSets_0a.2.2.2.2.2.2.1) rfl (by decide) wd1407 inX11 rfl).to, ?_⟩
  refine List.forall_mem_cons.mpr ⟨(s_iloadn (am_dp pw_X11_bringsSets_0 dd_X11_bringsSets_0a.2.2.2.2.2.2.2) rfl).to, ?_⟩
  refine List.forall_mem_cons.mpr ⟨(s_aloadn (am_dp pw_X11_bringsSets_0 dd_X11_bringsSets_0b.1) rfl).to, ?_⟩
  refine List.forall_mem_cons.mpr ⟨(s_get (ci := 11) (k := 75) (am_dp pw_X11_bringsSets_0 dd_X11_bringsSets_0b.2.1) rfl (by decide) wd1408 inX11 rfl).to, ?_⟩
  refine List.forall_mem_cons.mpr ⟨(s_iloadn (am_dp pw_X11_bringsSets_0 dd_X11_bringsSets_0b.2.2.1) rfl).to, ?_⟩
  refine List.forall_mem_cons.mpr ⟨(s_iald (am_dp pw_X11_bringsSets_0 dd_X11_bringsSets_0b.2.2.2.1)).to, ?_⟩
  refine List.forall_mem_cons.mpr ⟨(s_iast (am_dp pw_X11_bringsSets_0 dd_X11_bringsSets_0b.2.2.2.2.1)).to, ?_⟩
  refine List.forall_mem_cons.mpr ⟨(s_iinc (am_dp pw_X11_bringsSets_0 dd_X11_bringsSets_0b.2.2.2.2.2.1) (by decide) (by decide)).to, ?_⟩
  refine List.forall_mem_cons.mpr ⟨(s_goto (am_dp pw_X11_bringsSets_0 dd_X11_bringsSets_0b.2.2.2.2.2.2.1) (by decide)).to, ?_⟩
  refine List.forall_mem_cons.mpr ⟨s_vret (am_dp pw_X11_bringsSets_0 dd_X11_bringsSets_0b.2.2.2.2.2.2.2) rfl, ?_⟩
  exact fun _ h => absurd h List.not_mem_nil
theorem sn_tX11_isKind_0 : ∀ q ∈ tX11_isKind_0, am_Snd am_P0 RX11 cX11_isKind 4 (Option.some FieldType.boolean) "isKind" q.1 q.2 := by
  unfold tX11_isKind_0
  refine List.forall_mem_cons.mpr ⟨(s_aloadn (am_dp pw_X11_isKind_0 dd_X11_isKind_0a.1) rfl).to, ?_⟩
  refine List.forall_mem_cons.mpr ⟨(s_iloadn (am_dp pw_X11_isKind_0 dd_X11_isKind_0a.2.1) rfl).to, ?_⟩
  refine List.forall_mem_cons.mpr ⟨zw_cv228 (am_dp pw_X11_isKind_0 dd_X11_isKind_0a.2.2.1) wd1838, ?_⟩
  refine List.forall_mem_cons.mpr ⟨(s_if_ne (am_dp pw_X11_isKind_0 dd_X11_isKind_0a.2.2.2.1) (by decide)).to, ?_⟩
  refine List.forall_mem_cons.mpr ⟨(s_iconst (am_dp pw_X11_isKind_0 dd_X11_isKind_0a.2.2.2.2.1) (by decide)).to, ?_⟩
  refine List.forall_mem_cons.mpr ⟨s_zret (am_dp pw_X11_isKind_0 dd_X11_isKind_0a.2.2.2.2.2.1) rfl, ?_⟩
  refine List.forall_mem_cons.mpr ⟨(s_iloadn (am_dp pw_X11_isKind_0 dd_X11_isKind_0a.2.2.2.2.2.2.1) rfl).to, ?_⟩
  refine List.forall_mem_cons.mpr ⟨(s_iconst (am_dp pw_X11_isKind_0 dd_X11_isKind_0a.2.2.2.2.2.2.2) (by decide)).to, ?_⟩
  refine List.forall_mem_cons.mpr ⟨(s_icmp_ne (am_dp pw_X11_isKind_0 dd_X11_isKind_0b.1) (by decide)).to, ?_⟩
  refine List.forall_mem_cons.mpr ⟨(s_aloadn (am_dp pw_X11_isKind_0 dd_X11_isKind_0b.2.1) rfl).to, ?_⟩
  refine List.forall_mem_cons.mpr ⟨(s_iloadn (am_dp pw_X11_isKind_0 dd_X11_isKind_0b.2.2.1) rfl).to, ?_⟩
  refine List.forall_mem_cons.mpr ⟨zw_cv260 (am_dp pw_X11_isKind_0 dd_X11_isKind_0b.2.2.2.1) wd1962, ?_⟩
  refine List.forall_mem_cons.mpr ⟨(s_if_eq (am_dp pw_X11_isKind_0 dd_X11_isKind_0b.2.2.2.2.1) (by decide)).to, ?_⟩
  refine List.forall_mem_cons.mpr ⟨(s_iconst (am_dp pw_X11_isKind_0 dd_X11_isKind_0b.2.2.2.2.2.1) (by decide)).to, ?_⟩
  refine List.forall_mem_cons.mpr ⟨(s_goto (am_dp pw_X11_isKind_0 dd_X11_isKind_0b.2.2.2.2.2.2.1) (by decide)).to, ?_⟩
  refine List.forall_mem_cons.mpr ⟨(s_iconst (am_dp pw_X11_isKind_0 dd_X11_isKind_0b.2.2.2.2.2.2.2) (by decide)).to, ?_⟩
  refine List.forall_mem_cons.mpr ⟨s_zret (am_dp pw_X11_isKind_0 dd_X11_isKind_0c.1) rfl, ?_⟩
  refine List.forall_mem_cons.mpr ⟨(s_iloadn (am_dp pw_X11_isKind_0 dd_X11_isKind_0c.2.1) rfl).to, ?_⟩
  refine List.forall_mem_cons.mpr ⟨(s_iconst (am_dp pw_X11_isKind_0 dd_X11_isKind_0c.2.2.1) (by decide)).to, ?_⟩
  refine List.forall_mem_cons.mpr ⟨(s_icmp_ne (am_dp pw_X11_isKind_0 dd_X11_isKind_0c.2.2.2) (by decide)).to, ?_⟩
  refine List.forall_mem_cons.mpr ⟨(s_aloadn (am_dp pw_X11_isKind_32 dd_X11_isKind_32a.1) rfl).to, ?_⟩
  refine List.forall_mem_cons.mpr ⟨(s_iloadn (am_dp pw_X11_isKind_32 dd_X11_isKind_32a.2.1) rfl).to, ?_⟩
  refine List.forall_mem_cons.mpr ⟨zw_cv262 (am_dp pw_X11_isKind_32 dd_X11_isKind_32a.2.2.1) wd1974, ?_⟩
  refine List.forall_mem_cons.mpr ⟨s_zret (am_dp pw_X11_isKind_32 dd_X11_isKind_32a.2.2.2.1) rfl, ?_⟩
  refine List.forall_mem_cons.mpr ⟨(s_aloadn (am_dp pw_X11_isKind_32 dd_X11_isKind_32a.2.2.2.2.1) rfl).to, ?_⟩
  refine List.forall_mem_cons.mpr ⟨(s_iloadn (am_dp pw_X11_isKind_32 dd_X11_isKind_32a.2.2.2.2.2.1) rfl).to, ?_⟩
  refine List.forall_mem_cons.mpr ⟨zw_cv258 (am_dp pw_X11_isKind_32 dd_X11_isKind_32a.2.2.2.2.2.2.1) wd1990, ?_⟩
  refine List.forall_mem_cons.mpr ⟨(s_istoren (am_dp pw_X11_isKind_32 dd_X11_isKind_32a.2.2.2.2.2.2.2) rfl (by decide)).to, ?_⟩
  refine List.forall_mem_cons.mpr ⟨(s_iloadn (am_dp pw_X11_isKind_32 dd_X11_isKind_32b.1) rfl).to, ?_⟩
  refine List.forall_mem_cons.mpr ⟨(s_iconst (am_dp pw_X11_isKind_32 dd_X11_isKind_32b.2.1) (by decide)).to, ?_⟩
  refine List.forall_mem_cons.mpr ⟨(s_icmp_ne (am_dp pw_X11_isKind_32 dd_X11_isKind_32b.2.2.1) (by decide)).to, ?_⟩
  refine List.forall_mem_cons.mpr ⟨(s_aloadn (am_dp pw_X11_isKind_32 dd_X11_isKind_32b.2.2.2.1) rfl).to, ?_⟩
  refine List.forall_mem_cons.mpr ⟨(s_get (ci := 11) (k := 66) (am_dp pw_X11_isKind_32 dd_X11_isKind_32b.2.2.2.2.1) rfl (by decide) wd1399 inX11 rfl).to, ?_⟩
  refine List.forall_mem_cons.mpr ⟨(s_if_le (am_dp pw_X11_isKind_32 dd_X11_isKind_32b.2.2.2.2.2.1) (by decide)).to, ?_⟩
  refine List.forall_mem_cons.mpr ⟨(s_aloadn (am_dp pw_X11_isKind_32 dd_X11_isKind_32b.2.2.2.2.2.2.1) rfl).to, ?_⟩
  refine List.forall_mem_cons.mpr ⟨(s_get (ci := 11) (k := 66) (am_dp pw_X11_isKind_32 dd_X11_isKind_32b.2.2.2.2.2.2.2) rfl (by decide) wd1399 inX11 rfl).to, ?_⟩
  refine List.forall_mem_cons.mpr ⟨(s_aloadn (am_dp pw_X11_isKind_32 dd_X11_isKind_32c.1) rfl).to, ?_⟩
  refine List.forall_mem_cons.mpr ⟨(s_get (ci := 11) (k := 65) (am_dp pw_X11_isKind_32 dd_X11_isKind_32c.2) rfl (by decide) wd1398 inX11 rfl).to, ?_⟩
  refine List.forall_mem_cons.mpr ⟨(s_icmp_ge (am_dp pw_X11_isKind_64 dd_X11_isKind_64a.1) (by decide)).to, ?_⟩
  refine List.forall_mem_cons.mpr ⟨(s_iconst (am_dp pw_X11_isKind_64 dd_X11_isKind_64a.2.1) (by decide)).to, ?_⟩
  refine List.forall_mem_cons.mpr ⟨(s_goto (am_dp pw_X11_isKind_64 dd_X11_isKind_64a.2.2.1) (by decide)).to, ?_⟩
  refine List.forall_mem_cons.mpr ⟨(s_iconst (am_dp pw_X11_isKind_64 dd_X11_isKind_64a.2.2.2.1) (by decide)).to, ?_⟩
  refine List.forall_mem_cons.mpr ⟨s_zret (am_dp pw_X11_isKind_64 dd_X11_isKind_64a.2.2.2.2.1) rfl, ?_⟩
  refine List.forall_mem_cons.mpr ⟨(s_aloadn (am_dp pw_X11_isKind_64 dd_X11_isKind_64a.2.2.2.2.2.1) rfl).to, ?_⟩
  refine List.forall_mem_cons.mpr ⟨(s_get (ci := 11) (k := 66) (am_dp pw_X11_isKind_64 dd_X11_isKind_64a.2.2.2.2.2.2.1) rfl (by decide) wd1399 inX11 rfl).to, ?_⟩
  refine List.forall_mem_cons.mpr ⟨(s_aloadn (am_dp pw_X11_isKind_64 dd_X11_isKind_64a.2.2.2.2.2.2.2) rfl).to, ?_⟩
  refine List.forall_mem_cons.mpr ⟨(s_get (ci := 11) (k := 65) (am_dp pw_X11_isKind_64 dd_X11_isKind_64b.1) rfl (by decide) wd1398 inX11 rfl).to, ?_⟩
  refine List.forall_mem_cons.mpr ⟨(s_icmp_ne (am_dp pw_X11_isKind_64 dd_X11_isKind_64b.2.1) (by decide)).to, ?_⟩
  refine List.forall_mem_cons.mpr ⟨(s_iloadn (am_dp pw_X11_isKind_64 dd_X11_isKind_64b.2.2.1) rfl).to, ?_⟩
  refine List.forall_mem_cons.mpr ⟨(s_if_ne (am_dp pw_X11_isKind_64 dd_X11_isKind_64b.2.2.2.1) (by decide)).to, ?_⟩
  refine List.forall_mem_cons.mpr ⟨(s_iconst (am_dp pw_X11_isKind_64 dd_X11_isKind_64b.2.2.2.2.1) (by decide)).to, ?_⟩
  refine List.forall_mem_cons.mpr ⟨(s_goto (am_dp pw_X11_isKind_64 dd_X11_isKind_64b.2.2.2.2.2.1) (by decide)).to, ?_⟩
  refine List.forall_mem_cons.mpr ⟨(s_iconst (am_dp pw_X11_isKind_64 dd_X11_isKind_64b.2.2.2.2.2.2.1) (by decide)).to, ?_⟩
  refine List.forall_mem_cons.mpr ⟨(s_iloadn (am_dp pw_X11_isKind_64 dd_X11_isKind_64b.2.2.2.2.2.2.2) rfl).to, ?_⟩
  refine List.forall_mem_cons.mpr ⟨(s_if_ne (am_dp pw_X11_isKind_96 dd_X11_isKind_96a.1) (by decide)).to, ?_⟩
  refine List.forall_mem_cons.mpr ⟨(s_iconst (am_dp pw_X11_isKind_96 dd_X11_isKind_96a.2.1) (by decide)).to, ?_⟩
  refine List.forall_mem_cons.mpr ⟨(s_goto (am_dp pw_X11_isKind_96 dd_X11_isKind_96a.2.2.1) (by decide)).to, ?_⟩
  refine List.forall_mem_cons.mpr ⟨(s_iconst (am_dp pw_X11_isKind_96 dd_X11_isKind_96a.2.2.2.1) (by decide)).to, ?_⟩
  refine List.forall_mem_cons.mpr ⟨(s_icmp_ne (am_dp pw_X11_isKind_96 dd_X11_isKind_96a.2.2.2.2.1) (by decide)).to, ?_⟩
  refine List.forall_mem_cons.mpr ⟨(s_iconst (am_dp pw_X11_isKind_96 dd_X11_isKind_96a.2.2.2.2.2.1) (by decide)).to, ?_⟩
  exact fun _ h => absurd h List.not_mem_nil
theorem sn_tX11_isKind_1 : ∀ q ∈ tX11_isKind_1, am_Snd am_P0 RX11 cX11_isKind 4 (Option.some FieldType.boolean) "isKind" q.1 q.2 := by
  unfold tX11_isKind_1
  refine List.forall_mem_cons.mpr ⟨(s_goto (am_dp pw_X11_isKind_96 dd_X11_isKind_96a.2.2.2.2.2.2.1) (by decide)).to, ?_⟩
  refine List.forall_mem_cons.mpr ⟨(s_iconst (am_dp pw_X11_isKind_96 dd_X11_isKind_96a.2.2.2.2.2.2.2) (by decide)).to, ?_⟩
  refine List.forall_mem_cons.mpr ⟨s_zret (am_dp pw_X11_isKind_96 dd_X11_isKind_96b) rfl, ?_⟩
  exact fun _ h => absurd h List.not_mem_nil
theorem sn_tX11_isKind : ∀ q ∈ tX11_isKind, am_Snd am_P0 RX11 cX11_isKind 4 (Option.some FieldType.boolean) "isKind" q.1 q.2 := by
  unfold tX11_isKind
  exact List.forall_mem_append.mpr ⟨sn_tX11_isKind_0, sn_tX11_isKind_1⟩
theorem sn_tX11_judge : ∀ q ∈ tX11_judge, am_Snd am_P0 RX11 cX11_judge 3 (Option.some FieldType.int) "judge" q.1 q.2 := by
  unfold tX11_judge
  refine List.forall_mem_cons.mpr ⟨(s_aloadn (am_dp pw_X11_judge_0 dd_X11_judge_0a.1) rfl).to, ?_⟩
  refine List.forall_mem_cons.mpr ⟨(s_iloadn (am_dp pw_X11_judge_0 dd_X11_judge_0a.2.1) rfl).to, ?_⟩
  refine List.forall_mem_cons.mpr ⟨zw_cv220 (am_dp pw_X11_judge_0 dd_X11_judge_0a.2.2.1) wd1850, ?_⟩
  refine List.forall_mem_cons.mpr ⟨(s_if_eq (am_dp pw_X11_judge_0 dd_X11_judge_0a.2.2.2.1) (by decide)).to, ?_⟩
  refine List.forall_mem_cons.mpr ⟨(s_iloadn (am_dp pw_X11_judge_0 dd_X11_judge_0a.2.2.2.2.1) rfl).to, ?_⟩
  refine List.forall_mem_cons.mpr ⟨(s_iconst (am_dp pw_X11_judge_0 dd_X11_judge_0a.2.2.2.2.2.1) (by decide)).to, ?_⟩
  refine List.forall_mem_cons.mpr ⟨(s_iconst (am_dp pw_X11_judge_0 dd_X11_judge_0a.2.2.2.2.2.2.1) (by decide)).to, ?_⟩
  refine List.forall_mem_cons.mpr ⟨zw_cs167 (am_dp pw_X11_judge_0 dd_X11_judge_0a.2.2.2.2.2.2.2) wd1630, ?_⟩
  refine List.forall_mem_cons.mpr ⟨(s_if_ne (am_dp pw_X11_judge_0 dd_X11_judge_0b.1) (by decide)).to, ?_⟩
  refine List.forall_mem_cons.mpr ⟨(s_iconst (am_dp pw_X11_judge_0 dd_X11_judge_0b.2.1) (by decide)).to, ?_⟩
  refine List.forall_mem_cons.mpr ⟨(s_goto (am_dp pw_X11_judge_0 dd_X11_judge_0b.2.2.1) (by decide)).to, ?_⟩
  refine List.forall_mem_cons.mpr ⟨(s_aloadn (am_dp pw_X11_judge_0 dd_X11_judge_0b.2.2.2.1) rfl).to, ?_⟩
  refine List.forall_mem_cons.mpr ⟨(s_iloadn (am_dp pw_X11_judge_0 dd_X11_judge_0b.2.2.2.2.1) rfl).to, ?_⟩
  refine List.forall_mem_cons.mpr ⟨(s_iloadn (am_dp pw_X11_judge_0 dd_X11_judge_0b.2.2.2.2.2.1) rfl).to, ?_⟩
  refine List.forall_mem_cons.mpr ⟨zw_cv265 (am_dp pw_X11_judge_0 dd_X11_judge_0b.2.2.2.2.2.2.1) wd1958, ?_⟩
  refine List.forall_mem_cons.mpr ⟨(s_if_eq (am_dp pw_X11_judge_0 dd_X11_judge_0b.2.2.2.2.2.2.2) (by decide)).to, ?_⟩
  refine List.forall_mem_cons.mpr ⟨(s_iconst (am_dp pw_X11_judge_0 dd_X11_judge_0c.1) (by decide)).to, ?_⟩
  refine List.forall_mem_cons.mpr ⟨(s_goto (am_dp pw_X11_judge_0 dd_X11_judge_0c.2) (by decide)).to, ?_⟩
  refine List.forall_mem_cons.mpr ⟨(s_iconst (am_dp pw_X11_judge_32 dd_X11_judge_32a.1) (by decide)).to, ?_⟩
  refine List.forall_mem_cons.mpr ⟨s_iret (am_dp pw_X11_judge_32 dd_X11_judge_32a.2) rfl, ?_⟩
  exact fun _ h => absurd h List.not_mem_nil
theorem sn_tX11_taleOf : ∀ q ∈ tX11_taleOf, am_Snd am_P0 RX11 cX11_taleOf 5 (Option.some FieldType.int) "taleOf" q.1 q.2 := by
  unfold tX11_taleOf
  refine List.forall_mem_cons.mpr ⟨(s_iloadn (am_dp pw_X11_taleOf_0 dd_X11_taleOf_0a.1) rfl).to, ?_⟩
  refine List.forall_mem_cons.mpr ⟨(s_istoren (am_dp pw_X11_taleOf_0 dd_X11_taleOf_0a.2.1) rfl (by decide)).to, ?_⟩
  refine List.forall_mem_cons.mpr ⟨(s_iconst (am_dp pw_X11_taleOf_0 dd_X11_taleOf_0a.2.2.1) (by decide)).to, ?_⟩
  refine List.forall_mem_cons.mpr ⟨(s_istore (am_dp pw_X11_taleOf_0 dd_X11_taleOf_0a.2.2.2.1) (by decide)).to, ?_⟩
  refine List.forall_mem_cons.mpr ⟨(s_iload (am_dp pw_X11_taleOf_0 dd_X11_taleOf_0a.2.2.2.2.1)).to, ?_⟩
  refine List.forall_mem_cons.mpr ⟨(s_iconst (am_dp pw_X11_taleOf_0 dd_X11_taleOf_0a.2.2.2.2.2.1) (by decide)).to, ?_⟩
  refine List.forall_mem_cons.mpr ⟨(s_icmp_gt (am_dp pw_X11_taleOf_0 dd_X11_taleOf_0a.2.2.2.2.2.2.1) (by decide)).to, ?_⟩
  refine List.forall_mem_cons.mpr ⟨(s_iloadn (am_dp pw_X11_taleOf_0 dd_X11_taleOf_0a.2.2.2.2.2.2.2) rfl).to, ?_⟩
  refine List.forall_mem_cons.mpr ⟨(s_if_lt (am_dp pw_X11_taleOf_0 dd_X11_taleOf_0b.1) (by decide)).to, ?_⟩
  refine List.forall_mem_cons.mpr ⟨(s_aloadn (am_dp pw_X11_taleOf_0 dd_X11_taleOf_0b.2.1) rfl).to, ?_⟩
  refine List.forall_mem_cons.mpr ⟨(s_iloadn (am_dp pw_X11_taleOf_0 dd_X11_taleOf_0b.2.2.1) rfl).to, ?_⟩
  refine List.forall_mem_cons.mpr ⟨(s_iload (am_dp pw_X11_taleOf_0 dd_X11_taleOf_0b.2.2.2.1)).to, ?_⟩
  refine List.forall_mem_cons.mpr ⟨zw_cv265 (am_dp pw_X11_taleOf_0 dd_X11_taleOf_0b.2.2.2.2.1) wd1958, ?_⟩
  refine List.forall_mem_cons.mpr ⟨(s_if_ne (am_dp pw_X11_taleOf_0 dd_X11_taleOf_0b.2.2.2.2.2.1) (by decide)).to, ?_⟩
  refine List.forall_mem_cons.mpr ⟨(s_goto (am_dp pw_X11_taleOf_0 dd_X11_taleOf_0b.2.2.2.2.2.2.1) (by decide)).to, ?_⟩
  refine List.forall_mem_cons.mpr ⟨(s_iloadn (am_dp pw_X11_taleOf_0 dd_X11_taleOf_0b.2.2.2.2.2.2.2) rfl).to, ?_⟩
  refine List.forall_mem_cons.mpr ⟨(s_if_ne (am_dp pw_X11_taleOf_0 dd_X11_taleOf_0c) (by decide)).to, ?_⟩
  refine List.forall_mem_cons.mpr ⟨(s_iload (am_dp pw_X11_taleOf_32 dd_X11_taleOf_32a.1)).to, ?_⟩
  refine List.forall_mem_cons.mpr ⟨s_iret (am_dp pw_X11_taleOf_32 dd_X11_taleOf_32a.2.1) rfl, ?_⟩
  refine List.forall_mem_cons.mpr ⟨(s_iinc (am_dp pw_X11_taleOf_32 dd_X11_taleOf_32a.2.2.1) (by decide) (by decide)).to, ?_⟩
  refine List.forall_mem_cons.mpr ⟨(s_iinc (am_dp pw_X11_taleOf_32 dd_X11_taleOf_32a.2.2.2.1) (by decide) (by decide)).to, ?_⟩
  refine List.forall_mem_cons.mpr ⟨(s_goto (am_dp pw_X11_taleOf_32 dd_X11_taleOf_32a.2.2.2.2.1) (by decide)).to, ?_⟩
  refine List.forall_mem_cons.mpr ⟨(s_iconst (am_dp pw_X11_taleOf_32 dd_X11_taleOf_32a.2.2.2.2.2.1) (by decide)).to, ?_⟩
  refine List.forall_mem_cons.mpr ⟨s_iret (am_dp pw_X11_taleOf_32 dd_X11_taleOf_32a.2.2.2.2.2.2) rfl, ?_⟩
  exact fun _ h => absurd h List.not_mem_nil
theorem sn_tX11_tale : ∀ q ∈ tX11_tale, am_Snd am_P0 RX11 cX11_tale 3 (Option.some FieldType.int) "tale" q.1 q.2 := by
  unfold tX11_tale
  refine List.forall_mem_cons.mpr ⟨(s_aloadn (am_dp pw_X11_tale_0 dd_X11_tale_0a.1) rfl).to, ?_⟩
  refine List.forall_mem_cons.mpr ⟨(s_iloadn (am_dp pw_X11_tale_0 dd_X11_tale_0a.2.1) rfl).to, ?_⟩
  refine List.forall_mem_cons.mpr ⟨zw_cv220 (am_dp pw_X11_tale_0 dd_X11_tale_0a.2.2.1) wd1850, ?_⟩
  refine List.forall_mem_cons.mpr ⟨(s_if_eq (am_dp pw_X11_tale_0 dd_X11_tale_0a.2.2.2.1) (by decide)).to, ?_⟩
  refine List.forall_mem_cons.mpr ⟨(s_aloadn (am_dp pw_X11_tale_0 dd_X11_tale_0a.2.2.2.2.1) rfl).to, ?_⟩
  refine List.forall_mem_cons.mpr ⟨(s_iloadn (am_dp pw_X11_tale_0 dd_X11_tale_0a.2.2.2.2.2.1) rfl).to, ?_⟩
  refine List.forall_mem_cons.mpr ⟨(s_iloadn (am_dp pw_X11_tale_0 dd_X11_tale_0a.2.2.2.2.2.2.1) rfl).to, ?_⟩
  refine List.forall_mem_cons.mpr ⟨zw_cv267 (am_dp pw_X11_tale_0 dd_X11_tale_0a.2.2.2.2.2.2.2) wd2002, ?_⟩
  refine List.forall_mem_cons.mpr ⟨(s_goto (am_dp pw_X11_tale_0 dd_X11_tale_0b.1) (by decide)).to, ?_⟩
  refine List.forall_mem_cons.mpr ⟨(s_iconst (am_dp pw_X11_tale_0 dd_X11_tale_0b.2.1) (by decide)).to, ?_⟩
  refine List.forall_mem_cons.mpr ⟨s_iret (am_dp pw_X11_tale_0 dd_X11_tale_0b.2.2) rfl, ?_⟩
  exact fun _ h => absurd h List.not_mem_nil
theorem sn_tX11_bars : ∀ q ∈ tX11_bars, am_Snd am_P0 RX11 cX11_bars 5 (Option.some FieldType.int) "bars" q.1 q.2 := by
  unfold tX11_bars
  refine List.forall_mem_cons.mpr ⟨(s_aloadn (am_dp pw_X11_bars_0 dd_X11_bars_0a.1) rfl).to, ?_⟩
  refine List.forall_mem_cons.mpr ⟨(s_iloadn (am_dp pw_X11_bars_0 dd_X11_bars_0a.2.1) rfl).to, ?_⟩
  refine List.forall_mem_cons.mpr ⟨zw_cv220 (am_dp pw_X11_bars_0 dd_X11_bars_0a.2.2.1) wd1850, ?_⟩
  refine List.forall_mem_cons.mpr ⟨(s_if_ne (am_dp pw_X11_bars_0 dd_X11_bars_0a.2.2.2.1) (by decide)).to, ?_⟩
  refine List.forall_mem_cons.mpr ⟨(s_iconst (am_dp pw_X11_bars_0 dd_X11_bars_0a.2.2.2.2.1) (by decide)).to, ?_⟩
  refine List.forall_mem_cons.mpr ⟨s_iret (am_dp pw_X11_bars_0 dd_X11_bars_0a.2.2.2.2.2.1) rfl, ?_⟩
  refine List.forall_mem_cons.mpr ⟨(s_aloadn (am_dp pw_X11_bars_0 dd_X11_bars_0a.2.2.2.2.2.2.1) rfl).to, ?_⟩
  refine List.forall_mem_cons.mpr ⟨(s_iloadn (am_dp pw_X11_bars_0 dd_X11_bars_0a.2.2.2.2.2.2.2) rfl).to, ?_⟩
  refine List.forall_mem_cons.mpr ⟨zw_cv245 (am_dp pw_X11_bars_0 dd_X11_bars_0b.1) wd1883, ?_⟩
  refine List.forall_mem_cons.mpr ⟨(s_istoren (am_dp pw_X11_bars_0 dd_X11_bars_0b.2.1) rfl (by decide)).to, ?_⟩
  refine List.forall_mem_cons.mpr ⟨(s_aloadn (am_dp pw_X11_bars_0 dd_X11_bars_0b.2.2.1) rfl).to, ?_⟩
  refine List.forall_mem_cons.mpr ⟨(s_iloadn (am_dp pw_X11_bars_0 dd_X11_bars_0b.2.2.2.1) rfl).to, ?_⟩
  refine List.forall_mem_cons.mpr ⟨zw_cv247 (am_dp pw_X11_bars_0 dd_X11_bars_0b.2.2.2.2.1) wd1906, ?_⟩
  refine List.forall_mem_cons.mpr ⟨(s_iconst (am_dp pw_X11_bars_0 dd_X11_bars_0b.2.2.2.2.2.1) (by decide)).to, ?_⟩
  refine List.forall_mem_cons.mpr ⟨(s_istoren (am_dp pw_X11_bars_0 dd_X11_bars_0b.2.2.2.2.2.2.1) rfl (by decide)).to, ?_⟩
  refine List.forall_mem_cons.mpr ⟨(s_iloadn (am_dp pw_X11_bars_0 dd_X11_bars_0b.2.2.2.2.2.2.2) rfl).to, ?_⟩
  refine List.forall_mem_cons.mpr ⟨(s_aloadn (am_dp pw_X11_bars_0 dd_X11_bars_0c.1) rfl).to, ?_⟩
  refine List.forall_mem_cons.mpr ⟨(s_get (ci := 11) (k := 65) (am_dp pw_X11_bars_0 dd_X11_bars_0c.2.1) rfl (by decide) wd1398 inX11 rfl).to, ?_⟩
  refine List.forall_mem_cons.mpr ⟨(s_icmp_ge (am_dp pw_X11_bars_0 dd_X11_bars_0c.2.2.1) (by decide)).to, ?_⟩
  refine List.forall_mem_cons.mpr ⟨(s_iloadn (am_dp pw_X11_bars_0 dd_X11_bars_0c.2.2.2) rfl).to, ?_⟩
  refine List.forall_mem_cons.mpr ⟨(s_if_eq (am_dp pw_X11_bars_32 dd_X11_bars_32a.1) (by decide)).to, ?_⟩
  refine List.forall_mem_cons.mpr ⟨(s_aloadn (am_dp pw_X11_bars_32 dd_X11_bars_32a.2.1) rfl).to, ?_⟩
  refine List.forall_mem_cons.mpr ⟨(s_get (ci := 11) (k := 68) (am_dp pw_X11_bars_32 dd_X11_bars_32a.2.2.1) rfl (by decide) wd1401 inX11 rfl).to, ?_⟩
  refine List.forall_mem_cons.mpr ⟨(s_iloadn (am_dp pw_X11_bars_32 dd_X11_bars_32a.2.2.2.1) rfl).to, ?_⟩
  refine List.forall_mem_cons.mpr ⟨(s_zald (am_dp pw_X11_bars_32 dd_X11_bars_32a.2.2.2.2.1)).to, ?_⟩
  refine List.forall_mem_cons.mpr ⟨(s_if_eq (am_dp pw_X11_bars_32 dd_X11_bars_32a.2.2.2.2.2.1) (by decide)).to, ?_⟩
  refine List.forall_mem_cons.mpr ⟨(s_iconst (am_dp pw_X11_bars_32 dd_X11_bars_32a.2.2.2.2.2.2.1) (by decide)).to, ?_⟩
  refine List.forall_mem_cons.mpr ⟨(s_goto (am_dp pw_X11_bars_32 dd_X11_bars_32a.2.2.2.2.2.2.2) (by decide)).to, ?_⟩
  refine List.forall_mem_cons.mpr ⟨(s_iconst (am_dp pw_X11_bars_32 dd_X11_bars_32b.1) (by decide)).to, ?_⟩
  refine List.forall_mem_cons.mpr ⟨(s_istoren (am_dp pw_X11_bars_32 dd_X11_bars_32b.2.1) rfl (by decide)).to, ?_⟩
  refine List.forall_mem_cons.mpr ⟨(s_iconst (am_dp pw_X11_bars_32 dd_X11_bars_32b.2.2.1) (by decide)).to, ?_⟩
  refine List.forall_mem_cons.mpr ⟨(s_istore (am_dp pw_X11_bars_32 dd_X11_bars_32b.2.2.2.1) (by decide)).to, ?_⟩
  refine List.forall_mem_cons.mpr ⟨(s_iload (am_dp pw_X11_bars_32 dd_X11_bars_32b.2.2.2.2.1)).to, ?_⟩
  refine List.forall_mem_cons.mpr ⟨(s_iloadn (am_dp pw_X11_bars_32 dd_X11_bars_32b.2.2.2.2.2.1) rfl).to, ?_⟩
  refine List.forall_mem_cons.mpr ⟨(s_icmp_ge (am_dp pw_X11_bars_32 dd_X11_bars_32b.2.2.2.2.2.2.1) (by decide)).to, ?_⟩
  refine List.forall_mem_cons.mpr ⟨(s_iloadn (am_dp pw_X11_bars_32 dd_X11_bars_32b.2.2.2.2.2.2.2) rfl).to, ?_⟩
  refine List.forall_mem_cons.mpr ⟨(s_if_eq (am_dp pw_X11_bars_32 dd_X11_bars_32c.1) (by decide)).to, ?_⟩
  refine List.forall_mem_cons.mpr ⟨(s_aloadn (am_dp pw_X11_bars_32 dd_X11_bars_32c.2) rfl).to, ?_⟩
  refine List.forall_mem_cons.mpr ⟨(s_get (ci := 11) (k := 70) (am_dp pw_X11_bars_64 dd_X11_bars_64a.1) rfl (by decide) wd1403 inX11 rfl).to, ?_⟩
  refine List.forall_mem_cons.mpr ⟨(s_bipush (am_dp pw_X11_bars_64 dd_X11_bars_64a.2.1) (by decide)).to, ?_⟩
  refine List.forall_mem_cons.mpr ⟨(s_iloadn (am_dp pw_X11_bars_64 dd_X11_bars_64a.2.2.1) rfl).to, ?_⟩
  refine List.forall_mem_cons.mpr ⟨(s_imul (am_dp pw_X11_bars_64 dd_X11_bars_64a.2.2.2.1)).to, ?_⟩
  refine List.forall_mem_cons.mpr ⟨(s_iload (am_dp pw_X11_bars_64 dd_X11_bars_64a.2.2.2.2.1)).to, ?_⟩
  refine List.forall_mem_cons.mpr ⟨(s_iadd (am_dp pw_X11_bars_64 dd_X11_bars_64a.2.2.2.2.2.1)).to, ?_⟩
  refine List.forall_mem_cons.mpr ⟨(s_zald (am_dp pw_X11_bars_64 dd_X11_bars_64a.2.2.2.2.2.2.1)).to, ?_⟩
  refine List.forall_mem_cons.mpr ⟨(s_if_eq (am_dp pw_X11_bars_64 dd_X11_bars_64a.2.2.2.2.2.2.2) (by decide)).to, ?_⟩
  refine List.forall_mem_cons.mpr ⟨(s_iconst (am_dp pw_X11_bars_64 dd_X11_bars_64b.1) (by decide)).to, ?_⟩
  refine List.forall_mem_cons.mpr ⟨(s_goto (am_dp pw_X11_bars_64 dd_X11_bars_64b.2.1) (by decide)).to, ?_⟩
  refine List.forall_mem_cons.mpr ⟨(s_iconst (am_dp pw_X11_bars_64 dd_X11_bars_64b.2.2.1) (by decide)).to, ?_⟩
  refine List.forall_mem_cons.mpr ⟨(s_istoren (am_dp pw_X11_bars_64 dd_X11_bars_64b.2.2.2.1) rfl (by decide)).to, ?_⟩
  refine List.forall_mem_cons.mpr ⟨(s_iinc (am_dp pw_X11_bars_64 dd_X11_bars_64b.2.2.2.2.1) (by decide) (by decide)).to, ?_⟩
  refine List.forall_mem_cons.mpr ⟨(s_goto (am_dp pw_X11_bars_64 dd_X11_bars_64b.2.2.2.2.2.1) (by decide)).to, ?_⟩
  refine List.forall_mem_cons.mpr ⟨(s_iloadn (am_dp pw_X11_bars_64 dd_X11_bars_64b.2.2.2.2.2.2.1) rfl).to, ?_⟩
  refine List.forall_mem_cons.mpr ⟨(s_if_ne (am_dp pw_X11_bars_64 dd_X11_bars_64b.2.2.2.2.2.2.2) (by decide)).to, ?_⟩
  refine List.forall_mem_cons.mpr ⟨(s_iloadn (am_dp pw_X11_bars_64 dd_X11_bars_64c.1) rfl).to, ?_⟩
  refine List.forall_mem_cons.mpr ⟨s_iret (am_dp pw_X11_bars_64 dd_X11_bars_64c.2) rfl, ?_⟩
  refine List.forall_mem_cons.mpr ⟨(s_iinc (am_dp pw_X11_bars_96 dd_X11_bars_96a.1) (by decide) (by decide)).to, ?_⟩
  refine List.forall_mem_cons.mpr ⟨(s_goto (am_dp pw_X11_bars_96 dd_X11_bars_96a.2.1) (by decide)).to, ?_⟩
  refine List.forall_mem_cons.mpr ⟨(s_iconst (am_dp pw_X11_bars_96 dd_X11_bars_96a.2.2.1) (by decide)).to, ?_⟩
  refine List.forall_mem_cons.mpr ⟨s_iret (am_dp pw_X11_bars_96 dd_X11_bars_96a.2.2.2) rfl, ?_⟩
  exact fun _ h => absurd h List.not_mem_nil
theorem sn_tX11_clash_0 : ∀ q ∈ tX11_clash_0, am_Snd am_P0 RX11 cX11_clash 8 (Option.some FieldType.int) "clash" q.1 q.2 := by
  unfold tX11_clash_0
  refine List.forall_mem_cons.mpr ⟨(s_aloadn (am_dp pw_X11_clash_0 dd_X11_clash_0a.1) rfl).to, ?_⟩
  refine List.forall_mem_cons.mpr ⟨(s_iloadn (am_dp pw_X11_clash_0 dd_X11_clash_0a.2.1) rfl).to, ?_⟩
  refine List.forall_mem_cons.mpr ⟨zw_cv220 (am_dp pw_X11_clash_0 dd_X11_clash_0a.2.2.1) wd1850, ?_⟩
  refine List.forall_mem_cons.mpr ⟨(s_if_eq (am_dp pw_X11_clash_0 dd_X11_clash_0a.2.2.2.1) (by decide)).to, ?_⟩
  refine List.forall_mem_cons.mpr ⟨(s_iloadn (am_dp pw_X11_clash_0 dd_X11_clash_0a.2.2.2.2.1) rfl).to, ?_⟩
  refine List.forall_mem_cons.mpr ⟨(s_iconst (am_dp pw_X11_clash_0 dd_X11_clash_0a.2.2.2.2.2.1) (by decide)).to, ?_⟩
  refine List.forall_mem_cons.mpr ⟨(s_iconst (am_dp pw_X11_clash_0 dd_X11_clash_0a.2.2.2.2.2.2.1) (by decide)).to, ?_⟩
  refine List.forall_mem_cons.mpr ⟨zw_cs167 (am_dp pw_X11_clash_0 dd_X11_clash_0a.2.2.2.2.2.2.2) wd1630, ?_⟩
  refine List.forall_mem_cons.mpr ⟨(s_if_ne (am_dp pw_X11_clash_0 dd_X11_clash_0b.1) (by decide)).to, ?_⟩
  refine List.forall_mem_cons.mpr ⟨(s_iconst (am_dp pw_X11_clash_0 dd_X11_clash_0b.2.1) (by decide)).to, ?_⟩
  refine List.forall_mem_cons.mpr ⟨s_iret (am_dp pw_X11_clash_0 dd_X11_clash_0b.2.2.1) rfl, ?_⟩
  refine List.forall_mem_cons.mpr ⟨(s_aloadn (am_dp pw_X11_clash_0 dd_X11_clash_0b.2.2.2.1) rfl).to, ?_⟩
  refine List.forall_mem_cons.mpr ⟨(s_iloadn (am_dp pw_X11_clash_0 dd_X11_clash_0b.2.2.2.2.1) rfl).to, ?_⟩
  refine List.forall_mem_cons.mpr ⟨zw_cv247 (am_dp pw_X11_clash_0 dd_X11_clash_0b.2.2.2.2.2.1) wd1906, ?_⟩
  refine List.forall_mem_cons.mpr ⟨(s_iconst (am_dp pw_X11_clash_0 dd_X11_clash_0b.2.2.2.2.2.2.1) (by decide)).to, ?_⟩
  refine List.forall_mem_cons.mpr ⟨(s_istoren (am_dp pw_X11_clash_0 dd_X11_clash_0b.2.2.2.2.2.2.2) rfl (by decide)).to, ?_⟩
  refine List.forall_mem_cons.mpr ⟨(s_iconst (am_dp pw_X11_clash_0 dd_X11_clash_0c.1) (by decide)).to, ?_⟩
  refine List.forall_mem_cons.mpr ⟨(s_istore (am_dp pw_X11_clash_0 dd_X11_clash_0c.2.1) (by decide)).to, ?_⟩
  refine List.forall_mem_cons.mpr ⟨(s_iconst (am_dp pw_X11_clash_0 dd_X11_clash_0c.2.2.1) (by decide)).to, ?_⟩
  refine List.forall_mem_cons.mpr ⟨(s_istore (am_dp pw_X11_clash_0 dd_X11_clash_0c.2.2.2) (by decide)).to, ?_⟩
  refine List.forall_mem_cons.mpr ⟨(s_iconst (am_dp pw_X11_clash_32 dd_X11_clash_32a.1) (by decide)).to, ?_⟩
  refine List.forall_mem_cons.mpr ⟨(s_istore (am_dp pw_X11_clash_32 dd_X11_clash_32a.2.1) (by decide)).to, ?_⟩
  refine List.forall_mem_cons.mpr ⟨(s_iload (am_dp pw_X11_clash_32 dd_X11_clash_32a.2.2.1)).to, ?_⟩
  refine List.forall_mem_cons.mpr ⟨(s_aloadn (am_dp pw_X11_clash_32 dd_X11_clash_32a.2.2.2.1) rfl).to, ?_⟩
  refine List.forall_mem_cons.mpr ⟨(s_get (ci := 11) (k := 65) (am_dp pw_X11_clash_32 dd_X11_clash_32a.2.2.2.2.1) rfl (by decide) wd1398 inX11 rfl).to, ?_⟩
  refine List.forall_mem_cons.mpr ⟨(s_icmp_ge (am_dp pw_X11_clash_32 dd_X11_clash_32a.2.2.2.2.2.1) (by decide)).to, ?_⟩
  refine List.forall_mem_cons.mpr ⟨(s_iloadn (am_dp pw_X11_clash_32 dd_X11_clash_32a.2.2.2.2.2.2.1) rfl).to, ?_⟩
  refine List.forall_mem_cons.mpr ⟨(s_iconst (am_dp pw_X11_clash_32 dd_X11_clash_32a.2.2.2.2.2.2.2) (by decide)).to, ?_⟩
  refine List.forall_mem_cons.mpr ⟨(s_icmp_ne (am_dp pw_X11_clash_32 dd_X11_clash_32b.1) (by decide)).to, ?_⟩
  refine List.forall_mem_cons.mpr ⟨(s_aloadn (am_dp pw_X11_clash_32 dd_X11_clash_32b.2.1) rfl).to, ?_⟩
  refine List.forall_mem_cons.mpr ⟨(s_get (ci := 11) (k := 68) (am_dp pw_X11_clash_32 dd_X11_clash_32b.2.2.1) rfl (by decide) wd1401 inX11 rfl).to, ?_⟩
  refine List.forall_mem_cons.mpr ⟨(s_iload (am_dp pw_X11_clash_32 dd_X11_clash_32b.2.2.2.1)).to, ?_⟩
  refine List.forall_mem_cons.mpr ⟨(s_zald (am_dp pw_X11_clash_32 dd_X11_clash_32b.2.2.2.2.1)).to, ?_⟩
  refine List.forall_mem_cons.mpr ⟨(s_if_ne (am_dp pw_X11_clash_32 dd_X11_clash_32b.2.2.2.2.2.1) (by decide)).to, ?_⟩
  refine List.forall_mem_cons.mpr ⟨(s_iload (am_dp pw_X11_clash_32 dd_X11_clash_32b.2.2.2.2.2.2.1)).to, ?_⟩
  refine List.forall_mem_cons.mpr ⟨(s_goto (am_dp pw_X11_clash_32 dd_X11_clash_32b.2.2.2.2.2.2.2) (by decide)).to, ?_⟩
  refine List.forall_mem_cons.mpr ⟨(s_iloadn (am_dp pw_X11_clash_64 dd_X11_clash_64a.1) rfl).to, ?_⟩
  refine List.forall_mem_cons.mpr ⟨(s_istoren (am_dp pw_X11_clash_64 dd_X11_clash_64a.2.1) rfl (by decide)).to, ?_⟩
  refine List.forall_mem_cons.mpr ⟨(s_iconst (am_dp pw_X11_clash_64 dd_X11_clash_64a.2.2.1) (by decide)).to, ?_⟩
  refine List.forall_mem_cons.mpr ⟨(s_istore (am_dp pw_X11_clash_64 dd_X11_clash_64a.2.2.2.1) (by decide)).to, ?_⟩
  refine List.forall_mem_cons.mpr ⟨(s_iload (am_dp pw_X11_clash_64 dd_X11_clash_64a.2.2.2.2.1)).to, ?_⟩
  refine List.forall_mem_cons.mpr ⟨(s_iload (am_dp pw_X11_clash_64 dd_X11_clash_64a.2.2.2.2.2.1)).to, ?_⟩
  refine List.forall_mem_cons.mpr ⟨(s_icmp_ge (am_dp pw_X11_clash_64 dd_X11_clash_64a.2.2.2.2.2.2.1) (by decide)).to, ?_⟩
  refine List.forall_mem_cons.mpr ⟨(s_iload (am_dp pw_X11_clash_64 dd_X11_clash_64a.2.2.2.2.2.2.2)).to, ?_⟩
  refine List.forall_mem_cons.mpr ⟨(s_iconst (am_dp pw_X11_clash_64 dd_X11_clash_64b.1) (by decide)).to, ?_⟩
  refine List.forall_mem_cons.mpr ⟨(s_icmp_ne (am_dp pw_X11_clash_64 dd_X11_clash_64b.2.1) (by decide)).to, ?_⟩
  refine List.forall_mem_cons.mpr ⟨(s_aloadn (am_dp pw_X11_clash_64 dd_X11_clash_64b.2.2.1) rfl).to, ?_⟩
  refine List.forall_mem_cons.mpr ⟨(s_get (ci := 11) (k := 70) (am_dp pw_X11_clash_64 dd_X11_clash_64b.2.2.2.1) rfl (by decide) wd1403 inX11 rfl).to, ?_⟩
  refine List.forall_mem_cons.mpr ⟨(s_bipush (am_dp pw_X11_clash_64 dd_X11_clash_64b.2.2.2.2.1) (by decide)).to, ?_⟩
  refine List.forall_mem_cons.mpr ⟨(s_iload (am_dp pw_X11_clash_64 dd_X11_clash_64b.2.2.2.2.2.1)).to, ?_⟩
  refine List.forall_mem_cons.mpr ⟨(s_imul (am_dp pw_X11_clash_64 dd_X11_clash_64b.2.2.2.2.2.2.1)).to, ?_⟩
  refine List.forall_mem_cons.mpr ⟨(s_iload (am_dp pw_X11_clash_64 dd_X11_clash_64b.2.2.2.2.2.2.2)).to, ?_⟩
  refine List.forall_mem_cons.mpr ⟨(s_iadd (am_dp pw_X11_clash_64 dd_X11_clash_64c.1)).to, ?_⟩
  refine List.forall_mem_cons.mpr ⟨(s_zald (am_dp pw_X11_clash_64 dd_X11_clash_64c.2.1)).to, ?_⟩
  refine List.forall_mem_cons.mpr ⟨(s_if_eq (am_dp pw_X11_clash_64 dd_X11_clash_64c.2.2) (by decide)).to, ?_⟩
  refine List.forall_mem_cons.mpr ⟨(s_goto (am_dp pw_X11_clash_96 dd_X11_clash_96a.1) (by decide)).to, ?_⟩
  refine List.forall_mem_cons.mpr ⟨(s_iload (am_dp pw_X11_clash_96 dd_X11_clash_96a.2.1)).to, ?_⟩
  refine List.forall_mem_cons.mpr ⟨(s_istore (am_dp pw_X11_clash_96 dd_X11_clash_96a.2.2.1) (by decide)).to, ?_⟩
  refine List.forall_mem_cons.mpr ⟨(s_iload (am_dp pw_X11_clash_96 dd_X11_clash_96a.2.2.2.1)).to, ?_⟩
  refine List.forall_mem_cons.mpr ⟨(s_istore (am_dp pw_X11_clash_96 dd_X11_clash_96a.2.2.2.2.1) (by decide)).to, ?_⟩
  exact fun _ h => absurd h List.not_mem_nil
theorem sn_tX11_clash_1 : ∀ q ∈ tX11_clash_1, am_Snd am_P0 RX11 cX11_clash 8 (Option.some FieldType.int) "clash" q.1 q.2 := by
  unfold tX11_clash_1
  refine List.forall_mem_cons.mpr ⟨(s_iinc (am_dp pw_X11_clash_96 dd_X11_clash_96a.2.2.2.2.2.1) (by decide) (by decide)).to, ?_⟩
  refine List.forall_mem_cons.mpr ⟨(s_goto (am_dp pw_X11_clash_96 dd_X11_clash_96a.2.2.2.2.2.2.1) (by decide)).to, ?_⟩
  refine List.forall_mem_cons.mpr ⟨(s_iinc (am_dp pw_X11_clash_96 dd_X11_clash_96a.2.2.2.2.2.2.2) (by decide) (by decide)).to, ?_⟩
  refine List.forall_mem_cons.mpr ⟨(s_goto (am_dp pw_X11_clash_96 dd_X11_clash_96b.1) (by decide)).to, ?_⟩
  refine List.forall_mem_cons.mpr ⟨(s_iloadn (am_dp pw_X11_clash_96 dd_X11_clash_96b.2.1) rfl).to, ?_⟩
  refine List.forall_mem_cons.mpr ⟨(s_iconst (am_dp pw_X11_clash_96 dd_X11_clash_96b.2.2.1) (by decide)).to, ?_⟩
  refine List.forall_mem_cons.mpr ⟨(s_icmp_eq (am_dp pw_X11_clash_96 dd_X11_clash_96b.2.2.2.1) (by decide)).to, ?_⟩
  refine List.forall_mem_cons.mpr ⟨(s_iload (am_dp pw_X11_clash_96 dd_X11_clash_96b.2.2.2.2)).to, ?_⟩
  refine List.forall_mem_cons.mpr ⟨(s_iconst (am_dp pw_X11_clash_128 dd_X11_clash_128a.1) (by decide)).to, ?_⟩
  refine List.forall_mem_cons.mpr ⟨(s_icmp_eq (am_dp pw_X11_clash_128 dd_X11_clash_128a.2.1) (by decide)).to, ?_⟩
  refine List.forall_mem_cons.mpr ⟨(s_iloadn (am_dp pw_X11_clash_128 dd_X11_clash_128a.2.2.1) rfl).to, ?_⟩
  refine List.forall_mem_cons.mpr ⟨(s_iload (am_dp pw_X11_clash_128 dd_X11_clash_128a.2.2.2.1)).to, ?_⟩
  refine List.forall_mem_cons.mpr ⟨(s_icmp_gt (am_dp pw_X11_clash_128 dd_X11_clash_128a.2.2.2.2.1) (by decide)).to, ?_⟩
  refine List.forall_mem_cons.mpr ⟨(s_iconst (am_dp pw_X11_clash_128 dd_X11_clash_128a.2.2.2.2.2.1) (by decide)).to, ?_⟩
  refine List.forall_mem_cons.mpr ⟨(s_goto (am_dp pw_X11_clash_128 dd_X11_clash_128a.2.2.2.2.2.2.1) (by decide)).to, ?_⟩
  refine List.forall_mem_cons.mpr ⟨(s_iconst (am_dp pw_X11_clash_128 dd_X11_clash_128a.2.2.2.2.2.2.2) (by decide)).to, ?_⟩
  refine List.forall_mem_cons.mpr ⟨(s_istore (am_dp pw_X11_clash_128 dd_X11_clash_128b.1) (by decide)).to, ?_⟩
  refine List.forall_mem_cons.mpr ⟨(s_iload (am_dp pw_X11_clash_128 dd_X11_clash_128b.2.1)).to, ?_⟩
  refine List.forall_mem_cons.mpr ⟨(s_if_ne (am_dp pw_X11_clash_128 dd_X11_clash_128b.2.2.1) (by decide)).to, ?_⟩
  refine List.forall_mem_cons.mpr ⟨(s_iload (am_dp pw_X11_clash_128 dd_X11_clash_128b.2.2.2.1)).to, ?_⟩
  refine List.forall_mem_cons.mpr ⟨(s_iconst (am_dp pw_X11_clash_128 dd_X11_clash_128b.2.2.2.2.1) (by decide)).to, ?_⟩
  refine List.forall_mem_cons.mpr ⟨(s_icmp_ne (am_dp pw_X11_clash_128 dd_X11_clash_128b.2.2.2.2.2.1) (by decide)).to, ?_⟩
  refine List.forall_mem_cons.mpr ⟨(s_iconst (am_dp pw_X11_clash_128 dd_X11_clash_128b.2.2.2.2.2.2.1) (by decide)).to, ?_⟩
  refine List.forall_mem_cons.mpr ⟨s_iret (am_dp pw_X11_clash_128 dd_X11_clash_128b.2.2.2.2.2.2.2) rfl, ?_⟩
  refine List.forall_mem_cons.mpr ⟨(s_iload (am_dp pw_X11_clash_128 dd_X11_clash_128c)).to, ?_⟩
  refine List.forall_mem_cons.mpr ⟨(s_if_eq (am_dp pw_X11_clash_160 dd_X11_clash_160a.1) (by decide)).to, ?_⟩
  refine List.forall_mem_cons.mpr ⟨(s_iloadn (am_dp pw_X11_clash_160 dd_X11_clash_160a.2.1) rfl).to, ?_⟩
  refine List.forall_mem_cons.mpr ⟨(s_if_ne (am_dp pw_X11_clash_160 dd_X11_clash_160a.2.2.1) (by decide)).to, ?_⟩
  refine List.forall_mem_cons.mpr ⟨(s_iconst (am_dp pw_X11_clash_160 dd_X11_clash_160a.2.2.2.1) (by decide)).to, ?_⟩
  refine List.forall_mem_cons.mpr ⟨(s_goto (am_dp pw_X11_clash_160 dd_X11_clash_160a.2.2.2.2.1) (by decide)).to, ?_⟩
  refine List.forall_mem_cons.mpr ⟨(s_iloadn (am_dp pw_X11_clash_160 dd_X11_clash_160a.2.2.2.2.2.1) rfl).to, ?_⟩
  refine List.forall_mem_cons.mpr ⟨(s_iconst (am_dp pw_X11_clash_160 dd_X11_clash_160a.2.2.2.2.2.2.1) (by decide)).to, ?_⟩
  refine List.forall_mem_cons.mpr ⟨(s_icmp_ne (am_dp pw_X11_clash_160 dd_X11_clash_160a.2.2.2.2.2.2.2) (by decide)).to, ?_⟩
  refine List.forall_mem_cons.mpr ⟨(s_iloadn (am_dp pw_X11_clash_160 dd_X11_clash_160b.1) rfl).to, ?_⟩
  refine List.forall_mem_cons.mpr ⟨(s_goto (am_dp pw_X11_clash_160 dd_X11_clash_160b.2.1) (by decide)).to, ?_⟩
  refine List.forall_mem_cons.mpr ⟨(s_aloadn (am_dp pw_X11_clash_160 dd_X11_clash_160b.2.2.1) rfl).to, ?_⟩
  refine List.forall_mem_cons.mpr ⟨(s_get (ci := 11) (k := 67) (am_dp pw_X11_clash_160 dd_X11_clash_160b.2.2.2.1) rfl (by decide) wd1400 inX11 rfl).to, ?_⟩
  refine List.forall_mem_cons.mpr ⟨(s_iloadn (am_dp pw_X11_clash_160 dd_X11_clash_160b.2.2.2.2.1) rfl).to, ?_⟩
  refine List.forall_mem_cons.mpr ⟨(s_iald (am_dp pw_X11_clash_160 dd_X11_clash_160b.2.2.2.2.2.1)).to, ?_⟩
  refine List.forall_mem_cons.mpr ⟨s_iret (am_dp pw_X11_clash_160 dd_X11_clash_160b.2.2.2.2.2.2.1) rfl, ?_⟩
  refine List.forall_mem_cons.mpr ⟨(s_iloadn (am_dp pw_X11_clash_160 dd_X11_clash_160b.2.2.2.2.2.2.2) rfl).to, ?_⟩
  refine List.forall_mem_cons.mpr ⟨(s_if_ne (am_dp pw_X11_clash_160 dd_X11_clash_160c.1) (by decide)).to, ?_⟩
  refine List.forall_mem_cons.mpr ⟨(s_iload (am_dp pw_X11_clash_160 dd_X11_clash_160c.2)).to, ?_⟩
  refine List.forall_mem_cons.mpr ⟨(s_goto (am_dp pw_X11_clash_192 dd_X11_clash_192a.1) (by decide)).to, ?_⟩
  refine List.forall_mem_cons.mpr ⟨(s_iloadn (am_dp pw_X11_clash_192 dd_X11_clash_192a.2.1) rfl).to, ?_⟩
  refine List.forall_mem_cons.mpr ⟨(s_iconst (am_dp pw_X11_clash_192 dd_X11_clash_192a.2.2.1) (by decide)).to, ?_⟩
  refine List.forall_mem_cons.mpr ⟨(s_icmp_ne (am_dp pw_X11_clash_192 dd_X11_clash_192a.2.2.2.1) (by decide)).to, ?_⟩
  refine List.forall_mem_cons.mpr ⟨(s_iload (am_dp pw_X11_clash_192 dd_X11_clash_192a.2.2.2.2.1)).to, ?_⟩
  refine List.forall_mem_cons.mpr ⟨(s_goto (am_dp pw_X11_clash_192 dd_X11_clash_192a.2.2.2.2.2.1) (by decide)).to, ?_⟩
  refine List.forall_mem_cons.mpr ⟨(s_aloadn (am_dp pw_X11_clash_192 dd_X11_clash_192a.2.2.2.2.2.2.1) rfl).to, ?_⟩
  refine List.forall_mem_cons.mpr ⟨(s_get (ci := 11) (k := 67) (am_dp pw_X11_clash_192 dd_X11_clash_192a.2.2.2.2.2.2.2) rfl (by decide) wd1400 inX11 rfl).to, ?_⟩
  refine List.forall_mem_cons.mpr ⟨(s_iload (am_dp pw_X11_clash_192 dd_X11_clash_192b.1)).to, ?_⟩
  refine List.forall_mem_cons.mpr ⟨(s_iald (am_dp pw_X11_clash_192 dd_X11_clash_192b.2.1)).to, ?_⟩
  refine List.forall_mem_cons.mpr ⟨s_iret (am_dp pw_X11_clash_192 dd_X11_clash_192b.2.2) rfl, ?_⟩
  exact fun _ h => absurd h List.not_mem_nil
theorem sn_tX11_clash : ∀ q ∈ tX11_clash, am_Snd am_P0 RX11 cX11_clash 8 (Option.some FieldType.int) "clash" q.1 q.2 := by
  unfold tX11_clash
  exact List.forall_mem_append.mpr ⟨sn_tX11_clash_0, sn_tX11_clash_1⟩
theorem sn_tX11_who : ∀ q ∈ tX11_who, am_Snd am_P0 RX11 cX11_who 2 (Option.some FieldType.int) "who" q.1 q.2 := by
  unfold tX11_who
  refine List.forall_mem_cons.mpr ⟨(s_aloadn (am_dp pw_X11_who_0 dd_X11_who_0a.1) rfl).to, ?_⟩
  refine List.forall_mem_cons.mpr ⟨(s_iloadn (am_dp pw_X11_who_0 dd_X11_who_0a.2.1) rfl).to, ?_⟩
  refine List.forall_mem_cons.mpr ⟨zw_cv220 (am_dp pw_X11_who_0 dd_X11_who_0a.2.2.1) wd1850, ?_⟩
  refine List.forall_mem_cons.mpr ⟨(s_if_eq (am_dp pw_X11_who_0 dd_X11_who_0a.2.2.2.1) (by decide)).to, ?_⟩
  refine List.forall_mem_cons.mpr ⟨(s_aloadn (am_dp pw_X11_who_0 dd_X11_who_0a.2.2.2.2.1) rfl).to, ?_⟩
  refine List.forall_mem_cons.mpr ⟨(s_iloadn (am_dp pw_X11_who_0 dd_X11_who_0a.2.2.2.2.2.1) rfl).to, ?_⟩
  refine List.forall_mem_cons.mpr ⟨zw_cv260 (am_dp pw_X11_who_0 dd_X11_who_0a.2.2.2.2.2.2.1) wd1962, ?_⟩
  refine List.forall_mem_cons.mpr ⟨(s_goto (am_dp pw_X11_who_0 dd_X11_who_0a.2.2.2.2.2.2.2) (by decide)).to, ?_⟩
  refine List.forall_mem_cons.mpr ⟨(s_iconst (am_dp pw_X11_who_0 dd_X11_who_0b.1) (by decide)).to, ?_⟩
  refine List.forall_mem_cons.mpr ⟨s_iret (am_dp pw_X11_who_0 dd_X11_who_0b.2) rfl, ?_⟩
  exact fun _ h => absurd h List.not_mem_nil
theorem sn_tX11_isFor : ∀ q ∈ tX11_isFor, am_Snd am_P0 RX11 cX11_isFor 4 (Option.some FieldType.boolean) "isFor" q.1 q.2 := by
  unfold tX11_isFor
  refine List.forall_mem_cons.mpr ⟨(s_aloadn (am_dp pw_X11_isFor_0 dd_X11_isFor_0a.1) rfl).to, ?_⟩
  refine List.forall_mem_cons.mpr ⟨(s_iconst (am_dp pw_X11_isFor_0 dd_X11_isFor_0a.2.1) (by decide)).to, ?_⟩
  refine List.forall_mem_cons.mpr ⟨(s_put (ci := 11) (k := 60) (am_dp pw_X11_isFor_0 dd_X11_isFor_0a.2.2.1) rfl (by decide) wd1393 inX11 tyX11_ok nmX11 rfl rfl).to, ?_⟩
  refine List.forall_mem_cons.mpr ⟨(s_aloadn (am_dp pw_X11_isFor_0 dd_X11_isFor_0a.2.2.2.1) rfl).to, ?_⟩
  refine List.forall_mem_cons.mpr ⟨(s_iloadn (am_dp pw_X11_isFor_0 dd_X11_isFor_0a.2.2.2.2.1) rfl).to, ?_⟩
  refine List.forall_mem_cons.mpr ⟨(s_iloadn (am_dp pw_X11_isFor_0 dd_X11_isFor_0a.2.2.2.2.2.1) rfl).to, ?_⟩
  refine List.forall_mem_cons.mpr ⟨(s_iconst (am_dp pw_X11_isFor_0 dd_X11_isFor_0a.2.2.2.2.2.2.1) (by decide)).to, ?_⟩
  refine List.forall_mem_cons.mpr ⟨zw_cv242 (am_dp pw_X11_isFor_0 dd_X11_isFor_0a.2.2.2.2.2.2.2) wd1970, ?_⟩
  refine List.forall_mem_cons.mpr ⟨(s_istoren (am_dp pw_X11_isFor_0 dd_X11_isFor_0b.1) rfl (by decide)).to, ?_⟩
  refine List.forall_mem_cons.mpr ⟨(s_aloadn (am_dp pw_X11_isFor_0 dd_X11_isFor_0b.2.1) rfl).to, ?_⟩
  refine List.forall_mem_cons.mpr ⟨(s_iloadn (am_dp pw_X11_isFor_0 dd_X11_isFor_0b.2.2.1) rfl).to, ?_⟩
  refine List.forall_mem_cons.mpr ⟨zw_cv241 (am_dp pw_X11_isFor_0 dd_X11_isFor_0b.2.2.2.1) wd1887, ?_⟩
  refine List.forall_mem_cons.mpr ⟨(s_iloadn (am_dp pw_X11_isFor_0 dd_X11_isFor_0b.2.2.2.2.1) rfl).to, ?_⟩
  refine List.forall_mem_cons.mpr ⟨(s_if_eq (am_dp pw_X11_isFor_0 dd_X11_isFor_0b.2.2.2.2.2.1) (by decide)).to, ?_⟩
  refine List.forall_mem_cons.mpr ⟨(s_aloadn (am_dp pw_X11_isFor_0 dd_X11_isFor_0b.2.2.2.2.2.2.1) rfl).to, ?_⟩
  refine List.forall_mem_cons.mpr ⟨(s_iloadn (am_dp pw_X11_isFor_0 dd_X11_isFor_0b.2.2.2.2.2.2.2) rfl).to, ?_⟩
  refine List.forall_mem_cons.mpr ⟨zw_cv244 (am_dp pw_X11_isFor_0 dd_X11_isFor_0c.1) wd1895, ?_⟩
  refine List.forall_mem_cons.mpr ⟨(s_if_eq (am_dp pw_X11_isFor_0 dd_X11_isFor_0c.2.1) (by decide)).to, ?_⟩
  refine List.forall_mem_cons.mpr ⟨(s_iconst (am_dp pw_X11_isFor_0 dd_X11_isFor_0c.2.2.1) (by decide)).to, ?_⟩
  refine List.forall_mem_cons.mpr ⟨(s_goto (am_dp pw_X11_isFor_0 dd_X11_isFor_0c.2.2.2) (by decide)).to, ?_⟩
  refine List.forall_mem_cons.mpr ⟨(s_iconst (am_dp pw_X11_isFor_32 dd_X11_isFor_32a.1) (by decide)).to, ?_⟩
  refine List.forall_mem_cons.mpr ⟨s_zret (am_dp pw_X11_isFor_32 dd_X11_isFor_32a.2) rfl, ?_⟩
  exact fun _ h => absurd h List.not_mem_nil
theorem sn_tX11_swap : ∀ q ∈ tX11_swap, am_Snd am_P0 RX11 cX11_swap 3 (Option.some FieldType.int) "swap" q.1 q.2 := by
  unfold tX11_swap
  refine List.forall_mem_cons.mpr ⟨(s_aloadn (am_dp pw_X11_swap_0 dd_X11_swap_0a.1) rfl).to, ?_⟩
  refine List.forall_mem_cons.mpr ⟨(s_iloadn (am_dp pw_X11_swap_0 dd_X11_swap_0a.2.1) rfl).to, ?_⟩
  refine List.forall_mem_cons.mpr ⟨zw_cv220 (am_dp pw_X11_swap_0 dd_X11_swap_0a.2.2.1) wd1850, ?_⟩
  refine List.forall_mem_cons.mpr ⟨(s_if_eq (am_dp pw_X11_swap_0 dd_X11_swap_0a.2.2.2.1) (by decide)).to, ?_⟩
  refine List.forall_mem_cons.mpr ⟨(s_aloadn (am_dp pw_X11_swap_0 dd_X11_swap_0a.2.2.2.2.1) rfl).to, ?_⟩
  refine List.forall_mem_cons.mpr ⟨(s_iloadn (am_dp pw_X11_swap_0 dd_X11_swap_0a.2.2.2.2.2.1) rfl).to, ?_⟩
  refine List.forall_mem_cons.mpr ⟨zw_cv220 (am_dp pw_X11_swap_0 dd_X11_swap_0a.2.2.2.2.2.2.1) wd1850, ?_⟩
  refine List.forall_mem_cons.mpr ⟨(s_if_eq (am_dp pw_X11_swap_0 dd_X11_swap_0a.2.2.2.2.2.2.2) (by decide)).to, ?_⟩
  refine List.forall_mem_cons.mpr ⟨(s_iloadn (am_dp pw_X11_swap_0 dd_X11_swap_0b.1) rfl).to, ?_⟩
  refine List.forall_mem_cons.mpr ⟨(s_iloadn (am_dp pw_X11_swap_0 dd_X11_swap_0b.2.1) rfl).to, ?_⟩
  refine List.forall_mem_cons.mpr ⟨(s_icmp_eq (am_dp pw_X11_swap_0 dd_X11_swap_0b.2.2.1) (by decide)).to, ?_⟩
  refine List.forall_mem_cons.mpr ⟨(s_aloadn (am_dp pw_X11_swap_0 dd_X11_swap_0b.2.2.2.1) rfl).to, ?_⟩
  refine List.forall_mem_cons.mpr ⟨(s_iloadn (am_dp pw_X11_swap_0 dd_X11_swap_0b.2.2.2.2.1) rfl).to, ?_⟩
  refine List.forall_mem_cons.mpr ⟨zw_cv228 (am_dp pw_X11_swap_0 dd_X11_swap_0b.2.2.2.2.2.1) wd1838, ?_⟩
  refine List.forall_mem_cons.mpr ⟨(s_if_eq (am_dp pw_X11_swap_0 dd_X11_swap_0b.2.2.2.2.2.2.1) (by decide)).to, ?_⟩
  refine List.forall_mem_cons.mpr ⟨(s_aloadn (am_dp pw_X11_swap_0 dd_X11_swap_0b.2.2.2.2.2.2.2) rfl).to, ?_⟩
  refine List.forall_mem_cons.mpr ⟨(s_iloadn (am_dp pw_X11_swap_0 dd_X11_swap_0c.1) rfl).to, ?_⟩
  refine List.forall_mem_cons.mpr ⟨zw_cv228 (am_dp pw_X11_swap_0 dd_X11_swap_0c.2) wd1838, ?_⟩
  refine List.forall_mem_cons.mpr ⟨(s_if_ne (am_dp pw_X11_swap_32 dd_X11_swap_32a.1) (by decide)).to, ?_⟩
  refine List.forall_mem_cons.mpr ⟨(s_iconst (am_dp pw_X11_swap_32 dd_X11_swap_32a.2.1) (by decide)).to, ?_⟩
  refine List.forall_mem_cons.mpr ⟨s_iret (am_dp pw_X11_swap_32 dd_X11_swap_32a.2.2.1) rfl, ?_⟩
  refine List.forall_mem_cons.mpr ⟨(s_aloadn (am_dp pw_X11_swap_32 dd_X11_swap_32a.2.2.2.1) rfl).to, ?_⟩
  refine List.forall_mem_cons.mpr ⟨(s_iloadn (am_dp pw_X11_swap_32 dd_X11_swap_32a.2.2.2.2.1) rfl).to, ?_⟩
  refine List.forall_mem_cons.mpr ⟨(s_iloadn (am_dp pw_X11_swap_32 dd_X11_swap_32a.2.2.2.2.2.1) rfl).to, ?_⟩
  refine List.forall_mem_cons.mpr ⟨zw_cv272 (am_dp pw_X11_swap_32 dd_X11_swap_32a.2.2.2.2.2.2.1) wd2022, ?_⟩
  refine List.forall_mem_cons.mpr ⟨(s_if_eq (am_dp pw_X11_swap_32 dd_X11_swap_32a.2.2.2.2.2.2.2) (by decide)).to, ?_⟩
  refine List.forall_mem_cons.mpr ⟨(s_aloadn (am_dp pw_X11_swap_32 dd_X11_swap_32b.1) rfl).to, ?_⟩
  refine List.forall_mem_cons.mpr ⟨(s_iloadn (am_dp pw_X11_swap_32 dd_X11_swap_32b.2.1) rfl).to, ?_⟩
  refine List.forall_mem_cons.mpr ⟨(s_iloadn (am_dp pw_X11_swap_32 dd_X11_swap_32b.2.2.1) rfl).to, ?_⟩
  refine List.forall_mem_cons.mpr ⟨zw_cv272 (am_dp pw_X11_swap_32 dd_X11_swap_32b.2.2.2.1) wd2022, ?_⟩
  refine List.forall_mem_cons.mpr ⟨(s_if_eq (am_dp pw_X11_swap_32 dd_X11_swap_32b.2.2.2.2.1) (by decide)).to, ?_⟩
  refine List.forall_mem_cons.mpr ⟨(s_iconst (am_dp pw_X11_swap_32 dd_X11_swap_32b.2.2.2.2.2.1) (by decide)).to, ?_⟩
  refine List.forall_mem_cons.mpr ⟨(s_goto (am_dp pw_X11_swap_32 dd_X11_swap_32b.2.2.2.2.2.2.1) (by decide)).to, ?_⟩
  refine List.forall_mem_cons.mpr ⟨(s_iconst (am_dp pw_X11_swap_32 dd_X11_swap_32b.2.2.2.2.2.2.2) (by decide)).to, ?_⟩
  refine List.forall_mem_cons.mpr ⟨s_iret (am_dp pw_X11_swap_32 dd_X11_swap_32c) rfl, ?_⟩
  exact fun _ h => absurd h List.not_mem_nil
theorem sn_tX11_kinds : ∀ q ∈ tX11_kinds, am_Snd am_P0 RX11 cX11_kinds 4 (Option.some FieldType.int) "kinds" q.1 q.2 := by
  unfold tX11_kinds
  refine List.forall_mem_cons.mpr ⟨(s_iloadn (am_dp pw_X11_kinds_0 dd_X11_kinds_0a.1) rfl).to, ?_⟩
  refine List.forall_mem_cons.mpr ⟨(s_iconst (am_dp pw_X11_kinds_0 dd_X11_kinds_0a.2.1) (by decide)).to, ?_⟩
  refine List.forall_mem_cons.mpr ⟨(s_iconst (am_dp pw_X11_kinds_0 dd_X11_kinds_0a.2.2.1) (by decide)).to, ?_⟩
  refine List.forall_mem_cons.mpr ⟨zw_cs167 (am_dp pw_X11_kinds_0 dd_X11_kinds_0a.2.2.2.1) wd1630, ?_⟩
  refine List.forall_mem_cons.mpr ⟨(s_if_ne (am_dp pw_X11_kinds_0 dd_X11_kinds_0a.2.2.2.2.1) (by decide)).to, ?_⟩
  refine List.forall_mem_cons.mpr ⟨(s_iconst (am_dp pw_X11_kinds_0 dd_X11_kinds_0a.2.2.2.2.2.1) (by decide)).to, ?_⟩
  refine List.forall_mem_cons.mpr ⟨s_iret (am_dp pw_X11_kinds_0 dd_X11_kinds_0a.2.2.2.2.2.2.1) rfl, ?_⟩
  refine List.forall_mem_cons.mpr ⟨(s_iconst (am_dp pw_X11_kinds_0 dd_X11_kinds_0a.2.2.2.2.2.2.2) (by decide)).to, ?_⟩
  refine List.forall_mem_cons.mpr ⟨(s_istoren (am_dp pw_X11_kinds_0 dd_X11_kinds_0b.1) rfl (by decide)).to, ?_⟩
  refine List.forall_mem_cons.mpr ⟨(s_iconst (am_dp pw_X11_kinds_0 dd_X11_kinds_0b.2.1) (by decide)).to, ?_⟩
  refine List.forall_mem_cons.mpr ⟨(s_istoren (am_dp pw_X11_kinds_0 dd_X11_kinds_0b.2.2.1) rfl (by decide)).to, ?_⟩
  refine List.forall_mem_cons.mpr ⟨(s_iloadn (am_dp pw_X11_kinds_0 dd_X11_kinds_0b.2.2.2.1) rfl).to, ?_⟩
  refine List.forall_mem_cons.mpr ⟨(s_aloadn (am_dp pw_X11_kinds_0 dd_X11_kinds_0b.2.2.2.2.1) rfl).to, ?_⟩
  refine List.forall_mem_cons.mpr ⟨(s_get (ci := 11) (k := 19) (am_dp pw_X11_kinds_0 dd_X11_kinds_0b.2.2.2.2.2.1) rfl (by decide) wd1352 inX11 rfl).to, ?_⟩
  refine List.forall_mem_cons.mpr ⟨(s_aloadn (am_dp pw_X11_kinds_0 dd_X11_kinds_0b.2.2.2.2.2.2.1) rfl).to, ?_⟩
  refine List.forall_mem_cons.mpr ⟨(s_get (ci := 11) (k := 12) (am_dp pw_X11_kinds_0 dd_X11_kinds_0b.2.2.2.2.2.2.2) rfl (by decide) wd1345 inX11 rfl).to, ?_⟩
  refine List.forall_mem_cons.mpr ⟨(s_iald (am_dp pw_X11_kinds_0 dd_X11_kinds_0c.1)).to, ?_⟩
  refine List.forall_mem_cons.mpr ⟨(s_icmp_ge (am_dp pw_X11_kinds_0 dd_X11_kinds_0c.2.1) (by decide)).to, ?_⟩
  refine List.forall_mem_cons.mpr ⟨(s_iloadn (am_dp pw_X11_kinds_0 dd_X11_kinds_0c.2.2.1) rfl).to, ?_⟩
  refine List.forall_mem_cons.mpr ⟨(s_aloadn (am_dp pw_X11_kinds_0 dd_X11_kinds_0c.2.2.2.1) rfl).to, ?_⟩
  refine List.forall_mem_cons.mpr ⟨(s_iloadn (am_dp pw_X11_kinds_0 dd_X11_kinds_0c.2.2.2.2.1) rfl).to, ?_⟩
  refine List.forall_mem_cons.mpr ⟨zw_cv228 (am_dp pw_X11_kinds_0 dd_X11_kinds_0c.2.2.2.2.2) wd1838, ?_⟩
  refine List.forall_mem_cons.mpr ⟨(s_if_le (am_dp pw_X11_kinds_32 dd_X11_kinds_32a.1) (by decide)).to, ?_⟩
  refine List.forall_mem_cons.mpr ⟨(s_aloadn (am_dp pw_X11_kinds_32 dd_X11_kinds_32a.2.1) rfl).to, ?_⟩
  refine List.forall_mem_cons.mpr ⟨(s_iloadn (am_dp pw_X11_kinds_32 dd_X11_kinds_32a.2.2.1) rfl).to, ?_⟩
  refine List.forall_mem_cons.mpr ⟨(s_iconst (am_dp pw_X11_kinds_32 dd_X11_kinds_32a.2.2.2.1) (by decide)).to, ?_⟩
  refine List.forall_mem_cons.mpr ⟨zw_cv267 (am_dp pw_X11_kinds_32 dd_X11_kinds_32a.2.2.2.2.1) wd2002, ?_⟩
  refine List.forall_mem_cons.mpr ⟨(s_iloadn (am_dp pw_X11_kinds_32 dd_X11_kinds_32a.2.2.2.2.2.1) rfl).to, ?_⟩
  refine List.forall_mem_cons.mpr ⟨(s_icmp_ne (am_dp pw_X11_kinds_32 dd_X11_kinds_32a.2.2.2.2.2.2.1) (by decide)).to, ?_⟩
  refine List.forall_mem_cons.mpr ⟨(s_iconst (am_dp pw_X11_kinds_32 dd_X11_kinds_32a.2.2.2.2.2.2.2) (by decide)).to, ?_⟩
  refine List.forall_mem_cons.mpr ⟨(s_goto (am_dp pw_X11_kinds_32 dd_X11_kinds_32b.1) (by decide)).to, ?_⟩
  refine List.forall_mem_cons.mpr ⟨(s_iconst (am_dp pw_X11_kinds_32 dd_X11_kinds_32b.2.1) (by decide)).to, ?_⟩
  refine List.forall_mem_cons.mpr ⟨(s_iadd (am_dp pw_X11_kinds_32 dd_X11_kinds_32b.2.2.1)).to, ?_⟩
  refine List.forall_mem_cons.mpr ⟨(s_istoren (am_dp pw_X11_kinds_32 dd_X11_kinds_32b.2.2.2.1) rfl (by decide)).to, ?_⟩
  refine List.forall_mem_cons.mpr ⟨(s_iinc (am_dp pw_X11_kinds_32 dd_X11_kinds_32b.2.2.2.2.1) (by decide) (by decide)).to, ?_⟩
  refine List.forall_mem_cons.mpr ⟨(s_goto (am_dp pw_X11_kinds_32 dd_X11_kinds_32b.2.2.2.2.2.1) (by decide)).to, ?_⟩
  refine List.forall_mem_cons.mpr ⟨(s_iloadn (am_dp pw_X11_kinds_32 dd_X11_kinds_32b.2.2.2.2.2.2.1) rfl).to, ?_⟩
  refine List.forall_mem_cons.mpr ⟨s_iret (am_dp pw_X11_kinds_32 dd_X11_kinds_32b.2.2.2.2.2.2.2) rfl, ?_⟩
  exact fun _ h => absurd h List.not_mem_nil
theorem sn_tX11_liesOf : ∀ q ∈ tX11_liesOf, am_Snd am_P0 RX11 cX11_liesOf 2 (Option.some FieldType.int) "liesOf" q.1 q.2 := by
  unfold tX11_liesOf
  refine List.forall_mem_cons.mpr ⟨(s_aloadn (am_dp pw_X11_liesOf_0 dd_X11_liesOf_0a.1) rfl).to, ?_⟩
  refine List.forall_mem_cons.mpr ⟨(s_iloadn (am_dp pw_X11_liesOf_0 dd_X11_liesOf_0a.2.1) rfl).to, ?_⟩
  refine List.forall_mem_cons.mpr ⟨zw_cv248 (am_dp pw_X11_liesOf_0 dd_X11_liesOf_0a.2.2.1) wd1902, ?_⟩
  refine List.forall_mem_cons.mpr ⟨(s_aloadn (am_dp pw_X11_liesOf_0 dd_X11_liesOf_0a.2.2.2.1) rfl).to, ?_⟩
  refine List.forall_mem_cons.mpr ⟨(s_get (ci := 11) (k := 65) (am_dp pw_X11_liesOf_0 dd_X11_liesOf_0a.2.2.2.2.1) rfl (by decide) wd1398 inX11 rfl).to, ?_⟩
  refine List.forall_mem_cons.mpr ⟨(s_aloadn (am_dp pw_X11_liesOf_0 dd_X11_liesOf_0a.2.2.2.2.2.1) rfl).to, ?_⟩
  refine List.forall_mem_cons.mpr ⟨(s_get (ci := 11) (k := 66) (am_dp pw_X11_liesOf_0 dd_X11_liesOf_0a.2.2.2.2.2.2.1) rfl (by decide) wd1399 inX11 rfl).to, ?_⟩
  refine List.forall_mem_cons.mpr ⟨(s_isub (am_dp pw_X11_liesOf_0 dd_X11_liesOf_0a.2.2.2.2.2.2.2)).to, ?_⟩
  refine List.forall_mem_cons.mpr ⟨s_iret (am_dp pw_X11_liesOf_0 dd_X11_liesOf_0b) rfl, ?_⟩
  exact fun _ h => absurd h List.not_mem_nil
theorem sn_tX11_lies : ∀ q ∈ tX11_lies, am_Snd am_P0 RX11 cX11_lies 3 (Option.some FieldType.int) "lies" q.1 q.2 := by
  unfold tX11_lies
  refine List.forall_mem_cons.mpr ⟨(s_iconst (am_dp pw_X11_lies_0 dd_X11_lies_0a.1) (by decide)).to, ?_⟩
  refine List.forall_mem_cons.mpr ⟨(s_istoren (am_dp pw_X11_lies_0 dd_X11_lies_0a.2.1) rfl (by decide)).to, ?_⟩
  refine List.forall_mem_cons.mpr ⟨(s_iconst (am_dp pw_X11_lies_0 dd_X11_lies_0a.2.2.1) (by decide)).to, ?_⟩
  refine List.forall_mem_cons.mpr ⟨(s_istoren (am_dp pw_X11_lies_0 dd_X11_lies_0a.2.2.2.1) rfl (by decide)).to, ?_⟩
  refine List.forall_mem_cons.mpr ⟨(s_iloadn (am_dp pw_X11_lies_0 dd_X11_lies_0a.2.2.2.2.1) rfl).to, ?_⟩
  refine List.forall_mem_cons.mpr ⟨(s_aloadn (am_dp pw_X11_lies_0 dd_X11_lies_0a.2.2.2.2.2.1) rfl).to, ?_⟩
  refine List.forall_mem_cons.mpr ⟨(s_get (ci := 11) (k := 19) (am_dp pw_X11_lies_0 dd_X11_lies_0a.2.2.2.2.2.2.1) rfl (by decide) wd1352 inX11 rfl).to, ?_⟩
  refine List.forall_mem_cons.mpr ⟨(s_aloadn (am_dp pw_X11_lies_0 dd_X11_lies_0a.2.2.2.2.2.2.2) rfl).to, ?_⟩
  refine List.forall_mem_cons.mpr ⟨(s_get (ci := 11) (k := 12) (am_dp pw_X11_lies_0 dd_X11_lies_0b.1) rfl (by decide) wd1345 inX11 rfl).to, ?_⟩
  refine List.forall_mem_cons.mpr ⟨(s_iald (am_dp pw_X11_lies_0 dd_X11_lies_0b.2.1)).to, ?_⟩
  refine List.forall_mem_cons.mpr ⟨(s_icmp_ge (am_dp pw_X11_lies_0 dd_X11_lies_0b.2.2.1) (by decide)).to, ?_⟩
  refine List.forall_mem_cons.mpr ⟨(s_iloadn (am_dp pw_X11_lies_0 dd_X11_lies_0b.2.2.2.1) rfl).to, ?_⟩
  refine List.forall_mem_cons.mpr ⟨(s_aloadn (am_dp pw_X11_lies_0 dd_X11_lies_0b.2.2.2.2.1) rfl).to, ?_⟩
  refine List.forall_mem_cons.mpr ⟨(s_iloadn (am_dp pw_X11_lies_0 dd_X11_lies_0b.2.2.2.2.2.1) rfl).to, ?_⟩
  refine List.forall_mem_cons.mpr ⟨zw_cv275 (am_dp pw_X11_lies_0 dd_X11_lies_0b.2.2.2.2.2.2.1) wd2034, ?_⟩
  refine List.forall_mem_cons.mpr ⟨(s_iadd (am_dp pw_X11_lies_0 dd_X11_lies_0b.2.2.2.2.2.2.2)).to, ?_⟩
  refine List.forall_mem_cons.mpr ⟨(s_istoren (am_dp pw_X11_lies_0 dd_X11_lies_0c.1) rfl (by decide)).to, ?_⟩
  refine List.forall_mem_cons.mpr ⟨(s_iinc (am_dp pw_X11_lies_0 dd_X11_lies_0c.2.1) (by decide) (by decide)).to, ?_⟩
  refine List.forall_mem_cons.mpr ⟨(s_goto (am_dp pw_X11_lies_0 dd_X11_lies_0c.2.2.1) (by decide)).to, ?_⟩
  refine List.forall_mem_cons.mpr ⟨(s_iloadn (am_dp pw_X11_lies_0 dd_X11_lies_0c.2.2.2) rfl).to, ?_⟩
  refine List.forall_mem_cons.mpr ⟨s_iret (am_dp pw_X11_lies_32 dd_X11_lies_32a) rfl, ?_⟩
  exact fun _ h => absurd h List.not_mem_nil
theorem sn_tX11_changes_0 : ∀ q ∈ tX11_changes_0, am_Snd am_P0 RX11 cX11_changes 6 (Option.some FieldType.boolean) "changes" q.1 q.2 := by
  unfold tX11_changes_0
  refine List.forall_mem_cons.mpr ⟨(s_iconst (am_dp pw_X11_changes_0 dd_X11_changes_0a.1) (by decide)).to, ?_⟩
  refine List.forall_mem_cons.mpr ⟨(s_istore (am_dp pw_X11_changes_0 dd_X11_changes_0a.2.1) (by decide)).to, ?_⟩
  refine List.forall_mem_cons.mpr ⟨(s_iconst (am_dp pw_X11_changes_0 dd_X11_changes_0a.2.2.1) (by decide)).to, ?_⟩
  refine List.forall_mem_cons.mpr ⟨(s_istore (am_dp pw_X11_changes_0 dd_X11_changes_0a.2.2.2.1) (by decide)).to, ?_⟩
  refine List.forall_mem_cons.mpr ⟨(s_iload (am_dp pw_X11_changes_0 dd_X11_changes_0a.2.2.2.2.1)).to, ?_⟩
  refine List.forall_mem_cons.mpr ⟨(s_aloadn (am_dp pw_X11_changes_0 dd_X11_changes_0a.2.2.2.2.2.1) rfl).to, ?_⟩
  refine List.forall_mem_cons.mpr ⟨(s_get (ci := 11) (k := 65) (am_dp pw_X11_changes_0 dd_X11_changes_0a.2.2.2.2.2.2.1) rfl (by decide) wd1398 inX11 rfl).to, ?_⟩
  refine List.forall_mem_cons.mpr ⟨(s_icmp_ge (am_dp pw_X11_changes_0 dd_X11_changes_0a.2.2.2.2.2.2.2) (by decide)).to, ?_⟩
  refine List.forall_mem_cons.mpr ⟨(s_aloadn (am_dp pw_X11_changes_0 dd_X11_changes_0b.1) rfl).to, ?_⟩
  refine List.forall_mem_cons.mpr ⟨(s_get (ci := 11) (k := 69) (am_dp pw_X11_changes_0 dd_X11_changes_0b.2.1) rfl (by decide) wd1402 inX11 rfl).to, ?_⟩
  refine List.forall_mem_cons.mpr ⟨(s_iload (am_dp pw_X11_changes_0 dd_X11_changes_0b.2.2.1)).to, ?_⟩
  refine List.forall_mem_cons.mpr ⟨(s_zald (am_dp pw_X11_changes_0 dd_X11_changes_0b.2.2.2.1)).to, ?_⟩
  refine List.forall_mem_cons.mpr ⟨(s_if_ne (am_dp pw_X11_changes_0 dd_X11_changes_0b.2.2.2.2.1) (by decide)).to, ?_⟩
  refine List.forall_mem_cons.mpr ⟨(s_goto (am_dp pw_X11_changes_0 dd_X11_changes_0b.2.2.2.2.2.1) (by decide)).to, ?_⟩
  refine List.forall_mem_cons.mpr ⟨(s_aloadn (am_dp pw_X11_changes_0 dd_X11_changes_0b.2.2.2.2.2.2.1) rfl).to, ?_⟩
  refine List.forall_mem_cons.mpr ⟨(s_get (ci := 11) (k := 67) (am_dp pw_X11_changes_0 dd_X11_changes_0b.2.2.2.2.2.2.2) rfl (by decide) wd1400 inX11 rfl).to, ?_⟩
  refine List.forall_mem_cons.mpr ⟨(s_iload (am_dp pw_X11_changes_32 dd_X11_changes_32a.1)).to, ?_⟩
  refine List.forall_mem_cons.mpr ⟨(s_iald (am_dp pw_X11_changes_32 dd_X11_changes_32a.2.1)).to, ?_⟩
  refine List.forall_mem_cons.mpr ⟨(s_iloadn (am_dp pw_X11_changes_32 dd_X11_changes_32a.2.2.1) rfl).to, ?_⟩
  refine List.forall_mem_cons.mpr ⟨(s_icmp_ge (am_dp pw_X11_changes_32 dd_X11_changes_32a.2.2.2.1) (by decide)).to, ?_⟩
  refine List.forall_mem_cons.mpr ⟨(s_iload (am_dp pw_X11_changes_32 dd_X11_changes_32a.2.2.2.2.1)).to, ?_⟩
  refine List.forall_mem_cons.mpr ⟨(s_istore (am_dp pw_X11_changes_32 dd_X11_changes_32a.2.2.2.2.2.1) (by decide)).to, ?_⟩
  refine List.forall_mem_cons.mpr ⟨(s_aloadn (am_dp pw_X11_changes_32 dd_X11_changes_32a.2.2.2.2.2.2.1) rfl).to, ?_⟩
  refine List.forall_mem_cons.mpr ⟨(s_get (ci := 11) (k := 67) (am_dp pw_X11_changes_32 dd_X11_changes_32a.2.2.2.2.2.2.2) rfl (by decide) wd1400 inX11 rfl).to, ?_⟩
  refine List.forall_mem_cons.mpr ⟨(s_iload (am_dp pw_X11_changes_32 dd_X11_changes_32b.1)).to, ?_⟩
  refine List.forall_mem_cons.mpr ⟨(s_iald (am_dp pw_X11_changes_32 dd_X11_changes_32b.2.1)).to, ?_⟩
  refine List.forall_mem_cons.mpr ⟨(s_iloadn (am_dp pw_X11_changes_32 dd_X11_changes_32b.2.2.1) rfl).to, ?_⟩
  refine List.forall_mem_cons.mpr ⟨(s_icmp_ne (am_dp pw_X11_changes_32 dd_X11_changes_32b.2.2.2.1) (by decide)).to, ?_⟩
  refine List.forall_mem_cons.mpr ⟨(s_iconst (am_dp pw_X11_changes_32 dd_X11_changes_32b.2.2.2.2.1) (by decide)).to, ?_⟩
  refine List.forall_mem_cons.mpr ⟨s_zret (am_dp pw_X11_changes_32 dd_X11_changes_32b.2.2.2.2.2.1) rfl, ?_⟩
  refine List.forall_mem_cons.mpr ⟨(s_aloadn (am_dp pw_X11_changes_32 dd_X11_changes_32b.2.2.2.2.2.2.1) rfl).to, ?_⟩
  refine List.forall_mem_cons.mpr ⟨(s_get (ci := 11) (k := 67) (am_dp pw_X11_changes_32 dd_X11_changes_32b.2.2.2.2.2.2.2) rfl (by decide) wd1400 inX11 rfl).to, ?_⟩
  refine List.forall_mem_cons.mpr ⟨(s_iload (am_dp pw_X11_changes_32 dd_X11_changes_32c.1)).to, ?_⟩
  refine List.forall_mem_cons.mpr ⟨(s_iald (am_dp pw_X11_changes_32 dd_X11_changes_32c.2.1)).to, ?_⟩
  refine List.forall_mem_cons.mpr ⟨(s_iloadn (am_dp pw_X11_changes_32 dd_X11_changes_32c.2.2) rfl).to, ?_⟩
  refine List.forall_mem_cons.mpr ⟨(s_icmp_le (am_dp pw_X11_changes_64 dd_X11_changes_64a.1) (by decide)).to, ?_⟩
  refine List.forall_mem_cons.mpr ⟨(s_iload (am_dp pw_X11_changes_64 dd_X11_changes_64a.2.1)).to, ?_⟩
  refine List.forall_mem_cons.mpr ⟨(s_iconst (am_dp pw_X11_changes_64 dd_X11_changes_64a.2.2.1) (by decide)).to, ?_⟩
  refine List.forall_mem_cons.mpr ⟨(s_icmp_eq (am_dp pw_X11_changes_64 dd_X11_changes_64a.2.2.2.1) (by decide)).to, ?_⟩
  refine List.forall_mem_cons.mpr ⟨(s_aloadn (am_dp pw_X11_changes_64 dd_X11_changes_64a.2.2.2.2.1) rfl).to, ?_⟩
  refine List.forall_mem_cons.mpr ⟨(s_iloadn (am_dp pw_X11_changes_64 dd_X11_changes_64a.2.2.2.2.2.1) rfl).to, ?_⟩
  refine List.forall_mem_cons.mpr ⟨(s_aloadn (am_dp pw_X11_changes_64 dd_X11_changes_64a.2.2.2.2.2.2.1) rfl).to, ?_⟩
  refine List.forall_mem_cons.mpr ⟨(s_get (ci := 11) (k := 67) (am_dp pw_X11_changes_64 dd_X11_changes_64a.2.2.2.2.2.2.2) rfl (by decide) wd1400 inX11 rfl).to, ?_⟩
  refine List.forall_mem_cons.mpr ⟨(s_iload (am_dp pw_X11_changes_64 dd_X11_changes_64b.1)).to, ?_⟩
  refine List.forall_mem_cons.mpr ⟨(s_iald (am_dp pw_X11_changes_64 dd_X11_changes_64b.2.1)).to, ?_⟩
  refine List.forall_mem_cons.mpr ⟨zw_cv227 (am_dp pw_X11_changes_64 dd_X11_changes_64b.2.2.1) wd1910, ?_⟩
  refine List.forall_mem_cons.mpr ⟨(s_iloadn (am_dp pw_X11_changes_64 dd_X11_changes_64b.2.2.2.1) rfl).to, ?_⟩
  refine List.forall_mem_cons.mpr ⟨(s_icmp_eq (am_dp pw_X11_changes_64 dd_X11_changes_64b.2.2.2.2.1) (by decide)).to, ?_⟩
  refine List.forall_mem_cons.mpr ⟨(s_aloadn (am_dp pw_X11_changes_64 dd_X11_changes_64b.2.2.2.2.2.1) rfl).to, ?_⟩
  refine List.forall_mem_cons.mpr ⟨(s_iloadn (am_dp pw_X11_changes_64 dd_X11_changes_64b.2.2.2.2.2.2.1) rfl).to, ?_⟩
  refine List.forall_mem_cons.mpr ⟨(s_aloadn (am_dp pw_X11_changes_64 dd_X11_changes_64b.2.2.2.2.2.2.2) rfl).to, ?_⟩
  refine List.forall_mem_cons.mpr ⟨(s_get (ci := 11) (k := 67) (am_dp pw_X11_changes_64 dd_X11_changes_64c.1) rfl (by decide) wd1400 inX11 rfl).to, ?_⟩
  refine List.forall_mem_cons.mpr ⟨(s_iload (am_dp pw_X11_changes_64 dd_X11_changes_64c.2)).to, ?_⟩
  refine List.forall_mem_cons.mpr ⟨(s_iald (am_dp pw_X11_changes_96 dd_X11_changes_96a.1)).to, ?_⟩
  refine List.forall_mem_cons.mpr ⟨zw_cv227 (am_dp pw_X11_changes_96 dd_X11_changes_96a.2.1) wd1910, ?_⟩
  refine List.forall_mem_cons.mpr ⟨(s_iloadn (am_dp pw_X11_changes_96 dd_X11_changes_96a.2.2.1) rfl).to, ?_⟩
  refine List.forall_mem_cons.mpr ⟨(s_icmp_ne (am_dp pw_X11_changes_96 dd_X11_changes_96a.2.2.2.1) (by decide)).to, ?_⟩
  refine List.forall_mem_cons.mpr ⟨(s_iconst (am_dp pw_X11_changes_96 dd_X11_changes_96a.2.2.2.2.1) (by decide)).to, ?_⟩
  refine List.forall_mem_cons.mpr ⟨(s_goto (am_dp pw_X11_changes_96 dd_X11_changes_96a.2.2.2.2.2.1) (by decide)).to, ?_⟩
  refine List.forall_mem_cons.mpr ⟨(s_iconst (am_dp pw_X11_changes_96 dd_X11_changes_96a.2.2.2.2.2.2.1) (by decide)).to, ?_⟩
  exact fun _ h => absurd h List.not_mem_nil
theorem sn_tX11_changes_1 : ∀ q ∈ tX11_changes_1, am_Snd am_P0 RX11 cX11_changes 6 (Option.some FieldType.boolean) "changes" q.1 q.2 := by
  unfold tX11_changes_1
  refine List.forall_mem_cons.mpr ⟨s_zret (am_dp pw_X11_changes_96 dd_X11_changes_96a.2.2.2.2.2.2.2) rfl, ?_⟩
  refine List.forall_mem_cons.mpr ⟨(s_iinc (am_dp pw_X11_changes_96 dd_X11_changes_96b.1) (by decide) (by decide)).to, ?_⟩
  refine List.forall_mem_cons.mpr ⟨(s_goto (am_dp pw_X11_changes_96 dd_X11_changes_96b.2.1) (by decide)).to, ?_⟩
  refine List.forall_mem_cons.mpr ⟨(s_iconst (am_dp pw_X11_changes_96 dd_X11_changes_96b.2.2.1) (by decide)).to, ?_⟩
  refine List.forall_mem_cons.mpr ⟨s_zret (am_dp pw_X11_changes_96 dd_X11_changes_96b.2.2.2) rfl, ?_⟩
  exact fun _ h => absurd h List.not_mem_nil
theorem sn_tX11_changes : ∀ q ∈ tX11_changes, am_Snd am_P0 RX11 cX11_changes 6 (Option.some FieldType.boolean) "changes" q.1 q.2 := by
  unfold tX11_changes
  exact List.forall_mem_append.mpr ⟨sn_tX11_changes_0, sn_tX11_changes_1⟩
theorem sn_tX11_met_0 : ∀ q ∈ tX11_met_0, am_Snd am_P0 RX11 cX11_met 10 (Option.some FieldType.int) "met" q.1 q.2 := by
  unfold tX11_met_0
  refine List.forall_mem_cons.mpr ⟨(s_aloadn (am_dp pw_X11_met_0 dd_X11_met_0a.1) rfl).to, ?_⟩
  refine List.forall_mem_cons.mpr ⟨(s_iloadn (am_dp pw_X11_met_0 dd_X11_met_0a.2.1) rfl).to, ?_⟩
  refine List.forall_mem_cons.mpr ⟨zw_cv220 (am_dp pw_X11_met_0 dd_X11_met_0a.2.2.1) wd1850, ?_⟩
  refine List.forall_mem_cons.mpr ⟨(s_if_eq (am_dp pw_X11_met_0 dd_X11_met_0a.2.2.2.1) (by decide)).to, ?_⟩
  refine List.forall_mem_cons.mpr ⟨(s_aloadn (am_dp pw_X11_met_0 dd_X11_met_0a.2.2.2.2.1) rfl).to, ?_⟩
  refine List.forall_mem_cons.mpr ⟨(s_iloadn (am_dp pw_X11_met_0 dd_X11_met_0a.2.2.2.2.2.1) rfl).to, ?_⟩
  refine List.forall_mem_cons.mpr ⟨zw_cv220 (am_dp pw_X11_met_0 dd_X11_met_0a.2.2.2.2.2.2.1) wd1850, ?_⟩
  refine List.forall_mem_cons.mpr ⟨(s_if_eq (am_dp pw_X11_met_0 dd_X11_met_0a.2.2.2.2.2.2.2) (by decide)).to, ?_⟩
  refine List.forall_mem_cons.mpr ⟨(s_iloadn (am_dp pw_X11_met_0 dd_X11_met_0b.1) rfl).to, ?_⟩
  refine List.forall_mem_cons.mpr ⟨(s_iloadn (am_dp pw_X11_met_0 dd_X11_met_0b.2.1) rfl).to, ?_⟩
  refine List.forall_mem_cons.mpr ⟨(s_icmp_eq (am_dp pw_X11_met_0 dd_X11_met_0b.2.2.1) (by decide)).to, ?_⟩
  refine List.forall_mem_cons.mpr ⟨(s_iloadn (am_dp pw_X11_met_0 dd_X11_met_0b.2.2.2.1) rfl).to, ?_⟩
  refine List.forall_mem_cons.mpr ⟨(s_iconst (am_dp pw_X11_met_0 dd_X11_met_0b.2.2.2.2.1) (by decide)).to, ?_⟩
  refine List.forall_mem_cons.mpr ⟨(s_iconst (am_dp pw_X11_met_0 dd_X11_met_0b.2.2.2.2.2.1) (by decide)).to, ?_⟩
  refine List.forall_mem_cons.mpr ⟨zw_cs167 (am_dp pw_X11_met_0 dd_X11_met_0b.2.2.2.2.2.2.1) wd1630, ?_⟩
  refine List.forall_mem_cons.mpr ⟨(s_if_ne (am_dp pw_X11_met_0 dd_X11_met_0b.2.2.2.2.2.2.2) (by decide)).to, ?_⟩
  refine List.forall_mem_cons.mpr ⟨(s_iconst (am_dp pw_X11_met_0 dd_X11_met_0c.1) (by decide)).to, ?_⟩
  refine List.forall_mem_cons.mpr ⟨s_iret (am_dp pw_X11_met_0 dd_X11_met_0c.2) rfl, ?_⟩
  refine List.forall_mem_cons.mpr ⟨(s_aloadn (am_dp pw_X11_met_32 dd_X11_met_32a.1) rfl).to, ?_⟩
  refine List.forall_mem_cons.mpr ⟨(s_iloadn (am_dp pw_X11_met_32 dd_X11_met_32a.2.1) rfl).to, ?_⟩
  refine List.forall_mem_cons.mpr ⟨zw_cv249 (am_dp pw_X11_met_32 dd_X11_met_32a.2.2.1) wd1938, ?_⟩
  refine List.forall_mem_cons.mpr ⟨(s_iconst (am_dp pw_X11_met_32 dd_X11_met_32a.2.2.2.1) (by decide)).to, ?_⟩
  refine List.forall_mem_cons.mpr ⟨(s_istore (am_dp pw_X11_met_32 dd_X11_met_32a.2.2.2.2.1) (by decide)).to, ?_⟩
  refine List.forall_mem_cons.mpr ⟨(s_iload (am_dp pw_X11_met_32 dd_X11_met_32a.2.2.2.2.2.1)).to, ?_⟩
  refine List.forall_mem_cons.mpr ⟨(s_bipush (am_dp pw_X11_met_32 dd_X11_met_32a.2.2.2.2.2.2.1) (by decide)).to, ?_⟩
  refine List.forall_mem_cons.mpr ⟨(s_icmp_ge (am_dp pw_X11_met_32 dd_X11_met_32a.2.2.2.2.2.2.2) (by decide)).to, ?_⟩
  refine List.forall_mem_cons.mpr ⟨(s_aloadn (am_dp pw_X11_met_32 dd_X11_met_32b.1) rfl).to, ?_⟩
  refine List.forall_mem_cons.mpr ⟨(s_get (ci := 11) (k := 77) (am_dp pw_X11_met_32 dd_X11_met_32b.2.1) rfl (by decide) wd1410 inX11 rfl).to, ?_⟩
  refine List.forall_mem_cons.mpr ⟨(s_iload (am_dp pw_X11_met_32 dd_X11_met_32b.2.2.1)).to, ?_⟩
  refine List.forall_mem_cons.mpr ⟨(s_aloadn (am_dp pw_X11_met_32 dd_X11_met_32b.2.2.2.1) rfl).to, ?_⟩
  refine List.forall_mem_cons.mpr ⟨(s_iloadn (am_dp pw_X11_met_32 dd_X11_met_32b.2.2.2.2.1) rfl).to, ?_⟩
  refine List.forall_mem_cons.mpr ⟨(s_iload (am_dp pw_X11_met_32 dd_X11_met_32b.2.2.2.2.2.1)).to, ?_⟩
  refine List.forall_mem_cons.mpr ⟨(s_iconst (am_dp pw_X11_met_32 dd_X11_met_32b.2.2.2.2.2.2.1) (by decide)).to, ?_⟩
  refine List.forall_mem_cons.mpr ⟨zw_cv277 (am_dp pw_X11_met_32 dd_X11_met_32b.2.2.2.2.2.2.2) wd2042, ?_⟩
  refine List.forall_mem_cons.mpr ⟨(s_zast (am_dp pw_X11_met_32 dd_X11_met_32c.1)).to, ?_⟩
  refine List.forall_mem_cons.mpr ⟨(s_iconst (am_dp pw_X11_met_32 dd_X11_met_32c.2.1) (by decide)).to, ?_⟩
  refine List.forall_mem_cons.mpr ⟨(s_istore (am_dp pw_X11_met_32 dd_X11_met_32c.2.2) (by decide)).to, ?_⟩
  refine List.forall_mem_cons.mpr ⟨(s_iload (am_dp pw_X11_met_64 dd_X11_met_64a.1)).to, ?_⟩
  refine List.forall_mem_cons.mpr ⟨(s_aloadn (am_dp pw_X11_met_64 dd_X11_met_64a.2.1) rfl).to, ?_⟩
  refine List.forall_mem_cons.mpr ⟨zw_cv214 (am_dp pw_X11_met_64 dd_X11_met_64a.2.2.1) wd1771, ?_⟩
  refine List.forall_mem_cons.mpr ⟨(s_icmp_ge (am_dp pw_X11_met_64 dd_X11_met_64a.2.2.2.1) (by decide)).to, ?_⟩
  refine List.forall_mem_cons.mpr ⟨(s_aloadn (am_dp pw_X11_met_64 dd_X11_met_64a.2.2.2.2.1) rfl).to, ?_⟩
  refine List.forall_mem_cons.mpr ⟨(s_get (ci := 11) (k := 76) (am_dp pw_X11_met_64 dd_X11_met_64a.2.2.2.2.2.1) rfl (by decide) wd1409 inX11 rfl).to, ?_⟩
  refine List.forall_mem_cons.mpr ⟨(s_sipush (am_dp pw_X11_met_64 dd_X11_met_64a.2.2.2.2.2.2.1) (by decide)).to, ?_⟩
  refine List.forall_mem_cons.mpr ⟨(s_iload (am_dp pw_X11_met_64 dd_X11_met_64a.2.2.2.2.2.2.2)).to, ?_⟩
  refine List.forall_mem_cons.mpr ⟨(s_imul (am_dp pw_X11_met_64 dd_X11_met_64b.1)).to, ?_⟩
  refine List.forall_mem_cons.mpr ⟨(s_iload (am_dp pw_X11_met_64 dd_X11_met_64b.2.1)).to, ?_⟩
  refine List.forall_mem_cons.mpr ⟨(s_iadd (am_dp pw_X11_met_64 dd_X11_met_64b.2.2.1)).to, ?_⟩
  refine List.forall_mem_cons.mpr ⟨(s_aloadn (am_dp pw_X11_met_64 dd_X11_met_64b.2.2.2.1) rfl).to, ?_⟩
  refine List.forall_mem_cons.mpr ⟨(s_get (ci := 11) (k := 77) (am_dp pw_X11_met_64 dd_X11_met_64b.2.2.2.2.1) rfl (by decide) wd1410 inX11 rfl).to, ?_⟩
  refine List.forall_mem_cons.mpr ⟨(s_iload (am_dp pw_X11_met_64 dd_X11_met_64b.2.2.2.2.2.1)).to, ?_⟩
  refine List.forall_mem_cons.mpr ⟨(s_zald (am_dp pw_X11_met_64 dd_X11_met_64b.2.2.2.2.2.2.1)).to, ?_⟩
  refine List.forall_mem_cons.mpr ⟨(s_if_eq (am_dp pw_X11_met_64 dd_X11_met_64b.2.2.2.2.2.2.2) (by decide)).to, ?_⟩
  refine List.forall_mem_cons.mpr ⟨(s_aloadn (am_dp pw_X11_met_96 dd_X11_met_96a.1) rfl).to, ?_⟩
  refine List.forall_mem_cons.mpr ⟨(s_iloadn (am_dp pw_X11_met_96 dd_X11_met_96a.2.1) rfl).to, ?_⟩
  refine List.forall_mem_cons.mpr ⟨(s_iload (am_dp pw_X11_met_96 dd_X11_met_96a.2.2.1)).to, ?_⟩
  refine List.forall_mem_cons.mpr ⟨(s_iload (am_dp pw_X11_met_96 dd_X11_met_96a.2.2.2.1)).to, ?_⟩
  refine List.forall_mem_cons.mpr ⟨zw_cv250 (am_dp pw_X11_met_96 dd_X11_met_96a.2.2.2.2.1) wd1946, ?_⟩
  refine List.forall_mem_cons.mpr ⟨(s_if_eq (am_dp pw_X11_met_96 dd_X11_met_96a.2.2.2.2.2.1) (by decide)).to, ?_⟩
  refine List.forall_mem_cons.mpr ⟨(s_iconst (am_dp pw_X11_met_96 dd_X11_met_96a.2.2.2.2.2.2.1) (by decide)).to, ?_⟩
  exact fun _ h => absurd h List.not_mem_nil
theorem sn_tX11_met_1 : ∀ q ∈ tX11_met_1, am_Snd am_P0 RX11 cX11_met 10 (Option.some FieldType.int) "met" q.1 q.2 := by
  unfold tX11_met_1
  refine List.forall_mem_cons.mpr ⟨(s_goto (am_dp pw_X11_met_96 dd_X11_met_96a.2.2.2.2.2.2.2) (by decide)).to, ?_⟩
  refine List.forall_mem_cons.mpr ⟨(s_iconst (am_dp pw_X11_met_96 dd_X11_met_96b.1) (by decide)).to, ?_⟩
  refine List.forall_mem_cons.mpr ⟨(s_zast (am_dp pw_X11_met_96 dd_X11_met_96b.2.1)).to, ?_⟩
  refine List.forall_mem_cons.mpr ⟨(s_iinc (am_dp pw_X11_met_96 dd_X11_met_96b.2.2.1) (by decide) (by decide)).to, ?_⟩
  refine List.forall_mem_cons.mpr ⟨(s_goto (am_dp pw_X11_met_96 dd_X11_met_96b.2.2.2.1) (by decide)).to, ?_⟩
  refine List.forall_mem_cons.mpr ⟨(s_iinc (am_dp pw_X11_met_96 dd_X11_met_96b.2.2.2.2.1) (by decide) (by decide)).to, ?_⟩
  refine List.forall_mem_cons.mpr ⟨(s_goto (am_dp pw_X11_met_96 dd_X11_met_96b.2.2.2.2.2.1) (by decide)).to, ?_⟩
  refine List.forall_mem_cons.mpr ⟨(s_aloadn (am_dp pw_X11_met_96 dd_X11_met_96b.2.2.2.2.2.2) rfl).to, ?_⟩
  refine List.forall_mem_cons.mpr ⟨(s_iloadn (am_dp pw_X11_met_128 dd_X11_met_128a.1) rfl).to, ?_⟩
  refine List.forall_mem_cons.mpr ⟨zw_cv249 (am_dp pw_X11_met_128 dd_X11_met_128a.2.1) wd1938, ?_⟩
  refine List.forall_mem_cons.mpr ⟨(s_iconst (am_dp pw_X11_met_128 dd_X11_met_128a.2.2.1) (by decide)).to, ?_⟩
  refine List.forall_mem_cons.mpr ⟨(s_istore (am_dp pw_X11_met_128 dd_X11_met_128a.2.2.2.1) (by decide)).to, ?_⟩
  refine List.forall_mem_cons.mpr ⟨(s_iconst (am_dp pw_X11_met_128 dd_X11_met_128a.2.2.2.2.1) (by decide)).to, ?_⟩
  refine List.forall_mem_cons.mpr ⟨(s_istore (am_dp pw_X11_met_128 dd_X11_met_128a.2.2.2.2.2.1) (by decide)).to, ?_⟩
  refine List.forall_mem_cons.mpr ⟨(s_iconst (am_dp pw_X11_met_128 dd_X11_met_128a.2.2.2.2.2.2.1) (by decide)).to, ?_⟩
  refine List.forall_mem_cons.mpr ⟨(s_istore (am_dp pw_X11_met_128 dd_X11_met_128a.2.2.2.2.2.2.2) (by decide)).to, ?_⟩
  refine List.forall_mem_cons.mpr ⟨(s_iconst (am_dp pw_X11_met_128 dd_X11_met_128b.1) (by decide)).to, ?_⟩
  refine List.forall_mem_cons.mpr ⟨(s_istore (am_dp pw_X11_met_128 dd_X11_met_128b.2.1) (by decide)).to, ?_⟩
  refine List.forall_mem_cons.mpr ⟨(s_iload (am_dp pw_X11_met_128 dd_X11_met_128b.2.2.1)).to, ?_⟩
  refine List.forall_mem_cons.mpr ⟨(s_bipush (am_dp pw_X11_met_128 dd_X11_met_128b.2.2.2.1) (by decide)).to, ?_⟩
  refine List.forall_mem_cons.mpr ⟨(s_icmp_ge (am_dp pw_X11_met_128 dd_X11_met_128b.2.2.2.2.1) (by decide)).to, ?_⟩
  refine List.forall_mem_cons.mpr ⟨(s_aloadn (am_dp pw_X11_met_128 dd_X11_met_128b.2.2.2.2.2.1) rfl).to, ?_⟩
  refine List.forall_mem_cons.mpr ⟨(s_get (ci := 11) (k := 77) (am_dp pw_X11_met_128 dd_X11_met_128b.2.2.2.2.2.2.1) rfl (by decide) wd1410 inX11 rfl).to, ?_⟩
  refine List.forall_mem_cons.mpr ⟨(s_iload (am_dp pw_X11_met_128 dd_X11_met_128b.2.2.2.2.2.2.2)).to, ?_⟩
  refine List.forall_mem_cons.mpr ⟨(s_zald (am_dp pw_X11_met_128 dd_X11_met_128c.1)).to, ?_⟩
  refine List.forall_mem_cons.mpr ⟨(s_if_eq (am_dp pw_X11_met_128 dd_X11_met_128c.2) (by decide)).to, ?_⟩
  refine List.forall_mem_cons.mpr ⟨(s_aloadn (am_dp pw_X11_met_160 dd_X11_met_160a.1) rfl).to, ?_⟩
  refine List.forall_mem_cons.mpr ⟨(s_iloadn (am_dp pw_X11_met_160 dd_X11_met_160a.2.1) rfl).to, ?_⟩
  refine List.forall_mem_cons.mpr ⟨(s_iload (am_dp pw_X11_met_160 dd_X11_met_160a.2.2.1)).to, ?_⟩
  refine List.forall_mem_cons.mpr ⟨(s_iconst (am_dp pw_X11_met_160 dd_X11_met_160a.2.2.2.1) (by decide)).to, ?_⟩
  refine List.forall_mem_cons.mpr ⟨zw_cv277 (am_dp pw_X11_met_160 dd_X11_met_160a.2.2.2.2.1) wd2042, ?_⟩
  refine List.forall_mem_cons.mpr ⟨(s_if_ne (am_dp pw_X11_met_160 dd_X11_met_160a.2.2.2.2.2.1) (by decide)).to, ?_⟩
  refine List.forall_mem_cons.mpr ⟨(s_goto (am_dp pw_X11_met_160 dd_X11_met_160a.2.2.2.2.2.2.1) (by decide)).to, ?_⟩
  refine List.forall_mem_cons.mpr ⟨(s_iconst (am_dp pw_X11_met_160 dd_X11_met_160a.2.2.2.2.2.2.2) (by decide)).to, ?_⟩
  refine List.forall_mem_cons.mpr ⟨(s_istore (am_dp pw_X11_met_160 dd_X11_met_160b.1) (by decide)).to, ?_⟩
  refine List.forall_mem_cons.mpr ⟨(s_iconst (am_dp pw_X11_met_160 dd_X11_met_160b.2.1) (by decide)).to, ?_⟩
  refine List.forall_mem_cons.mpr ⟨(s_istore (am_dp pw_X11_met_160 dd_X11_met_160b.2.2.1) (by decide)).to, ?_⟩
  refine List.forall_mem_cons.mpr ⟨(s_iload (am_dp pw_X11_met_160 dd_X11_met_160b.2.2.2.1)).to, ?_⟩
  refine List.forall_mem_cons.mpr ⟨(s_aloadn (am_dp pw_X11_met_160 dd_X11_met_160b.2.2.2.2.1) rfl).to, ?_⟩
  refine List.forall_mem_cons.mpr ⟨zw_cv214 (am_dp pw_X11_met_160 dd_X11_met_160b.2.2.2.2.2.1) wd1771, ?_⟩
  refine List.forall_mem_cons.mpr ⟨(s_icmp_ge (am_dp pw_X11_met_160 dd_X11_met_160b.2.2.2.2.2.2.1) (by decide)).to, ?_⟩
  refine List.forall_mem_cons.mpr ⟨(s_iload (am_dp pw_X11_met_160 dd_X11_met_160b.2.2.2.2.2.2.2)).to, ?_⟩
  refine List.forall_mem_cons.mpr ⟨(s_aloadn (am_dp pw_X11_met_192 dd_X11_met_192a.1) rfl).to, ?_⟩
  refine List.forall_mem_cons.mpr ⟨(s_get (ci := 11) (k := 76) (am_dp pw_X11_met_192 dd_X11_met_192a.2.1) rfl (by decide) wd1409 inX11 rfl).to, ?_⟩
  refine List.forall_mem_cons.mpr ⟨(s_sipush (am_dp pw_X11_met_192 dd_X11_met_192a.2.2.1) (by decide)).to, ?_⟩
  refine List.forall_mem_cons.mpr ⟨(s_iload (am_dp pw_X11_met_192 dd_X11_met_192a.2.2.2.1)).to, ?_⟩
  refine List.forall_mem_cons.mpr ⟨(s_imul (am_dp pw_X11_met_192 dd_X11_met_192a.2.2.2.2.1)).to, ?_⟩
  refine List.forall_mem_cons.mpr ⟨(s_iload (am_dp pw_X11_met_192 dd_X11_met_192a.2.2.2.2.2.1)).to, ?_⟩
  refine List.forall_mem_cons.mpr ⟨(s_iadd (am_dp pw_X11_met_192 dd_X11_met_192a.2.2.2.2.2.2.1)).to, ?_⟩
  refine List.forall_mem_cons.mpr ⟨(s_zald (am_dp pw_X11_met_192 dd_X11_met_192a.2.2.2.2.2.2.2)).to, ?_⟩
  refine List.forall_mem_cons.mpr ⟨(s_if_eq (am_dp pw_X11_met_192 dd_X11_met_192b.1) (by decide)).to, ?_⟩
  refine List.forall_mem_cons.mpr ⟨(s_aloadn (am_dp pw_X11_met_192 dd_X11_met_192b.2.1) rfl).to, ?_⟩
  refine List.forall_mem_cons.mpr ⟨(s_iloadn (am_dp pw_X11_met_192 dd_X11_met_192b.2.2.1) rfl).to, ?_⟩
  refine List.forall_mem_cons.mpr ⟨(s_iload (am_dp pw_X11_met_192 dd_X11_met_192b.2.2.2.1)).to, ?_⟩
  refine List.forall_mem_cons.mpr ⟨(s_iload (am_dp pw_X11_met_192 dd_X11_met_192b.2.2.2.2.1)).to, ?_⟩
  refine List.forall_mem_cons.mpr ⟨zw_cv250 (am_dp pw_X11_met_192 dd_X11_met_192b.2.2.2.2.2.1) wd1946, ?_⟩
  refine List.forall_mem_cons.mpr ⟨(s_if_eq (am_dp pw_X11_met_192 dd_X11_met_192b.2.2.2.2.2.2.1) (by decide)).to, ?_⟩
  refine List.forall_mem_cons.mpr ⟨(s_iconst (am_dp pw_X11_met_192 dd_X11_met_192b.2.2.2.2.2.2.2) (by decide)).to, ?_⟩
  refine List.forall_mem_cons.mpr ⟨(s_goto (am_dp pw_X11_met_192 dd_X11_met_192c) (by decide)).to, ?_⟩
  refine List.forall_mem_cons.mpr ⟨(s_iconst (am_dp pw_X11_met_224 dd_X11_met_224a.1) (by decide)).to, ?_⟩
  exact fun _ h => absurd h List.not_mem_nil
theorem sn_tX11_met_2 : ∀ q ∈ tX11_met_2, am_Snd am_P0 RX11 cX11_met 10 (Option.some FieldType.int) "met" q.1 q.2 := by
  unfold tX11_met_2
  refine List.forall_mem_cons.mpr ⟨(s_iadd (am_dp pw_X11_met_224 dd_X11_met_224a.2.1)).to, ?_⟩
  refine List.forall_mem_cons.mpr ⟨(s_istore (am_dp pw_X11_met_224 dd_X11_met_224a.2.2.1) (by decide)).to, ?_⟩
  refine List.forall_mem_cons.mpr ⟨(s_iinc (am_dp pw_X11_met_224 dd_X11_met_224a.2.2.2.1) (by decide) (by decide)).to, ?_⟩
  refine List.forall_mem_cons.mpr ⟨(s_goto (am_dp pw_X11_met_224 dd_X11_met_224a.2.2.2.2.1) (by decide)).to, ?_⟩
  refine List.forall_mem_cons.mpr ⟨(s_iload (am_dp pw_X11_met_224 dd_X11_met_224a.2.2.2.2.2.1)).to, ?_⟩
  refine List.forall_mem_cons.mpr ⟨(s_if_ne (am_dp pw_X11_met_224 dd_X11_met_224a.2.2.2.2.2.2.1) (by decide)).to, ?_⟩
  refine List.forall_mem_cons.mpr ⟨(s_goto (am_dp pw_X11_met_224 dd_X11_met_224a.2.2.2.2.2.2.2) (by decide)).to, ?_⟩
  refine List.forall_mem_cons.mpr ⟨(s_iinc (am_dp pw_X11_met_224 dd_X11_met_224b.1) (by decide) (by decide)).to, ?_⟩
  refine List.forall_mem_cons.mpr ⟨(s_iload (am_dp pw_X11_met_224 dd_X11_met_224b.2.1)).to, ?_⟩
  refine List.forall_mem_cons.mpr ⟨(s_iload (am_dp pw_X11_met_224 dd_X11_met_224b.2.2.1)).to, ?_⟩
  refine List.forall_mem_cons.mpr ⟨(s_iadd (am_dp pw_X11_met_224 dd_X11_met_224b.2.2.2.1)).to, ?_⟩
  refine List.forall_mem_cons.mpr ⟨(s_istore (am_dp pw_X11_met_224 dd_X11_met_224b.2.2.2.2.1) (by decide)).to, ?_⟩
  refine List.forall_mem_cons.mpr ⟨(s_iload (am_dp pw_X11_met_224 dd_X11_met_224b.2.2.2.2.2.1)).to, ?_⟩
  refine List.forall_mem_cons.mpr ⟨(s_iconst (am_dp pw_X11_met_224 dd_X11_met_224b.2.2.2.2.2.2) (by decide)).to, ?_⟩
  refine List.forall_mem_cons.mpr ⟨(s_icmp_ne (am_dp pw_X11_met_256 dd_X11_met_256a.1) (by decide)).to, ?_⟩
  refine List.forall_mem_cons.mpr ⟨(s_iload (am_dp pw_X11_met_256 dd_X11_met_256a.2.1)).to, ?_⟩
  refine List.forall_mem_cons.mpr ⟨(s_goto (am_dp pw_X11_met_256 dd_X11_met_256a.2.2.1) (by decide)).to, ?_⟩
  refine List.forall_mem_cons.mpr ⟨(s_iload (am_dp pw_X11_met_256 dd_X11_met_256a.2.2.2.1)).to, ?_⟩
  refine List.forall_mem_cons.mpr ⟨(s_istore (am_dp pw_X11_met_256 dd_X11_met_256a.2.2.2.2.1) (by decide)).to, ?_⟩
  refine List.forall_mem_cons.mpr ⟨(s_iinc (am_dp pw_X11_met_256 dd_X11_met_256a.2.2.2.2.2.1) (by decide) (by decide)).to, ?_⟩
  refine List.forall_mem_cons.mpr ⟨(s_goto (am_dp pw_X11_met_256 dd_X11_met_256a.2.2.2.2.2.2.1) (by decide)).to, ?_⟩
  refine List.forall_mem_cons.mpr ⟨(s_iloadn (am_dp pw_X11_met_256 dd_X11_met_256a.2.2.2.2.2.2.2) rfl).to, ?_⟩
  refine List.forall_mem_cons.mpr ⟨(s_if_ne (am_dp pw_X11_met_256 dd_X11_met_256b.1) (by decide)).to, ?_⟩
  refine List.forall_mem_cons.mpr ⟨(s_iload (am_dp pw_X11_met_256 dd_X11_met_256b.2.1)).to, ?_⟩
  refine List.forall_mem_cons.mpr ⟨(s_goto (am_dp pw_X11_met_256 dd_X11_met_256b.2.2.1) (by decide)).to, ?_⟩
  refine List.forall_mem_cons.mpr ⟨(s_iloadn (am_dp pw_X11_met_256 dd_X11_met_256b.2.2.2.1) rfl).to, ?_⟩
  refine List.forall_mem_cons.mpr ⟨(s_iconst (am_dp pw_X11_met_256 dd_X11_met_256b.2.2.2.2.1) (by decide)).to, ?_⟩
  refine List.forall_mem_cons.mpr ⟨(s_icmp_ne (am_dp pw_X11_met_256 dd_X11_met_256b.2.2.2.2.2) (by decide)).to, ?_⟩
  refine List.forall_mem_cons.mpr ⟨(s_iload (am_dp pw_X11_met_288 dd_X11_met_288a.1)).to, ?_⟩
  refine List.forall_mem_cons.mpr ⟨(s_goto (am_dp pw_X11_met_288 dd_X11_met_288a.2.1) (by decide)).to, ?_⟩
  refine List.forall_mem_cons.mpr ⟨(s_iload (am_dp pw_X11_met_288 dd_X11_met_288a.2.2.1)).to, ?_⟩
  refine List.forall_mem_cons.mpr ⟨s_iret (am_dp pw_X11_met_288 dd_X11_met_288a.2.2.2) rfl, ?_⟩
  exact fun _ h => absurd h List.not_mem_nil
theorem sn_tX11_met : ∀ q ∈ tX11_met, am_Snd am_P0 RX11 cX11_met 10 (Option.some FieldType.int) "met" q.1 q.2 := by
  unfold tX11_met
  exact List.forall_mem_append.mpr ⟨List.forall_mem_append.mpr ⟨sn_tX11_met_0, sn_tX11_met_1⟩, sn_tX11_met_2⟩
theorem sn_tX11_explains_0 : ∀ q ∈ tX11_explains_0, am_Snd am_P0 RX11 cX11_explains 4 (Option.none : Option FieldType) "explains" q.1 q.2 := by
  unfold tX11_explains_0
  refine List.forall_mem_cons.mpr ⟨(s_iconst (am_dp pw_X11_explains_0 dd_X11_explains_0a.1) (by decide)).to, ?_⟩
  refine List.forall_mem_cons.mpr ⟨(s_istoren (am_dp pw_X11_explains_0 dd_X11_explains_0a.2.1) rfl (by decide)).to, ?_⟩
  refine List.forall_mem_cons.mpr ⟨(s_iloadn (am_dp pw_X11_explains_0 dd_X11_explains_0a.2.2.1) rfl).to, ?_⟩
  refine List.forall_mem_cons.mpr ⟨(s_bipush (am_dp pw_X11_explains_0 dd_X11_explains_0a.2.2.2.1) (by decide)).to, ?_⟩
  refine List.forall_mem_cons.mpr ⟨(s_icmp_ge (am_dp pw_X11_explains_0 dd_X11_explains_0a.2.2.2.2.1) (by decide)).to, ?_⟩
  refine List.forall_mem_cons.mpr ⟨(s_aloadn (am_dp pw_X11_explains_0 dd_X11_explains_0a.2.2.2.2.2.1) rfl).to, ?_⟩
  refine List.forall_mem_cons.mpr ⟨(s_get (ci := 11) (k := 78) (am_dp pw_X11_explains_0 dd_X11_explains_0a.2.2.2.2.2.2.1) rfl (by decide) wd1411 inX11 rfl).to, ?_⟩
  refine List.forall_mem_cons.mpr ⟨(s_iloadn (am_dp pw_X11_explains_0 dd_X11_explains_0a.2.2.2.2.2.2.2) rfl).to, ?_⟩
  refine List.forall_mem_cons.mpr ⟨(s_iconst (am_dp pw_X11_explains_0 dd_X11_explains_0b.1) (by decide)).to, ?_⟩
  refine List.forall_mem_cons.mpr ⟨(s_iast (am_dp pw_X11_explains_0 dd_X11_explains_0b.2.1)).to, ?_⟩
  refine List.forall_mem_cons.mpr ⟨(s_iinc (am_dp pw_X11_explains_0 dd_X11_explains_0b.2.2.1) (by decide) (by decide)).to, ?_⟩
  refine List.forall_mem_cons.mpr ⟨(s_goto (am_dp pw_X11_explains_0 dd_X11_explains_0b.2.2.2.1) (by decide)).to, ?_⟩
  refine List.forall_mem_cons.mpr ⟨(s_iconst (am_dp pw_X11_explains_0 dd_X11_explains_0b.2.2.2.2.1) (by decide)).to, ?_⟩
  refine List.forall_mem_cons.mpr ⟨(s_istoren (am_dp pw_X11_explains_0 dd_X11_explains_0b.2.2.2.2.2.1) rfl (by decide)).to, ?_⟩
  refine List.forall_mem_cons.mpr ⟨(s_iloadn (am_dp pw_X11_explains_0 dd_X11_explains_0b.2.2.2.2.2.2.1) rfl).to, ?_⟩
  refine List.forall_mem_cons.mpr ⟨(s_aloadn (am_dp pw_X11_explains_0 dd_X11_explains_0b.2.2.2.2.2.2.2) rfl).to, ?_⟩
  refine List.forall_mem_cons.mpr ⟨(s_get (ci := 11) (k := 19) (am_dp pw_X11_explains_0 dd_X11_explains_0c.1) rfl (by decide) wd1352 inX11 rfl).to, ?_⟩
  refine List.forall_mem_cons.mpr ⟨(s_aloadn (am_dp pw_X11_explains_0 dd_X11_explains_0c.2.1) rfl).to, ?_⟩
  refine List.forall_mem_cons.mpr ⟨(s_get (ci := 11) (k := 12) (am_dp pw_X11_explains_0 dd_X11_explains_0c.2.2) rfl (by decide) wd1345 inX11 rfl).to, ?_⟩
  refine List.forall_mem_cons.mpr ⟨(s_iald (am_dp pw_X11_explains_32 dd_X11_explains_32a.1)).to, ?_⟩
  refine List.forall_mem_cons.mpr ⟨(s_icmp_ge (am_dp pw_X11_explains_32 dd_X11_explains_32a.2.1) (by decide)).to, ?_⟩
  refine List.forall_mem_cons.mpr ⟨(s_aloadn (am_dp pw_X11_explains_32 dd_X11_explains_32a.2.2.1) rfl).to, ?_⟩
  refine List.forall_mem_cons.mpr ⟨(s_iloadn (am_dp pw_X11_explains_32 dd_X11_explains_32a.2.2.2.1) rfl).to, ?_⟩
  refine List.forall_mem_cons.mpr ⟨zw_cv249 (am_dp pw_X11_explains_32 dd_X11_explains_32a.2.2.2.2.1) wd1938, ?_⟩
  refine List.forall_mem_cons.mpr ⟨(s_iconst (am_dp pw_X11_explains_32 dd_X11_explains_32a.2.2.2.2.2.1) (by decide)).to, ?_⟩
  refine List.forall_mem_cons.mpr ⟨(s_istoren (am_dp pw_X11_explains_32 dd_X11_explains_32a.2.2.2.2.2.2.1) rfl (by decide)).to, ?_⟩
  refine List.forall_mem_cons.mpr ⟨(s_iloadn (am_dp pw_X11_explains_32 dd_X11_explains_32a.2.2.2.2.2.2.2) rfl).to, ?_⟩
  refine List.forall_mem_cons.mpr ⟨(s_aloadn (am_dp pw_X11_explains_32 dd_X11_explains_32b.1) rfl).to, ?_⟩
  refine List.forall_mem_cons.mpr ⟨(s_get (ci := 11) (k := 33) (am_dp pw_X11_explains_32 dd_X11_explains_32b.2.1) rfl (by decide) wd1366 inX11 rfl).to, ?_⟩
  refine List.forall_mem_cons.mpr ⟨(s_aloadn (am_dp pw_X11_explains_32 dd_X11_explains_32b.2.2.1) rfl).to, ?_⟩
  refine List.forall_mem_cons.mpr ⟨(s_get (ci := 11) (k := 12) (am_dp pw_X11_explains_32 dd_X11_explains_32b.2.2.2.1) rfl (by decide) wd1345 inX11 rfl).to, ?_⟩
  refine List.forall_mem_cons.mpr ⟨(s_iald (am_dp pw_X11_explains_32 dd_X11_explains_32b.2.2.2.2.1)).to, ?_⟩
  refine List.forall_mem_cons.mpr ⟨(s_icmp_ge (am_dp pw_X11_explains_32 dd_X11_explains_32b.2.2.2.2.2.1) (by decide)).to, ?_⟩
  refine List.forall_mem_cons.mpr ⟨(s_bipush (am_dp pw_X11_explains_32 dd_X11_explains_32b.2.2.2.2.2.2.1) (by decide)).to, ?_⟩
  refine List.forall_mem_cons.mpr ⟨(s_aloadn (am_dp pw_X11_explains_32 dd_X11_explains_32b.2.2.2.2.2.2.2) rfl).to, ?_⟩
  refine List.forall_mem_cons.mpr ⟨(s_get (ci := 11) (k := 12) (am_dp pw_X11_explains_32 dd_X11_explains_32c.1) rfl (by decide) wd1345 inX11 rfl).to, ?_⟩
  refine List.forall_mem_cons.mpr ⟨(s_imul (am_dp pw_X11_explains_32 dd_X11_explains_32c.2.1)).to, ?_⟩
  refine List.forall_mem_cons.mpr ⟨(s_iloadn (am_dp pw_X11_explains_32 dd_X11_explains_32c.2.2) rfl).to, ?_⟩
  refine List.forall_mem_cons.mpr ⟨(s_iadd (am_dp pw_X11_explains_64 dd_X11_explains_64a.1)).to, ?_⟩
  refine List.forall_mem_cons.mpr ⟨(s_istoren (am_dp pw_X11_explains_64 dd_X11_explains_64a.2.1) rfl (by decide)).to, ?_⟩
  refine List.forall_mem_cons.mpr ⟨(s_aloadn (am_dp pw_X11_explains_64 dd_X11_explains_64a.2.2.1) rfl).to, ?_⟩
  refine List.forall_mem_cons.mpr ⟨(s_get (ci := 11) (k := 34) (am_dp pw_X11_explains_64 dd_X11_explains_64a.2.2.2.1) rfl (by decide) wd1367 inX11 rfl).to, ?_⟩
  refine List.forall_mem_cons.mpr ⟨(s_iloadn (am_dp pw_X11_explains_64 dd_X11_explains_64a.2.2.2.2.1) rfl).to, ?_⟩
  refine List.forall_mem_cons.mpr ⟨(s_iald (am_dp pw_X11_explains_64 dd_X11_explains_64a.2.2.2.2.2.1)).to, ?_⟩
  refine List.forall_mem_cons.mpr ⟨(s_aloadn (am_dp pw_X11_explains_64 dd_X11_explains_64a.2.2.2.2.2.2.1) rfl).to, ?_⟩
  refine List.forall_mem_cons.mpr ⟨(s_get (ci := 11) (k := 21) (am_dp pw_X11_explains_64 dd_X11_explains_64a.2.2.2.2.2.2.2) rfl (by decide) wd1354 inX11 rfl).to, ?_⟩
  refine List.forall_mem_cons.mpr ⟨(s_bipush (am_dp pw_X11_explains_64 dd_X11_explains_64b.1) (by decide)).to, ?_⟩
  refine List.forall_mem_cons.mpr ⟨(s_aloadn (am_dp pw_X11_explains_64 dd_X11_explains_64b.2.1) rfl).to, ?_⟩
  refine List.forall_mem_cons.mpr ⟨(s_get (ci := 11) (k := 12) (am_dp pw_X11_explains_64 dd_X11_explains_64b.2.2.1) rfl (by decide) wd1345 inX11 rfl).to, ?_⟩
  refine List.forall_mem_cons.mpr ⟨(s_imul (am_dp pw_X11_explains_64 dd_X11_explains_64b.2.2.2.1)).to, ?_⟩
  refine List.forall_mem_cons.mpr ⟨(s_iloadn (am_dp pw_X11_explains_64 dd_X11_explains_64b.2.2.2.2.1) rfl).to, ?_⟩
  refine List.forall_mem_cons.mpr ⟨(s_iadd (am_dp pw_X11_explains_64 dd_X11_explains_64b.2.2.2.2.2.1)).to, ?_⟩
  refine List.forall_mem_cons.mpr ⟨(s_iald (am_dp pw_X11_explains_64 dd_X11_explains_64b.2.2.2.2.2.2.1)).to, ?_⟩
  refine List.forall_mem_cons.mpr ⟨(s_icmp_ne (am_dp pw_X11_explains_64 dd_X11_explains_64b.2.2.2.2.2.2.2) (by decide)).to, ?_⟩
  refine List.forall_mem_cons.mpr ⟨(s_aloadn (am_dp pw_X11_explains_64 dd_X11_explains_64c.1) rfl).to, ?_⟩
  refine List.forall_mem_cons.mpr ⟨(s_iloadn (am_dp pw_X11_explains_64 dd_X11_explains_64c.2.1) rfl).to, ?_⟩
  refine List.forall_mem_cons.mpr ⟨(s_aloadn (am_dp pw_X11_explains_64 dd_X11_explains_64c.2.2.1) rfl).to, ?_⟩
  refine List.forall_mem_cons.mpr ⟨(s_get (ci := 11) (k := 35) (am_dp pw_X11_explains_64 dd_X11_explains_64c.2.2.2.1) rfl (by decide) wd1368 inX11 rfl).to, ?_⟩
  refine List.forall_mem_cons.mpr ⟨(s_iloadn (am_dp pw_X11_explains_64 dd_X11_explains_64c.2.2.2.2) rfl).to, ?_⟩
  refine List.forall_mem_cons.mpr ⟨(s_iald (am_dp pw_X11_explains_96 dd_X11_explains_96a.1)).to, ?_⟩
  exact fun _ h => absurd h List.not_mem_nil
theorem sn_tX11_explains_1 : ∀ q ∈ tX11_explains_1, am_Snd am_P0 RX11 cX11_explains 4 (Option.none : Option FieldType) "explains" q.1 q.2 := by
  unfold tX11_explains_1
  refine List.forall_mem_cons.mpr ⟨(s_aloadn (am_dp pw_X11_explains_96 dd_X11_explains_96a.2.1) rfl).to, ?_⟩
  refine List.forall_mem_cons.mpr ⟨(s_get (ci := 11) (k := 36) (am_dp pw_X11_explains_96 dd_X11_explains_96a.2.2.1) rfl (by decide) wd1369 inX11 rfl).to, ?_⟩
  refine List.forall_mem_cons.mpr ⟨(s_iloadn (am_dp pw_X11_explains_96 dd_X11_explains_96a.2.2.2.1) rfl).to, ?_⟩
  refine List.forall_mem_cons.mpr ⟨(s_iald (am_dp pw_X11_explains_96 dd_X11_explains_96a.2.2.2.2.1)).to, ?_⟩
  refine List.forall_mem_cons.mpr ⟨zw_cv250 (am_dp pw_X11_explains_96 dd_X11_explains_96a.2.2.2.2.2.1) wd1946, ?_⟩
  refine List.forall_mem_cons.mpr ⟨(s_if_eq (am_dp pw_X11_explains_96 dd_X11_explains_96a.2.2.2.2.2.2.1) (by decide)).to, ?_⟩
  refine List.forall_mem_cons.mpr ⟨(s_aloadn (am_dp pw_X11_explains_96 dd_X11_explains_96a.2.2.2.2.2.2.2) rfl).to, ?_⟩
  refine List.forall_mem_cons.mpr ⟨(s_get (ci := 11) (k := 78) (am_dp pw_X11_explains_96 dd_X11_explains_96b.1) rfl (by decide) wd1411 inX11 rfl).to, ?_⟩
  refine List.forall_mem_cons.mpr ⟨(s_iloadn (am_dp pw_X11_explains_96 dd_X11_explains_96b.2.1) rfl).to, ?_⟩
  refine List.forall_mem_cons.mpr ⟨(s_dup2 (am_dp pw_X11_explains_96 dd_X11_explains_96b.2.2.1)).to, ?_⟩
  refine List.forall_mem_cons.mpr ⟨(s_iald (am_dp pw_X11_explains_96 dd_X11_explains_96b.2.2.2.1)).to, ?_⟩
  refine List.forall_mem_cons.mpr ⟨(s_iconst (am_dp pw_X11_explains_96 dd_X11_explains_96b.2.2.2.2.1) (by decide)).to, ?_⟩
  refine List.forall_mem_cons.mpr ⟨(s_iloadn (am_dp pw_X11_explains_96 dd_X11_explains_96b.2.2.2.2.2.1) rfl).to, ?_⟩
  refine List.forall_mem_cons.mpr ⟨(s_ishl (am_dp pw_X11_explains_96 dd_X11_explains_96b.2.2.2.2.2.2.1)).to, ?_⟩
  refine List.forall_mem_cons.mpr ⟨(s_ior (am_dp pw_X11_explains_96 dd_X11_explains_96b.2.2.2.2.2.2.2)).to, ?_⟩
  refine List.forall_mem_cons.mpr ⟨(s_iast (am_dp pw_X11_explains_96 dd_X11_explains_96c.1)).to, ?_⟩
  refine List.forall_mem_cons.mpr ⟨(s_iinc (am_dp pw_X11_explains_96 dd_X11_explains_96c.2.1) (by decide) (by decide)).to, ?_⟩
  refine List.forall_mem_cons.mpr ⟨(s_goto (am_dp pw_X11_explains_96 dd_X11_explains_96c.2.2.1) (by decide)).to, ?_⟩
  refine List.forall_mem_cons.mpr ⟨(s_iinc (am_dp pw_X11_explains_96 dd_X11_explains_96c.2.2.2) (by decide) (by decide)).to, ?_⟩
  refine List.forall_mem_cons.mpr ⟨(s_goto (am_dp pw_X11_explains_128 dd_X11_explains_128a.1) (by decide)).to, ?_⟩
  refine List.forall_mem_cons.mpr ⟨s_vret (am_dp pw_X11_explains_128 dd_X11_explains_128a.2) rfl, ?_⟩
  exact fun _ h => absurd h List.not_mem_nil
theorem sn_tX11_explains : ∀ q ∈ tX11_explains, am_Snd am_P0 RX11 cX11_explains 4 (Option.none : Option FieldType) "explains" q.1 q.2 := by
  unfold tX11_explains
  exact List.forall_mem_append.mpr ⟨sn_tX11_explains_0, sn_tX11_explains_1⟩
end
section
/-! the machine follows each instruction (by program: gen_prog.py) -/
theorem sn_tX11_sighting : ∀ q ∈ tX11_sighting, am_Snd am_P0 RX11 cX11_sighting 4 (Option.some FieldType.int) "sighting" q.1 q.2 := by
  unfold tX11_sighting
  refine List.forall_mem_cons.mpr ⟨(s_iloadn (am_dp pw_X11_sighting_0 dd_X11_sighting_0a.1) rfl).to, ?_⟩
  refine List.forall_mem_cons.mpr ⟨(s_iconst (am_dp pw_X11_sighting_0 dd_X11_sighting_0a.2.1) (by decide)).to, ?_⟩
  refine List.forall_mem_cons.mpr ⟨(s_aloadn (am_dp pw_X11_sighting_0 dd_X11_sighting_0a.2.2.1) rfl).to, ?_⟩
  refine List.forall_mem_cons.mpr ⟨(s_get (ci := 11) (k := 33) (am_dp pw_X11_sighting_0 dd_X11_sighting_0a.2.2.2.1) rfl (by decide) wd1366 inX11 rfl).to, ?_⟩
  refine List.forall_mem_cons.mpr ⟨(s_aloadn (am_dp pw_X11_sighting_0 dd_X11_sighting_0a.2.2.2.2.1) rfl).to, ?_⟩
  refine List.forall_mem_cons.mpr ⟨(s_get (ci := 11) (k := 12) (am_dp pw_X11_sighting_0 dd_X11_sighting_0a.2.2.2.2.2.1) rfl (by decide) wd1345 inX11 rfl).to, ?_⟩
  refine List.forall_mem_cons.mpr ⟨(s_iald (am_dp pw_X11_sighting_0 dd_X11_sighting_0a.2.2.2.2.2.2.1)).to, ?_⟩
  refine List.forall_mem_cons.mpr ⟨(s_iconst (am_dp pw_X11_sighting_0 dd_X11_sighting_0a.2.2.2.2.2.2.2) (by decide)).to, ?_⟩
  refine List.forall_mem_cons.mpr ⟨(s_isub (am_dp pw_X11_sighting_0 dd_X11_sighting_0b.1)).to, ?_⟩
  refine List.forall_mem_cons.mpr ⟨zw_cs167 (am_dp pw_X11_sighting_0 dd_X11_sighting_0b.2.1) wd1630, ?_⟩
  refine List.forall_mem_cons.mpr ⟨(s_if_eq (am_dp pw_X11_sighting_0 dd_X11_sighting_0b.2.2.1) (by decide)).to, ?_⟩
  refine List.forall_mem_cons.mpr ⟨(s_iloadn (am_dp pw_X11_sighting_0 dd_X11_sighting_0b.2.2.2.1) rfl).to, ?_⟩
  refine List.forall_mem_cons.mpr ⟨(s_iconst (am_dp pw_X11_sighting_0 dd_X11_sighting_0b.2.2.2.2.1) (by decide)).to, ?_⟩
  refine List.forall_mem_cons.mpr ⟨(s_iconst (am_dp pw_X11_sighting_0 dd_X11_sighting_0b.2.2.2.2.2.1) (by decide)).to, ?_⟩
  refine List.forall_mem_cons.mpr ⟨zw_cs167 (am_dp pw_X11_sighting_0 dd_X11_sighting_0b.2.2.2.2.2.2.1) wd1630, ?_⟩
  refine List.forall_mem_cons.mpr ⟨(s_if_ne (am_dp pw_X11_sighting_0 dd_X11_sighting_0b.2.2.2.2.2.2.2) (by decide)).to, ?_⟩
  refine List.forall_mem_cons.mpr ⟨(s_iconst (am_dp pw_X11_sighting_0 dd_X11_sighting_0c.1) (by decide)).to, ?_⟩
  refine List.forall_mem_cons.mpr ⟨s_iret (am_dp pw_X11_sighting_0 dd_X11_sighting_0c.2.1) rfl, ?_⟩
  refine List.forall_mem_cons.mpr ⟨(s_bipush (am_dp pw_X11_sighting_0 dd_X11_sighting_0c.2.2) (by decide)).to, ?_⟩
  refine List.forall_mem_cons.mpr ⟨(s_aloadn (am_dp pw_X11_sighting_32 dd_X11_sighting_32a.1) rfl).to, ?_⟩
  refine List.forall_mem_cons.mpr ⟨(s_get (ci := 11) (k := 12) (am_dp pw_X11_sighting_32 dd_X11_sighting_32a.2.1) rfl (by decide) wd1345 inX11 rfl).to, ?_⟩
  refine List.forall_mem_cons.mpr ⟨(s_imul (am_dp pw_X11_sighting_32 dd_X11_sighting_32a.2.2.1)).to, ?_⟩
  refine List.forall_mem_cons.mpr ⟨(s_iloadn (am_dp pw_X11_sighting_32 dd_X11_sighting_32a.2.2.2.1) rfl).to, ?_⟩
  refine List.forall_mem_cons.mpr ⟨(s_iadd (am_dp pw_X11_sighting_32 dd_X11_sighting_32a.2.2.2.2.1)).to, ?_⟩
  refine List.forall_mem_cons.mpr ⟨(s_istoren (am_dp pw_X11_sighting_32 dd_X11_sighting_32a.2.2.2.2.2.1) rfl (by decide)).to, ?_⟩
  refine List.forall_mem_cons.mpr ⟨(s_iloadn (am_dp pw_X11_sighting_32 dd_X11_sighting_32a.2.2.2.2.2.2.1) rfl).to, ?_⟩
  refine List.forall_mem_cons.mpr ⟨(s_iconst (am_dp pw_X11_sighting_32 dd_X11_sighting_32a.2.2.2.2.2.2.2) (by decide)).to, ?_⟩
  refine List.forall_mem_cons.mpr ⟨(s_icmp_ge (am_dp pw_X11_sighting_32 dd_X11_sighting_32b.1) (by decide)).to, ?_⟩
  refine List.forall_mem_cons.mpr ⟨(s_iloadn (am_dp pw_X11_sighting_32 dd_X11_sighting_32b.2.1) rfl).to, ?_⟩
  refine List.forall_mem_cons.mpr ⟨(s_if_ne (am_dp pw_X11_sighting_32 dd_X11_sighting_32b.2.2.1) (by decide)).to, ?_⟩
  refine List.forall_mem_cons.mpr ⟨(s_aloadn (am_dp pw_X11_sighting_32 dd_X11_sighting_32b.2.2.2.1) rfl).to, ?_⟩
  refine List.forall_mem_cons.mpr ⟨(s_get (ci := 11) (k := 34) (am_dp pw_X11_sighting_32 dd_X11_sighting_32b.2.2.2.2.1) rfl (by decide) wd1367 inX11 rfl).to, ?_⟩
  refine List.forall_mem_cons.mpr ⟨(s_iloadn (am_dp pw_X11_sighting_32 dd_X11_sighting_32b.2.2.2.2.2.1) rfl).to, ?_⟩
  refine List.forall_mem_cons.mpr ⟨(s_iald (am_dp pw_X11_sighting_32 dd_X11_sighting_32b.2.2.2.2.2.2.1)).to, ?_⟩
  refine List.forall_mem_cons.mpr ⟨(s_goto (am_dp pw_X11_sighting_32 dd_X11_sighting_32b.2.2.2.2.2.2.2) (by decide)).to, ?_⟩
  refine List.forall_mem_cons.mpr ⟨(s_iloadn (am_dp pw_X11_sighting_32 dd_X11_sighting_32c.1) rfl).to, ?_⟩
  refine List.forall_mem_cons.mpr ⟨(s_iconst (am_dp pw_X11_sighting_32 dd_X11_sighting_32c.2.1) (by decide)).to, ?_⟩
  refine List.forall_mem_cons.mpr ⟨(s_icmp_ne (am_dp pw_X11_sighting_32 dd_X11_sighting_32c.2.2.1) (by decide)).to, ?_⟩
  refine List.forall_mem_cons.mpr ⟨(s_aloadn (am_dp pw_X11_sighting_32 dd_X11_sighting_32c.2.2.2) rfl).to, ?_⟩
  refine List.forall_mem_cons.mpr ⟨(s_get (ci := 11) (k := 35) (am_dp pw_X11_sighting_64 dd_X11_sighting_64a.1) rfl (by decide) wd1368 inX11 rfl).to, ?_⟩
  refine List.forall_mem_cons.mpr ⟨(s_iloadn (am_dp pw_X11_sighting_64 dd_X11_sighting_64a.2.1) rfl).to, ?_⟩
  refine List.forall_mem_cons.mpr ⟨(s_iald (am_dp pw_X11_sighting_64 dd_X11_sighting_64a.2.2.1)).to, ?_⟩
  refine List.forall_mem_cons.mpr ⟨(s_goto (am_dp pw_X11_sighting_64 dd_X11_sighting_64a.2.2.2.1) (by decide)).to, ?_⟩
  refine List.forall_mem_cons.mpr ⟨(s_aloadn (am_dp pw_X11_sighting_64 dd_X11_sighting_64a.2.2.2.2.1) rfl).to, ?_⟩
  refine List.forall_mem_cons.mpr ⟨(s_get (ci := 11) (k := 36) (am_dp pw_X11_sighting_64 dd_X11_sighting_64a.2.2.2.2.2.1) rfl (by decide) wd1369 inX11 rfl).to, ?_⟩
  refine List.forall_mem_cons.mpr ⟨(s_iloadn (am_dp pw_X11_sighting_64 dd_X11_sighting_64a.2.2.2.2.2.2.1) rfl).to, ?_⟩
  refine List.forall_mem_cons.mpr ⟨(s_iald (am_dp pw_X11_sighting_64 dd_X11_sighting_64a.2.2.2.2.2.2.2)).to, ?_⟩
  refine List.forall_mem_cons.mpr ⟨s_iret (am_dp pw_X11_sighting_64 dd_X11_sighting_64b.1) rfl, ?_⟩
  refine List.forall_mem_cons.mpr ⟨(s_aloadn (am_dp pw_X11_sighting_64 dd_X11_sighting_64b.2.1) rfl).to, ?_⟩
  refine List.forall_mem_cons.mpr ⟨zw_cv279 (am_dp pw_X11_sighting_64 dd_X11_sighting_64b.2.2.1) wd2050, ?_⟩
  refine List.forall_mem_cons.mpr ⟨(s_aloadn (am_dp pw_X11_sighting_64 dd_X11_sighting_64b.2.2.2.1) rfl).to, ?_⟩
  refine List.forall_mem_cons.mpr ⟨(s_get (ci := 11) (k := 78) (am_dp pw_X11_sighting_64 dd_X11_sighting_64b.2.2.2.2.1) rfl (by decide) wd1411 inX11 rfl).to, ?_⟩
  refine List.forall_mem_cons.mpr ⟨(s_iloadn (am_dp pw_X11_sighting_64 dd_X11_sighting_64b.2.2.2.2.2.1) rfl).to, ?_⟩
  refine List.forall_mem_cons.mpr ⟨(s_iald (am_dp pw_X11_sighting_64 dd_X11_sighting_64b.2.2.2.2.2.2.1)).to, ?_⟩
  refine List.forall_mem_cons.mpr ⟨s_iret (am_dp pw_X11_sighting_64 dd_X11_sighting_64b.2.2.2.2.2.2.2) rfl, ?_⟩
  exact fun _ h => absurd h List.not_mem_nil
theorem sn_tX11_strange : ∀ q ∈ tX11_strange, am_Snd am_P0 RX11 cX11_strange 3 (Option.some FieldType.int) "strange" q.1 q.2 := by
  unfold tX11_strange
  refine List.forall_mem_cons.mpr ⟨(s_aloadn (am_dp pw_X11_strange_0 dd_X11_strange_0a.1) rfl).to, ?_⟩
  refine List.forall_mem_cons.mpr ⟨zw_cv279 (am_dp pw_X11_strange_0 dd_X11_strange_0a.2.1) wd2050, ?_⟩
  refine List.forall_mem_cons.mpr ⟨(s_iconst (am_dp pw_X11_strange_0 dd_X11_strange_0a.2.2.1) (by decide)).to, ?_⟩
  refine List.forall_mem_cons.mpr ⟨(s_istoren (am_dp pw_X11_strange_0 dd_X11_strange_0a.2.2.2.1) rfl (by decide)).to, ?_⟩
  refine List.forall_mem_cons.mpr ⟨(s_iconst (am_dp pw_X11_strange_0 dd_X11_strange_0a.2.2.2.2.1) (by decide)).to, ?_⟩
  refine List.forall_mem_cons.mpr ⟨(s_istoren (am_dp pw_X11_strange_0 dd_X11_strange_0a.2.2.2.2.2.1) rfl (by decide)).to, ?_⟩
  refine List.forall_mem_cons.mpr ⟨(s_iloadn (am_dp pw_X11_strange_0 dd_X11_strange_0a.2.2.2.2.2.2.1) rfl).to, ?_⟩
  refine List.forall_mem_cons.mpr ⟨(s_aloadn (am_dp pw_X11_strange_0 dd_X11_strange_0a.2.2.2.2.2.2.2) rfl).to, ?_⟩
  refine List.forall_mem_cons.mpr ⟨(s_get (ci := 11) (k := 33) (am_dp pw_X11_strange_0 dd_X11_strange_0b.1) rfl (by decide) wd1366 inX11 rfl).to, ?_⟩
  refine List.forall_mem_cons.mpr ⟨(s_aloadn (am_dp pw_X11_strange_0 dd_X11_strange_0b.2.1) rfl).to, ?_⟩
  refine List.forall_mem_cons.mpr ⟨(s_get (ci := 11) (k := 12) (am_dp pw_X11_strange_0 dd_X11_strange_0b.2.2.1) rfl (by decide) wd1345 inX11 rfl).to, ?_⟩
  refine List.forall_mem_cons.mpr ⟨(s_iald (am_dp pw_X11_strange_0 dd_X11_strange_0b.2.2.2.1)).to, ?_⟩
  refine List.forall_mem_cons.mpr ⟨(s_icmp_ge (am_dp pw_X11_strange_0 dd_X11_strange_0b.2.2.2.2.1) (by decide)).to, ?_⟩
  refine List.forall_mem_cons.mpr ⟨(s_iloadn (am_dp pw_X11_strange_0 dd_X11_strange_0b.2.2.2.2.2.1) rfl).to, ?_⟩
  refine List.forall_mem_cons.mpr ⟨(s_aloadn (am_dp pw_X11_strange_0 dd_X11_strange_0b.2.2.2.2.2.2.1) rfl).to, ?_⟩
  refine List.forall_mem_cons.mpr ⟨(s_get (ci := 11) (k := 78) (am_dp pw_X11_strange_0 dd_X11_strange_0b.2.2.2.2.2.2.2) rfl (by decide) wd1411 inX11 rfl).to, ?_⟩
  refine List.forall_mem_cons.mpr ⟨(s_iloadn (am_dp pw_X11_strange_0 dd_X11_strange_0c.1) rfl).to, ?_⟩
  refine List.forall_mem_cons.mpr ⟨(s_iald (am_dp pw_X11_strange_0 dd_X11_strange_0c.2.1)).to, ?_⟩
  refine List.forall_mem_cons.mpr ⟨(s_if_ne (am_dp pw_X11_strange_0 dd_X11_strange_0c.2.2.1) (by decide)).to, ?_⟩
  refine List.forall_mem_cons.mpr ⟨(s_iconst (am_dp pw_X11_strange_0 dd_X11_strange_0c.2.2.2) (by decide)).to, ?_⟩
  refine List.forall_mem_cons.mpr ⟨(s_goto (am_dp pw_X11_strange_32 dd_X11_strange_32a.1) (by decide)).to, ?_⟩
  refine List.forall_mem_cons.mpr ⟨(s_iconst (am_dp pw_X11_strange_32 dd_X11_strange_32a.2.1) (by decide)).to, ?_⟩
  refine List.forall_mem_cons.mpr ⟨(s_iadd (am_dp pw_X11_strange_32 dd_X11_strange_32a.2.2.1)).to, ?_⟩
  refine List.forall_mem_cons.mpr ⟨(s_istoren (am_dp pw_X11_strange_32 dd_X11_strange_32a.2.2.2.1) rfl (by decide)).to, ?_⟩
  refine List.forall_mem_cons.mpr ⟨(s_iinc (am_dp pw_X11_strange_32 dd_X11_strange_32a.2.2.2.2.1) (by decide) (by decide)).to, ?_⟩
  refine List.forall_mem_cons.mpr ⟨(s_goto (am_dp pw_X11_strange_32 dd_X11_strange_32a.2.2.2.2.2.1) (by decide)).to, ?_⟩
  refine List.forall_mem_cons.mpr ⟨(s_iloadn (am_dp pw_X11_strange_32 dd_X11_strange_32a.2.2.2.2.2.2.1) rfl).to, ?_⟩
  refine List.forall_mem_cons.mpr ⟨s_iret (am_dp pw_X11_strange_32 dd_X11_strange_32a.2.2.2.2.2.2.2) rfl, ?_⟩
  exact fun _ h => absurd h List.not_mem_nil
theorem sn_tX11_doubted_0 : ∀ q ∈ tX11_doubted_0, am_Snd am_P0 RX11 cX11_doubted 5 (Option.some FieldType.int) "doubted" q.1 q.2 := by
  unfold tX11_doubted_0
  refine List.forall_mem_cons.mpr ⟨(s_aloadn (am_dp pw_X11_doubted_0 dd_X11_doubted_0a.1) rfl).to, ?_⟩
  refine List.forall_mem_cons.mpr ⟨zw_cv279 (am_dp pw_X11_doubted_0 dd_X11_doubted_0a.2.1) wd2050, ?_⟩
  refine List.forall_mem_cons.mpr ⟨(s_iconst (am_dp pw_X11_doubted_0 dd_X11_doubted_0a.2.2.1) (by decide)).to, ?_⟩
  refine List.forall_mem_cons.mpr ⟨(s_istoren (am_dp pw_X11_doubted_0 dd_X11_doubted_0a.2.2.2.1) rfl (by decide)).to, ?_⟩
  refine List.forall_mem_cons.mpr ⟨(s_iconst (am_dp pw_X11_doubted_0 dd_X11_doubted_0a.2.2.2.2.1) (by decide)).to, ?_⟩
  refine List.forall_mem_cons.mpr ⟨(s_istoren (am_dp pw_X11_doubted_0 dd_X11_doubted_0a.2.2.2.2.2.1) rfl (by decide)).to, ?_⟩
  refine List.forall_mem_cons.mpr ⟨(s_iloadn (am_dp pw_X11_doubted_0 dd_X11_doubted_0a.2.2.2.2.2.2.1) rfl).to, ?_⟩
  refine List.forall_mem_cons.mpr ⟨(s_aloadn (am_dp pw_X11_doubted_0 dd_X11_doubted_0a.2.2.2.2.2.2.2) rfl).to, ?_⟩
  refine List.forall_mem_cons.mpr ⟨(s_get (ci := 11) (k := 19) (am_dp pw_X11_doubted_0 dd_X11_doubted_0b.1) rfl (by decide) wd1352 inX11 rfl).to, ?_⟩
  refine List.forall_mem_cons.mpr ⟨(s_aloadn (am_dp pw_X11_doubted_0 dd_X11_doubted_0b.2.1) rfl).to, ?_⟩
  refine List.forall_mem_cons.mpr ⟨(s_get (ci := 11) (k := 12) (am_dp pw_X11_doubted_0 dd_X11_doubted_0b.2.2.1) rfl (by decide) wd1345 inX11 rfl).to, ?_⟩
  refine List.forall_mem_cons.mpr ⟨(s_iald (am_dp pw_X11_doubted_0 dd_X11_doubted_0b.2.2.2.1)).to, ?_⟩
  refine List.forall_mem_cons.mpr ⟨(s_icmp_ge (am_dp pw_X11_doubted_0 dd_X11_doubted_0b.2.2.2.2.1) (by decide)).to, ?_⟩
  refine List.forall_mem_cons.mpr ⟨(s_iconst (am_dp pw_X11_doubted_0 dd_X11_doubted_0b.2.2.2.2.2.1) (by decide)).to, ?_⟩
  refine List.forall_mem_cons.mpr ⟨(s_istoren (am_dp pw_X11_doubted_0 dd_X11_doubted_0b.2.2.2.2.2.2.1) rfl (by decide)).to, ?_⟩
  refine List.forall_mem_cons.mpr ⟨(s_iconst (am_dp pw_X11_doubted_0 dd_X11_doubted_0b.2.2.2.2.2.2.2) (by decide)).to, ?_⟩
  refine List.forall_mem_cons.mpr ⟨(s_istore (am_dp pw_X11_doubted_0 dd_X11_doubted_0c.1) (by decide)).to, ?_⟩
  refine List.forall_mem_cons.mpr ⟨(s_iload (am_dp pw_X11_doubted_0 dd_X11_doubted_0c.2.1)).to, ?_⟩
  refine List.forall_mem_cons.mpr ⟨(s_aloadn (am_dp pw_X11_doubted_0 dd_X11_doubted_0c.2.2.1) rfl).to, ?_⟩
  refine List.forall_mem_cons.mpr ⟨(s_get (ci := 11) (k := 33) (am_dp pw_X11_doubted_0 dd_X11_doubted_0c.2.2.2) rfl (by decide) wd1366 inX11 rfl).to, ?_⟩
  refine List.forall_mem_cons.mpr ⟨(s_aloadn (am_dp pw_X11_doubted_32 dd_X11_doubted_32a.1) rfl).to, ?_⟩
  refine List.forall_mem_cons.mpr ⟨(s_get (ci := 11) (k := 12) (am_dp pw_X11_doubted_32 dd_X11_doubted_32a.2.1) rfl (by decide) wd1345 inX11 rfl).to, ?_⟩
  refine List.forall_mem_cons.mpr ⟨(s_iald (am_dp pw_X11_doubted_32 dd_X11_doubted_32a.2.2.1)).to, ?_⟩
  refine List.forall_mem_cons.mpr ⟨(s_icmp_ge (am_dp pw_X11_doubted_32 dd_X11_doubted_32a.2.2.2.1) (by decide)).to, ?_⟩
  refine List.forall_mem_cons.mpr ⟨(s_iloadn (am_dp pw_X11_doubted_32 dd_X11_doubted_32a.2.2.2.2.1) rfl).to, ?_⟩
  refine List.forall_mem_cons.mpr ⟨(s_if_ne (am_dp pw_X11_doubted_32 dd_X11_doubted_32a.2.2.2.2.2.1) (by decide)).to, ?_⟩
  refine List.forall_mem_cons.mpr ⟨(s_aloadn (am_dp pw_X11_doubted_32 dd_X11_doubted_32a.2.2.2.2.2.2.1) rfl).to, ?_⟩
  refine List.forall_mem_cons.mpr ⟨(s_get (ci := 11) (k := 78) (am_dp pw_X11_doubted_32 dd_X11_doubted_32a.2.2.2.2.2.2.2) rfl (by decide) wd1411 inX11 rfl).to, ?_⟩
  refine List.forall_mem_cons.mpr ⟨(s_iload (am_dp pw_X11_doubted_32 dd_X11_doubted_32b.1)).to, ?_⟩
  refine List.forall_mem_cons.mpr ⟨(s_iald (am_dp pw_X11_doubted_32 dd_X11_doubted_32b.2.1)).to, ?_⟩
  refine List.forall_mem_cons.mpr ⟨(s_if_ne (am_dp pw_X11_doubted_32 dd_X11_doubted_32b.2.2.1) (by decide)).to, ?_⟩
  refine List.forall_mem_cons.mpr ⟨(s_aloadn (am_dp pw_X11_doubted_32 dd_X11_doubted_32b.2.2.2.1) rfl).to, ?_⟩
  refine List.forall_mem_cons.mpr ⟨(s_get (ci := 11) (k := 34) (am_dp pw_X11_doubted_32 dd_X11_doubted_32b.2.2.2.2.1) rfl (by decide) wd1367 inX11 rfl).to, ?_⟩
  refine List.forall_mem_cons.mpr ⟨(s_bipush (am_dp pw_X11_doubted_32 dd_X11_doubted_32b.2.2.2.2.2.1) (by decide)).to, ?_⟩
  refine List.forall_mem_cons.mpr ⟨(s_aloadn (am_dp pw_X11_doubted_32 dd_X11_doubted_32b.2.2.2.2.2.2.1) rfl).to, ?_⟩
  refine List.forall_mem_cons.mpr ⟨(s_get (ci := 11) (k := 12) (am_dp pw_X11_doubted_32 dd_X11_doubted_32b.2.2.2.2.2.2.2) rfl (by decide) wd1345 inX11 rfl).to, ?_⟩
  refine List.forall_mem_cons.mpr ⟨(s_imul (am_dp pw_X11_doubted_64 dd_X11_doubted_64a.1)).to, ?_⟩
  refine List.forall_mem_cons.mpr ⟨(s_iload (am_dp pw_X11_doubted_64 dd_X11_doubted_64a.2.1)).to, ?_⟩
  refine List.forall_mem_cons.mpr ⟨(s_iadd (am_dp pw_X11_doubted_64 dd_X11_doubted_64a.2.2.1)).to, ?_⟩
  refine List.forall_mem_cons.mpr ⟨(s_iald (am_dp pw_X11_doubted_64 dd_X11_doubted_64a.2.2.2.1)).to, ?_⟩
  refine List.forall_mem_cons.mpr ⟨(s_aloadn (am_dp pw_X11_doubted_64 dd_X11_doubted_64a.2.2.2.2.1) rfl).to, ?_⟩
  refine List.forall_mem_cons.mpr ⟨(s_get (ci := 11) (k := 21) (am_dp pw_X11_doubted_64 dd_X11_doubted_64a.2.2.2.2.2.1) rfl (by decide) wd1354 inX11 rfl).to, ?_⟩
  refine List.forall_mem_cons.mpr ⟨(s_bipush (am_dp pw_X11_doubted_64 dd_X11_doubted_64a.2.2.2.2.2.2.1) (by decide)).to, ?_⟩
  refine List.forall_mem_cons.mpr ⟨(s_aloadn (am_dp pw_X11_doubted_64 dd_X11_doubted_64a.2.2.2.2.2.2.2) rfl).to, ?_⟩
  refine List.forall_mem_cons.mpr ⟨(s_get (ci := 11) (k := 12) (am_dp pw_X11_doubted_64 dd_X11_doubted_64b.1) rfl (by decide) wd1345 inX11 rfl).to, ?_⟩
  refine List.forall_mem_cons.mpr ⟨(s_imul (am_dp pw_X11_doubted_64 dd_X11_doubted_64b.2.1)).to, ?_⟩
  refine List.forall_mem_cons.mpr ⟨(s_iloadn (am_dp pw_X11_doubted_64 dd_X11_doubted_64b.2.2.1) rfl).to, ?_⟩
  refine List.forall_mem_cons.mpr ⟨(s_iadd (am_dp pw_X11_doubted_64 dd_X11_doubted_64b.2.2.2.1)).to, ?_⟩
  refine List.forall_mem_cons.mpr ⟨(s_iald (am_dp pw_X11_doubted_64 dd_X11_doubted_64b.2.2.2.2.1)).to, ?_⟩
  refine List.forall_mem_cons.mpr ⟨(s_icmp_ne (am_dp pw_X11_doubted_64 dd_X11_doubted_64b.2.2.2.2.2.1) (by decide)).to, ?_⟩
  refine List.forall_mem_cons.mpr ⟨(s_iconst (am_dp pw_X11_doubted_64 dd_X11_doubted_64b.2.2.2.2.2.2.1) (by decide)).to, ?_⟩
  refine List.forall_mem_cons.mpr ⟨(s_goto (am_dp pw_X11_doubted_64 dd_X11_doubted_64b.2.2.2.2.2.2.2) (by decide)).to, ?_⟩
  refine List.forall_mem_cons.mpr ⟨(s_iconst (am_dp pw_X11_doubted_64 dd_X11_doubted_64c.1) (by decide)).to, ?_⟩
  refine List.forall_mem_cons.mpr ⟨(s_istoren (am_dp pw_X11_doubted_64 dd_X11_doubted_64c.2.1) rfl (by decide)).to, ?_⟩
  refine List.forall_mem_cons.mpr ⟨(s_iinc (am_dp pw_X11_doubted_64 dd_X11_doubted_64c.2.2.1) (by decide) (by decide)).to, ?_⟩
  refine List.forall_mem_cons.mpr ⟨(s_goto (am_dp pw_X11_doubted_64 dd_X11_doubted_64c.2.2.2) (by decide)).to, ?_⟩
  refine List.forall_mem_cons.mpr ⟨(s_iloadn (am_dp pw_X11_doubted_96 dd_X11_doubted_96a.1) rfl).to, ?_⟩
  refine List.forall_mem_cons.mpr ⟨(s_iloadn (am_dp pw_X11_doubted_96 dd_X11_doubted_96a.2.1) rfl).to, ?_⟩
  refine List.forall_mem_cons.mpr ⟨(s_if_eq (am_dp pw_X11_doubted_96 dd_X11_doubted_96a.2.2.1) (by decide)).to, ?_⟩
  refine List.forall_mem_cons.mpr ⟨(s_aloadn (am_dp pw_X11_doubted_96 dd_X11_doubted_96a.2.2.2.1) rfl).to, ?_⟩
  exact fun _ h => absurd h List.not_mem_nil
theorem sn_tX11_doubted_1 : ∀ q ∈ tX11_doubted_1, am_Snd am_P0 RX11 cX11_doubted 5 (Option.some FieldType.int) "doubted" q.1 q.2 := by
  unfold tX11_doubted_1
  refine List.forall_mem_cons.mpr ⟨(s_iloadn (am_dp pw_X11_doubted_96 dd_X11_doubted_96a.2.2.2.2.1) rfl).to, ?_⟩
  refine List.forall_mem_cons.mpr ⟨(s_iconst (am_dp pw_X11_doubted_96 dd_X11_doubted_96a.2.2.2.2.2.1) (by decide)).to, ?_⟩
  refine List.forall_mem_cons.mpr ⟨zw_cv265 (am_dp pw_X11_doubted_96 dd_X11_doubted_96a.2.2.2.2.2.2.1) wd1958, ?_⟩
  refine List.forall_mem_cons.mpr ⟨(s_if_eq (am_dp pw_X11_doubted_96 dd_X11_doubted_96a.2.2.2.2.2.2.2) (by decide)).to, ?_⟩
  refine List.forall_mem_cons.mpr ⟨(s_iconst (am_dp pw_X11_doubted_96 dd_X11_doubted_96b.1) (by decide)).to, ?_⟩
  refine List.forall_mem_cons.mpr ⟨(s_iloadn (am_dp pw_X11_doubted_96 dd_X11_doubted_96b.2.1) rfl).to, ?_⟩
  refine List.forall_mem_cons.mpr ⟨(s_ishl (am_dp pw_X11_doubted_96 dd_X11_doubted_96b.2.2.1)).to, ?_⟩
  refine List.forall_mem_cons.mpr ⟨(s_goto (am_dp pw_X11_doubted_96 dd_X11_doubted_96b.2.2.2.1) (by decide)).to, ?_⟩
  refine List.forall_mem_cons.mpr ⟨(s_iconst (am_dp pw_X11_doubted_96 dd_X11_doubted_96b.2.2.2.2.1) (by decide)).to, ?_⟩
  refine List.forall_mem_cons.mpr ⟨(s_ior (am_dp pw_X11_doubted_96 dd_X11_doubted_96b.2.2.2.2.2.1)).to, ?_⟩
  refine List.forall_mem_cons.mpr ⟨(s_istoren (am_dp pw_X11_doubted_96 dd_X11_doubted_96b.2.2.2.2.2.2.1) rfl (by decide)).to, ?_⟩
  refine List.forall_mem_cons.mpr ⟨(s_iinc (am_dp pw_X11_doubted_96 dd_X11_doubted_96b.2.2.2.2.2.2.2) (by decide) (by decide)).to, ?_⟩
  refine List.forall_mem_cons.mpr ⟨(s_goto (am_dp pw_X11_doubted_96 dd_X11_doubted_96c.1) (by decide)).to, ?_⟩
  refine List.forall_mem_cons.mpr ⟨(s_iloadn (am_dp pw_X11_doubted_96 dd_X11_doubted_96c.2) rfl).to, ?_⟩
  refine List.forall_mem_cons.mpr ⟨s_iret (am_dp pw_X11_doubted_128 dd_X11_doubted_128a) rfl, ?_⟩
  exact fun _ h => absurd h List.not_mem_nil
theorem sn_tX11_doubted : ∀ q ∈ tX11_doubted, am_Snd am_P0 RX11 cX11_doubted 5 (Option.some FieldType.int) "doubted" q.1 q.2 := by
  unfold tX11_doubted
  exact List.forall_mem_append.mpr ⟨sn_tX11_doubted_0, sn_tX11_doubted_1⟩
theorem sn_tX11_gaps : ∀ q ∈ tX11_gaps, am_Snd am_P0 RX11 cX11_gaps 4 (Option.some FieldType.int) "gaps" q.1 q.2 := by
  unfold tX11_gaps
  refine List.forall_mem_cons.mpr ⟨(s_aloadn (am_dp pw_X11_gaps_0 dd_X11_gaps_0a.1) rfl).to, ?_⟩
  refine List.forall_mem_cons.mpr ⟨(s_iloadn (am_dp pw_X11_gaps_0 dd_X11_gaps_0a.2.1) rfl).to, ?_⟩
  refine List.forall_mem_cons.mpr ⟨zw_cv220 (am_dp pw_X11_gaps_0 dd_X11_gaps_0a.2.2.1) wd1850, ?_⟩
  refine List.forall_mem_cons.mpr ⟨(s_if_eq (am_dp pw_X11_gaps_0 dd_X11_gaps_0a.2.2.2.1) (by decide)).to, ?_⟩
  refine List.forall_mem_cons.mpr ⟨(s_iloadn (am_dp pw_X11_gaps_0 dd_X11_gaps_0a.2.2.2.2.1) rfl).to, ?_⟩
  refine List.forall_mem_cons.mpr ⟨(s_if_eq (am_dp pw_X11_gaps_0 dd_X11_gaps_0a.2.2.2.2.2.1) (by decide)).to, ?_⟩
  refine List.forall_mem_cons.mpr ⟨(s_iloadn (am_dp pw_X11_gaps_0 dd_X11_gaps_0a.2.2.2.2.2.2.1) rfl).to, ?_⟩
  refine List.forall_mem_cons.mpr ⟨(s_iconst (am_dp pw_X11_gaps_0 dd_X11_gaps_0a.2.2.2.2.2.2.2) (by decide)).to, ?_⟩
  refine List.forall_mem_cons.mpr ⟨(s_icmp_eq (am_dp pw_X11_gaps_0 dd_X11_gaps_0b.1) (by decide)).to, ?_⟩
  refine List.forall_mem_cons.mpr ⟨(s_iconst (am_dp pw_X11_gaps_0 dd_X11_gaps_0b.2.1) (by decide)).to, ?_⟩
  refine List.forall_mem_cons.mpr ⟨s_iret (am_dp pw_X11_gaps_0 dd_X11_gaps_0b.2.2.1) rfl, ?_⟩
  refine List.forall_mem_cons.mpr ⟨(s_aloadn (am_dp pw_X11_gaps_0 dd_X11_gaps_0b.2.2.2.1) rfl).to, ?_⟩
  refine List.forall_mem_cons.mpr ⟨(s_iloadn (am_dp pw_X11_gaps_0 dd_X11_gaps_0b.2.2.2.2.1) rfl).to, ?_⟩
  refine List.forall_mem_cons.mpr ⟨zw_cv258 (am_dp pw_X11_gaps_0 dd_X11_gaps_0b.2.2.2.2.2.1) wd1990, ?_⟩
  refine List.forall_mem_cons.mpr ⟨(s_istoren (am_dp pw_X11_gaps_0 dd_X11_gaps_0b.2.2.2.2.2.2.1) rfl (by decide)).to, ?_⟩
  refine List.forall_mem_cons.mpr ⟨(s_iloadn (am_dp pw_X11_gaps_0 dd_X11_gaps_0b.2.2.2.2.2.2.2) rfl).to, ?_⟩
  refine List.forall_mem_cons.mpr ⟨(s_if_ne (am_dp pw_X11_gaps_0 dd_X11_gaps_0c.1) (by decide)).to, ?_⟩
  refine List.forall_mem_cons.mpr ⟨(s_aloadn (am_dp pw_X11_gaps_0 dd_X11_gaps_0c.2.1) rfl).to, ?_⟩
  refine List.forall_mem_cons.mpr ⟨(s_get (ci := 11) (k := 73) (am_dp pw_X11_gaps_0 dd_X11_gaps_0c.2.2) rfl (by decide) wd1406 inX11 rfl).to, ?_⟩
  refine List.forall_mem_cons.mpr ⟨(s_goto (am_dp pw_X11_gaps_32 dd_X11_gaps_32a.1) (by decide)).to, ?_⟩
  refine List.forall_mem_cons.mpr ⟨(s_iloadn (am_dp pw_X11_gaps_32 dd_X11_gaps_32a.2.1) rfl).to, ?_⟩
  refine List.forall_mem_cons.mpr ⟨s_iret (am_dp pw_X11_gaps_32 dd_X11_gaps_32a.2.2) rfl, ?_⟩
  exact fun _ h => absurd h List.not_mem_nil
theorem sn_tX11_chanceOf_0 : ∀ q ∈ tX11_chanceOf_0, am_Snd am_P0 RX11 cX11_chanceOf 7 (Option.some FieldType.long) "chanceOf" q.1 q.2 := by
  unfold tX11_chanceOf_0
  refine List.forall_mem_cons.mpr ⟨(s_aloadn (am_dp pw_X11_chanceOf_0 dd_X11_chanceOf_0a.1) rfl).to, ?_⟩
  refine List.forall_mem_cons.mpr ⟨(s_iloadn (am_dp pw_X11_chanceOf_0 dd_X11_chanceOf_0a.2.1) rfl).to, ?_⟩
  refine List.forall_mem_cons.mpr ⟨zw_cv258 (am_dp pw_X11_chanceOf_0 dd_X11_chanceOf_0a.2.2.1) wd1990, ?_⟩
  refine List.forall_mem_cons.mpr ⟨(s_istoren (am_dp pw_X11_chanceOf_0 dd_X11_chanceOf_0a.2.2.2.1) rfl (by decide)).to, ?_⟩
  refine List.forall_mem_cons.mpr ⟨(s_aloadn (am_dp pw_X11_chanceOf_0 dd_X11_chanceOf_0a.2.2.2.2.1) rfl).to, ?_⟩
  refine List.forall_mem_cons.mpr ⟨(s_get (ci := 11) (k := 65) (am_dp pw_X11_chanceOf_0 dd_X11_chanceOf_0a.2.2.2.2.2.1) rfl (by decide) wd1398 inX11 rfl).to, ?_⟩
  refine List.forall_mem_cons.mpr ⟨(s_iconst (am_dp pw_X11_chanceOf_0 dd_X11_chanceOf_0a.2.2.2.2.2.2.1) (by decide)).to, ?_⟩
  refine List.forall_mem_cons.mpr ⟨(s_icmp_ge (am_dp pw_X11_chanceOf_0 dd_X11_chanceOf_0a.2.2.2.2.2.2.2) (by decide)).to, ?_⟩
  refine List.forall_mem_cons.mpr ⟨(s_iconst (am_dp pw_X11_chanceOf_0 dd_X11_chanceOf_0b.1) (by decide)).to, ?_⟩
  refine List.forall_mem_cons.mpr ⟨(s_goto (am_dp pw_X11_chanceOf_0 dd_X11_chanceOf_0b.2.1) (by decide)).to, ?_⟩
  refine List.forall_mem_cons.mpr ⟨(s_aloadn (am_dp pw_X11_chanceOf_0 dd_X11_chanceOf_0b.2.2.1) rfl).to, ?_⟩
  refine List.forall_mem_cons.mpr ⟨(s_get (ci := 11) (k := 67) (am_dp pw_X11_chanceOf_0 dd_X11_chanceOf_0b.2.2.2.1) rfl (by decide) wd1400 inX11 rfl).to, ?_⟩
  refine List.forall_mem_cons.mpr ⟨(s_aloadn (am_dp pw_X11_chanceOf_0 dd_X11_chanceOf_0b.2.2.2.2.1) rfl).to, ?_⟩
  refine List.forall_mem_cons.mpr ⟨(s_get (ci := 11) (k := 65) (am_dp pw_X11_chanceOf_0 dd_X11_chanceOf_0b.2.2.2.2.2.1) rfl (by decide) wd1398 inX11 rfl).to, ?_⟩
  refine List.forall_mem_cons.mpr ⟨(s_iconst (am_dp pw_X11_chanceOf_0 dd_X11_chanceOf_0b.2.2.2.2.2.2.1) (by decide)).to, ?_⟩
  refine List.forall_mem_cons.mpr ⟨(s_isub (am_dp pw_X11_chanceOf_0 dd_X11_chanceOf_0b.2.2.2.2.2.2.2)).to, ?_⟩
  refine List.forall_mem_cons.mpr ⟨(s_iald (am_dp pw_X11_chanceOf_0 dd_X11_chanceOf_0c.1)).to, ?_⟩
  refine List.forall_mem_cons.mpr ⟨(s_aloadn (am_dp pw_X11_chanceOf_0 dd_X11_chanceOf_0c.2.1) rfl).to, ?_⟩
  refine List.forall_mem_cons.mpr ⟨(s_get (ci := 11) (k := 67) (am_dp pw_X11_chanceOf_0 dd_X11_chanceOf_0c.2.2) rfl (by decide) wd1400 inX11 rfl).to, ?_⟩
  refine List.forall_mem_cons.mpr ⟨(s_iconst (am_dp pw_X11_chanceOf_32 dd_X11_chanceOf_32a.1) (by decide)).to, ?_⟩
  refine List.forall_mem_cons.mpr ⟨(s_iald (am_dp pw_X11_chanceOf_32 dd_X11_chanceOf_32a.2.1)).to, ?_⟩
  refine List.forall_mem_cons.mpr ⟨(s_isub (am_dp pw_X11_chanceOf_32 dd_X11_chanceOf_32a.2.2.1)).to, ?_⟩
  refine List.forall_mem_cons.mpr ⟨(s_iconst (am_dp pw_X11_chanceOf_32 dd_X11_chanceOf_32a.2.2.2.1) (by decide)).to, ?_⟩
  refine List.forall_mem_cons.mpr ⟨(s_isub (am_dp pw_X11_chanceOf_32 dd_X11_chanceOf_32a.2.2.2.2.1)).to, ?_⟩
  refine List.forall_mem_cons.mpr ⟨(s_istoren (am_dp pw_X11_chanceOf_32 dd_X11_chanceOf_32a.2.2.2.2.2.1) rfl (by decide)).to, ?_⟩
  refine List.forall_mem_cons.mpr ⟨(s_iconst (am_dp pw_X11_chanceOf_32 dd_X11_chanceOf_32a.2.2.2.2.2.2.1) (by decide)).to, ?_⟩
  refine List.forall_mem_cons.mpr ⟨(s_istore (am_dp pw_X11_chanceOf_32 dd_X11_chanceOf_32a.2.2.2.2.2.2.2) (by decide)).to, ?_⟩
  refine List.forall_mem_cons.mpr ⟨(s_iload (am_dp pw_X11_chanceOf_32 dd_X11_chanceOf_32b.1)).to, ?_⟩
  refine List.forall_mem_cons.mpr ⟨(s_bipush (am_dp pw_X11_chanceOf_32 dd_X11_chanceOf_32b.2.1) (by decide)).to, ?_⟩
  refine List.forall_mem_cons.mpr ⟨(s_icmp_ge (am_dp pw_X11_chanceOf_32 dd_X11_chanceOf_32b.2.2.1) (by decide)).to, ?_⟩
  refine List.forall_mem_cons.mpr ⟨(s_aloadn (am_dp pw_X11_chanceOf_32 dd_X11_chanceOf_32b.2.2.2.1) rfl).to, ?_⟩
  refine List.forall_mem_cons.mpr ⟨(s_get (ci := 11) (k := 79) (am_dp pw_X11_chanceOf_32 dd_X11_chanceOf_32b.2.2.2.2.1) rfl (by decide) wd1412 inX11 rfl).to, ?_⟩
  refine List.forall_mem_cons.mpr ⟨(s_iload (am_dp pw_X11_chanceOf_32 dd_X11_chanceOf_32b.2.2.2.2.2.1)).to, ?_⟩
  refine List.forall_mem_cons.mpr ⟨(s_iload (am_dp pw_X11_chanceOf_32 dd_X11_chanceOf_32b.2.2.2.2.2.2.1)).to, ?_⟩
  refine List.forall_mem_cons.mpr ⟨(s_if_ne (am_dp pw_X11_chanceOf_32 dd_X11_chanceOf_32b.2.2.2.2.2.2.2) (by decide)).to, ?_⟩
  refine List.forall_mem_cons.mpr ⟨(s_ldc2 (am_dp pw_X11_chanceOf_32 dd_X11_chanceOf_32c.1) wd2074).to, ?_⟩
  refine List.forall_mem_cons.mpr ⟨(s_goto (am_dp pw_X11_chanceOf_32 dd_X11_chanceOf_32c.2) (by decide)).to, ?_⟩
  refine List.forall_mem_cons.mpr ⟨(s_lconst (am_dp pw_X11_chanceOf_64 dd_X11_chanceOf_64a.1) (by decide)).to, ?_⟩
  refine List.forall_mem_cons.mpr ⟨(s_last (am_dp pw_X11_chanceOf_64 dd_X11_chanceOf_64a.2.1)).to, ?_⟩
  refine List.forall_mem_cons.mpr ⟨(s_iinc (am_dp pw_X11_chanceOf_64 dd_X11_chanceOf_64a.2.2.1) (by decide) (by decide)).to, ?_⟩
  refine List.forall_mem_cons.mpr ⟨(s_goto (am_dp pw_X11_chanceOf_64 dd_X11_chanceOf_64a.2.2.2.1) (by decide)).to, ?_⟩
  refine List.forall_mem_cons.mpr ⟨(s_iconst (am_dp pw_X11_chanceOf_64 dd_X11_chanceOf_64a.2.2.2.2.1) (by decide)).to, ?_⟩
  refine List.forall_mem_cons.mpr ⟨(s_istore (am_dp pw_X11_chanceOf_64 dd_X11_chanceOf_64a.2.2.2.2.2.1) (by decide)).to, ?_⟩
  refine List.forall_mem_cons.mpr ⟨(s_iload (am_dp pw_X11_chanceOf_64 dd_X11_chanceOf_64a.2.2.2.2.2.2.1)).to, ?_⟩
  refine List.forall_mem_cons.mpr ⟨(s_iloadn (am_dp pw_X11_chanceOf_64 dd_X11_chanceOf_64a.2.2.2.2.2.2.2) rfl).to, ?_⟩
  refine List.forall_mem_cons.mpr ⟨(s_icmp_ge (am_dp pw_X11_chanceOf_64 dd_X11_chanceOf_64b.1) (by decide)).to, ?_⟩
  refine List.forall_mem_cons.mpr ⟨(s_bipush (am_dp pw_X11_chanceOf_64 dd_X11_chanceOf_64b.2.1) (by decide)).to, ?_⟩
  refine List.forall_mem_cons.mpr ⟨(s_istore (am_dp pw_X11_chanceOf_64 dd_X11_chanceOf_64b.2.2.1) (by decide)).to, ?_⟩
  refine List.forall_mem_cons.mpr ⟨(s_iload (am_dp pw_X11_chanceOf_64 dd_X11_chanceOf_64b.2.2.2.1)).to, ?_⟩
  refine List.forall_mem_cons.mpr ⟨(s_if_lt (am_dp pw_X11_chanceOf_64 dd_X11_chanceOf_64b.2.2.2.2.1) (by decide)).to, ?_⟩
  refine List.forall_mem_cons.mpr ⟨(s_aloadn (am_dp pw_X11_chanceOf_64 dd_X11_chanceOf_64b.2.2.2.2.2.1) rfl).to, ?_⟩
  refine List.forall_mem_cons.mpr ⟨(s_get (ci := 11) (k := 79) (am_dp pw_X11_chanceOf_64 dd_X11_chanceOf_64b.2.2.2.2.2.2) rfl (by decide) wd1412 inX11 rfl).to, ?_⟩
  refine List.forall_mem_cons.mpr ⟨(s_iload (am_dp pw_X11_chanceOf_96 dd_X11_chanceOf_96a.1)).to, ?_⟩
  refine List.forall_mem_cons.mpr ⟨(s_aloadn (am_dp pw_X11_chanceOf_96 dd_X11_chanceOf_96a.2.1) rfl).to, ?_⟩
  refine List.forall_mem_cons.mpr ⟨(s_get (ci := 11) (k := 79) (am_dp pw_X11_chanceOf_96 dd_X11_chanceOf_96a.2.2.1) rfl (by decide) wd1412 inX11 rfl).to, ?_⟩
  refine List.forall_mem_cons.mpr ⟨(s_iload (am_dp pw_X11_chanceOf_96 dd_X11_chanceOf_96a.2.2.2.1)).to, ?_⟩
  refine List.forall_mem_cons.mpr ⟨(s_lald (am_dp pw_X11_chanceOf_96 dd_X11_chanceOf_96a.2.2.2.2.1)).to, ?_⟩
  refine List.forall_mem_cons.mpr ⟨(s_bipush (am_dp pw_X11_chanceOf_96 dd_X11_chanceOf_96a.2.2.2.2.2.1) (by decide)).to, ?_⟩
  refine List.forall_mem_cons.mpr ⟨(s_aloadn (am_dp pw_X11_chanceOf_96 dd_X11_chanceOf_96a.2.2.2.2.2.2.1) rfl).to, ?_⟩
  refine List.forall_mem_cons.mpr ⟨(s_get (ci := 11) (k := 37) (am_dp pw_X11_chanceOf_96 dd_X11_chanceOf_96a.2.2.2.2.2.2.2) rfl (by decide) wd1370 inX11 rfl).to, ?_⟩
  exact fun _ h => absurd h List.not_mem_nil
theorem sn_tX11_chanceOf_1 : ∀ q ∈ tX11_chanceOf_1, am_Snd am_P0 RX11 cX11_chanceOf 7 (Option.some FieldType.long) "chanceOf" q.1 q.2 := by
  unfold tX11_chanceOf_1
  refine List.forall_mem_cons.mpr ⟨(s_aloadn (am_dp pw_X11_chanceOf_96 dd_X11_chanceOf_96b.1) rfl).to, ?_⟩
  refine List.forall_mem_cons.mpr ⟨(s_get (ci := 11) (k := 12) (am_dp pw_X11_chanceOf_96 dd_X11_chanceOf_96b.2.1) rfl (by decide) wd1345 inX11 rfl).to, ?_⟩
  refine List.forall_mem_cons.mpr ⟨(s_iald (am_dp pw_X11_chanceOf_96 dd_X11_chanceOf_96b.2.2.1)).to, ?_⟩
  refine List.forall_mem_cons.mpr ⟨(s_isub (am_dp pw_X11_chanceOf_96 dd_X11_chanceOf_96b.2.2.2.1)).to, ?_⟩
  refine List.forall_mem_cons.mpr ⟨(s_i2l (am_dp pw_X11_chanceOf_96 dd_X11_chanceOf_96b.2.2.2.2.1)).to, ?_⟩
  refine List.forall_mem_cons.mpr ⟨(s_lmul (am_dp pw_X11_chanceOf_96 dd_X11_chanceOf_96b.2.2.2.2.2.1)).to, ?_⟩
  refine List.forall_mem_cons.mpr ⟨(s_iload (am_dp pw_X11_chanceOf_96 dd_X11_chanceOf_96b.2.2.2.2.2.2.1)).to, ?_⟩
  refine List.forall_mem_cons.mpr ⟨(s_if_le (am_dp pw_X11_chanceOf_96 dd_X11_chanceOf_96b.2.2.2.2.2.2.2) (by decide)).to, ?_⟩
  refine List.forall_mem_cons.mpr ⟨(s_aloadn (am_dp pw_X11_chanceOf_96 dd_X11_chanceOf_96c.1) rfl).to, ?_⟩
  refine List.forall_mem_cons.mpr ⟨(s_get (ci := 11) (k := 79) (am_dp pw_X11_chanceOf_96 dd_X11_chanceOf_96c.2) rfl (by decide) wd1412 inX11 rfl).to, ?_⟩
  refine List.forall_mem_cons.mpr ⟨(s_iload (am_dp pw_X11_chanceOf_128 dd_X11_chanceOf_128a.1)).to, ?_⟩
  refine List.forall_mem_cons.mpr ⟨(s_iconst (am_dp pw_X11_chanceOf_128 dd_X11_chanceOf_128a.2.1) (by decide)).to, ?_⟩
  refine List.forall_mem_cons.mpr ⟨(s_isub (am_dp pw_X11_chanceOf_128 dd_X11_chanceOf_128a.2.2.1)).to, ?_⟩
  refine List.forall_mem_cons.mpr ⟨(s_lald (am_dp pw_X11_chanceOf_128 dd_X11_chanceOf_128a.2.2.2.1)).to, ?_⟩
  refine List.forall_mem_cons.mpr ⟨(s_aloadn (am_dp pw_X11_chanceOf_128 dd_X11_chanceOf_128a.2.2.2.2.1) rfl).to, ?_⟩
  refine List.forall_mem_cons.mpr ⟨(s_get (ci := 11) (k := 37) (am_dp pw_X11_chanceOf_128 dd_X11_chanceOf_128a.2.2.2.2.2.1) rfl (by decide) wd1370 inX11 rfl).to, ?_⟩
  refine List.forall_mem_cons.mpr ⟨(s_aloadn (am_dp pw_X11_chanceOf_128 dd_X11_chanceOf_128a.2.2.2.2.2.2.1) rfl).to, ?_⟩
  refine List.forall_mem_cons.mpr ⟨(s_get (ci := 11) (k := 12) (am_dp pw_X11_chanceOf_128 dd_X11_chanceOf_128a.2.2.2.2.2.2.2) rfl (by decide) wd1345 inX11 rfl).to, ?_⟩
  refine List.forall_mem_cons.mpr ⟨(s_iald (am_dp pw_X11_chanceOf_128 dd_X11_chanceOf_128b.1)).to, ?_⟩
  refine List.forall_mem_cons.mpr ⟨(s_i2l (am_dp pw_X11_chanceOf_128 dd_X11_chanceOf_128b.2.1)).to, ?_⟩
  refine List.forall_mem_cons.mpr ⟨(s_lmul (am_dp pw_X11_chanceOf_128 dd_X11_chanceOf_128b.2.2.1)).to, ?_⟩
  refine List.forall_mem_cons.mpr ⟨(s_goto (am_dp pw_X11_chanceOf_128 dd_X11_chanceOf_128b.2.2.2.1) (by decide)).to, ?_⟩
  refine List.forall_mem_cons.mpr ⟨(s_lconst (am_dp pw_X11_chanceOf_128 dd_X11_chanceOf_128b.2.2.2.2.1) (by decide)).to, ?_⟩
  refine List.forall_mem_cons.mpr ⟨(s_ladd (am_dp pw_X11_chanceOf_128 dd_X11_chanceOf_128b.2.2.2.2.2.1)).to, ?_⟩
  refine List.forall_mem_cons.mpr ⟨(s_ldc2 (am_dp pw_X11_chanceOf_128 dd_X11_chanceOf_128b.2.2.2.2.2.2.1) wd2075).to, ?_⟩
  refine List.forall_mem_cons.mpr ⟨(s_ldiv (am_dp pw_X11_chanceOf_128 dd_X11_chanceOf_128b.2.2.2.2.2.2.2)).to, ?_⟩
  refine List.forall_mem_cons.mpr ⟨(s_last (am_dp pw_X11_chanceOf_128 dd_X11_chanceOf_128c.1)).to, ?_⟩
  refine List.forall_mem_cons.mpr ⟨(s_iinc (am_dp pw_X11_chanceOf_128 dd_X11_chanceOf_128c.2.1) (by decide) (by decide)).to, ?_⟩
  refine List.forall_mem_cons.mpr ⟨(s_goto (am_dp pw_X11_chanceOf_128 dd_X11_chanceOf_128c.2.2) (by decide)).to, ?_⟩
  refine List.forall_mem_cons.mpr ⟨(s_iinc (am_dp pw_X11_chanceOf_160 dd_X11_chanceOf_160a.1) (by decide) (by decide)).to, ?_⟩
  refine List.forall_mem_cons.mpr ⟨(s_goto (am_dp pw_X11_chanceOf_160 dd_X11_chanceOf_160a.2.1) (by decide)).to, ?_⟩
  refine List.forall_mem_cons.mpr ⟨(s_lconst (am_dp pw_X11_chanceOf_160 dd_X11_chanceOf_160a.2.2.1) (by decide)).to, ?_⟩
  refine List.forall_mem_cons.mpr ⟨(s_lstore (am_dp pw_X11_chanceOf_160 dd_X11_chanceOf_160a.2.2.2.1) (by decide)).to, ?_⟩
  refine List.forall_mem_cons.mpr ⟨(s_iloadn (am_dp pw_X11_chanceOf_160 dd_X11_chanceOf_160a.2.2.2.2.1) rfl).to, ?_⟩
  refine List.forall_mem_cons.mpr ⟨(s_istore (am_dp pw_X11_chanceOf_160 dd_X11_chanceOf_160a.2.2.2.2.2.1) (by decide)).to, ?_⟩
  refine List.forall_mem_cons.mpr ⟨(s_iload (am_dp pw_X11_chanceOf_160 dd_X11_chanceOf_160a.2.2.2.2.2.2.1)).to, ?_⟩
  refine List.forall_mem_cons.mpr ⟨(s_bipush (am_dp pw_X11_chanceOf_160 dd_X11_chanceOf_160a.2.2.2.2.2.2.2) (by decide)).to, ?_⟩
  refine List.forall_mem_cons.mpr ⟨(s_icmp_ge (am_dp pw_X11_chanceOf_160 dd_X11_chanceOf_160b.1) (by decide)).to, ?_⟩
  refine List.forall_mem_cons.mpr ⟨(s_lload (am_dp pw_X11_chanceOf_160 dd_X11_chanceOf_160b.2.1)).to, ?_⟩
  refine List.forall_mem_cons.mpr ⟨(s_aloadn (am_dp pw_X11_chanceOf_160 dd_X11_chanceOf_160b.2.2.1) rfl).to, ?_⟩
  refine List.forall_mem_cons.mpr ⟨(s_get (ci := 11) (k := 79) (am_dp pw_X11_chanceOf_160 dd_X11_chanceOf_160b.2.2.2.1) rfl (by decide) wd1412 inX11 rfl).to, ?_⟩
  refine List.forall_mem_cons.mpr ⟨(s_iload (am_dp pw_X11_chanceOf_160 dd_X11_chanceOf_160b.2.2.2.2.1)).to, ?_⟩
  refine List.forall_mem_cons.mpr ⟨(s_lald (am_dp pw_X11_chanceOf_160 dd_X11_chanceOf_160b.2.2.2.2.2.1)).to, ?_⟩
  refine List.forall_mem_cons.mpr ⟨(s_ladd (am_dp pw_X11_chanceOf_160 dd_X11_chanceOf_160b.2.2.2.2.2.2.1)).to, ?_⟩
  refine List.forall_mem_cons.mpr ⟨(s_lstore (am_dp pw_X11_chanceOf_160 dd_X11_chanceOf_160b.2.2.2.2.2.2.2) (by decide)).to, ?_⟩
  refine List.forall_mem_cons.mpr ⟨(s_iinc (am_dp pw_X11_chanceOf_160 dd_X11_chanceOf_160c) (by decide) (by decide)).to, ?_⟩
  refine List.forall_mem_cons.mpr ⟨(s_goto (am_dp pw_X11_chanceOf_192 dd_X11_chanceOf_192a.1) (by decide)).to, ?_⟩
  refine List.forall_mem_cons.mpr ⟨(s_lload (am_dp pw_X11_chanceOf_192 dd_X11_chanceOf_192a.2.1)).to, ?_⟩
  refine List.forall_mem_cons.mpr ⟨s_lret (am_dp pw_X11_chanceOf_192 dd_X11_chanceOf_192a.2.2) rfl, ?_⟩
  exact fun _ h => absurd h List.not_mem_nil
theorem sn_tX11_chanceOf : ∀ q ∈ tX11_chanceOf, am_Snd am_P0 RX11 cX11_chanceOf 7 (Option.some FieldType.long) "chanceOf" q.1 q.2 := by
  unfold tX11_chanceOf
  exact List.forall_mem_append.mpr ⟨sn_tX11_chanceOf_0, sn_tX11_chanceOf_1⟩
theorem sn_tX11_chance : ∀ q ∈ tX11_chance, am_Snd am_P0 RX11 cX11_chance 2 (Option.some FieldType.long) "chance" q.1 q.2 := by
  unfold tX11_chance
  refine List.forall_mem_cons.mpr ⟨(s_aloadn (am_dp pw_X11_chance_0 dd_X11_chance_0a.1) rfl).to, ?_⟩
  refine List.forall_mem_cons.mpr ⟨(s_iloadn (am_dp pw_X11_chance_0 dd_X11_chance_0a.2.1) rfl).to, ?_⟩
  refine List.forall_mem_cons.mpr ⟨zw_cv220 (am_dp pw_X11_chance_0 dd_X11_chance_0a.2.2.1) wd1850, ?_⟩
  refine List.forall_mem_cons.mpr ⟨(s_if_eq (am_dp pw_X11_chance_0 dd_X11_chance_0a.2.2.2.1) (by decide)).to, ?_⟩
  refine List.forall_mem_cons.mpr ⟨(s_aloadn (am_dp pw_X11_chance_0 dd_X11_chance_0a.2.2.2.2.1) rfl).to, ?_⟩
  refine List.forall_mem_cons.mpr ⟨(s_iloadn (am_dp pw_X11_chance_0 dd_X11_chance_0a.2.2.2.2.2.1) rfl).to, ?_⟩
  refine List.forall_mem_cons.mpr ⟨zw_cv284 (am_dp pw_X11_chance_0 dd_X11_chance_0a.2.2.2.2.2.2.1) wd2070, ?_⟩
  refine List.forall_mem_cons.mpr ⟨(s_goto (am_dp pw_X11_chance_0 dd_X11_chance_0a.2.2.2.2.2.2.2) (by decide)).to, ?_⟩
  refine List.forall_mem_cons.mpr ⟨(s_ldc2 (am_dp pw_X11_chance_0 dd_X11_chance_0b.1) wd2076).to, ?_⟩
  refine List.forall_mem_cons.mpr ⟨s_lret (am_dp pw_X11_chance_0 dd_X11_chance_0b.2) rfl, ?_⟩
  exact fun _ h => absurd h List.not_mem_nil
theorem sn_tX11_beyond : ∀ q ∈ tX11_beyond, am_Snd am_P0 RX11 cX11_beyond 3 (Option.some FieldType.int) "beyond" q.1 q.2 := by
  unfold tX11_beyond
  refine List.forall_mem_cons.mpr ⟨(s_iconst (am_dp pw_X11_beyond_0 dd_X11_beyond_0a.1) (by decide)).to, ?_⟩
  refine List.forall_mem_cons.mpr ⟨(s_istoren (am_dp pw_X11_beyond_0 dd_X11_beyond_0a.2.1) rfl (by decide)).to, ?_⟩
  refine List.forall_mem_cons.mpr ⟨(s_iconst (am_dp pw_X11_beyond_0 dd_X11_beyond_0a.2.2.1) (by decide)).to, ?_⟩
  refine List.forall_mem_cons.mpr ⟨(s_istoren (am_dp pw_X11_beyond_0 dd_X11_beyond_0a.2.2.2.1) rfl (by decide)).to, ?_⟩
  refine List.forall_mem_cons.mpr ⟨(s_iloadn (am_dp pw_X11_beyond_0 dd_X11_beyond_0a.2.2.2.2.1) rfl).to, ?_⟩
  refine List.forall_mem_cons.mpr ⟨(s_aloadn (am_dp pw_X11_beyond_0 dd_X11_beyond_0a.2.2.2.2.2.1) rfl).to, ?_⟩
  refine List.forall_mem_cons.mpr ⟨(s_get (ci := 11) (k := 19) (am_dp pw_X11_beyond_0 dd_X11_beyond_0a.2.2.2.2.2.2.1) rfl (by decide) wd1352 inX11 rfl).to, ?_⟩
  refine List.forall_mem_cons.mpr ⟨(s_aloadn (am_dp pw_X11_beyond_0 dd_X11_beyond_0a.2.2.2.2.2.2.2) rfl).to, ?_⟩
  refine List.forall_mem_cons.mpr ⟨(s_get (ci := 11) (k := 12) (am_dp pw_X11_beyond_0 dd_X11_beyond_0b.1) rfl (by decide) wd1345 inX11 rfl).to, ?_⟩
  refine List.forall_mem_cons.mpr ⟨(s_iald (am_dp pw_X11_beyond_0 dd_X11_beyond_0b.2.1)).to, ?_⟩
  refine List.forall_mem_cons.mpr ⟨(s_icmp_ge (am_dp pw_X11_beyond_0 dd_X11_beyond_0b.2.2.1) (by decide)).to, ?_⟩
  refine List.forall_mem_cons.mpr ⟨(s_iloadn (am_dp pw_X11_beyond_0 dd_X11_beyond_0b.2.2.2.1) rfl).to, ?_⟩
  refine List.forall_mem_cons.mpr ⟨(s_aloadn (am_dp pw_X11_beyond_0 dd_X11_beyond_0b.2.2.2.2.1) rfl).to, ?_⟩
  refine List.forall_mem_cons.mpr ⟨(s_iloadn (am_dp pw_X11_beyond_0 dd_X11_beyond_0b.2.2.2.2.2.1) rfl).to, ?_⟩
  refine List.forall_mem_cons.mpr ⟨zw_cv258 (am_dp pw_X11_beyond_0 dd_X11_beyond_0b.2.2.2.2.2.2.1) wd1990, ?_⟩
  refine List.forall_mem_cons.mpr ⟨(s_if_le (am_dp pw_X11_beyond_0 dd_X11_beyond_0b.2.2.2.2.2.2.2) (by decide)).to, ?_⟩
  refine List.forall_mem_cons.mpr ⟨(s_aloadn (am_dp pw_X11_beyond_0 dd_X11_beyond_0c.1) rfl).to, ?_⟩
  refine List.forall_mem_cons.mpr ⟨(s_iloadn (am_dp pw_X11_beyond_0 dd_X11_beyond_0c.2.1) rfl).to, ?_⟩
  refine List.forall_mem_cons.mpr ⟨zw_cv284 (am_dp pw_X11_beyond_0 dd_X11_beyond_0c.2.2.1) wd2070, ?_⟩
  refine List.forall_mem_cons.mpr ⟨(s_aloadn (am_dp pw_X11_beyond_0 dd_X11_beyond_0c.2.2.2) rfl).to, ?_⟩
  refine List.forall_mem_cons.mpr ⟨(s_get (ci := 11) (k := 19) (am_dp pw_X11_beyond_32 dd_X11_beyond_32a.1) rfl (by decide) wd1352 inX11 rfl).to, ?_⟩
  refine List.forall_mem_cons.mpr ⟨(s_aloadn (am_dp pw_X11_beyond_32 dd_X11_beyond_32a.2.1) rfl).to, ?_⟩
  refine List.forall_mem_cons.mpr ⟨(s_get (ci := 11) (k := 12) (am_dp pw_X11_beyond_32 dd_X11_beyond_32a.2.2.1) rfl (by decide) wd1345 inX11 rfl).to, ?_⟩
  refine List.forall_mem_cons.mpr ⟨(s_iald (am_dp pw_X11_beyond_32 dd_X11_beyond_32a.2.2.2.1)).to, ?_⟩
  refine List.forall_mem_cons.mpr ⟨(s_i2l (am_dp pw_X11_beyond_32 dd_X11_beyond_32a.2.2.2.2.1)).to, ?_⟩
  refine List.forall_mem_cons.mpr ⟨(s_lmul (am_dp pw_X11_beyond_32 dd_X11_beyond_32a.2.2.2.2.2.1)).to, ?_⟩
  refine List.forall_mem_cons.mpr ⟨(s_ldc2 (am_dp pw_X11_beyond_32 dd_X11_beyond_32a.2.2.2.2.2.2.1) wd2081).to, ?_⟩
  refine List.forall_mem_cons.mpr ⟨(s_lcmp (am_dp pw_X11_beyond_32 dd_X11_beyond_32a.2.2.2.2.2.2.2)).to, ?_⟩
  refine List.forall_mem_cons.mpr ⟨(s_if_ge (am_dp pw_X11_beyond_32 dd_X11_beyond_32b.1) (by decide)).to, ?_⟩
  refine List.forall_mem_cons.mpr ⟨(s_iconst (am_dp pw_X11_beyond_32 dd_X11_beyond_32b.2.1) (by decide)).to, ?_⟩
  refine List.forall_mem_cons.mpr ⟨(s_iloadn (am_dp pw_X11_beyond_32 dd_X11_beyond_32b.2.2.1) rfl).to, ?_⟩
  refine List.forall_mem_cons.mpr ⟨(s_ishl (am_dp pw_X11_beyond_32 dd_X11_beyond_32b.2.2.2.1)).to, ?_⟩
  refine List.forall_mem_cons.mpr ⟨(s_goto (am_dp pw_X11_beyond_32 dd_X11_beyond_32b.2.2.2.2.1) (by decide)).to, ?_⟩
  refine List.forall_mem_cons.mpr ⟨(s_iconst (am_dp pw_X11_beyond_32 dd_X11_beyond_32b.2.2.2.2.2.1) (by decide)).to, ?_⟩
  refine List.forall_mem_cons.mpr ⟨(s_ior (am_dp pw_X11_beyond_32 dd_X11_beyond_32b.2.2.2.2.2.2.1)).to, ?_⟩
  refine List.forall_mem_cons.mpr ⟨(s_istoren (am_dp pw_X11_beyond_32 dd_X11_beyond_32b.2.2.2.2.2.2.2) rfl (by decide)).to, ?_⟩
  refine List.forall_mem_cons.mpr ⟨(s_iinc (am_dp pw_X11_beyond_32 dd_X11_beyond_32c.1) (by decide) (by decide)).to, ?_⟩
  refine List.forall_mem_cons.mpr ⟨(s_goto (am_dp pw_X11_beyond_32 dd_X11_beyond_32c.2) (by decide)).to, ?_⟩
  refine List.forall_mem_cons.mpr ⟨(s_iloadn (am_dp pw_X11_beyond_64 dd_X11_beyond_64a.1) rfl).to, ?_⟩
  refine List.forall_mem_cons.mpr ⟨s_iret (am_dp pw_X11_beyond_64 dd_X11_beyond_64a.2) rfl, ?_⟩
  exact fun _ h => absurd h List.not_mem_nil
theorem sn_tX11_settlesAll_0 : ∀ q ∈ tX11_settlesAll_0, am_Snd am_P0 RX11 cX11_settlesAll 4 (Option.none : Option FieldType) "settlesAll" q.1 q.2 := by
  unfold tX11_settlesAll_0
  refine List.forall_mem_cons.mpr ⟨(s_iconst (am_dp pw_X11_settlesAll_0 dd_X11_settlesAll_0a.1) (by decide)).to, ?_⟩
  refine List.forall_mem_cons.mpr ⟨(s_istoren (am_dp pw_X11_settlesAll_0 dd_X11_settlesAll_0a.2.1) rfl (by decide)).to, ?_⟩
  refine List.forall_mem_cons.mpr ⟨(s_iloadn (am_dp pw_X11_settlesAll_0 dd_X11_settlesAll_0a.2.2.1) rfl).to, ?_⟩
  refine List.forall_mem_cons.mpr ⟨(s_sipush (am_dp pw_X11_settlesAll_0 dd_X11_settlesAll_0a.2.2.2.1) (by decide)).to, ?_⟩
  refine List.forall_mem_cons.mpr ⟨(s_icmp_ge (am_dp pw_X11_settlesAll_0 dd_X11_settlesAll_0a.2.2.2.2.1) (by decide)).to, ?_⟩
  refine List.forall_mem_cons.mpr ⟨(s_aloadn (am_dp pw_X11_settlesAll_0 dd_X11_settlesAll_0a.2.2.2.2.2.1) rfl).to, ?_⟩
  refine List.forall_mem_cons.mpr ⟨(s_get (ci := 11) (k := 80) (am_dp pw_X11_settlesAll_0 dd_X11_settlesAll_0a.2.2.2.2.2.2.1) rfl (by decide) wd1413 inX11 rfl).to, ?_⟩
  refine List.forall_mem_cons.mpr ⟨(s_iloadn (am_dp pw_X11_settlesAll_0 dd_X11_settlesAll_0a.2.2.2.2.2.2.2) rfl).to, ?_⟩
  refine List.forall_mem_cons.mpr ⟨(s_iconst (am_dp pw_X11_settlesAll_0 dd_X11_settlesAll_0b.1) (by decide)).to, ?_⟩
  refine List.forall_mem_cons.mpr ⟨(s_iast (am_dp pw_X11_settlesAll_0 dd_X11_settlesAll_0b.2.1)).to, ?_⟩
  refine List.forall_mem_cons.mpr ⟨(s_iinc (am_dp pw_X11_settlesAll_0 dd_X11_settlesAll_0b.2.2.1) (by decide) (by decide)).to, ?_⟩
  refine List.forall_mem_cons.mpr ⟨(s_goto (am_dp pw_X11_settlesAll_0 dd_X11_settlesAll_0b.2.2.2.1) (by decide)).to, ?_⟩
  refine List.forall_mem_cons.mpr ⟨(s_iconst (am_dp pw_X11_settlesAll_0 dd_X11_settlesAll_0b.2.2.2.2.1) (by decide)).to, ?_⟩
  refine List.forall_mem_cons.mpr ⟨(s_istoren (am_dp pw_X11_settlesAll_0 dd_X11_settlesAll_0b.2.2.2.2.2.1) rfl (by decide)).to, ?_⟩
  refine List.forall_mem_cons.mpr ⟨(s_iloadn (am_dp pw_X11_settlesAll_0 dd_X11_settlesAll_0b.2.2.2.2.2.2.1) rfl).to, ?_⟩
  refine List.forall_mem_cons.mpr ⟨(s_aloadn (am_dp pw_X11_settlesAll_0 dd_X11_settlesAll_0b.2.2.2.2.2.2.2) rfl).to, ?_⟩
  refine List.forall_mem_cons.mpr ⟨(s_get (ci := 11) (k := 19) (am_dp pw_X11_settlesAll_0 dd_X11_settlesAll_0c.1) rfl (by decide) wd1352 inX11 rfl).to, ?_⟩
  refine List.forall_mem_cons.mpr ⟨(s_aloadn (am_dp pw_X11_settlesAll_0 dd_X11_settlesAll_0c.2.1) rfl).to, ?_⟩
  refine List.forall_mem_cons.mpr ⟨(s_get (ci := 11) (k := 12) (am_dp pw_X11_settlesAll_0 dd_X11_settlesAll_0c.2.2) rfl (by decide) wd1345 inX11 rfl).to, ?_⟩
  refine List.forall_mem_cons.mpr ⟨(s_iald (am_dp pw_X11_settlesAll_32 dd_X11_settlesAll_32a.1)).to, ?_⟩
  refine List.forall_mem_cons.mpr ⟨(s_icmp_ge (am_dp pw_X11_settlesAll_32 dd_X11_settlesAll_32a.2.1) (by decide)).to, ?_⟩
  refine List.forall_mem_cons.mpr ⟨(s_aloadn (am_dp pw_X11_settlesAll_32 dd_X11_settlesAll_32a.2.2.1) rfl).to, ?_⟩
  refine List.forall_mem_cons.mpr ⟨(s_iloadn (am_dp pw_X11_settlesAll_32 dd_X11_settlesAll_32a.2.2.2.1) rfl).to, ?_⟩
  refine List.forall_mem_cons.mpr ⟨zw_cv228 (am_dp pw_X11_settlesAll_32 dd_X11_settlesAll_32a.2.2.2.2.1) wd1838, ?_⟩
  refine List.forall_mem_cons.mpr ⟨(s_if_ne (am_dp pw_X11_settlesAll_32 dd_X11_settlesAll_32a.2.2.2.2.2.1) (by decide)).to, ?_⟩
  refine List.forall_mem_cons.mpr ⟨(s_goto (am_dp pw_X11_settlesAll_32 dd_X11_settlesAll_32a.2.2.2.2.2.2.1) (by decide)).to, ?_⟩
  refine List.forall_mem_cons.mpr ⟨(s_aloadn (am_dp pw_X11_settlesAll_32 dd_X11_settlesAll_32a.2.2.2.2.2.2.2) rfl).to, ?_⟩
  refine List.forall_mem_cons.mpr ⟨(s_iloadn (am_dp pw_X11_settlesAll_32 dd_X11_settlesAll_32b.1) rfl).to, ?_⟩
  refine List.forall_mem_cons.mpr ⟨zw_cv249 (am_dp pw_X11_settlesAll_32 dd_X11_settlesAll_32b.2.1) wd1938, ?_⟩
  refine List.forall_mem_cons.mpr ⟨(s_iconst (am_dp pw_X11_settlesAll_32 dd_X11_settlesAll_32b.2.2.1) (by decide)).to, ?_⟩
  refine List.forall_mem_cons.mpr ⟨(s_istoren (am_dp pw_X11_settlesAll_32 dd_X11_settlesAll_32b.2.2.2.1) rfl (by decide)).to, ?_⟩
  refine List.forall_mem_cons.mpr ⟨(s_iloadn (am_dp pw_X11_settlesAll_32 dd_X11_settlesAll_32b.2.2.2.2.1) rfl).to, ?_⟩
  refine List.forall_mem_cons.mpr ⟨(s_bipush (am_dp pw_X11_settlesAll_32 dd_X11_settlesAll_32b.2.2.2.2.2.1) (by decide)).to, ?_⟩
  refine List.forall_mem_cons.mpr ⟨(s_icmp_ge (am_dp pw_X11_settlesAll_32 dd_X11_settlesAll_32b.2.2.2.2.2.2.1) (by decide)).to, ?_⟩
  refine List.forall_mem_cons.mpr ⟨(s_aloadn (am_dp pw_X11_settlesAll_32 dd_X11_settlesAll_32b.2.2.2.2.2.2.2) rfl).to, ?_⟩
  refine List.forall_mem_cons.mpr ⟨(s_iloadn (am_dp pw_X11_settlesAll_32 dd_X11_settlesAll_32c.1) rfl).to, ?_⟩
  refine List.forall_mem_cons.mpr ⟨(s_iloadn (am_dp pw_X11_settlesAll_32 dd_X11_settlesAll_32c.2) rfl).to, ?_⟩
  refine List.forall_mem_cons.mpr ⟨zw_cv251 (am_dp pw_X11_settlesAll_64 dd_X11_settlesAll_64a.1) wd1942, ?_⟩
  refine List.forall_mem_cons.mpr ⟨(s_iconst (am_dp pw_X11_settlesAll_64 dd_X11_settlesAll_64a.2.1) (by decide)).to, ?_⟩
  refine List.forall_mem_cons.mpr ⟨(s_icmp_ge (am_dp pw_X11_settlesAll_64 dd_X11_settlesAll_64a.2.2.1) (by decide)).to, ?_⟩
  refine List.forall_mem_cons.mpr ⟨(s_goto (am_dp pw_X11_settlesAll_64 dd_X11_settlesAll_64a.2.2.2.1) (by decide)).to, ?_⟩
  refine List.forall_mem_cons.mpr ⟨(s_iconst (am_dp pw_X11_settlesAll_64 dd_X11_settlesAll_64a.2.2.2.2.1) (by decide)).to, ?_⟩
  refine List.forall_mem_cons.mpr ⟨(s_istoren (am_dp pw_X11_settlesAll_64 dd_X11_settlesAll_64a.2.2.2.2.2.1) rfl (by decide)).to, ?_⟩
  refine List.forall_mem_cons.mpr ⟨(s_iloadn (am_dp pw_X11_settlesAll_64 dd_X11_settlesAll_64a.2.2.2.2.2.2.1) rfl).to, ?_⟩
  refine List.forall_mem_cons.mpr ⟨(s_aloadn (am_dp pw_X11_settlesAll_64 dd_X11_settlesAll_64a.2.2.2.2.2.2.2) rfl).to, ?_⟩
  refine List.forall_mem_cons.mpr ⟨zw_cv214 (am_dp pw_X11_settlesAll_64 dd_X11_settlesAll_64b.1) wd1771, ?_⟩
  refine List.forall_mem_cons.mpr ⟨(s_icmp_ge (am_dp pw_X11_settlesAll_64 dd_X11_settlesAll_64b.2.1) (by decide)).to, ?_⟩
  refine List.forall_mem_cons.mpr ⟨(s_aloadn (am_dp pw_X11_settlesAll_64 dd_X11_settlesAll_64b.2.2.1) rfl).to, ?_⟩
  refine List.forall_mem_cons.mpr ⟨(s_get (ci := 11) (k := 80) (am_dp pw_X11_settlesAll_64 dd_X11_settlesAll_64b.2.2.2.1) rfl (by decide) wd1413 inX11 rfl).to, ?_⟩
  refine List.forall_mem_cons.mpr ⟨(s_sipush (am_dp pw_X11_settlesAll_64 dd_X11_settlesAll_64b.2.2.2.2.1) (by decide)).to, ?_⟩
  refine List.forall_mem_cons.mpr ⟨(s_iloadn (am_dp pw_X11_settlesAll_64 dd_X11_settlesAll_64b.2.2.2.2.2.1) rfl).to, ?_⟩
  refine List.forall_mem_cons.mpr ⟨(s_imul (am_dp pw_X11_settlesAll_64 dd_X11_settlesAll_64b.2.2.2.2.2.2.1)).to, ?_⟩
  refine List.forall_mem_cons.mpr ⟨(s_iloadn (am_dp pw_X11_settlesAll_64 dd_X11_settlesAll_64b.2.2.2.2.2.2.2) rfl).to, ?_⟩
  refine List.forall_mem_cons.mpr ⟨(s_iadd (am_dp pw_X11_settlesAll_64 dd_X11_settlesAll_64c.1)).to, ?_⟩
  refine List.forall_mem_cons.mpr ⟨(s_dup2 (am_dp pw_X11_settlesAll_64 dd_X11_settlesAll_64c.2)).to, ?_⟩
  refine List.forall_mem_cons.mpr ⟨(s_iald (am_dp pw_X11_settlesAll_96 dd_X11_settlesAll_96a.1)).to, ?_⟩
  refine List.forall_mem_cons.mpr ⟨(s_aloadn (am_dp pw_X11_settlesAll_96 dd_X11_settlesAll_96a.2.1) rfl).to, ?_⟩
  refine List.forall_mem_cons.mpr ⟨(s_iloadn (am_dp pw_X11_settlesAll_96 dd_X11_settlesAll_96a.2.2.1) rfl).to, ?_⟩
  refine List.forall_mem_cons.mpr ⟨(s_iloadn (am_dp pw_X11_settlesAll_96 dd_X11_settlesAll_96a.2.2.2.1) rfl).to, ?_⟩
  refine List.forall_mem_cons.mpr ⟨(s_iloadn (am_dp pw_X11_settlesAll_96 dd_X11_settlesAll_96a.2.2.2.2.1) rfl).to, ?_⟩
  exact fun _ h => absurd h List.not_mem_nil
theorem sn_tX11_settlesAll_1 : ∀ q ∈ tX11_settlesAll_1, am_Snd am_P0 RX11 cX11_settlesAll 4 (Option.none : Option FieldType) "settlesAll" q.1 q.2 := by
  unfold tX11_settlesAll_1
  refine List.forall_mem_cons.mpr ⟨zw_cv250 (am_dp pw_X11_settlesAll_96 dd_X11_settlesAll_96a.2.2.2.2.2.1) wd1946, ?_⟩
  refine List.forall_mem_cons.mpr ⟨(s_if_eq (am_dp pw_X11_settlesAll_96 dd_X11_settlesAll_96a.2.2.2.2.2.2.1) (by decide)).to, ?_⟩
  refine List.forall_mem_cons.mpr ⟨(s_iconst (am_dp pw_X11_settlesAll_96 dd_X11_settlesAll_96a.2.2.2.2.2.2.2) (by decide)).to, ?_⟩
  refine List.forall_mem_cons.mpr ⟨(s_goto (am_dp pw_X11_settlesAll_96 dd_X11_settlesAll_96b.1) (by decide)).to, ?_⟩
  refine List.forall_mem_cons.mpr ⟨(s_iconst (am_dp pw_X11_settlesAll_96 dd_X11_settlesAll_96b.2.1) (by decide)).to, ?_⟩
  refine List.forall_mem_cons.mpr ⟨(s_iadd (am_dp pw_X11_settlesAll_96 dd_X11_settlesAll_96b.2.2.1)).to, ?_⟩
  refine List.forall_mem_cons.mpr ⟨(s_iast (am_dp pw_X11_settlesAll_96 dd_X11_settlesAll_96b.2.2.2.1)).to, ?_⟩
  refine List.forall_mem_cons.mpr ⟨(s_iinc (am_dp pw_X11_settlesAll_96 dd_X11_settlesAll_96b.2.2.2.2.1) (by decide) (by decide)).to, ?_⟩
  refine List.forall_mem_cons.mpr ⟨(s_goto (am_dp pw_X11_settlesAll_96 dd_X11_settlesAll_96b.2.2.2.2.2.1) (by decide)).to, ?_⟩
  refine List.forall_mem_cons.mpr ⟨(s_iinc (am_dp pw_X11_settlesAll_96 dd_X11_settlesAll_96b.2.2.2.2.2.2.1) (by decide) (by decide)).to, ?_⟩
  refine List.forall_mem_cons.mpr ⟨(s_goto (am_dp pw_X11_settlesAll_96 dd_X11_settlesAll_96b.2.2.2.2.2.2.2) (by decide)).to, ?_⟩
  refine List.forall_mem_cons.mpr ⟨(s_iinc (am_dp pw_X11_settlesAll_96 dd_X11_settlesAll_96c) (by decide) (by decide)).to, ?_⟩
  refine List.forall_mem_cons.mpr ⟨(s_goto (am_dp pw_X11_settlesAll_128 dd_X11_settlesAll_128a.1) (by decide)).to, ?_⟩
  refine List.forall_mem_cons.mpr ⟨s_vret (am_dp pw_X11_settlesAll_128 dd_X11_settlesAll_128a.2) rfl, ?_⟩
  exact fun _ h => absurd h List.not_mem_nil
theorem sn_tX11_settlesAll : ∀ q ∈ tX11_settlesAll, am_Snd am_P0 RX11 cX11_settlesAll 4 (Option.none : Option FieldType) "settlesAll" q.1 q.2 := by
  unfold tX11_settlesAll
  exact List.forall_mem_append.mpr ⟨sn_tX11_settlesAll_0, sn_tX11_settlesAll_1⟩
theorem sn_tX11_settles : ∀ q ∈ tX11_settles, am_Snd am_P0 RX11 cX11_settles 4 (Option.some FieldType.int) "settles" q.1 q.2 := by
  unfold tX11_settles
  refine List.forall_mem_cons.mpr ⟨(s_iloadn (am_dp pw_X11_settles_0 dd_X11_settles_0a.1) rfl).to, ?_⟩
  refine List.forall_mem_cons.mpr ⟨zw_cs219 (am_dp pw_X11_settles_0 dd_X11_settles_0a.2.1) wd1823, ?_⟩
  refine List.forall_mem_cons.mpr ⟨(s_if_eq (am_dp pw_X11_settles_0 dd_X11_settles_0a.2.2.1) (by decide)).to, ?_⟩
  refine List.forall_mem_cons.mpr ⟨(s_aloadn (am_dp pw_X11_settles_0 dd_X11_settles_0a.2.2.2.1) rfl).to, ?_⟩
  refine List.forall_mem_cons.mpr ⟨(s_iloadn (am_dp pw_X11_settles_0 dd_X11_settles_0a.2.2.2.2.1) rfl).to, ?_⟩
  refine List.forall_mem_cons.mpr ⟨(s_iloadn (am_dp pw_X11_settles_0 dd_X11_settles_0a.2.2.2.2.2.1) rfl).to, ?_⟩
  refine List.forall_mem_cons.mpr ⟨zw_cv217 (am_dp pw_X11_settles_0 dd_X11_settles_0a.2.2.2.2.2.2.1) wd1819, ?_⟩
  refine List.forall_mem_cons.mpr ⟨(s_if_ne (am_dp pw_X11_settles_0 dd_X11_settles_0a.2.2.2.2.2.2.2) (by decide)).to, ?_⟩
  refine List.forall_mem_cons.mpr ⟨(s_iconst (am_dp pw_X11_settles_0 dd_X11_settles_0b.1) (by decide)).to, ?_⟩
  refine List.forall_mem_cons.mpr ⟨s_iret (am_dp pw_X11_settles_0 dd_X11_settles_0b.2.1) rfl, ?_⟩
  refine List.forall_mem_cons.mpr ⟨(s_aloadn (am_dp pw_X11_settles_0 dd_X11_settles_0b.2.2.1) rfl).to, ?_⟩
  refine List.forall_mem_cons.mpr ⟨zw_cv287 (am_dp pw_X11_settles_0 dd_X11_settles_0b.2.2.2.1) wd2086, ?_⟩
  refine List.forall_mem_cons.mpr ⟨(s_aloadn (am_dp pw_X11_settles_0 dd_X11_settles_0b.2.2.2.2.1) rfl).to, ?_⟩
  refine List.forall_mem_cons.mpr ⟨(s_get (ci := 11) (k := 80) (am_dp pw_X11_settles_0 dd_X11_settles_0b.2.2.2.2.2.1) rfl (by decide) wd1413 inX11 rfl).to, ?_⟩
  refine List.forall_mem_cons.mpr ⟨(s_sipush (am_dp pw_X11_settles_0 dd_X11_settles_0b.2.2.2.2.2.2.1) (by decide)).to, ?_⟩
  refine List.forall_mem_cons.mpr ⟨(s_iloadn (am_dp pw_X11_settles_0 dd_X11_settles_0b.2.2.2.2.2.2.2) rfl).to, ?_⟩
  refine List.forall_mem_cons.mpr ⟨(s_imul (am_dp pw_X11_settles_0 dd_X11_settles_0c.1)).to, ?_⟩
  refine List.forall_mem_cons.mpr ⟨(s_aloadn (am_dp pw_X11_settles_0 dd_X11_settles_0c.2) rfl).to, ?_⟩
  refine List.forall_mem_cons.mpr ⟨(s_iloadn (am_dp pw_X11_settles_32 dd_X11_settles_32a.1) rfl).to, ?_⟩
  refine List.forall_mem_cons.mpr ⟨(s_iloadn (am_dp pw_X11_settles_32 dd_X11_settles_32a.2.1) rfl).to, ?_⟩
  refine List.forall_mem_cons.mpr ⟨zw_cv218 (am_dp pw_X11_settles_32 dd_X11_settles_32a.2.2.1) wd1826, ?_⟩
  refine List.forall_mem_cons.mpr ⟨(s_iadd (am_dp pw_X11_settles_32 dd_X11_settles_32a.2.2.2.1)).to, ?_⟩
  refine List.forall_mem_cons.mpr ⟨(s_iald (am_dp pw_X11_settles_32 dd_X11_settles_32a.2.2.2.2.1)).to, ?_⟩
  refine List.forall_mem_cons.mpr ⟨s_iret (am_dp pw_X11_settles_32 dd_X11_settles_32a.2.2.2.2.2) rfl, ?_⟩
  exact fun _ h => absurd h List.not_mem_nil
theorem sn_tX11_next_0 : ∀ q ∈ tX11_next_0, am_Snd am_P0 RX11 cX11_next 7 (Option.some FieldType.int) "next" q.1 q.2 := by
  unfold tX11_next_0
  refine List.forall_mem_cons.mpr ⟨(s_iloadn (am_dp pw_X11_next_0 dd_X11_next_0a.1) rfl).to, ?_⟩
  refine List.forall_mem_cons.mpr ⟨(s_iconst (am_dp pw_X11_next_0 dd_X11_next_0a.2.1) (by decide)).to, ?_⟩
  refine List.forall_mem_cons.mpr ⟨(s_iconst (am_dp pw_X11_next_0 dd_X11_next_0a.2.2.1) (by decide)).to, ?_⟩
  refine List.forall_mem_cons.mpr ⟨zw_cs167 (am_dp pw_X11_next_0 dd_X11_next_0a.2.2.2.1) wd1630, ?_⟩
  refine List.forall_mem_cons.mpr ⟨(s_if_ne (am_dp pw_X11_next_0 dd_X11_next_0a.2.2.2.2.1) (by decide)).to, ?_⟩
  refine List.forall_mem_cons.mpr ⟨(s_iconst (am_dp pw_X11_next_0 dd_X11_next_0a.2.2.2.2.2.1) (by decide)).to, ?_⟩
  refine List.forall_mem_cons.mpr ⟨s_iret (am_dp pw_X11_next_0 dd_X11_next_0a.2.2.2.2.2.2.1) rfl, ?_⟩
  refine List.forall_mem_cons.mpr ⟨(s_aloadn (am_dp pw_X11_next_0 dd_X11_next_0a.2.2.2.2.2.2.2) rfl).to, ?_⟩
  refine List.forall_mem_cons.mpr ⟨zw_cv287 (am_dp pw_X11_next_0 dd_X11_next_0b.1) wd2086, ?_⟩
  refine List.forall_mem_cons.mpr ⟨(s_iconst (am_dp pw_X11_next_0 dd_X11_next_0b.2.1) (by decide)).to, ?_⟩
  refine List.forall_mem_cons.mpr ⟨(s_istoren (am_dp pw_X11_next_0 dd_X11_next_0b.2.2.1) rfl (by decide)).to, ?_⟩
  refine List.forall_mem_cons.mpr ⟨(s_iconst (am_dp pw_X11_next_0 dd_X11_next_0b.2.2.2.1) (by decide)).to, ?_⟩
  refine List.forall_mem_cons.mpr ⟨(s_istoren (am_dp pw_X11_next_0 dd_X11_next_0b.2.2.2.2.1) rfl (by decide)).to, ?_⟩
  refine List.forall_mem_cons.mpr ⟨(s_iloadn (am_dp pw_X11_next_0 dd_X11_next_0b.2.2.2.2.2.1) rfl).to, ?_⟩
  refine List.forall_mem_cons.mpr ⟨(s_bipush (am_dp pw_X11_next_0 dd_X11_next_0b.2.2.2.2.2.2.1) (by decide)).to, ?_⟩
  refine List.forall_mem_cons.mpr ⟨(s_icmp_ge (am_dp pw_X11_next_0 dd_X11_next_0b.2.2.2.2.2.2.2) (by decide)).to, ?_⟩
  refine List.forall_mem_cons.mpr ⟨(s_iconst (am_dp pw_X11_next_0 dd_X11_next_0c.1) (by decide)).to, ?_⟩
  refine List.forall_mem_cons.mpr ⟨(s_istore (am_dp pw_X11_next_0 dd_X11_next_0c.2.1) (by decide)).to, ?_⟩
  refine List.forall_mem_cons.mpr ⟨(s_iload (am_dp pw_X11_next_0 dd_X11_next_0c.2.2.1)).to, ?_⟩
  refine List.forall_mem_cons.mpr ⟨(s_aloadn (am_dp pw_X11_next_0 dd_X11_next_0c.2.2.2.1) rfl).to, ?_⟩
  refine List.forall_mem_cons.mpr ⟨zw_cv214 (am_dp pw_X11_next_0 dd_X11_next_0c.2.2.2.2) wd1771, ?_⟩
  refine List.forall_mem_cons.mpr ⟨(s_icmp_ge (am_dp pw_X11_next_32 dd_X11_next_32a.1) (by decide)).to, ?_⟩
  refine List.forall_mem_cons.mpr ⟨(s_sipush (am_dp pw_X11_next_32 dd_X11_next_32a.2.1) (by decide)).to, ?_⟩
  refine List.forall_mem_cons.mpr ⟨(s_iloadn (am_dp pw_X11_next_32 dd_X11_next_32a.2.2.1) rfl).to, ?_⟩
  refine List.forall_mem_cons.mpr ⟨(s_imul (am_dp pw_X11_next_32 dd_X11_next_32a.2.2.2.1)).to, ?_⟩
  refine List.forall_mem_cons.mpr ⟨(s_iload (am_dp pw_X11_next_32 dd_X11_next_32a.2.2.2.2.1)).to, ?_⟩
  refine List.forall_mem_cons.mpr ⟨(s_iadd (am_dp pw_X11_next_32 dd_X11_next_32a.2.2.2.2.2.1)).to, ?_⟩
  refine List.forall_mem_cons.mpr ⟨(s_istore (am_dp pw_X11_next_32 dd_X11_next_32a.2.2.2.2.2.2.1) (by decide)).to, ?_⟩
  refine List.forall_mem_cons.mpr ⟨(s_iloadn (am_dp pw_X11_next_32 dd_X11_next_32a.2.2.2.2.2.2.2) rfl).to, ?_⟩
  refine List.forall_mem_cons.mpr ⟨(s_iconst (am_dp pw_X11_next_32 dd_X11_next_32b.1) (by decide)).to, ?_⟩
  refine List.forall_mem_cons.mpr ⟨(s_icmp_ne (am_dp pw_X11_next_32 dd_X11_next_32b.2.1) (by decide)).to, ?_⟩
  refine List.forall_mem_cons.mpr ⟨(s_aloadn (am_dp pw_X11_next_32 dd_X11_next_32b.2.2.1) rfl).to, ?_⟩
  refine List.forall_mem_cons.mpr ⟨(s_get (ci := 11) (k := 80) (am_dp pw_X11_next_32 dd_X11_next_32b.2.2.2.1) rfl (by decide) wd1413 inX11 rfl).to, ?_⟩
  refine List.forall_mem_cons.mpr ⟨(s_iload (am_dp pw_X11_next_32 dd_X11_next_32b.2.2.2.2.1)).to, ?_⟩
  refine List.forall_mem_cons.mpr ⟨(s_iald (am_dp pw_X11_next_32 dd_X11_next_32b.2.2.2.2.2.1)).to, ?_⟩
  refine List.forall_mem_cons.mpr ⟨(s_if_le (am_dp pw_X11_next_32 dd_X11_next_32b.2.2.2.2.2.2.1) (by decide)).to, ?_⟩
  refine List.forall_mem_cons.mpr ⟨(s_iconst (am_dp pw_X11_next_32 dd_X11_next_32b.2.2.2.2.2.2.2) (by decide)).to, ?_⟩
  refine List.forall_mem_cons.mpr ⟨(s_goto (am_dp pw_X11_next_32 dd_X11_next_32c) (by decide)).to, ?_⟩
  refine List.forall_mem_cons.mpr ⟨(s_iconst (am_dp pw_X11_next_64 dd_X11_next_64a.1) (by decide)).to, ?_⟩
  refine List.forall_mem_cons.mpr ⟨(s_goto (am_dp pw_X11_next_64 dd_X11_next_64a.2.1) (by decide)).to, ?_⟩
  refine List.forall_mem_cons.mpr ⟨(s_aloadn (am_dp pw_X11_next_64 dd_X11_next_64a.2.2.1) rfl).to, ?_⟩
  refine List.forall_mem_cons.mpr ⟨(s_get (ci := 11) (k := 80) (am_dp pw_X11_next_64 dd_X11_next_64a.2.2.2.1) rfl (by decide) wd1413 inX11 rfl).to, ?_⟩
  refine List.forall_mem_cons.mpr ⟨(s_iload (am_dp pw_X11_next_64 dd_X11_next_64a.2.2.2.2.1)).to, ?_⟩
  refine List.forall_mem_cons.mpr ⟨(s_iald (am_dp pw_X11_next_64 dd_X11_next_64a.2.2.2.2.2.1)).to, ?_⟩
  refine List.forall_mem_cons.mpr ⟨(s_aloadn (am_dp pw_X11_next_64 dd_X11_next_64a.2.2.2.2.2.2.1) rfl).to, ?_⟩
  refine List.forall_mem_cons.mpr ⟨(s_get (ci := 11) (k := 80) (am_dp pw_X11_next_64 dd_X11_next_64a.2.2.2.2.2.2.2) rfl (by decide) wd1413 inX11 rfl).to, ?_⟩
  refine List.forall_mem_cons.mpr ⟨(s_iloadn (am_dp pw_X11_next_64 dd_X11_next_64b.1) rfl).to, ?_⟩
  refine List.forall_mem_cons.mpr ⟨(s_iald (am_dp pw_X11_next_64 dd_X11_next_64b.2.1)).to, ?_⟩
  refine List.forall_mem_cons.mpr ⟨(s_icmp_gt (am_dp pw_X11_next_64 dd_X11_next_64b.2.2.1) (by decide)).to, ?_⟩
  refine List.forall_mem_cons.mpr ⟨(s_aloadn (am_dp pw_X11_next_64 dd_X11_next_64b.2.2.2.1) rfl).to, ?_⟩
  refine List.forall_mem_cons.mpr ⟨(s_get (ci := 11) (k := 80) (am_dp pw_X11_next_64 dd_X11_next_64b.2.2.2.2.1) rfl (by decide) wd1413 inX11 rfl).to, ?_⟩
  refine List.forall_mem_cons.mpr ⟨(s_iload (am_dp pw_X11_next_64 dd_X11_next_64b.2.2.2.2.2.1)).to, ?_⟩
  refine List.forall_mem_cons.mpr ⟨(s_iald (am_dp pw_X11_next_64 dd_X11_next_64b.2.2.2.2.2.2.1)).to, ?_⟩
  refine List.forall_mem_cons.mpr ⟨(s_aloadn (am_dp pw_X11_next_64 dd_X11_next_64b.2.2.2.2.2.2.2) rfl).to, ?_⟩
  refine List.forall_mem_cons.mpr ⟨(s_get (ci := 11) (k := 80) (am_dp pw_X11_next_64 dd_X11_next_64c) rfl (by decide) wd1413 inX11 rfl).to, ?_⟩
  refine List.forall_mem_cons.mpr ⟨(s_iloadn (am_dp pw_X11_next_96 dd_X11_next_96a.1) rfl).to, ?_⟩
  refine List.forall_mem_cons.mpr ⟨(s_iald (am_dp pw_X11_next_96 dd_X11_next_96a.2.1)).to, ?_⟩
  refine List.forall_mem_cons.mpr ⟨(s_icmp_ne (am_dp pw_X11_next_96 dd_X11_next_96a.2.2.1) (by decide)).to, ?_⟩
  refine List.forall_mem_cons.mpr ⟨(s_aloadn (am_dp pw_X11_next_96 dd_X11_next_96a.2.2.2.1) rfl).to, ?_⟩
  refine List.forall_mem_cons.mpr ⟨(s_get (ci := 11) (k := 56) (am_dp pw_X11_next_96 dd_X11_next_96a.2.2.2.2.1) rfl (by decide) wd1389 inX11 rfl).to, ?_⟩
  exact fun _ h => absurd h List.not_mem_nil
theorem sn_tX11_next_1 : ∀ q ∈ tX11_next_1, am_Snd am_P0 RX11 cX11_next 7 (Option.some FieldType.int) "next" q.1 q.2 := by
  unfold tX11_next_1
  refine List.forall_mem_cons.mpr ⟨(s_iload (am_dp pw_X11_next_96 dd_X11_next_96a.2.2.2.2.2.1)).to, ?_⟩
  refine List.forall_mem_cons.mpr ⟨(s_iald (am_dp pw_X11_next_96 dd_X11_next_96a.2.2.2.2.2.2.1)).to, ?_⟩
  refine List.forall_mem_cons.mpr ⟨(s_aloadn (am_dp pw_X11_next_96 dd_X11_next_96a.2.2.2.2.2.2.2) rfl).to, ?_⟩
  refine List.forall_mem_cons.mpr ⟨(s_get (ci := 11) (k := 56) (am_dp pw_X11_next_96 dd_X11_next_96b.1) rfl (by decide) wd1389 inX11 rfl).to, ?_⟩
  refine List.forall_mem_cons.mpr ⟨(s_iloadn (am_dp pw_X11_next_96 dd_X11_next_96b.2.1) rfl).to, ?_⟩
  refine List.forall_mem_cons.mpr ⟨(s_sipush (am_dp pw_X11_next_96 dd_X11_next_96b.2.2.1) (by decide)).to, ?_⟩
  refine List.forall_mem_cons.mpr ⟨(s_irem (am_dp pw_X11_next_96 dd_X11_next_96b.2.2.2.1)).to, ?_⟩
  refine List.forall_mem_cons.mpr ⟨(s_iald (am_dp pw_X11_next_96 dd_X11_next_96b.2.2.2.2.1)).to, ?_⟩
  refine List.forall_mem_cons.mpr ⟨(s_icmp_ge (am_dp pw_X11_next_96 dd_X11_next_96b.2.2.2.2.2.1) (by decide)).to, ?_⟩
  refine List.forall_mem_cons.mpr ⟨(s_iconst (am_dp pw_X11_next_96 dd_X11_next_96b.2.2.2.2.2.2.1) (by decide)).to, ?_⟩
  refine List.forall_mem_cons.mpr ⟨(s_goto (am_dp pw_X11_next_96 dd_X11_next_96b.2.2.2.2.2.2.2) (by decide)).to, ?_⟩
  refine List.forall_mem_cons.mpr ⟨(s_iconst (am_dp pw_X11_next_96 dd_X11_next_96c.1) (by decide)).to, ?_⟩
  refine List.forall_mem_cons.mpr ⟨(s_istore (am_dp pw_X11_next_96 dd_X11_next_96c.2) (by decide)).to, ?_⟩
  refine List.forall_mem_cons.mpr ⟨(s_iload (am_dp pw_X11_next_128 dd_X11_next_128a.1)).to, ?_⟩
  refine List.forall_mem_cons.mpr ⟨(s_if_eq (am_dp pw_X11_next_128 dd_X11_next_128a.2.1) (by decide)).to, ?_⟩
  refine List.forall_mem_cons.mpr ⟨(s_iload (am_dp pw_X11_next_128 dd_X11_next_128a.2.2.1)).to, ?_⟩
  refine List.forall_mem_cons.mpr ⟨(s_goto (am_dp pw_X11_next_128 dd_X11_next_128a.2.2.2.1) (by decide)).to, ?_⟩
  refine List.forall_mem_cons.mpr ⟨(s_iloadn (am_dp pw_X11_next_128 dd_X11_next_128a.2.2.2.2.1) rfl).to, ?_⟩
  refine List.forall_mem_cons.mpr ⟨(s_istoren (am_dp pw_X11_next_128 dd_X11_next_128a.2.2.2.2.2.1) rfl (by decide)).to, ?_⟩
  refine List.forall_mem_cons.mpr ⟨(s_iinc (am_dp pw_X11_next_128 dd_X11_next_128a.2.2.2.2.2.2.1) (by decide) (by decide)).to, ?_⟩
  refine List.forall_mem_cons.mpr ⟨(s_goto (am_dp pw_X11_next_128 dd_X11_next_128a.2.2.2.2.2.2.2) (by decide)).to, ?_⟩
  refine List.forall_mem_cons.mpr ⟨(s_iinc (am_dp pw_X11_next_128 dd_X11_next_128b.1) (by decide) (by decide)).to, ?_⟩
  refine List.forall_mem_cons.mpr ⟨(s_goto (am_dp pw_X11_next_128 dd_X11_next_128b.2.1) (by decide)).to, ?_⟩
  refine List.forall_mem_cons.mpr ⟨(s_iloadn (am_dp pw_X11_next_128 dd_X11_next_128b.2.2.1) rfl).to, ?_⟩
  refine List.forall_mem_cons.mpr ⟨(s_iconst (am_dp pw_X11_next_128 dd_X11_next_128b.2.2.2.1) (by decide)).to, ?_⟩
  refine List.forall_mem_cons.mpr ⟨(s_icmp_ne (am_dp pw_X11_next_128 dd_X11_next_128b.2.2.2.2.1) (by decide)).to, ?_⟩
  refine List.forall_mem_cons.mpr ⟨(s_iconst (am_dp pw_X11_next_128 dd_X11_next_128b.2.2.2.2.2.1) (by decide)).to, ?_⟩
  refine List.forall_mem_cons.mpr ⟨s_iret (am_dp pw_X11_next_128 dd_X11_next_128b.2.2.2.2.2.2) rfl, ?_⟩
  refine List.forall_mem_cons.mpr ⟨(s_iloadn (am_dp pw_X11_next_160 dd_X11_next_160a.1) rfl).to, ?_⟩
  refine List.forall_mem_cons.mpr ⟨(s_if_ne (am_dp pw_X11_next_160 dd_X11_next_160a.2.1) (by decide)).to, ?_⟩
  refine List.forall_mem_cons.mpr ⟨(s_iloadn (am_dp pw_X11_next_160 dd_X11_next_160a.2.2.1) rfl).to, ?_⟩
  refine List.forall_mem_cons.mpr ⟨(s_sipush (am_dp pw_X11_next_160 dd_X11_next_160a.2.2.2.1) (by decide)).to, ?_⟩
  refine List.forall_mem_cons.mpr ⟨(s_idiv (am_dp pw_X11_next_160 dd_X11_next_160a.2.2.2.2.1)).to, ?_⟩
  refine List.forall_mem_cons.mpr ⟨(s_goto (am_dp pw_X11_next_160 dd_X11_next_160a.2.2.2.2.2.1) (by decide)).to, ?_⟩
  refine List.forall_mem_cons.mpr ⟨(s_iloadn (am_dp pw_X11_next_160 dd_X11_next_160a.2.2.2.2.2.2.1) rfl).to, ?_⟩
  refine List.forall_mem_cons.mpr ⟨(s_iconst (am_dp pw_X11_next_160 dd_X11_next_160a.2.2.2.2.2.2.2) (by decide)).to, ?_⟩
  refine List.forall_mem_cons.mpr ⟨(s_icmp_ne (am_dp pw_X11_next_160 dd_X11_next_160b.1) (by decide)).to, ?_⟩
  refine List.forall_mem_cons.mpr ⟨(s_iloadn (am_dp pw_X11_next_160 dd_X11_next_160b.2.1) rfl).to, ?_⟩
  refine List.forall_mem_cons.mpr ⟨(s_sipush (am_dp pw_X11_next_160 dd_X11_next_160b.2.2.1) (by decide)).to, ?_⟩
  refine List.forall_mem_cons.mpr ⟨(s_irem (am_dp pw_X11_next_160 dd_X11_next_160b.2.2.2.1)).to, ?_⟩
  refine List.forall_mem_cons.mpr ⟨(s_goto (am_dp pw_X11_next_160 dd_X11_next_160b.2.2.2.2.1) (by decide)).to, ?_⟩
  refine List.forall_mem_cons.mpr ⟨(s_aloadn (am_dp pw_X11_next_160 dd_X11_next_160b.2.2.2.2.2.1) rfl).to, ?_⟩
  refine List.forall_mem_cons.mpr ⟨(s_get (ci := 11) (k := 80) (am_dp pw_X11_next_160 dd_X11_next_160b.2.2.2.2.2.2.1) rfl (by decide) wd1413 inX11 rfl).to, ?_⟩
  refine List.forall_mem_cons.mpr ⟨(s_iloadn (am_dp pw_X11_next_160 dd_X11_next_160b.2.2.2.2.2.2.2) rfl).to, ?_⟩
  refine List.forall_mem_cons.mpr ⟨(s_iald (am_dp pw_X11_next_160 dd_X11_next_160c.1)).to, ?_⟩
  refine List.forall_mem_cons.mpr ⟨s_iret (am_dp pw_X11_next_160 dd_X11_next_160c.2) rfl, ?_⟩
  exact fun _ h => absurd h List.not_mem_nil
theorem sn_tX11_next : ∀ q ∈ tX11_next, am_Snd am_P0 RX11 cX11_next 7 (Option.some FieldType.int) "next" q.1 q.2 := by
  unfold tX11_next
  exact List.forall_mem_append.mpr ⟨sn_tX11_next_0, sn_tX11_next_1⟩
theorem sn_tX11_offOf : ∀ q ∈ tX11_offOf, am_Snd am_P0 RX11 cX11_offOf 6 (Option.some FieldType.int) "offOf" q.1 q.2 := by
  unfold tX11_offOf
  refine List.forall_mem_cons.mpr ⟨(s_iconst (am_dp pw_X11_offOf_0 dd_X11_offOf_0a.1) (by decide)).to, ?_⟩
  refine List.forall_mem_cons.mpr ⟨(s_istoren (am_dp pw_X11_offOf_0 dd_X11_offOf_0a.2.1) rfl (by decide)).to, ?_⟩
  refine List.forall_mem_cons.mpr ⟨(s_iloadn (am_dp pw_X11_offOf_0 dd_X11_offOf_0a.2.2.1) rfl).to, ?_⟩
  refine List.forall_mem_cons.mpr ⟨(s_bipush (am_dp pw_X11_offOf_0 dd_X11_offOf_0a.2.2.2.1) (by decide)).to, ?_⟩
  refine List.forall_mem_cons.mpr ⟨(s_icmp_gt (am_dp pw_X11_offOf_0 dd_X11_offOf_0a.2.2.2.2.1) (by decide)).to, ?_⟩
  refine List.forall_mem_cons.mpr ⟨(s_iloadn (am_dp pw_X11_offOf_0 dd_X11_offOf_0a.2.2.2.2.2.1) rfl).to, ?_⟩
  refine List.forall_mem_cons.mpr ⟨(s_iconst (am_dp pw_X11_offOf_0 dd_X11_offOf_0a.2.2.2.2.2.2.1) (by decide)).to, ?_⟩
  refine List.forall_mem_cons.mpr ⟨(s_irem (am_dp pw_X11_offOf_0 dd_X11_offOf_0a.2.2.2.2.2.2.2)).to, ?_⟩
  refine List.forall_mem_cons.mpr ⟨(s_if_ne (am_dp pw_X11_offOf_0 dd_X11_offOf_0b.1) (by decide)).to, ?_⟩
  refine List.forall_mem_cons.mpr ⟨(s_iloadn (am_dp pw_X11_offOf_0 dd_X11_offOf_0b.2.1) rfl).to, ?_⟩
  refine List.forall_mem_cons.mpr ⟨(s_iconst (am_dp pw_X11_offOf_0 dd_X11_offOf_0b.2.2.1) (by decide)).to, ?_⟩
  refine List.forall_mem_cons.mpr ⟨(s_idiv (am_dp pw_X11_offOf_0 dd_X11_offOf_0b.2.2.2.1)).to, ?_⟩
  refine List.forall_mem_cons.mpr ⟨(s_goto (am_dp pw_X11_offOf_0 dd_X11_offOf_0b.2.2.2.2.1) (by decide)).to, ?_⟩
  refine List.forall_mem_cons.mpr ⟨(s_iloadn (am_dp pw_X11_offOf_0 dd_X11_offOf_0b.2.2.2.2.2.1) rfl).to, ?_⟩
  refine List.forall_mem_cons.mpr ⟨(s_iconst (am_dp pw_X11_offOf_0 dd_X11_offOf_0b.2.2.2.2.2.2.1) (by decide)).to, ?_⟩
  refine List.forall_mem_cons.mpr ⟨(s_iadd (am_dp pw_X11_offOf_0 dd_X11_offOf_0b.2.2.2.2.2.2.2)).to, ?_⟩
  refine List.forall_mem_cons.mpr ⟨(s_ineg (am_dp pw_X11_offOf_0 dd_X11_offOf_0c.1)).to, ?_⟩
  refine List.forall_mem_cons.mpr ⟨(s_iconst (am_dp pw_X11_offOf_0 dd_X11_offOf_0c.2.1) (by decide)).to, ?_⟩
  refine List.forall_mem_cons.mpr ⟨(s_idiv (am_dp pw_X11_offOf_0 dd_X11_offOf_0c.2.2.1)).to, ?_⟩
  refine List.forall_mem_cons.mpr ⟨(s_istoren (am_dp pw_X11_offOf_0 dd_X11_offOf_0c.2.2.2.1) rfl (by decide)).to, ?_⟩
  refine List.forall_mem_cons.mpr ⟨(s_aloadn (am_dp pw_X11_offOf_0 dd_X11_offOf_0c.2.2.2.2.1) rfl).to, ?_⟩
  refine List.forall_mem_cons.mpr ⟨(s_iconst (am_dp pw_X11_offOf_0 dd_X11_offOf_0c.2.2.2.2.2.1) (by decide)).to, ?_⟩
  refine List.forall_mem_cons.mpr ⟨(s_put (ci := 11) (k := 60) (am_dp pw_X11_offOf_0 dd_X11_offOf_0c.2.2.2.2.2.2) rfl (by decide) wd1393 inX11 tyX11_ok nmX11 rfl rfl).to, ?_⟩
  refine List.forall_mem_cons.mpr ⟨(s_aloadn (am_dp pw_X11_offOf_32 dd_X11_offOf_32a.1) rfl).to, ?_⟩
  refine List.forall_mem_cons.mpr ⟨(s_iloadn (am_dp pw_X11_offOf_32 dd_X11_offOf_32a.2.1) rfl).to, ?_⟩
  refine List.forall_mem_cons.mpr ⟨(s_iloadn (am_dp pw_X11_offOf_32 dd_X11_offOf_32a.2.2.1) rfl).to, ?_⟩
  refine List.forall_mem_cons.mpr ⟨(s_iloadn (am_dp pw_X11_offOf_32 dd_X11_offOf_32a.2.2.2.1) rfl).to, ?_⟩
  refine List.forall_mem_cons.mpr ⟨zw_cv242 (am_dp pw_X11_offOf_32 dd_X11_offOf_32a.2.2.2.2.1) wd1970, ?_⟩
  refine List.forall_mem_cons.mpr ⟨(s_istore (am_dp pw_X11_offOf_32 dd_X11_offOf_32a.2.2.2.2.2.1) (by decide)).to, ?_⟩
  refine List.forall_mem_cons.mpr ⟨(s_aloadn (am_dp pw_X11_offOf_32 dd_X11_offOf_32a.2.2.2.2.2.2.1) rfl).to, ?_⟩
  refine List.forall_mem_cons.mpr ⟨(s_get (ci := 11) (k := 60) (am_dp pw_X11_offOf_32 dd_X11_offOf_32a.2.2.2.2.2.2.2) rfl (by decide) wd1393 inX11 rfl).to, ?_⟩
  refine List.forall_mem_cons.mpr ⟨(s_istore (am_dp pw_X11_offOf_32 dd_X11_offOf_32b.1) (by decide)).to, ?_⟩
  refine List.forall_mem_cons.mpr ⟨(s_aloadn (am_dp pw_X11_offOf_32 dd_X11_offOf_32b.2.1) rfl).to, ?_⟩
  refine List.forall_mem_cons.mpr ⟨(s_iloadn (am_dp pw_X11_offOf_32 dd_X11_offOf_32b.2.2.1) rfl).to, ?_⟩
  refine List.forall_mem_cons.mpr ⟨zw_cv241 (am_dp pw_X11_offOf_32 dd_X11_offOf_32b.2.2.2.1) wd1887, ?_⟩
  refine List.forall_mem_cons.mpr ⟨(s_iload (am_dp pw_X11_offOf_32 dd_X11_offOf_32b.2.2.2.2.1)).to, ?_⟩
  refine List.forall_mem_cons.mpr ⟨(s_if_le (am_dp pw_X11_offOf_32 dd_X11_offOf_32b.2.2.2.2.2.1) (by decide)).to, ?_⟩
  refine List.forall_mem_cons.mpr ⟨(s_iload (am_dp pw_X11_offOf_32 dd_X11_offOf_32b.2.2.2.2.2.2.1)).to, ?_⟩
  refine List.forall_mem_cons.mpr ⟨(s_if_eq (am_dp pw_X11_offOf_32 dd_X11_offOf_32b.2.2.2.2.2.2.2) (by decide)).to, ?_⟩
  refine List.forall_mem_cons.mpr ⟨(s_aloadn (am_dp pw_X11_offOf_32 dd_X11_offOf_32c.1) rfl).to, ?_⟩
  refine List.forall_mem_cons.mpr ⟨(s_iloadn (am_dp pw_X11_offOf_32 dd_X11_offOf_32c.2) rfl).to, ?_⟩
  refine List.forall_mem_cons.mpr ⟨zw_cv244 (am_dp pw_X11_offOf_64 dd_X11_offOf_64a.1) wd1895, ?_⟩
  refine List.forall_mem_cons.mpr ⟨(s_if_eq (am_dp pw_X11_offOf_64 dd_X11_offOf_64a.2.1) (by decide)).to, ?_⟩
  refine List.forall_mem_cons.mpr ⟨(s_iloadn (am_dp pw_X11_offOf_64 dd_X11_offOf_64a.2.2.1) rfl).to, ?_⟩
  refine List.forall_mem_cons.mpr ⟨s_iret (am_dp pw_X11_offOf_64 dd_X11_offOf_64a.2.2.2.1) rfl, ?_⟩
  refine List.forall_mem_cons.mpr ⟨(s_iinc (am_dp pw_X11_offOf_64 dd_X11_offOf_64a.2.2.2.2.1) (by decide) (by decide)).to, ?_⟩
  refine List.forall_mem_cons.mpr ⟨(s_goto (am_dp pw_X11_offOf_64 dd_X11_offOf_64a.2.2.2.2.2.1) (by decide)).to, ?_⟩
  refine List.forall_mem_cons.mpr ⟨(s_bipush (am_dp pw_X11_offOf_64 dd_X11_offOf_64a.2.2.2.2.2.2.1) (by decide)).to, ?_⟩
  refine List.forall_mem_cons.mpr ⟨s_iret (am_dp pw_X11_offOf_64 dd_X11_offOf_64a.2.2.2.2.2.2.2) rfl, ?_⟩
  exact fun _ h => absurd h List.not_mem_nil
theorem sn_tX11_off : ∀ q ∈ tX11_off, am_Snd am_P0 RX11 cX11_off 2 (Option.some FieldType.int) "off" q.1 q.2 := by
  unfold tX11_off
  refine List.forall_mem_cons.mpr ⟨(s_aloadn (am_dp pw_X11_off_0 dd_X11_off_0a.1) rfl).to, ?_⟩
  refine List.forall_mem_cons.mpr ⟨(s_iloadn (am_dp pw_X11_off_0 dd_X11_off_0a.2.1) rfl).to, ?_⟩
  refine List.forall_mem_cons.mpr ⟨zw_cv220 (am_dp pw_X11_off_0 dd_X11_off_0a.2.2.1) wd1850, ?_⟩
  refine List.forall_mem_cons.mpr ⟨(s_if_eq (am_dp pw_X11_off_0 dd_X11_off_0a.2.2.2.1) (by decide)).to, ?_⟩
  refine List.forall_mem_cons.mpr ⟨(s_aloadn (am_dp pw_X11_off_0 dd_X11_off_0a.2.2.2.2.1) rfl).to, ?_⟩
  refine List.forall_mem_cons.mpr ⟨(s_iloadn (am_dp pw_X11_off_0 dd_X11_off_0a.2.2.2.2.2.1) rfl).to, ?_⟩
  refine List.forall_mem_cons.mpr ⟨zw_cv290 (am_dp pw_X11_off_0 dd_X11_off_0a.2.2.2.2.2.2.1) wd2098, ?_⟩
  refine List.forall_mem_cons.mpr ⟨(s_goto (am_dp pw_X11_off_0 dd_X11_off_0a.2.2.2.2.2.2.2) (by decide)).to, ?_⟩
  refine List.forall_mem_cons.mpr ⟨(s_bipush (am_dp pw_X11_off_0 dd_X11_off_0b.1) (by decide)).to, ?_⟩
  refine List.forall_mem_cons.mpr ⟨s_iret (am_dp pw_X11_off_0 dd_X11_off_0b.2) rfl, ?_⟩
  exact fun _ h => absurd h List.not_mem_nil
theorem sn_tX11_whose : ∀ q ∈ tX11_whose, am_Snd am_P0 RX11 cX11_whose 4 (Option.some FieldType.int) "whose" q.1 q.2 := by
  unfold tX11_whose
  refine List.forall_mem_cons.mpr ⟨(s_iconst (am_dp pw_X11_whose_0 dd_X11_whose_0a.1) (by decide)).to, ?_⟩
  refine List.forall_mem_cons.mpr ⟨(s_istoren (am_dp pw_X11_whose_0 dd_X11_whose_0a.2.1) rfl (by decide)).to, ?_⟩
  refine List.forall_mem_cons.mpr ⟨(s_iconst (am_dp pw_X11_whose_0 dd_X11_whose_0a.2.2.1) (by decide)).to, ?_⟩
  refine List.forall_mem_cons.mpr ⟨(s_istoren (am_dp pw_X11_whose_0 dd_X11_whose_0a.2.2.2.1) rfl (by decide)).to, ?_⟩
  refine List.forall_mem_cons.mpr ⟨(s_iloadn (am_dp pw_X11_whose_0 dd_X11_whose_0a.2.2.2.2.1) rfl).to, ?_⟩
  refine List.forall_mem_cons.mpr ⟨(s_aloadn (am_dp pw_X11_whose_0 dd_X11_whose_0a.2.2.2.2.2.1) rfl).to, ?_⟩
  refine List.forall_mem_cons.mpr ⟨(s_get (ci := 11) (k := 19) (am_dp pw_X11_whose_0 dd_X11_whose_0a.2.2.2.2.2.2.1) rfl (by decide) wd1352 inX11 rfl).to, ?_⟩
  refine List.forall_mem_cons.mpr ⟨(s_aloadn (am_dp pw_X11_whose_0 dd_X11_whose_0a.2.2.2.2.2.2.2) rfl).to, ?_⟩
  refine List.forall_mem_cons.mpr ⟨(s_get (ci := 11) (k := 12) (am_dp pw_X11_whose_0 dd_X11_whose_0b.1) rfl (by decide) wd1345 inX11 rfl).to, ?_⟩
  refine List.forall_mem_cons.mpr ⟨(s_iald (am_dp pw_X11_whose_0 dd_X11_whose_0b.2.1)).to, ?_⟩
  refine List.forall_mem_cons.mpr ⟨(s_icmp_ge (am_dp pw_X11_whose_0 dd_X11_whose_0b.2.2.1) (by decide)).to, ?_⟩
  refine List.forall_mem_cons.mpr ⟨(s_aloadn (am_dp pw_X11_whose_0 dd_X11_whose_0b.2.2.2.1) rfl).to, ?_⟩
  refine List.forall_mem_cons.mpr ⟨(s_iloadn (am_dp pw_X11_whose_0 dd_X11_whose_0b.2.2.2.2.1) rfl).to, ?_⟩
  refine List.forall_mem_cons.mpr ⟨zw_cv275 (am_dp pw_X11_whose_0 dd_X11_whose_0b.2.2.2.2.2.1) wd2034, ?_⟩
  refine List.forall_mem_cons.mpr ⟨(s_if_le (am_dp pw_X11_whose_0 dd_X11_whose_0b.2.2.2.2.2.2.1) (by decide)).to, ?_⟩
  refine List.forall_mem_cons.mpr ⟨(s_aloadn (am_dp pw_X11_whose_0 dd_X11_whose_0b.2.2.2.2.2.2.2) rfl).to, ?_⟩
  refine List.forall_mem_cons.mpr ⟨(s_iloadn (am_dp pw_X11_whose_0 dd_X11_whose_0c.1) rfl).to, ?_⟩
  refine List.forall_mem_cons.mpr ⟨zw_cv290 (am_dp pw_X11_whose_0 dd_X11_whose_0c.2.1) wd2098, ?_⟩
  refine List.forall_mem_cons.mpr ⟨(s_goto (am_dp pw_X11_whose_0 dd_X11_whose_0c.2.2) (by decide)).to, ?_⟩
  refine List.forall_mem_cons.mpr ⟨(s_bipush (am_dp pw_X11_whose_32 dd_X11_whose_32a.1) (by decide)).to, ?_⟩
  refine List.forall_mem_cons.mpr ⟨(s_istoren (am_dp pw_X11_whose_32 dd_X11_whose_32a.2.1) rfl (by decide)).to, ?_⟩
  refine List.forall_mem_cons.mpr ⟨(s_iloadn (am_dp pw_X11_whose_32 dd_X11_whose_32a.2.2.1) rfl).to, ?_⟩
  refine List.forall_mem_cons.mpr ⟨(s_iloadn (am_dp pw_X11_whose_32 dd_X11_whose_32a.2.2.2.1) rfl).to, ?_⟩
  refine List.forall_mem_cons.mpr ⟨(s_bipush (am_dp pw_X11_whose_32 dd_X11_whose_32a.2.2.2.2.1) (by decide)).to, ?_⟩
  refine List.forall_mem_cons.mpr ⟨(s_icmp_eq (am_dp pw_X11_whose_32 dd_X11_whose_32a.2.2.2.2.2.1) (by decide)).to, ?_⟩
  refine List.forall_mem_cons.mpr ⟨(s_iloadn (am_dp pw_X11_whose_32 dd_X11_whose_32a.2.2.2.2.2.2.1) rfl).to, ?_⟩
  refine List.forall_mem_cons.mpr ⟨(s_if_eq (am_dp pw_X11_whose_32 dd_X11_whose_32a.2.2.2.2.2.2.2) (by decide)).to, ?_⟩
  refine List.forall_mem_cons.mpr ⟨(s_iconst (am_dp pw_X11_whose_32 dd_X11_whose_32b.1) (by decide)).to, ?_⟩
  refine List.forall_mem_cons.mpr ⟨(s_iloadn (am_dp pw_X11_whose_32 dd_X11_whose_32b.2.1) rfl).to, ?_⟩
  refine List.forall_mem_cons.mpr ⟨(s_ishl (am_dp pw_X11_whose_32 dd_X11_whose_32b.2.2.1)).to, ?_⟩
  refine List.forall_mem_cons.mpr ⟨(s_goto (am_dp pw_X11_whose_32 dd_X11_whose_32b.2.2.2.1) (by decide)).to, ?_⟩
  refine List.forall_mem_cons.mpr ⟨(s_iconst (am_dp pw_X11_whose_32 dd_X11_whose_32b.2.2.2.2.1) (by decide)).to, ?_⟩
  refine List.forall_mem_cons.mpr ⟨(s_ior (am_dp pw_X11_whose_32 dd_X11_whose_32b.2.2.2.2.2.1)).to, ?_⟩
  refine List.forall_mem_cons.mpr ⟨(s_istoren (am_dp pw_X11_whose_32 dd_X11_whose_32b.2.2.2.2.2.2.1) rfl (by decide)).to, ?_⟩
  refine List.forall_mem_cons.mpr ⟨(s_iinc (am_dp pw_X11_whose_32 dd_X11_whose_32b.2.2.2.2.2.2.2) (by decide) (by decide)).to, ?_⟩
  refine List.forall_mem_cons.mpr ⟨(s_goto (am_dp pw_X11_whose_32 dd_X11_whose_32c.1) (by decide)).to, ?_⟩
  refine List.forall_mem_cons.mpr ⟨(s_iloadn (am_dp pw_X11_whose_32 dd_X11_whose_32c.2.1) rfl).to, ?_⟩
  refine List.forall_mem_cons.mpr ⟨s_iret (am_dp pw_X11_whose_32 dd_X11_whose_32c.2.2) rfl, ?_⟩
  exact fun _ h => absurd h List.not_mem_nil
theorem sn_tX11_says_ : ∀ q ∈ tX11_says_, am_Snd am_P0 RX11 cX11_says_ 5 (Option.none : Option FieldType) "says" q.1 q.2 := by
  unfold tX11_says_
  refine List.forall_mem_cons.mpr ⟨(s_aloadn (am_dp pw_X11_says__0 dd_X11_says__0a.1) rfl).to, ?_⟩
  refine List.forall_mem_cons.mpr ⟨(s_get (ci := 11) (k := 26) (am_dp pw_X11_says__0 dd_X11_says__0a.2.1) rfl (by decide) wd1359 inX11 rfl).to, ?_⟩
  refine List.forall_mem_cons.mpr ⟨(s_sipush (am_dp pw_X11_says__0 dd_X11_says__0a.2.2.1) (by decide)).to, ?_⟩
  refine List.forall_mem_cons.mpr ⟨(s_aloadn (am_dp pw_X11_says__0 dd_X11_says__0a.2.2.2.1) rfl).to, ?_⟩
  refine List.forall_mem_cons.mpr ⟨(s_get (ci := 11) (k := 12) (am_dp pw_X11_says__0 dd_X11_says__0a.2.2.2.2.1) rfl (by decide) wd1345 inX11 rfl).to, ?_⟩
  refine List.forall_mem_cons.mpr ⟨(s_imul (am_dp pw_X11_says__0 dd_X11_says__0a.2.2.2.2.2.1)).to, ?_⟩
  refine List.forall_mem_cons.mpr ⟨(s_bipush (am_dp pw_X11_says__0 dd_X11_says__0a.2.2.2.2.2.2.1) (by decide)).to, ?_⟩
  refine List.forall_mem_cons.mpr ⟨(s_iloadn (am_dp pw_X11_says__0 dd_X11_says__0a.2.2.2.2.2.2.2) rfl).to, ?_⟩
  refine List.forall_mem_cons.mpr ⟨(s_imul (am_dp pw_X11_says__0 dd_X11_says__0b.1)).to, ?_⟩
  refine List.forall_mem_cons.mpr ⟨(s_iadd (am_dp pw_X11_says__0 dd_X11_says__0b.2.1)).to, ?_⟩
  refine List.forall_mem_cons.mpr ⟨(s_iloadn (am_dp pw_X11_says__0 dd_X11_says__0b.2.2.1) rfl).to, ?_⟩
  refine List.forall_mem_cons.mpr ⟨(s_iadd (am_dp pw_X11_says__0 dd_X11_says__0b.2.2.2.1)).to, ?_⟩
  refine List.forall_mem_cons.mpr ⟨(s_iloadn (am_dp pw_X11_says__0 dd_X11_says__0b.2.2.2.2.1) rfl).to, ?_⟩
  refine List.forall_mem_cons.mpr ⟨(s_iast (am_dp pw_X11_says__0 dd_X11_says__0b.2.2.2.2.2.1)).to, ?_⟩
  refine List.forall_mem_cons.mpr ⟨(s_aloadn (am_dp pw_X11_says__0 dd_X11_says__0b.2.2.2.2.2.2.1) rfl).to, ?_⟩
  refine List.forall_mem_cons.mpr ⟨(s_get (ci := 11) (k := 27) (am_dp pw_X11_says__0 dd_X11_says__0b.2.2.2.2.2.2.2) rfl (by decide) wd1360 inX11 rfl).to, ?_⟩
  refine List.forall_mem_cons.mpr ⟨(s_sipush (am_dp pw_X11_says__0 dd_X11_says__0c.1) (by decide)).to, ?_⟩
  refine List.forall_mem_cons.mpr ⟨(s_aloadn (am_dp pw_X11_says__0 dd_X11_says__0c.2.1) rfl).to, ?_⟩
  refine List.forall_mem_cons.mpr ⟨(s_get (ci := 11) (k := 12) (am_dp pw_X11_says__0 dd_X11_says__0c.2.2) rfl (by decide) wd1345 inX11 rfl).to, ?_⟩
  refine List.forall_mem_cons.mpr ⟨(s_imul (am_dp pw_X11_says__32 dd_X11_says__32a.1)).to, ?_⟩
  refine List.forall_mem_cons.mpr ⟨(s_bipush (am_dp pw_X11_says__32 dd_X11_says__32a.2.1) (by decide)).to, ?_⟩
  refine List.forall_mem_cons.mpr ⟨(s_iloadn (am_dp pw_X11_says__32 dd_X11_says__32a.2.2.1) rfl).to, ?_⟩
  refine List.forall_mem_cons.mpr ⟨(s_imul (am_dp pw_X11_says__32 dd_X11_says__32a.2.2.2.1)).to, ?_⟩
  refine List.forall_mem_cons.mpr ⟨(s_iadd (am_dp pw_X11_says__32 dd_X11_says__32a.2.2.2.2.1)).to, ?_⟩
  refine List.forall_mem_cons.mpr ⟨(s_iloadn (am_dp pw_X11_says__32 dd_X11_says__32a.2.2.2.2.2.1) rfl).to, ?_⟩
  refine List.forall_mem_cons.mpr ⟨(s_iadd (am_dp pw_X11_says__32 dd_X11_says__32a.2.2.2.2.2.2.1)).to, ?_⟩
  refine List.forall_mem_cons.mpr ⟨(s_iload (am_dp pw_X11_says__32 dd_X11_says__32a.2.2.2.2.2.2.2)).to, ?_⟩
  refine List.forall_mem_cons.mpr ⟨(s_zast (am_dp pw_X11_says__32 dd_X11_says__32b.1)).to, ?_⟩
  refine List.forall_mem_cons.mpr ⟨(s_aloadn (am_dp pw_X11_says__32 dd_X11_says__32b.2.1) rfl).to, ?_⟩
  refine List.forall_mem_cons.mpr ⟨(s_get (ci := 11) (k := 25) (am_dp pw_X11_says__32 dd_X11_says__32b.2.2.1) rfl (by decide) wd1358 inX11 rfl).to, ?_⟩
  refine List.forall_mem_cons.mpr ⟨(s_aloadn (am_dp pw_X11_says__32 dd_X11_says__32b.2.2.2.1) rfl).to, ?_⟩
  refine List.forall_mem_cons.mpr ⟨(s_get (ci := 11) (k := 12) (am_dp pw_X11_says__32 dd_X11_says__32b.2.2.2.2.1) rfl (by decide) wd1345 inX11 rfl).to, ?_⟩
  refine List.forall_mem_cons.mpr ⟨(s_dup2 (am_dp pw_X11_says__32 dd_X11_says__32b.2.2.2.2.2.1)).to, ?_⟩
  refine List.forall_mem_cons.mpr ⟨(s_iald (am_dp pw_X11_says__32 dd_X11_says__32b.2.2.2.2.2.2.1)).to, ?_⟩
  refine List.forall_mem_cons.mpr ⟨(s_iconst (am_dp pw_X11_says__32 dd_X11_says__32b.2.2.2.2.2.2.2) (by decide)).to, ?_⟩
  refine List.forall_mem_cons.mpr ⟨(s_iadd (am_dp pw_X11_says__32 dd_X11_says__32c.1)).to, ?_⟩
  refine List.forall_mem_cons.mpr ⟨(s_iast (am_dp pw_X11_says__32 dd_X11_says__32c.2.1)).to, ?_⟩
  refine List.forall_mem_cons.mpr ⟨s_vret (am_dp pw_X11_says__32 dd_X11_says__32c.2.2) rfl, ?_⟩
  exact fun _ h => absurd h List.not_mem_nil
theorem sn_tX11_add_ : ∀ q ∈ tX11_add_, am_Snd am_P0 RX11 cX11_add_ 6 (Option.some FieldType.int) "add" q.1 q.2 := by
  unfold tX11_add_
  refine List.forall_mem_cons.mpr ⟨(s_aloadn (am_dp pw_X11_add__0 dd_X11_add__0a.1) rfl).to, ?_⟩
  refine List.forall_mem_cons.mpr ⟨(s_iloadn (am_dp pw_X11_add__0 dd_X11_add__0a.2.1) rfl).to, ?_⟩
  refine List.forall_mem_cons.mpr ⟨zw_cv220 (am_dp pw_X11_add__0 dd_X11_add__0a.2.2.1) wd1850, ?_⟩
  refine List.forall_mem_cons.mpr ⟨(s_if_eq (am_dp pw_X11_add__0 dd_X11_add__0a.2.2.2.1) (by decide)).to, ?_⟩
  refine List.forall_mem_cons.mpr ⟨(s_iloadn (am_dp pw_X11_add__0 dd_X11_add__0a.2.2.2.2.1) rfl).to, ?_⟩
  refine List.forall_mem_cons.mpr ⟨zw_cs219 (am_dp pw_X11_add__0 dd_X11_add__0a.2.2.2.2.2.1) wd1823, ?_⟩
  refine List.forall_mem_cons.mpr ⟨(s_if_eq (am_dp pw_X11_add__0 dd_X11_add__0a.2.2.2.2.2.2.1) (by decide)).to, ?_⟩
  refine List.forall_mem_cons.mpr ⟨(s_aloadn (am_dp pw_X11_add__0 dd_X11_add__0a.2.2.2.2.2.2.2) rfl).to, ?_⟩
  refine List.forall_mem_cons.mpr ⟨(s_iloadn (am_dp pw_X11_add__0 dd_X11_add__0b.1) rfl).to, ?_⟩
  refine List.forall_mem_cons.mpr ⟨(s_iload (am_dp pw_X11_add__0 dd_X11_add__0b.2.1)).to, ?_⟩
  refine List.forall_mem_cons.mpr ⟨zw_cv217 (am_dp pw_X11_add__0 dd_X11_add__0b.2.2.1) wd1819, ?_⟩
  refine List.forall_mem_cons.mpr ⟨(s_if_eq (am_dp pw_X11_add__0 dd_X11_add__0b.2.2.2.1) (by decide)).to, ?_⟩
  refine List.forall_mem_cons.mpr ⟨(s_aloadn (am_dp pw_X11_add__0 dd_X11_add__0b.2.2.2.2.1) rfl).to, ?_⟩
  refine List.forall_mem_cons.mpr ⟨(s_iloadn (am_dp pw_X11_add__0 dd_X11_add__0b.2.2.2.2.2.1) rfl).to, ?_⟩
  refine List.forall_mem_cons.mpr ⟨(s_iloadn (am_dp pw_X11_add__0 dd_X11_add__0b.2.2.2.2.2.2.1) rfl).to, ?_⟩
  refine List.forall_mem_cons.mpr ⟨zw_cv226 (am_dp pw_X11_add__0 dd_X11_add__0b.2.2.2.2.2.2.2) wd1842, ?_⟩
  refine List.forall_mem_cons.mpr ⟨(s_iconst (am_dp pw_X11_add__0 dd_X11_add__0c) (by decide)).to, ?_⟩
  refine List.forall_mem_cons.mpr ⟨(s_icmp_ne (am_dp pw_X11_add__32 dd_X11_add__32a.1) (by decide)).to, ?_⟩
  refine List.forall_mem_cons.mpr ⟨(s_aloadn (am_dp pw_X11_add__32 dd_X11_add__32a.2.1) rfl).to, ?_⟩
  refine List.forall_mem_cons.mpr ⟨(s_get (ci := 11) (k := 25) (am_dp pw_X11_add__32 dd_X11_add__32a.2.2.1) rfl (by decide) wd1358 inX11 rfl).to, ?_⟩
  refine List.forall_mem_cons.mpr ⟨(s_aloadn (am_dp pw_X11_add__32 dd_X11_add__32a.2.2.2.1) rfl).to, ?_⟩
  refine List.forall_mem_cons.mpr ⟨(s_get (ci := 11) (k := 12) (am_dp pw_X11_add__32 dd_X11_add__32a.2.2.2.2.1) rfl (by decide) wd1345 inX11 rfl).to, ?_⟩
  refine List.forall_mem_cons.mpr ⟨(s_iald (am_dp pw_X11_add__32 dd_X11_add__32a.2.2.2.2.2.1)).to, ?_⟩
  refine List.forall_mem_cons.mpr ⟨(s_bipush (am_dp pw_X11_add__32 dd_X11_add__32a.2.2.2.2.2.2.1) (by decide)).to, ?_⟩
  refine List.forall_mem_cons.mpr ⟨(s_icmp_ne (am_dp pw_X11_add__32 dd_X11_add__32a.2.2.2.2.2.2.2) (by decide)).to, ?_⟩
  refine List.forall_mem_cons.mpr ⟨(s_aloadn (am_dp pw_X11_add__32 dd_X11_add__32b.1) rfl).to, ?_⟩
  refine List.forall_mem_cons.mpr ⟨(s_iconst (am_dp pw_X11_add__32 dd_X11_add__32b.2.1) (by decide)).to, ?_⟩
  refine List.forall_mem_cons.mpr ⟨zw_cv208 (am_dp pw_X11_add__32 dd_X11_add__32b.2.2.1) wd1587, ?_⟩
  refine List.forall_mem_cons.mpr ⟨s_iret (am_dp pw_X11_add__32 dd_X11_add__32b.2.2.2.1) rfl, ?_⟩
  refine List.forall_mem_cons.mpr ⟨(s_aloadn (am_dp pw_X11_add__32 dd_X11_add__32b.2.2.2.2.1) rfl).to, ?_⟩
  refine List.forall_mem_cons.mpr ⟨(s_iloadn (am_dp pw_X11_add__32 dd_X11_add__32b.2.2.2.2.2.1) rfl).to, ?_⟩
  refine List.forall_mem_cons.mpr ⟨(s_iloadn (am_dp pw_X11_add__32 dd_X11_add__32b.2.2.2.2.2.2.1) rfl).to, ?_⟩
  refine List.forall_mem_cons.mpr ⟨(s_aloadn (am_dp pw_X11_add__32 dd_X11_add__32b.2.2.2.2.2.2.2) rfl).to, ?_⟩
  refine List.forall_mem_cons.mpr ⟨(s_iloadn (am_dp pw_X11_add__32 dd_X11_add__32c.1) rfl).to, ?_⟩
  refine List.forall_mem_cons.mpr ⟨(s_iload (am_dp pw_X11_add__32 dd_X11_add__32c.2.1)).to, ?_⟩
  refine List.forall_mem_cons.mpr ⟨zw_cv218 (am_dp pw_X11_add__32 dd_X11_add__32c.2.2) wd1826, ?_⟩
  refine List.forall_mem_cons.mpr ⟨(s_iload (am_dp pw_X11_add__64 dd_X11_add__64a.1)).to, ?_⟩
  refine List.forall_mem_cons.mpr ⟨zw_cv293 (am_dp pw_X11_add__64 dd_X11_add__64a.2.1) wd2110, ?_⟩
  refine List.forall_mem_cons.mpr ⟨(s_aloadn (am_dp pw_X11_add__64 dd_X11_add__64a.2.2.1) rfl).to, ?_⟩
  refine List.forall_mem_cons.mpr ⟨(s_iloadn (am_dp pw_X11_add__64 dd_X11_add__64a.2.2.2.1) rfl).to, ?_⟩
  refine List.forall_mem_cons.mpr ⟨(s_iloadn (am_dp pw_X11_add__64 dd_X11_add__64a.2.2.2.2.1) rfl).to, ?_⟩
  refine List.forall_mem_cons.mpr ⟨zw_cv230 (am_dp pw_X11_add__64 dd_X11_add__64a.2.2.2.2.2.1) wd2114, ?_⟩
  refine List.forall_mem_cons.mpr ⟨s_iret (am_dp pw_X11_add__64 dd_X11_add__64a.2.2.2.2.2.2) rfl, ?_⟩
  exact fun _ h => absurd h List.not_mem_nil
theorem sn_tX11_drop : ∀ q ∈ tX11_drop, am_Snd am_P0 RX11 cX11_drop 4 (Option.some FieldType.int) "drop" q.1 q.2 := by
  unfold tX11_drop
  refine List.forall_mem_cons.mpr ⟨(s_aloadn (am_dp pw_X11_drop_0 dd_X11_drop_0a.1) rfl).to, ?_⟩
  refine List.forall_mem_cons.mpr ⟨(s_iloadn (am_dp pw_X11_drop_0 dd_X11_drop_0a.2.1) rfl).to, ?_⟩
  refine List.forall_mem_cons.mpr ⟨zw_cv220 (am_dp pw_X11_drop_0 dd_X11_drop_0a.2.2.1) wd1850, ?_⟩
  refine List.forall_mem_cons.mpr ⟨(s_if_eq (am_dp pw_X11_drop_0 dd_X11_drop_0a.2.2.2.1) (by decide)).to, ?_⟩
  refine List.forall_mem_cons.mpr ⟨(s_aloadn (am_dp pw_X11_drop_0 dd_X11_drop_0a.2.2.2.2.1) rfl).to, ?_⟩
  refine List.forall_mem_cons.mpr ⟨(s_iloadn (am_dp pw_X11_drop_0 dd_X11_drop_0a.2.2.2.2.2.1) rfl).to, ?_⟩
  refine List.forall_mem_cons.mpr ⟨(s_iloadn (am_dp pw_X11_drop_0 dd_X11_drop_0a.2.2.2.2.2.2.1) rfl).to, ?_⟩
  refine List.forall_mem_cons.mpr ⟨zw_cv229 (am_dp pw_X11_drop_0 dd_X11_drop_0a.2.2.2.2.2.2.2) wd1926, ?_⟩
  refine List.forall_mem_cons.mpr ⟨(s_goto (am_dp pw_X11_drop_0 dd_X11_drop_0b.1) (by decide)).to, ?_⟩
  refine List.forall_mem_cons.mpr ⟨(s_iconst (am_dp pw_X11_drop_0 dd_X11_drop_0b.2.1) (by decide)).to, ?_⟩
  refine List.forall_mem_cons.mpr ⟨(s_istoren (am_dp pw_X11_drop_0 dd_X11_drop_0b.2.2.1) rfl (by decide)).to, ?_⟩
  refine List.forall_mem_cons.mpr ⟨(s_iloadn (am_dp pw_X11_drop_0 dd_X11_drop_0b.2.2.2.1) rfl).to, ?_⟩
  refine List.forall_mem_cons.mpr ⟨(s_iconst (am_dp pw_X11_drop_0 dd_X11_drop_0b.2.2.2.2.1) (by decide)).to, ?_⟩
  refine List.forall_mem_cons.mpr ⟨(s_icmp_ne (am_dp pw_X11_drop_0 dd_X11_drop_0b.2.2.2.2.2.1) (by decide)).to, ?_⟩
  refine List.forall_mem_cons.mpr ⟨(s_aloadn (am_dp pw_X11_drop_0 dd_X11_drop_0b.2.2.2.2.2.2.1) rfl).to, ?_⟩
  refine List.forall_mem_cons.mpr ⟨(s_iconst (am_dp pw_X11_drop_0 dd_X11_drop_0b.2.2.2.2.2.2.2) (by decide)).to, ?_⟩
  refine List.forall_mem_cons.mpr ⟨zw_cv208 (am_dp pw_X11_drop_0 dd_X11_drop_0c.1) wd1587, ?_⟩
  refine List.forall_mem_cons.mpr ⟨s_iret (am_dp pw_X11_drop_0 dd_X11_drop_0c.2.1) rfl, ?_⟩
  refine List.forall_mem_cons.mpr ⟨(s_aloadn (am_dp pw_X11_drop_0 dd_X11_drop_0c.2.2.1) rfl).to, ?_⟩
  refine List.forall_mem_cons.mpr ⟨(s_get (ci := 11) (k := 26) (am_dp pw_X11_drop_0 dd_X11_drop_0c.2.2.2) rfl (by decide) wd1359 inX11 rfl).to, ?_⟩
  refine List.forall_mem_cons.mpr ⟨(s_sipush (am_dp pw_X11_drop_32 dd_X11_drop_32a.1) (by decide)).to, ?_⟩
  refine List.forall_mem_cons.mpr ⟨(s_aloadn (am_dp pw_X11_drop_32 dd_X11_drop_32a.2.1) rfl).to, ?_⟩
  refine List.forall_mem_cons.mpr ⟨(s_get (ci := 11) (k := 12) (am_dp pw_X11_drop_32 dd_X11_drop_32a.2.2.1) rfl (by decide) wd1345 inX11 rfl).to, ?_⟩
  refine List.forall_mem_cons.mpr ⟨(s_imul (am_dp pw_X11_drop_32 dd_X11_drop_32a.2.2.2.1)).to, ?_⟩
  refine List.forall_mem_cons.mpr ⟨(s_bipush (am_dp pw_X11_drop_32 dd_X11_drop_32a.2.2.2.2.1) (by decide)).to, ?_⟩
  refine List.forall_mem_cons.mpr ⟨(s_iloadn (am_dp pw_X11_drop_32 dd_X11_drop_32a.2.2.2.2.2.1) rfl).to, ?_⟩
  refine List.forall_mem_cons.mpr ⟨(s_imul (am_dp pw_X11_drop_32 dd_X11_drop_32a.2.2.2.2.2.2.1)).to, ?_⟩
  refine List.forall_mem_cons.mpr ⟨(s_iadd (am_dp pw_X11_drop_32 dd_X11_drop_32a.2.2.2.2.2.2.2)).to, ?_⟩
  refine List.forall_mem_cons.mpr ⟨(s_iloadn (am_dp pw_X11_drop_32 dd_X11_drop_32b.1) rfl).to, ?_⟩
  refine List.forall_mem_cons.mpr ⟨(s_iadd (am_dp pw_X11_drop_32 dd_X11_drop_32b.2.1)).to, ?_⟩
  refine List.forall_mem_cons.mpr ⟨(s_iconst (am_dp pw_X11_drop_32 dd_X11_drop_32b.2.2.1) (by decide)).to, ?_⟩
  refine List.forall_mem_cons.mpr ⟨(s_iast (am_dp pw_X11_drop_32 dd_X11_drop_32b.2.2.2.1)).to, ?_⟩
  refine List.forall_mem_cons.mpr ⟨(s_aloadn (am_dp pw_X11_drop_32 dd_X11_drop_32b.2.2.2.2.1) rfl).to, ?_⟩
  refine List.forall_mem_cons.mpr ⟨(s_get (ci := 11) (k := 25) (am_dp pw_X11_drop_32 dd_X11_drop_32b.2.2.2.2.2.1) rfl (by decide) wd1358 inX11 rfl).to, ?_⟩
  refine List.forall_mem_cons.mpr ⟨(s_aloadn (am_dp pw_X11_drop_32 dd_X11_drop_32b.2.2.2.2.2.2.1) rfl).to, ?_⟩
  refine List.forall_mem_cons.mpr ⟨(s_get (ci := 11) (k := 12) (am_dp pw_X11_drop_32 dd_X11_drop_32b.2.2.2.2.2.2.2) rfl (by decide) wd1345 inX11 rfl).to, ?_⟩
  refine List.forall_mem_cons.mpr ⟨(s_dup2 (am_dp pw_X11_drop_32 dd_X11_drop_32c.1)).to, ?_⟩
  refine List.forall_mem_cons.mpr ⟨(s_iald (am_dp pw_X11_drop_32 dd_X11_drop_32c.2.1)).to, ?_⟩
  refine List.forall_mem_cons.mpr ⟨(s_iconst (am_dp pw_X11_drop_32 dd_X11_drop_32c.2.2.1) (by decide)).to, ?_⟩
  refine List.forall_mem_cons.mpr ⟨(s_isub (am_dp pw_X11_drop_32 dd_X11_drop_32c.2.2.2.1)).to, ?_⟩
  refine List.forall_mem_cons.mpr ⟨(s_iast (am_dp pw_X11_drop_32 dd_X11_drop_32c.2.2.2.2)).to, ?_⟩
  refine List.forall_mem_cons.mpr ⟨(s_aloadn (am_dp pw_X11_drop_64 dd_X11_drop_64a.1) rfl).to, ?_⟩
  refine List.forall_mem_cons.mpr ⟨(s_iloadn (am_dp pw_X11_drop_64 dd_X11_drop_64a.2.1) rfl).to, ?_⟩
  refine List.forall_mem_cons.mpr ⟨zw_cv228 (am_dp pw_X11_drop_64 dd_X11_drop_64a.2.2.1) wd1838, ?_⟩
  refine List.forall_mem_cons.mpr ⟨s_iret (am_dp pw_X11_drop_64 dd_X11_drop_64a.2.2.2) rfl, ?_⟩
  exact fun _ h => absurd h List.not_mem_nil
theorem sn_tX11_spots : ∀ q ∈ tX11_spots, am_Snd am_P0 RX11 cX11_spots 5 (Option.none : Option FieldType) "spots" q.1 q.2 := by
  unfold tX11_spots
  refine List.forall_mem_cons.mpr ⟨(s_bipush (am_dp pw_X11_spots_0 dd_X11_spots_0a.1) (by decide)).to, ?_⟩
  refine List.forall_mem_cons.mpr ⟨(s_aloadn (am_dp pw_X11_spots_0 dd_X11_spots_0a.2.1) rfl).to, ?_⟩
  refine List.forall_mem_cons.mpr ⟨(s_get (ci := 11) (k := 12) (am_dp pw_X11_spots_0 dd_X11_spots_0a.2.2.1) rfl (by decide) wd1345 inX11 rfl).to, ?_⟩
  refine List.forall_mem_cons.mpr ⟨(s_imul (am_dp pw_X11_spots_0 dd_X11_spots_0a.2.2.2.1)).to, ?_⟩
  refine List.forall_mem_cons.mpr ⟨(s_aloadn (am_dp pw_X11_spots_0 dd_X11_spots_0a.2.2.2.2.1) rfl).to, ?_⟩
  refine List.forall_mem_cons.mpr ⟨(s_get (ci := 11) (k := 33) (am_dp pw_X11_spots_0 dd_X11_spots_0a.2.2.2.2.2.1) rfl (by decide) wd1366 inX11 rfl).to, ?_⟩
  refine List.forall_mem_cons.mpr ⟨(s_aloadn (am_dp pw_X11_spots_0 dd_X11_spots_0a.2.2.2.2.2.2.1) rfl).to, ?_⟩
  refine List.forall_mem_cons.mpr ⟨(s_get (ci := 11) (k := 12) (am_dp pw_X11_spots_0 dd_X11_spots_0a.2.2.2.2.2.2.2) rfl (by decide) wd1345 inX11 rfl).to, ?_⟩
  refine List.forall_mem_cons.mpr ⟨(s_iald (am_dp pw_X11_spots_0 dd_X11_spots_0b.1)).to, ?_⟩
  refine List.forall_mem_cons.mpr ⟨(s_iadd (am_dp pw_X11_spots_0 dd_X11_spots_0b.2.1)).to, ?_⟩
  refine List.forall_mem_cons.mpr ⟨(s_istore (am_dp pw_X11_spots_0 dd_X11_spots_0b.2.2.1) (by decide)).to, ?_⟩
  refine List.forall_mem_cons.mpr ⟨(s_aloadn (am_dp pw_X11_spots_0 dd_X11_spots_0b.2.2.2.1) rfl).to, ?_⟩
  refine List.forall_mem_cons.mpr ⟨(s_get (ci := 11) (k := 34) (am_dp pw_X11_spots_0 dd_X11_spots_0b.2.2.2.2.1) rfl (by decide) wd1367 inX11 rfl).to, ?_⟩
  refine List.forall_mem_cons.mpr ⟨(s_iload (am_dp pw_X11_spots_0 dd_X11_spots_0b.2.2.2.2.2.1)).to, ?_⟩
  refine List.forall_mem_cons.mpr ⟨(s_iloadn (am_dp pw_X11_spots_0 dd_X11_spots_0b.2.2.2.2.2.2.1) rfl).to, ?_⟩
  refine List.forall_mem_cons.mpr ⟨(s_iast (am_dp pw_X11_spots_0 dd_X11_spots_0b.2.2.2.2.2.2.2)).to, ?_⟩
  refine List.forall_mem_cons.mpr ⟨(s_aloadn (am_dp pw_X11_spots_0 dd_X11_spots_0c.1) rfl).to, ?_⟩
  refine List.forall_mem_cons.mpr ⟨(s_get (ci := 11) (k := 35) (am_dp pw_X11_spots_0 dd_X11_spots_0c.2.1) rfl (by decide) wd1368 inX11 rfl).to, ?_⟩
  refine List.forall_mem_cons.mpr ⟨(s_iload (am_dp pw_X11_spots_0 dd_X11_spots_0c.2.2)).to, ?_⟩
  refine List.forall_mem_cons.mpr ⟨(s_iloadn (am_dp pw_X11_spots_32 dd_X11_spots_32a.1) rfl).to, ?_⟩
  refine List.forall_mem_cons.mpr ⟨(s_iast (am_dp pw_X11_spots_32 dd_X11_spots_32a.2.1)).to, ?_⟩
  refine List.forall_mem_cons.mpr ⟨(s_aloadn (am_dp pw_X11_spots_32 dd_X11_spots_32a.2.2.1) rfl).to, ?_⟩
  refine List.forall_mem_cons.mpr ⟨(s_get (ci := 11) (k := 36) (am_dp pw_X11_spots_32 dd_X11_spots_32a.2.2.2.1) rfl (by decide) wd1369 inX11 rfl).to, ?_⟩
  refine List.forall_mem_cons.mpr ⟨(s_iload (am_dp pw_X11_spots_32 dd_X11_spots_32a.2.2.2.2.1)).to, ?_⟩
  refine List.forall_mem_cons.mpr ⟨(s_iloadn (am_dp pw_X11_spots_32 dd_X11_spots_32a.2.2.2.2.2.1) rfl).to, ?_⟩
  refine List.forall_mem_cons.mpr ⟨(s_iast (am_dp pw_X11_spots_32 dd_X11_spots_32a.2.2.2.2.2.2.1)).to, ?_⟩
  refine List.forall_mem_cons.mpr ⟨(s_aloadn (am_dp pw_X11_spots_32 dd_X11_spots_32a.2.2.2.2.2.2.2) rfl).to, ?_⟩
  refine List.forall_mem_cons.mpr ⟨(s_get (ci := 11) (k := 33) (am_dp pw_X11_spots_32 dd_X11_spots_32b.1) rfl (by decide) wd1366 inX11 rfl).to, ?_⟩
  refine List.forall_mem_cons.mpr ⟨(s_aloadn (am_dp pw_X11_spots_32 dd_X11_spots_32b.2.1) rfl).to, ?_⟩
  refine List.forall_mem_cons.mpr ⟨(s_get (ci := 11) (k := 12) (am_dp pw_X11_spots_32 dd_X11_spots_32b.2.2.1) rfl (by decide) wd1345 inX11 rfl).to, ?_⟩
  refine List.forall_mem_cons.mpr ⟨(s_dup2 (am_dp pw_X11_spots_32 dd_X11_spots_32b.2.2.2.1)).to, ?_⟩
  refine List.forall_mem_cons.mpr ⟨(s_iald (am_dp pw_X11_spots_32 dd_X11_spots_32b.2.2.2.2.1)).to, ?_⟩
  refine List.forall_mem_cons.mpr ⟨(s_iconst (am_dp pw_X11_spots_32 dd_X11_spots_32b.2.2.2.2.2.1) (by decide)).to, ?_⟩
  refine List.forall_mem_cons.mpr ⟨(s_iadd (am_dp pw_X11_spots_32 dd_X11_spots_32b.2.2.2.2.2.2.1)).to, ?_⟩
  refine List.forall_mem_cons.mpr ⟨(s_iast (am_dp pw_X11_spots_32 dd_X11_spots_32b.2.2.2.2.2.2.2)).to, ?_⟩
  refine List.forall_mem_cons.mpr ⟨s_vret (am_dp pw_X11_spots_32 dd_X11_spots_32c) rfl, ?_⟩
  exact fun _ h => absurd h List.not_mem_nil
theorem sn_tX11_spot : ∀ q ∈ tX11_spot, am_Snd am_P0 RX11 cX11_spot 5 (Option.some FieldType.int) "spot" q.1 q.2 := by
  unfold tX11_spot
  refine List.forall_mem_cons.mpr ⟨(s_iloadn (am_dp pw_X11_spot_0 dd_X11_spot_0a.1) rfl).to, ?_⟩
  refine List.forall_mem_cons.mpr ⟨(s_iconst (am_dp pw_X11_spot_0 dd_X11_spot_0a.2.1) (by decide)).to, ?_⟩
  refine List.forall_mem_cons.mpr ⟨(s_iconst (am_dp pw_X11_spot_0 dd_X11_spot_0a.2.2.1) (by decide)).to, ?_⟩
  refine List.forall_mem_cons.mpr ⟨zw_cs167 (am_dp pw_X11_spot_0 dd_X11_spot_0a.2.2.2.1) wd1630, ?_⟩
  refine List.forall_mem_cons.mpr ⟨(s_if_eq (am_dp pw_X11_spot_0 dd_X11_spot_0a.2.2.2.2.1) (by decide)).to, ?_⟩
  refine List.forall_mem_cons.mpr ⟨(s_aloadn (am_dp pw_X11_spot_0 dd_X11_spot_0a.2.2.2.2.2.1) rfl).to, ?_⟩
  refine List.forall_mem_cons.mpr ⟨(s_iloadn (am_dp pw_X11_spot_0 dd_X11_spot_0a.2.2.2.2.2.2.1) rfl).to, ?_⟩
  refine List.forall_mem_cons.mpr ⟨(s_iloadn (am_dp pw_X11_spot_0 dd_X11_spot_0a.2.2.2.2.2.2.2) rfl).to, ?_⟩
  refine List.forall_mem_cons.mpr ⟨zw_cv217 (am_dp pw_X11_spot_0 dd_X11_spot_0b.1) wd1819, ?_⟩
  refine List.forall_mem_cons.mpr ⟨(s_if_eq (am_dp pw_X11_spot_0 dd_X11_spot_0b.2.1) (by decide)).to, ?_⟩
  refine List.forall_mem_cons.mpr ⟨(s_iload (am_dp pw_X11_spot_0 dd_X11_spot_0b.2.2.1)).to, ?_⟩
  refine List.forall_mem_cons.mpr ⟨zw_cs219 (am_dp pw_X11_spot_0 dd_X11_spot_0b.2.2.2.1) wd1823, ?_⟩
  refine List.forall_mem_cons.mpr ⟨(s_if_eq (am_dp pw_X11_spot_0 dd_X11_spot_0b.2.2.2.2.1) (by decide)).to, ?_⟩
  refine List.forall_mem_cons.mpr ⟨(s_aloadn (am_dp pw_X11_spot_0 dd_X11_spot_0b.2.2.2.2.2.1) rfl).to, ?_⟩
  refine List.forall_mem_cons.mpr ⟨(s_get (ci := 11) (k := 33) (am_dp pw_X11_spot_0 dd_X11_spot_0b.2.2.2.2.2.2.1) rfl (by decide) wd1366 inX11 rfl).to, ?_⟩
  refine List.forall_mem_cons.mpr ⟨(s_aloadn (am_dp pw_X11_spot_0 dd_X11_spot_0b.2.2.2.2.2.2.2) rfl).to, ?_⟩
  refine List.forall_mem_cons.mpr ⟨(s_get (ci := 11) (k := 12) (am_dp pw_X11_spot_0 dd_X11_spot_0c) rfl (by decide) wd1345 inX11 rfl).to, ?_⟩
  refine List.forall_mem_cons.mpr ⟨(s_iald (am_dp pw_X11_spot_32 dd_X11_spot_32a.1)).to, ?_⟩
  refine List.forall_mem_cons.mpr ⟨(s_bipush (am_dp pw_X11_spot_32 dd_X11_spot_32a.2.1) (by decide)).to, ?_⟩
  refine List.forall_mem_cons.mpr ⟨(s_icmp_ne (am_dp pw_X11_spot_32 dd_X11_spot_32a.2.2.1) (by decide)).to, ?_⟩
  refine List.forall_mem_cons.mpr ⟨(s_aloadn (am_dp pw_X11_spot_32 dd_X11_spot_32a.2.2.2.1) rfl).to, ?_⟩
  refine List.forall_mem_cons.mpr ⟨(s_iconst (am_dp pw_X11_spot_32 dd_X11_spot_32a.2.2.2.2.1) (by decide)).to, ?_⟩
  refine List.forall_mem_cons.mpr ⟨zw_cv208 (am_dp pw_X11_spot_32 dd_X11_spot_32a.2.2.2.2.2.1) wd1587, ?_⟩
  refine List.forall_mem_cons.mpr ⟨s_iret (am_dp pw_X11_spot_32 dd_X11_spot_32a.2.2.2.2.2.2.1) rfl, ?_⟩
  refine List.forall_mem_cons.mpr ⟨(s_aloadn (am_dp pw_X11_spot_32 dd_X11_spot_32a.2.2.2.2.2.2.2) rfl).to, ?_⟩
  refine List.forall_mem_cons.mpr ⟨(s_iloadn (am_dp pw_X11_spot_32 dd_X11_spot_32b.1) rfl).to, ?_⟩
  refine List.forall_mem_cons.mpr ⟨(s_aloadn (am_dp pw_X11_spot_32 dd_X11_spot_32b.2.1) rfl).to, ?_⟩
  refine List.forall_mem_cons.mpr ⟨(s_iloadn (am_dp pw_X11_spot_32 dd_X11_spot_32b.2.2.1) rfl).to, ?_⟩
  refine List.forall_mem_cons.mpr ⟨(s_iloadn (am_dp pw_X11_spot_32 dd_X11_spot_32b.2.2.2.1) rfl).to, ?_⟩
  refine List.forall_mem_cons.mpr ⟨zw_cv218 (am_dp pw_X11_spot_32 dd_X11_spot_32b.2.2.2.2.1) wd1826, ?_⟩
  refine List.forall_mem_cons.mpr ⟨(s_iload (am_dp pw_X11_spot_32 dd_X11_spot_32b.2.2.2.2.2.1)).to, ?_⟩
  refine List.forall_mem_cons.mpr ⟨zw_cv296 (am_dp pw_X11_spot_32 dd_X11_spot_32b.2.2.2.2.2.2.1) wd2126, ?_⟩
  refine List.forall_mem_cons.mpr ⟨(s_aloadn (am_dp pw_X11_spot_32 dd_X11_spot_32b.2.2.2.2.2.2.2) rfl).to, ?_⟩
  refine List.forall_mem_cons.mpr ⟨(s_get (ci := 11) (k := 33) (am_dp pw_X11_spot_32 dd_X11_spot_32c.1) rfl (by decide) wd1366 inX11 rfl).to, ?_⟩
  refine List.forall_mem_cons.mpr ⟨(s_aloadn (am_dp pw_X11_spot_32 dd_X11_spot_32c.2) rfl).to, ?_⟩
  refine List.forall_mem_cons.mpr ⟨(s_get (ci := 11) (k := 12) (am_dp pw_X11_spot_64 dd_X11_spot_64a.1) rfl (by decide) wd1345 inX11 rfl).to, ?_⟩
  refine List.forall_mem_cons.mpr ⟨(s_iald (am_dp pw_X11_spot_64 dd_X11_spot_64a.2.1)).to, ?_⟩
  refine List.forall_mem_cons.mpr ⟨s_iret (am_dp pw_X11_spot_64 dd_X11_spot_64a.2.2) rfl, ?_⟩
  exact fun _ h => absurd h List.not_mem_nil
theorem sn_tX11_writes : ∀ q ∈ tX11_writes, am_Snd am_P0 RX11 cX11_writes 2 (Option.none : Option FieldType) "writes" q.1 q.2 := by
  unfold tX11_writes
  refine List.forall_mem_cons.mpr ⟨(s_aloadn (am_dp pw_X11_writes_0 dd_X11_writes_0a.1) rfl).to, ?_⟩
  refine List.forall_mem_cons.mpr ⟨(s_get (ci := 11) (k := 81) (am_dp pw_X11_writes_0 dd_X11_writes_0a.2.1) rfl (by decide) wd1414 inX11 rfl).to, ?_⟩
  refine List.forall_mem_cons.mpr ⟨(s_aloadn (am_dp pw_X11_writes_0 dd_X11_writes_0a.2.2.1) rfl).to, ?_⟩
  refine List.forall_mem_cons.mpr ⟨(s_get (ci := 11) (k := 82) (am_dp pw_X11_writes_0 dd_X11_writes_0a.2.2.2.1) rfl (by decide) wd1415 inX11 rfl).to, ?_⟩
  refine List.forall_mem_cons.mpr ⟨(s_iloadn (am_dp pw_X11_writes_0 dd_X11_writes_0a.2.2.2.2.1) rfl).to, ?_⟩
  refine List.forall_mem_cons.mpr ⟨(s_sipush (am_dp pw_X11_writes_0 dd_X11_writes_0a.2.2.2.2.2.1) (by decide)).to, ?_⟩
  refine List.forall_mem_cons.mpr ⟨(s_iand (am_dp pw_X11_writes_0 dd_X11_writes_0a.2.2.2.2.2.2.1)).to, ?_⟩
  refine List.forall_mem_cons.mpr ⟨(s_iast (am_dp pw_X11_writes_0 dd_X11_writes_0a.2.2.2.2.2.2.2)).to, ?_⟩
  refine List.forall_mem_cons.mpr ⟨(s_aloadn (am_dp pw_X11_writes_0 dd_X11_writes_0b.1) rfl).to, ?_⟩
  refine List.forall_mem_cons.mpr ⟨(s_dup (am_dp pw_X11_writes_0 dd_X11_writes_0b.2.1)).to, ?_⟩
  refine List.forall_mem_cons.mpr ⟨(s_get (ci := 11) (k := 82) (am_dp pw_X11_writes_0 dd_X11_writes_0b.2.2.1) rfl (by decide) wd1415 inX11 rfl).to, ?_⟩
  refine List.forall_mem_cons.mpr ⟨(s_iconst (am_dp pw_X11_writes_0 dd_X11_writes_0b.2.2.2.1) (by decide)).to, ?_⟩
  refine List.forall_mem_cons.mpr ⟨(s_iadd (am_dp pw_X11_writes_0 dd_X11_writes_0b.2.2.2.2.1)).to, ?_⟩
  refine List.forall_mem_cons.mpr ⟨(s_put (ci := 11) (k := 82) (am_dp pw_X11_writes_0 dd_X11_writes_0b.2.2.2.2.2.1) rfl (by decide) wd1415 inX11 tyX11_ok nmX11 rfl rfl).to, ?_⟩
  refine List.forall_mem_cons.mpr ⟨s_vret (am_dp pw_X11_writes_0 dd_X11_writes_0b.2.2.2.2.2.2) rfl, ?_⟩
  exact fun _ h => absurd h List.not_mem_nil
theorem sn_tX11_image_0 : ∀ q ∈ tX11_image_0, am_Snd am_P0 RX11 cX11_image 3 (Option.some FieldType.int) "image" q.1 q.2 := by
  unfold tX11_image_0
  refine List.forall_mem_cons.mpr ⟨(s_aloadn (am_dp pw_X11_image_0 dd_X11_image_0a.1) rfl).to, ?_⟩
  refine List.forall_mem_cons.mpr ⟨(s_iconst (am_dp pw_X11_image_0 dd_X11_image_0a.2.1) (by decide)).to, ?_⟩
  refine List.forall_mem_cons.mpr ⟨(s_put (ci := 11) (k := 82) (am_dp pw_X11_image_0 dd_X11_image_0a.2.2.1) rfl (by decide) wd1415 inX11 tyX11_ok nmX11 rfl rfl).to, ?_⟩
  refine List.forall_mem_cons.mpr ⟨(s_aloadn (am_dp pw_X11_image_0 dd_X11_image_0a.2.2.2.1) rfl).to, ?_⟩
  refine List.forall_mem_cons.mpr ⟨(s_aloadn (am_dp pw_X11_image_0 dd_X11_image_0a.2.2.2.2.1) rfl).to, ?_⟩
  refine List.forall_mem_cons.mpr ⟨(s_get (ci := 11) (k := 25) (am_dp pw_X11_image_0 dd_X11_image_0a.2.2.2.2.2.1) rfl (by decide) wd1358 inX11 rfl).to, ?_⟩
  refine List.forall_mem_cons.mpr ⟨(s_aloadn (am_dp pw_X11_image_0 dd_X11_image_0a.2.2.2.2.2.2.1) rfl).to, ?_⟩
  refine List.forall_mem_cons.mpr ⟨(s_get (ci := 11) (k := 12) (am_dp pw_X11_image_0 dd_X11_image_0a.2.2.2.2.2.2.2) rfl (by decide) wd1345 inX11 rfl).to, ?_⟩
  refine List.forall_mem_cons.mpr ⟨(s_iald (am_dp pw_X11_image_0 dd_X11_image_0b.1)).to, ?_⟩
  refine List.forall_mem_cons.mpr ⟨zw_cv298 (am_dp pw_X11_image_0 dd_X11_image_0b.2.1) wd2134, ?_⟩
  refine List.forall_mem_cons.mpr ⟨(s_iconst (am_dp pw_X11_image_0 dd_X11_image_0b.2.2.1) (by decide)).to, ?_⟩
  refine List.forall_mem_cons.mpr ⟨(s_istoren (am_dp pw_X11_image_0 dd_X11_image_0b.2.2.2.1) rfl (by decide)).to, ?_⟩
  refine List.forall_mem_cons.mpr ⟨(s_iloadn (am_dp pw_X11_image_0 dd_X11_image_0b.2.2.2.2.1) rfl).to, ?_⟩
  refine List.forall_mem_cons.mpr ⟨(s_aloadn (am_dp pw_X11_image_0 dd_X11_image_0b.2.2.2.2.2.1) rfl).to, ?_⟩
  refine List.forall_mem_cons.mpr ⟨(s_get (ci := 11) (k := 19) (am_dp pw_X11_image_0 dd_X11_image_0b.2.2.2.2.2.2.1) rfl (by decide) wd1352 inX11 rfl).to, ?_⟩
  refine List.forall_mem_cons.mpr ⟨(s_aloadn (am_dp pw_X11_image_0 dd_X11_image_0b.2.2.2.2.2.2.2) rfl).to, ?_⟩
  refine List.forall_mem_cons.mpr ⟨(s_get (ci := 11) (k := 12) (am_dp pw_X11_image_0 dd_X11_image_0c.1) rfl (by decide) wd1345 inX11 rfl).to, ?_⟩
  refine List.forall_mem_cons.mpr ⟨(s_iald (am_dp pw_X11_image_0 dd_X11_image_0c.2.1)).to, ?_⟩
  refine List.forall_mem_cons.mpr ⟨(s_icmp_ge (am_dp pw_X11_image_0 dd_X11_image_0c.2.2) (by decide)).to, ?_⟩
  refine List.forall_mem_cons.mpr ⟨(s_iconst (am_dp pw_X11_image_32 dd_X11_image_32a.1) (by decide)).to, ?_⟩
  refine List.forall_mem_cons.mpr ⟨(s_istoren (am_dp pw_X11_image_32 dd_X11_image_32a.2.1) rfl (by decide)).to, ?_⟩
  refine List.forall_mem_cons.mpr ⟨(s_iloadn (am_dp pw_X11_image_32 dd_X11_image_32a.2.2.1) rfl).to, ?_⟩
  refine List.forall_mem_cons.mpr ⟨(s_bipush (am_dp pw_X11_image_32 dd_X11_image_32a.2.2.2.1) (by decide)).to, ?_⟩
  refine List.forall_mem_cons.mpr ⟨(s_icmp_ge (am_dp pw_X11_image_32 dd_X11_image_32a.2.2.2.2.1) (by decide)).to, ?_⟩
  refine List.forall_mem_cons.mpr ⟨(s_aloadn (am_dp pw_X11_image_32 dd_X11_image_32a.2.2.2.2.2.1) rfl).to, ?_⟩
  refine List.forall_mem_cons.mpr ⟨(s_iloadn (am_dp pw_X11_image_32 dd_X11_image_32a.2.2.2.2.2.2.1) rfl).to, ?_⟩
  refine List.forall_mem_cons.mpr ⟨(s_iloadn (am_dp pw_X11_image_32 dd_X11_image_32a.2.2.2.2.2.2.2) rfl).to, ?_⟩
  refine List.forall_mem_cons.mpr ⟨zw_cv226 (am_dp pw_X11_image_32 dd_X11_image_32b.1) wd1842, ?_⟩
  refine List.forall_mem_cons.mpr ⟨(s_iconst (am_dp pw_X11_image_32 dd_X11_image_32b.2.1) (by decide)).to, ?_⟩
  refine List.forall_mem_cons.mpr ⟨(s_icmp_ne (am_dp pw_X11_image_32 dd_X11_image_32b.2.2.1) (by decide)).to, ?_⟩
  refine List.forall_mem_cons.mpr ⟨(s_goto (am_dp pw_X11_image_32 dd_X11_image_32b.2.2.2.1) (by decide)).to, ?_⟩
  refine List.forall_mem_cons.mpr ⟨(s_aloadn (am_dp pw_X11_image_32 dd_X11_image_32b.2.2.2.2.1) rfl).to, ?_⟩
  refine List.forall_mem_cons.mpr ⟨(s_iloadn (am_dp pw_X11_image_32 dd_X11_image_32b.2.2.2.2.2.1) rfl).to, ?_⟩
  refine List.forall_mem_cons.mpr ⟨zw_cv298 (am_dp pw_X11_image_32 dd_X11_image_32b.2.2.2.2.2.2.1) wd2134, ?_⟩
  refine List.forall_mem_cons.mpr ⟨(s_aloadn (am_dp pw_X11_image_32 dd_X11_image_32b.2.2.2.2.2.2.2) rfl).to, ?_⟩
  refine List.forall_mem_cons.mpr ⟨(s_iloadn (am_dp pw_X11_image_32 dd_X11_image_32c.1) rfl).to, ?_⟩
  refine List.forall_mem_cons.mpr ⟨zw_cv298 (am_dp pw_X11_image_32 dd_X11_image_32c.2) wd2134, ?_⟩
  refine List.forall_mem_cons.mpr ⟨(s_aloadn (am_dp pw_X11_image_64 dd_X11_image_64a.1) rfl).to, ?_⟩
  refine List.forall_mem_cons.mpr ⟨(s_aloadn (am_dp pw_X11_image_64 dd_X11_image_64a.2.1) rfl).to, ?_⟩
  refine List.forall_mem_cons.mpr ⟨(s_iloadn (am_dp pw_X11_image_64 dd_X11_image_64a.2.2.1) rfl).to, ?_⟩
  refine List.forall_mem_cons.mpr ⟨(s_iloadn (am_dp pw_X11_image_64 dd_X11_image_64a.2.2.2.1) rfl).to, ?_⟩
  refine List.forall_mem_cons.mpr ⟨zw_cv226 (am_dp pw_X11_image_64 dd_X11_image_64a.2.2.2.2.1) wd1842, ?_⟩
  refine List.forall_mem_cons.mpr ⟨zw_cv298 (am_dp pw_X11_image_64 dd_X11_image_64a.2.2.2.2.2.1) wd2134, ?_⟩
  refine List.forall_mem_cons.mpr ⟨(s_aloadn (am_dp pw_X11_image_64 dd_X11_image_64a.2.2.2.2.2.2.1) rfl).to, ?_⟩
  refine List.forall_mem_cons.mpr ⟨(s_aloadn (am_dp pw_X11_image_64 dd_X11_image_64a.2.2.2.2.2.2.2) rfl).to, ?_⟩
  refine List.forall_mem_cons.mpr ⟨(s_iloadn (am_dp pw_X11_image_64 dd_X11_image_64b.1) rfl).to, ?_⟩
  refine List.forall_mem_cons.mpr ⟨(s_iloadn (am_dp pw_X11_image_64 dd_X11_image_64b.2.1) rfl).to, ?_⟩
  refine List.forall_mem_cons.mpr ⟨zw_cv227 (am_dp pw_X11_image_64 dd_X11_image_64b.2.2.1) wd1910, ?_⟩
  refine List.forall_mem_cons.mpr ⟨(s_if_eq (am_dp pw_X11_image_64 dd_X11_image_64b.2.2.2.1) (by decide)).to, ?_⟩
  refine List.forall_mem_cons.mpr ⟨(s_iconst (am_dp pw_X11_image_64 dd_X11_image_64b.2.2.2.2.1) (by decide)).to, ?_⟩
  refine List.forall_mem_cons.mpr ⟨(s_goto (am_dp pw_X11_image_64 dd_X11_image_64b.2.2.2.2.2.1) (by decide)).to, ?_⟩
  refine List.forall_mem_cons.mpr ⟨(s_iconst (am_dp pw_X11_image_64 dd_X11_image_64b.2.2.2.2.2.2.1) (by decide)).to, ?_⟩
  refine List.forall_mem_cons.mpr ⟨zw_cv298 (am_dp pw_X11_image_64 dd_X11_image_64b.2.2.2.2.2.2.2) wd2134, ?_⟩
  refine List.forall_mem_cons.mpr ⟨(s_iinc (am_dp pw_X11_image_64 dd_X11_image_64c.1) (by decide) (by decide)).to, ?_⟩
  refine List.forall_mem_cons.mpr ⟨(s_goto (am_dp pw_X11_image_64 dd_X11_image_64c.2) (by decide)).to, ?_⟩
  refine List.forall_mem_cons.mpr ⟨(s_iinc (am_dp pw_X11_image_96 dd_X11_image_96a.1) (by decide) (by decide)).to, ?_⟩
  refine List.forall_mem_cons.mpr ⟨(s_goto (am_dp pw_X11_image_96 dd_X11_image_96a.2.1) (by decide)).to, ?_⟩
  refine List.forall_mem_cons.mpr ⟨(s_aloadn (am_dp pw_X11_image_96 dd_X11_image_96a.2.2.1) rfl).to, ?_⟩
  refine List.forall_mem_cons.mpr ⟨(s_aloadn (am_dp pw_X11_image_96 dd_X11_image_96a.2.2.2.1) rfl).to, ?_⟩
  refine List.forall_mem_cons.mpr ⟨(s_get (ci := 11) (k := 33) (am_dp pw_X11_image_96 dd_X11_image_96a.2.2.2.2.1) rfl (by decide) wd1366 inX11 rfl).to, ?_⟩
  exact fun _ h => absurd h List.not_mem_nil
theorem sn_tX11_image_1 : ∀ q ∈ tX11_image_1, am_Snd am_P0 RX11 cX11_image 3 (Option.some FieldType.int) "image" q.1 q.2 := by
  unfold tX11_image_1
  refine List.forall_mem_cons.mpr ⟨(s_aloadn (am_dp pw_X11_image_96 dd_X11_image_96a.2.2.2.2.2.1) rfl).to, ?_⟩
  refine List.forall_mem_cons.mpr ⟨(s_get (ci := 11) (k := 12) (am_dp pw_X11_image_96 dd_X11_image_96a.2.2.2.2.2.2.1) rfl (by decide) wd1345 inX11 rfl).to, ?_⟩
  refine List.forall_mem_cons.mpr ⟨(s_iald (am_dp pw_X11_image_96 dd_X11_image_96a.2.2.2.2.2.2.2)).to, ?_⟩
  refine List.forall_mem_cons.mpr ⟨zw_cv298 (am_dp pw_X11_image_96 dd_X11_image_96b.1) wd2134, ?_⟩
  refine List.forall_mem_cons.mpr ⟨(s_bipush (am_dp pw_X11_image_96 dd_X11_image_96b.2.1) (by decide)).to, ?_⟩
  refine List.forall_mem_cons.mpr ⟨(s_aloadn (am_dp pw_X11_image_96 dd_X11_image_96b.2.2.1) rfl).to, ?_⟩
  refine List.forall_mem_cons.mpr ⟨(s_get (ci := 11) (k := 12) (am_dp pw_X11_image_96 dd_X11_image_96b.2.2.2.1) rfl (by decide) wd1345 inX11 rfl).to, ?_⟩
  refine List.forall_mem_cons.mpr ⟨(s_imul (am_dp pw_X11_image_96 dd_X11_image_96b.2.2.2.2.1)).to, ?_⟩
  refine List.forall_mem_cons.mpr ⟨(s_istoren (am_dp pw_X11_image_96 dd_X11_image_96b.2.2.2.2.2.1) rfl (by decide)).to, ?_⟩
  refine List.forall_mem_cons.mpr ⟨(s_iloadn (am_dp pw_X11_image_96 dd_X11_image_96b.2.2.2.2.2.2.1) rfl).to, ?_⟩
  refine List.forall_mem_cons.mpr ⟨(s_bipush (am_dp pw_X11_image_96 dd_X11_image_96b.2.2.2.2.2.2.2) (by decide)).to, ?_⟩
  refine List.forall_mem_cons.mpr ⟨(s_aloadn (am_dp pw_X11_image_128 dd_X11_image_128a.1) rfl).to, ?_⟩
  refine List.forall_mem_cons.mpr ⟨(s_get (ci := 11) (k := 12) (am_dp pw_X11_image_128 dd_X11_image_128a.2.1) rfl (by decide) wd1345 inX11 rfl).to, ?_⟩
  refine List.forall_mem_cons.mpr ⟨(s_imul (am_dp pw_X11_image_128 dd_X11_image_128a.2.2.1)).to, ?_⟩
  refine List.forall_mem_cons.mpr ⟨(s_aloadn (am_dp pw_X11_image_128 dd_X11_image_128a.2.2.2.1) rfl).to, ?_⟩
  refine List.forall_mem_cons.mpr ⟨(s_get (ci := 11) (k := 33) (am_dp pw_X11_image_128 dd_X11_image_128a.2.2.2.2.1) rfl (by decide) wd1366 inX11 rfl).to, ?_⟩
  refine List.forall_mem_cons.mpr ⟨(s_aloadn (am_dp pw_X11_image_128 dd_X11_image_128a.2.2.2.2.2.1) rfl).to, ?_⟩
  refine List.forall_mem_cons.mpr ⟨(s_get (ci := 11) (k := 12) (am_dp pw_X11_image_128 dd_X11_image_128a.2.2.2.2.2.2.1) rfl (by decide) wd1345 inX11 rfl).to, ?_⟩
  refine List.forall_mem_cons.mpr ⟨(s_iald (am_dp pw_X11_image_128 dd_X11_image_128a.2.2.2.2.2.2.2)).to, ?_⟩
  refine List.forall_mem_cons.mpr ⟨(s_iadd (am_dp pw_X11_image_128 dd_X11_image_128b.1)).to, ?_⟩
  refine List.forall_mem_cons.mpr ⟨(s_icmp_ge (am_dp pw_X11_image_128 dd_X11_image_128b.2.1) (by decide)).to, ?_⟩
  refine List.forall_mem_cons.mpr ⟨(s_aloadn (am_dp pw_X11_image_128 dd_X11_image_128b.2.2.1) rfl).to, ?_⟩
  refine List.forall_mem_cons.mpr ⟨(s_aloadn (am_dp pw_X11_image_128 dd_X11_image_128b.2.2.2.1) rfl).to, ?_⟩
  refine List.forall_mem_cons.mpr ⟨(s_get (ci := 11) (k := 34) (am_dp pw_X11_image_128 dd_X11_image_128b.2.2.2.2.1) rfl (by decide) wd1367 inX11 rfl).to, ?_⟩
  refine List.forall_mem_cons.mpr ⟨(s_iloadn (am_dp pw_X11_image_128 dd_X11_image_128b.2.2.2.2.2.1) rfl).to, ?_⟩
  refine List.forall_mem_cons.mpr ⟨(s_iald (am_dp pw_X11_image_128 dd_X11_image_128b.2.2.2.2.2.2.1)).to, ?_⟩
  refine List.forall_mem_cons.mpr ⟨zw_cv298 (am_dp pw_X11_image_128 dd_X11_image_128b.2.2.2.2.2.2.2) wd2134, ?_⟩
  refine List.forall_mem_cons.mpr ⟨(s_aloadn (am_dp pw_X11_image_128 dd_X11_image_128c.1) rfl).to, ?_⟩
  refine List.forall_mem_cons.mpr ⟨(s_aloadn (am_dp pw_X11_image_128 dd_X11_image_128c.2.1) rfl).to, ?_⟩
  refine List.forall_mem_cons.mpr ⟨(s_get (ci := 11) (k := 35) (am_dp pw_X11_image_128 dd_X11_image_128c.2.2) rfl (by decide) wd1368 inX11 rfl).to, ?_⟩
  refine List.forall_mem_cons.mpr ⟨(s_iloadn (am_dp pw_X11_image_160 dd_X11_image_160a.1) rfl).to, ?_⟩
  refine List.forall_mem_cons.mpr ⟨(s_iald (am_dp pw_X11_image_160 dd_X11_image_160a.2.1)).to, ?_⟩
  refine List.forall_mem_cons.mpr ⟨zw_cv298 (am_dp pw_X11_image_160 dd_X11_image_160a.2.2.1) wd2134, ?_⟩
  refine List.forall_mem_cons.mpr ⟨(s_aloadn (am_dp pw_X11_image_160 dd_X11_image_160a.2.2.2.1) rfl).to, ?_⟩
  refine List.forall_mem_cons.mpr ⟨(s_aloadn (am_dp pw_X11_image_160 dd_X11_image_160a.2.2.2.2.1) rfl).to, ?_⟩
  refine List.forall_mem_cons.mpr ⟨(s_get (ci := 11) (k := 36) (am_dp pw_X11_image_160 dd_X11_image_160a.2.2.2.2.2.1) rfl (by decide) wd1369 inX11 rfl).to, ?_⟩
  refine List.forall_mem_cons.mpr ⟨(s_iloadn (am_dp pw_X11_image_160 dd_X11_image_160a.2.2.2.2.2.2.1) rfl).to, ?_⟩
  refine List.forall_mem_cons.mpr ⟨(s_iald (am_dp pw_X11_image_160 dd_X11_image_160a.2.2.2.2.2.2.2)).to, ?_⟩
  refine List.forall_mem_cons.mpr ⟨zw_cv298 (am_dp pw_X11_image_160 dd_X11_image_160b.1) wd2134, ?_⟩
  refine List.forall_mem_cons.mpr ⟨(s_iinc (am_dp pw_X11_image_160 dd_X11_image_160b.2.1) (by decide) (by decide)).to, ?_⟩
  refine List.forall_mem_cons.mpr ⟨(s_goto (am_dp pw_X11_image_160 dd_X11_image_160b.2.2.1) (by decide)).to, ?_⟩
  refine List.forall_mem_cons.mpr ⟨(s_bipush (am_dp pw_X11_image_160 dd_X11_image_160b.2.2.2.1) (by decide)).to, ?_⟩
  refine List.forall_mem_cons.mpr ⟨(s_istoren (am_dp pw_X11_image_160 dd_X11_image_160b.2.2.2.2.1) rfl (by decide)).to, ?_⟩
  refine List.forall_mem_cons.mpr ⟨(s_iconst (am_dp pw_X11_image_160 dd_X11_image_160b.2.2.2.2.2.1) (by decide)).to, ?_⟩
  refine List.forall_mem_cons.mpr ⟨(s_istoren (am_dp pw_X11_image_160 dd_X11_image_160b.2.2.2.2.2.2.1) rfl (by decide)).to, ?_⟩
  refine List.forall_mem_cons.mpr ⟨(s_iloadn (am_dp pw_X11_image_160 dd_X11_image_160b.2.2.2.2.2.2.2) rfl).to, ?_⟩
  refine List.forall_mem_cons.mpr ⟨(s_aloadn (am_dp pw_X11_image_160 dd_X11_image_160c.1) rfl).to, ?_⟩
  refine List.forall_mem_cons.mpr ⟨(s_get (ci := 11) (k := 82) (am_dp pw_X11_image_160 dd_X11_image_160c.2) rfl (by decide) wd1415 inX11 rfl).to, ?_⟩
  refine List.forall_mem_cons.mpr ⟨(s_icmp_ge (am_dp pw_X11_image_192 dd_X11_image_192a.1) (by decide)).to, ?_⟩
  refine List.forall_mem_cons.mpr ⟨(s_iconst (am_dp pw_X11_image_192 dd_X11_image_192a.2.1) (by decide)).to, ?_⟩
  refine List.forall_mem_cons.mpr ⟨(s_iloadn (am_dp pw_X11_image_192 dd_X11_image_192a.2.2.1) rfl).to, ?_⟩
  refine List.forall_mem_cons.mpr ⟨(s_imul (am_dp pw_X11_image_192 dd_X11_image_192a.2.2.2.1)).to, ?_⟩
  refine List.forall_mem_cons.mpr ⟨(s_aloadn (am_dp pw_X11_image_192 dd_X11_image_192a.2.2.2.2.1) rfl).to, ?_⟩
  refine List.forall_mem_cons.mpr ⟨(s_get (ci := 11) (k := 81) (am_dp pw_X11_image_192 dd_X11_image_192a.2.2.2.2.2.1) rfl (by decide) wd1414 inX11 rfl).to, ?_⟩
  refine List.forall_mem_cons.mpr ⟨(s_iloadn (am_dp pw_X11_image_192 dd_X11_image_192a.2.2.2.2.2.2.1) rfl).to, ?_⟩
  refine List.forall_mem_cons.mpr ⟨(s_iald (am_dp pw_X11_image_192 dd_X11_image_192a.2.2.2.2.2.2.2)).to, ?_⟩
  refine List.forall_mem_cons.mpr ⟨(s_iadd (am_dp pw_X11_image_192 dd_X11_image_192b.1)).to, ?_⟩
  refine List.forall_mem_cons.mpr ⟨(s_sipush (am_dp pw_X11_image_192 dd_X11_image_192b.2.1) (by decide)).to, ?_⟩
  refine List.forall_mem_cons.mpr ⟨(s_irem (am_dp pw_X11_image_192 dd_X11_image_192b.2.2.1)).to, ?_⟩
  refine List.forall_mem_cons.mpr ⟨(s_istoren (am_dp pw_X11_image_192 dd_X11_image_192b.2.2.2.1) rfl (by decide)).to, ?_⟩
  exact fun _ h => absurd h List.not_mem_nil
theorem sn_tX11_image_2 : ∀ q ∈ tX11_image_2, am_Snd am_P0 RX11 cX11_image 3 (Option.some FieldType.int) "image" q.1 q.2 := by
  unfold tX11_image_2
  refine List.forall_mem_cons.mpr ⟨(s_iinc (am_dp pw_X11_image_192 dd_X11_image_192b.2.2.2.2.1) (by decide) (by decide)).to, ?_⟩
  refine List.forall_mem_cons.mpr ⟨(s_goto (am_dp pw_X11_image_192 dd_X11_image_192b.2.2.2.2.2.1) (by decide)).to, ?_⟩
  refine List.forall_mem_cons.mpr ⟨(s_aloadn (am_dp pw_X11_image_192 dd_X11_image_192b.2.2.2.2.2.2.1) rfl).to, ?_⟩
  refine List.forall_mem_cons.mpr ⟨(s_iloadn (am_dp pw_X11_image_192 dd_X11_image_192b.2.2.2.2.2.2.2) rfl).to, ?_⟩
  refine List.forall_mem_cons.mpr ⟨zw_cv298 (am_dp pw_X11_image_192 dd_X11_image_192c.1) wd2134, ?_⟩
  refine List.forall_mem_cons.mpr ⟨(s_aloadn (am_dp pw_X11_image_192 dd_X11_image_192c.2.1) rfl).to, ?_⟩
  refine List.forall_mem_cons.mpr ⟨(s_get (ci := 11) (k := 82) (am_dp pw_X11_image_192 dd_X11_image_192c.2.2) rfl (by decide) wd1415 inX11 rfl).to, ?_⟩
  refine List.forall_mem_cons.mpr ⟨s_iret (am_dp pw_X11_image_224 dd_X11_image_224a) rfl, ?_⟩
  exact fun _ h => absurd h List.not_mem_nil
theorem sn_tX11_image : ∀ q ∈ tX11_image, am_Snd am_P0 RX11 cX11_image 3 (Option.some FieldType.int) "image" q.1 q.2 := by
  unfold tX11_image
  exact List.forall_mem_append.mpr ⟨List.forall_mem_append.mpr ⟨sn_tX11_image_0, sn_tX11_image_1⟩, sn_tX11_image_2⟩
theorem sn_tX11_octet : ∀ q ∈ tX11_octet, am_Snd am_P0 RX11 cX11_octet 2 (Option.some FieldType.int) "octet" q.1 q.2 := by
  unfold tX11_octet
  refine List.forall_mem_cons.mpr ⟨(s_iloadn (am_dp pw_X11_octet_0 dd_X11_octet_0a.1) rfl).to, ?_⟩
  refine List.forall_mem_cons.mpr ⟨(s_if_lt (am_dp pw_X11_octet_0 dd_X11_octet_0a.2.1) (by decide)).to, ?_⟩
  refine List.forall_mem_cons.mpr ⟨(s_iloadn (am_dp pw_X11_octet_0 dd_X11_octet_0a.2.2.1) rfl).to, ?_⟩
  refine List.forall_mem_cons.mpr ⟨(s_aloadn (am_dp pw_X11_octet_0 dd_X11_octet_0a.2.2.2.1) rfl).to, ?_⟩
  refine List.forall_mem_cons.mpr ⟨(s_get (ci := 11) (k := 82) (am_dp pw_X11_octet_0 dd_X11_octet_0a.2.2.2.2.1) rfl (by decide) wd1415 inX11 rfl).to, ?_⟩
  refine List.forall_mem_cons.mpr ⟨(s_icmp_ge (am_dp pw_X11_octet_0 dd_X11_octet_0a.2.2.2.2.2.1) (by decide)).to, ?_⟩
  refine List.forall_mem_cons.mpr ⟨(s_aloadn (am_dp pw_X11_octet_0 dd_X11_octet_0a.2.2.2.2.2.2.1) rfl).to, ?_⟩
  refine List.forall_mem_cons.mpr ⟨(s_get (ci := 11) (k := 81) (am_dp pw_X11_octet_0 dd_X11_octet_0a.2.2.2.2.2.2.2) rfl (by decide) wd1414 inX11 rfl).to, ?_⟩
  refine List.forall_mem_cons.mpr ⟨(s_iloadn (am_dp pw_X11_octet_0 dd_X11_octet_0b.1) rfl).to, ?_⟩
  refine List.forall_mem_cons.mpr ⟨(s_iald (am_dp pw_X11_octet_0 dd_X11_octet_0b.2.1)).to, ?_⟩
  refine List.forall_mem_cons.mpr ⟨(s_goto (am_dp pw_X11_octet_0 dd_X11_octet_0b.2.2.1) (by decide)).to, ?_⟩
  refine List.forall_mem_cons.mpr ⟨(s_iconst (am_dp pw_X11_octet_0 dd_X11_octet_0b.2.2.2.1) (by decide)).to, ?_⟩
  refine List.forall_mem_cons.mpr ⟨s_iret (am_dp pw_X11_octet_0 dd_X11_octet_0b.2.2.2.2) rfl, ?_⟩
  exact fun _ h => absurd h List.not_mem_nil
theorem sn_tX11_isWhole_0 : ∀ q ∈ tX11_isWhole_0, am_Snd am_P0 RX11 cX11_isWhole 7 (Option.some FieldType.boolean) "isWhole" q.1 q.2 := by
  unfold tX11_isWhole_0
  refine List.forall_mem_cons.mpr ⟨(s_iloadn (am_dp pw_X11_isWhole_0 dd_X11_isWhole_0a.1) rfl).to, ?_⟩
  refine List.forall_mem_cons.mpr ⟨(s_iconst (am_dp pw_X11_isWhole_0 dd_X11_isWhole_0a.2.1) (by decide)).to, ?_⟩
  refine List.forall_mem_cons.mpr ⟨(s_icmp_lt (am_dp pw_X11_isWhole_0 dd_X11_isWhole_0a.2.2.1) (by decide)).to, ?_⟩
  refine List.forall_mem_cons.mpr ⟨(s_aloadn (am_dp pw_X11_isWhole_0 dd_X11_isWhole_0a.2.2.2.1) rfl).to, ?_⟩
  refine List.forall_mem_cons.mpr ⟨(s_get (ci := 11) (k := 0) (am_dp pw_X11_isWhole_0 dd_X11_isWhole_0a.2.2.2.2.1) rfl (by decide) wd1333 inX11 rfl).to, ?_⟩
  refine List.forall_mem_cons.mpr ⟨(s_iconst (am_dp pw_X11_isWhole_0 dd_X11_isWhole_0a.2.2.2.2.2.1) (by decide)).to, ?_⟩
  refine List.forall_mem_cons.mpr ⟨(s_iald (am_dp pw_X11_isWhole_0 dd_X11_isWhole_0a.2.2.2.2.2.2.1)).to, ?_⟩
  refine List.forall_mem_cons.mpr ⟨(s_bipush (am_dp pw_X11_isWhole_0 dd_X11_isWhole_0a.2.2.2.2.2.2.2) (by decide)).to, ?_⟩
  refine List.forall_mem_cons.mpr ⟨(s_icmp_le (am_dp pw_X11_isWhole_0 dd_X11_isWhole_0b.1) (by decide)).to, ?_⟩
  refine List.forall_mem_cons.mpr ⟨(s_iconst (am_dp pw_X11_isWhole_0 dd_X11_isWhole_0b.2.1) (by decide)).to, ?_⟩
  refine List.forall_mem_cons.mpr ⟨s_zret (am_dp pw_X11_isWhole_0 dd_X11_isWhole_0b.2.2.1) rfl, ?_⟩
  refine List.forall_mem_cons.mpr ⟨(s_iconst (am_dp pw_X11_isWhole_0 dd_X11_isWhole_0b.2.2.2.1) (by decide)).to, ?_⟩
  refine List.forall_mem_cons.mpr ⟨(s_iconst (am_dp pw_X11_isWhole_0 dd_X11_isWhole_0b.2.2.2.2.1) (by decide)).to, ?_⟩
  refine List.forall_mem_cons.mpr ⟨(s_aloadn (am_dp pw_X11_isWhole_0 dd_X11_isWhole_0b.2.2.2.2.2.1) rfl).to, ?_⟩
  refine List.forall_mem_cons.mpr ⟨(s_get (ci := 11) (k := 0) (am_dp pw_X11_isWhole_0 dd_X11_isWhole_0b.2.2.2.2.2.2.1) rfl (by decide) wd1333 inX11 rfl).to, ?_⟩
  refine List.forall_mem_cons.mpr ⟨(s_iconst (am_dp pw_X11_isWhole_0 dd_X11_isWhole_0b.2.2.2.2.2.2.2) (by decide)).to, ?_⟩
  refine List.forall_mem_cons.mpr ⟨(s_iald (am_dp pw_X11_isWhole_0 dd_X11_isWhole_0c.1)).to, ?_⟩
  refine List.forall_mem_cons.mpr ⟨(s_imul (am_dp pw_X11_isWhole_0 dd_X11_isWhole_0c.2.1)).to, ?_⟩
  refine List.forall_mem_cons.mpr ⟨(s_iadd (am_dp pw_X11_isWhole_0 dd_X11_isWhole_0c.2.2.1)).to, ?_⟩
  refine List.forall_mem_cons.mpr ⟨(s_istoren (am_dp pw_X11_isWhole_0 dd_X11_isWhole_0c.2.2.2.1) rfl (by decide)).to, ?_⟩
  refine List.forall_mem_cons.mpr ⟨(s_iloadn (am_dp pw_X11_isWhole_0 dd_X11_isWhole_0c.2.2.2.2.1) rfl).to, ?_⟩
  refine List.forall_mem_cons.mpr ⟨(s_iloadn (am_dp pw_X11_isWhole_0 dd_X11_isWhole_0c.2.2.2.2.2.1) rfl).to, ?_⟩
  refine List.forall_mem_cons.mpr ⟨(s_iconst (am_dp pw_X11_isWhole_0 dd_X11_isWhole_0c.2.2.2.2.2.2) (by decide)).to, ?_⟩
  refine List.forall_mem_cons.mpr ⟨(s_isub (am_dp pw_X11_isWhole_32 dd_X11_isWhole_32a.1)).to, ?_⟩
  refine List.forall_mem_cons.mpr ⟨(s_icmp_ge (am_dp pw_X11_isWhole_32 dd_X11_isWhole_32a.2.1) (by decide)).to, ?_⟩
  refine List.forall_mem_cons.mpr ⟨(s_aloadn (am_dp pw_X11_isWhole_32 dd_X11_isWhole_32a.2.2.1) rfl).to, ?_⟩
  refine List.forall_mem_cons.mpr ⟨(s_get (ci := 11) (k := 0) (am_dp pw_X11_isWhole_32 dd_X11_isWhole_32a.2.2.2.1) rfl (by decide) wd1333 inX11 rfl).to, ?_⟩
  refine List.forall_mem_cons.mpr ⟨(s_iloadn (am_dp pw_X11_isWhole_32 dd_X11_isWhole_32a.2.2.2.2.1) rfl).to, ?_⟩
  refine List.forall_mem_cons.mpr ⟨(s_iald (am_dp pw_X11_isWhole_32 dd_X11_isWhole_32a.2.2.2.2.2.1)).to, ?_⟩
  refine List.forall_mem_cons.mpr ⟨(s_bipush (am_dp pw_X11_isWhole_32 dd_X11_isWhole_32a.2.2.2.2.2.2.1) (by decide)).to, ?_⟩
  refine List.forall_mem_cons.mpr ⟨(s_icmp_gt (am_dp pw_X11_isWhole_32 dd_X11_isWhole_32a.2.2.2.2.2.2.2) (by decide)).to, ?_⟩
  refine List.forall_mem_cons.mpr ⟨(s_iloadn (am_dp pw_X11_isWhole_32 dd_X11_isWhole_32b.1) rfl).to, ?_⟩
  refine List.forall_mem_cons.mpr ⟨(s_iloadn (am_dp pw_X11_isWhole_32 dd_X11_isWhole_32b.2.1) rfl).to, ?_⟩
  refine List.forall_mem_cons.mpr ⟨(s_iconst (am_dp pw_X11_isWhole_32 dd_X11_isWhole_32b.2.2.1) (by decide)).to, ?_⟩
  refine List.forall_mem_cons.mpr ⟨(s_iadd (am_dp pw_X11_isWhole_32 dd_X11_isWhole_32b.2.2.2.1)).to, ?_⟩
  refine List.forall_mem_cons.mpr ⟨(s_iconst (am_dp pw_X11_isWhole_32 dd_X11_isWhole_32b.2.2.2.2.1) (by decide)).to, ?_⟩
  refine List.forall_mem_cons.mpr ⟨(s_aloadn (am_dp pw_X11_isWhole_32 dd_X11_isWhole_32b.2.2.2.2.2.1) rfl).to, ?_⟩
  refine List.forall_mem_cons.mpr ⟨(s_get (ci := 11) (k := 0) (am_dp pw_X11_isWhole_32 dd_X11_isWhole_32b.2.2.2.2.2.2.1) rfl (by decide) wd1333 inX11 rfl).to, ?_⟩
  refine List.forall_mem_cons.mpr ⟨(s_iloadn (am_dp pw_X11_isWhole_32 dd_X11_isWhole_32b.2.2.2.2.2.2.2) rfl).to, ?_⟩
  refine List.forall_mem_cons.mpr ⟨(s_iald (am_dp pw_X11_isWhole_32 dd_X11_isWhole_32c.1)).to, ?_⟩
  refine List.forall_mem_cons.mpr ⟨(s_imul (am_dp pw_X11_isWhole_32 dd_X11_isWhole_32c.2.1)).to, ?_⟩
  refine List.forall_mem_cons.mpr ⟨(s_iadd (am_dp pw_X11_isWhole_32 dd_X11_isWhole_32c.2.2.1)).to, ?_⟩
  refine List.forall_mem_cons.mpr ⟨(s_icmp_eq (am_dp pw_X11_isWhole_32 dd_X11_isWhole_32c.2.2.2.1) (by decide)).to, ?_⟩
  refine List.forall_mem_cons.mpr ⟨(s_iconst (am_dp pw_X11_isWhole_32 dd_X11_isWhole_32c.2.2.2.2) (by decide)).to, ?_⟩
  refine List.forall_mem_cons.mpr ⟨s_zret (am_dp pw_X11_isWhole_64 dd_X11_isWhole_64a.1) rfl, ?_⟩
  refine List.forall_mem_cons.mpr ⟨(s_bipush (am_dp pw_X11_isWhole_64 dd_X11_isWhole_64a.2.1) (by decide)).to, ?_⟩
  refine List.forall_mem_cons.mpr ⟨(s_istoren (am_dp pw_X11_isWhole_64 dd_X11_isWhole_64a.2.2.1) rfl (by decide)).to, ?_⟩
  refine List.forall_mem_cons.mpr ⟨(s_iconst (am_dp pw_X11_isWhole_64 dd_X11_isWhole_64a.2.2.2.1) (by decide)).to, ?_⟩
  refine List.forall_mem_cons.mpr ⟨(s_istore (am_dp pw_X11_isWhole_64 dd_X11_isWhole_64a.2.2.2.2.1) (by decide)).to, ?_⟩
  refine List.forall_mem_cons.mpr ⟨(s_iload (am_dp pw_X11_isWhole_64 dd_X11_isWhole_64a.2.2.2.2.2.1)).to, ?_⟩
  refine List.forall_mem_cons.mpr ⟨(s_iloadn (am_dp pw_X11_isWhole_64 dd_X11_isWhole_64a.2.2.2.2.2.2.1) rfl).to, ?_⟩
  refine List.forall_mem_cons.mpr ⟨(s_iconst (am_dp pw_X11_isWhole_64 dd_X11_isWhole_64a.2.2.2.2.2.2.2) (by decide)).to, ?_⟩
  refine List.forall_mem_cons.mpr ⟨(s_isub (am_dp pw_X11_isWhole_64 dd_X11_isWhole_64b.1)).to, ?_⟩
  refine List.forall_mem_cons.mpr ⟨(s_icmp_ge (am_dp pw_X11_isWhole_64 dd_X11_isWhole_64b.2.1) (by decide)).to, ?_⟩
  refine List.forall_mem_cons.mpr ⟨(s_iconst (am_dp pw_X11_isWhole_64 dd_X11_isWhole_64b.2.2.1) (by decide)).to, ?_⟩
  refine List.forall_mem_cons.mpr ⟨(s_iloadn (am_dp pw_X11_isWhole_64 dd_X11_isWhole_64b.2.2.2.1) rfl).to, ?_⟩
  refine List.forall_mem_cons.mpr ⟨(s_imul (am_dp pw_X11_isWhole_64 dd_X11_isWhole_64b.2.2.2.2.1)).to, ?_⟩
  refine List.forall_mem_cons.mpr ⟨(s_aloadn (am_dp pw_X11_isWhole_64 dd_X11_isWhole_64b.2.2.2.2.2.1) rfl).to, ?_⟩
  refine List.forall_mem_cons.mpr ⟨(s_get (ci := 11) (k := 0) (am_dp pw_X11_isWhole_64 dd_X11_isWhole_64b.2.2.2.2.2.2.1) rfl (by decide) wd1333 inX11 rfl).to, ?_⟩
  refine List.forall_mem_cons.mpr ⟨(s_iload (am_dp pw_X11_isWhole_64 dd_X11_isWhole_64b.2.2.2.2.2.2.2)).to, ?_⟩
  exact fun _ h => absurd h List.not_mem_nil
theorem sn_tX11_isWhole_1 : ∀ q ∈ tX11_isWhole_1, am_Snd am_P0 RX11 cX11_isWhole 7 (Option.some FieldType.boolean) "isWhole" q.1 q.2 := by
  unfold tX11_isWhole_1
  refine List.forall_mem_cons.mpr ⟨(s_iald (am_dp pw_X11_isWhole_64 dd_X11_isWhole_64c.1)).to, ?_⟩
  refine List.forall_mem_cons.mpr ⟨(s_iadd (am_dp pw_X11_isWhole_64 dd_X11_isWhole_64c.2.1)).to, ?_⟩
  refine List.forall_mem_cons.mpr ⟨(s_sipush (am_dp pw_X11_isWhole_64 dd_X11_isWhole_64c.2.2.1) (by decide)).to, ?_⟩
  refine List.forall_mem_cons.mpr ⟨(s_irem (am_dp pw_X11_isWhole_64 dd_X11_isWhole_64c.2.2.2.1)).to, ?_⟩
  refine List.forall_mem_cons.mpr ⟨(s_istoren (am_dp pw_X11_isWhole_64 dd_X11_isWhole_64c.2.2.2.2.1) rfl (by decide)).to, ?_⟩
  refine List.forall_mem_cons.mpr ⟨(s_iinc (am_dp pw_X11_isWhole_64 dd_X11_isWhole_64c.2.2.2.2.2) (by decide) (by decide)).to, ?_⟩
  refine List.forall_mem_cons.mpr ⟨(s_goto (am_dp pw_X11_isWhole_96 dd_X11_isWhole_96a.1) (by decide)).to, ?_⟩
  refine List.forall_mem_cons.mpr ⟨(s_aloadn (am_dp pw_X11_isWhole_96 dd_X11_isWhole_96a.2.1) rfl).to, ?_⟩
  refine List.forall_mem_cons.mpr ⟨(s_get (ci := 11) (k := 0) (am_dp pw_X11_isWhole_96 dd_X11_isWhole_96a.2.2.1) rfl (by decide) wd1333 inX11 rfl).to, ?_⟩
  refine List.forall_mem_cons.mpr ⟨(s_iloadn (am_dp pw_X11_isWhole_96 dd_X11_isWhole_96a.2.2.2.1) rfl).to, ?_⟩
  refine List.forall_mem_cons.mpr ⟨(s_iconst (am_dp pw_X11_isWhole_96 dd_X11_isWhole_96a.2.2.2.2.1) (by decide)).to, ?_⟩
  refine List.forall_mem_cons.mpr ⟨(s_isub (am_dp pw_X11_isWhole_96 dd_X11_isWhole_96a.2.2.2.2.2.1)).to, ?_⟩
  refine List.forall_mem_cons.mpr ⟨(s_iald (am_dp pw_X11_isWhole_96 dd_X11_isWhole_96a.2.2.2.2.2.2.1)).to, ?_⟩
  refine List.forall_mem_cons.mpr ⟨(s_iloadn (am_dp pw_X11_isWhole_96 dd_X11_isWhole_96a.2.2.2.2.2.2.2) rfl).to, ?_⟩
  refine List.forall_mem_cons.mpr ⟨(s_icmp_eq (am_dp pw_X11_isWhole_96 dd_X11_isWhole_96b.1) (by decide)).to, ?_⟩
  refine List.forall_mem_cons.mpr ⟨(s_iconst (am_dp pw_X11_isWhole_96 dd_X11_isWhole_96b.2.1) (by decide)).to, ?_⟩
  refine List.forall_mem_cons.mpr ⟨s_zret (am_dp pw_X11_isWhole_96 dd_X11_isWhole_96b.2.2.1) rfl, ?_⟩
  refine List.forall_mem_cons.mpr ⟨(s_iconst (am_dp pw_X11_isWhole_96 dd_X11_isWhole_96b.2.2.2.1) (by decide)).to, ?_⟩
  refine List.forall_mem_cons.mpr ⟨(s_istore (am_dp pw_X11_isWhole_96 dd_X11_isWhole_96b.2.2.2.2.1) (by decide)).to, ?_⟩
  refine List.forall_mem_cons.mpr ⟨(s_iconst (am_dp pw_X11_isWhole_96 dd_X11_isWhole_96b.2.2.2.2.2.1) (by decide)).to, ?_⟩
  refine List.forall_mem_cons.mpr ⟨(s_istore (am_dp pw_X11_isWhole_96 dd_X11_isWhole_96b.2.2.2.2.2.2.1) (by decide)).to, ?_⟩
  refine List.forall_mem_cons.mpr ⟨(s_iload (am_dp pw_X11_isWhole_96 dd_X11_isWhole_96b.2.2.2.2.2.2.2)).to, ?_⟩
  refine List.forall_mem_cons.mpr ⟨(s_iloadn (am_dp pw_X11_isWhole_96 dd_X11_isWhole_96c.1) rfl).to, ?_⟩
  refine List.forall_mem_cons.mpr ⟨(s_icmp_ge (am_dp pw_X11_isWhole_96 dd_X11_isWhole_96c.2.1) (by decide)).to, ?_⟩
  refine List.forall_mem_cons.mpr ⟨(s_bipush (am_dp pw_X11_isWhole_96 dd_X11_isWhole_96c.2.2) (by decide)).to, ?_⟩
  refine List.forall_mem_cons.mpr ⟨(s_aloadn (am_dp pw_X11_isWhole_128 dd_X11_isWhole_128a.1) rfl).to, ?_⟩
  refine List.forall_mem_cons.mpr ⟨(s_get (ci := 11) (k := 0) (am_dp pw_X11_isWhole_128 dd_X11_isWhole_128a.2.1) rfl (by decide) wd1333 inX11 rfl).to, ?_⟩
  refine List.forall_mem_cons.mpr ⟨(s_iload (am_dp pw_X11_isWhole_128 dd_X11_isWhole_128a.2.2.1)).to, ?_⟩
  refine List.forall_mem_cons.mpr ⟨(s_iald (am_dp pw_X11_isWhole_128 dd_X11_isWhole_128a.2.2.2.1)).to, ?_⟩
  refine List.forall_mem_cons.mpr ⟨(s_imul (am_dp pw_X11_isWhole_128 dd_X11_isWhole_128a.2.2.2.2.1)).to, ?_⟩
  refine List.forall_mem_cons.mpr ⟨(s_aloadn (am_dp pw_X11_isWhole_128 dd_X11_isWhole_128a.2.2.2.2.2.1) rfl).to, ?_⟩
  refine List.forall_mem_cons.mpr ⟨(s_get (ci := 11) (k := 0) (am_dp pw_X11_isWhole_128 dd_X11_isWhole_128a.2.2.2.2.2.2.1) rfl (by decide) wd1333 inX11 rfl).to, ?_⟩
  refine List.forall_mem_cons.mpr ⟨(s_iload (am_dp pw_X11_isWhole_128 dd_X11_isWhole_128a.2.2.2.2.2.2.2)).to, ?_⟩
  refine List.forall_mem_cons.mpr ⟨(s_iconst (am_dp pw_X11_isWhole_128 dd_X11_isWhole_128b.1) (by decide)).to, ?_⟩
  refine List.forall_mem_cons.mpr ⟨(s_iadd (am_dp pw_X11_isWhole_128 dd_X11_isWhole_128b.2.1)).to, ?_⟩
  refine List.forall_mem_cons.mpr ⟨(s_iald (am_dp pw_X11_isWhole_128 dd_X11_isWhole_128b.2.2.1)).to, ?_⟩
  refine List.forall_mem_cons.mpr ⟨(s_iadd (am_dp pw_X11_isWhole_128 dd_X11_isWhole_128b.2.2.2.1)).to, ?_⟩
  refine List.forall_mem_cons.mpr ⟨(s_istore (am_dp pw_X11_isWhole_128 dd_X11_isWhole_128b.2.2.2.2.1) (by decide)).to, ?_⟩
  refine List.forall_mem_cons.mpr ⟨(s_aloadn (am_dp pw_X11_isWhole_128 dd_X11_isWhole_128b.2.2.2.2.2.1) rfl).to, ?_⟩
  refine List.forall_mem_cons.mpr ⟨(s_aloadn (am_dp pw_X11_isWhole_128 dd_X11_isWhole_128b.2.2.2.2.2.2.1) rfl).to, ?_⟩
  refine List.forall_mem_cons.mpr ⟨(s_get (ci := 11) (k := 0) (am_dp pw_X11_isWhole_128 dd_X11_isWhole_128b.2.2.2.2.2.2.2) rfl (by decide) wd1333 inX11 rfl).to, ?_⟩
  refine List.forall_mem_cons.mpr ⟨(s_iload (am_dp pw_X11_isWhole_128 dd_X11_isWhole_128c.1)).to, ?_⟩
  refine List.forall_mem_cons.mpr ⟨(s_iald (am_dp pw_X11_isWhole_128 dd_X11_isWhole_128c.2.1)).to, ?_⟩
  refine List.forall_mem_cons.mpr ⟨zw_cv220 (am_dp pw_X11_isWhole_128 dd_X11_isWhole_128c.2.2) wd1850, ?_⟩
  refine List.forall_mem_cons.mpr ⟨(s_if_eq (am_dp pw_X11_isWhole_160 dd_X11_isWhole_160a.1) (by decide)).to, ?_⟩
  refine List.forall_mem_cons.mpr ⟨(s_aloadn (am_dp pw_X11_isWhole_160 dd_X11_isWhole_160a.2.1) rfl).to, ?_⟩
  refine List.forall_mem_cons.mpr ⟨(s_get (ci := 11) (k := 0) (am_dp pw_X11_isWhole_160 dd_X11_isWhole_160a.2.2.1) rfl (by decide) wd1333 inX11 rfl).to, ?_⟩
  refine List.forall_mem_cons.mpr ⟨(s_iload (am_dp pw_X11_isWhole_160 dd_X11_isWhole_160a.2.2.2.1)).to, ?_⟩
  refine List.forall_mem_cons.mpr ⟨(s_iconst (am_dp pw_X11_isWhole_160 dd_X11_isWhole_160a.2.2.2.2.1) (by decide)).to, ?_⟩
  refine List.forall_mem_cons.mpr ⟨(s_iadd (am_dp pw_X11_isWhole_160 dd_X11_isWhole_160a.2.2.2.2.2.1)).to, ?_⟩
  refine List.forall_mem_cons.mpr ⟨(s_iald (am_dp pw_X11_isWhole_160 dd_X11_isWhole_160a.2.2.2.2.2.2.1)).to, ?_⟩
  refine List.forall_mem_cons.mpr ⟨zw_cs219 (am_dp pw_X11_isWhole_160 dd_X11_isWhole_160a.2.2.2.2.2.2.2) wd1823, ?_⟩
  refine List.forall_mem_cons.mpr ⟨(s_if_eq (am_dp pw_X11_isWhole_160 dd_X11_isWhole_160b.1) (by decide)).to, ?_⟩
  refine List.forall_mem_cons.mpr ⟨(s_iload (am_dp pw_X11_isWhole_160 dd_X11_isWhole_160b.2.1)).to, ?_⟩
  refine List.forall_mem_cons.mpr ⟨(s_iload (am_dp pw_X11_isWhole_160 dd_X11_isWhole_160b.2.2.1)).to, ?_⟩
  refine List.forall_mem_cons.mpr ⟨(s_icmp_le (am_dp pw_X11_isWhole_160 dd_X11_isWhole_160b.2.2.2.1) (by decide)).to, ?_⟩
  refine List.forall_mem_cons.mpr ⟨(s_aloadn (am_dp pw_X11_isWhole_160 dd_X11_isWhole_160b.2.2.2.2.1) rfl).to, ?_⟩
  refine List.forall_mem_cons.mpr ⟨(s_get (ci := 11) (k := 0) (am_dp pw_X11_isWhole_160 dd_X11_isWhole_160b.2.2.2.2.2.1) rfl (by decide) wd1333 inX11 rfl).to, ?_⟩
  refine List.forall_mem_cons.mpr ⟨(s_iload (am_dp pw_X11_isWhole_160 dd_X11_isWhole_160b.2.2.2.2.2.2.1)).to, ?_⟩
  refine List.forall_mem_cons.mpr ⟨(s_iconst (am_dp pw_X11_isWhole_160 dd_X11_isWhole_160b.2.2.2.2.2.2.2) (by decide)).to, ?_⟩
  exact fun _ h => absurd h List.not_mem_nil
theorem sn_tX11_isWhole_2 : ∀ q ∈ tX11_isWhole_2, am_Snd am_P0 RX11 cX11_isWhole 7 (Option.some FieldType.boolean) "isWhole" q.1 q.2 := by
  unfold tX11_isWhole_2
  refine List.forall_mem_cons.mpr ⟨(s_iadd (am_dp pw_X11_isWhole_192 dd_X11_isWhole_192a.1)).to, ?_⟩
  refine List.forall_mem_cons.mpr ⟨(s_iald (am_dp pw_X11_isWhole_192 dd_X11_isWhole_192a.2.1)).to, ?_⟩
  refine List.forall_mem_cons.mpr ⟨(s_aloadn (am_dp pw_X11_isWhole_192 dd_X11_isWhole_192a.2.2.1) rfl).to, ?_⟩
  refine List.forall_mem_cons.mpr ⟨zw_cv214 (am_dp pw_X11_isWhole_192 dd_X11_isWhole_192a.2.2.2.1) wd1771, ?_⟩
  refine List.forall_mem_cons.mpr ⟨(s_icmp_ge (am_dp pw_X11_isWhole_192 dd_X11_isWhole_192a.2.2.2.2.1) (by decide)).to, ?_⟩
  refine List.forall_mem_cons.mpr ⟨(s_aloadn (am_dp pw_X11_isWhole_192 dd_X11_isWhole_192a.2.2.2.2.2.1) rfl).to, ?_⟩
  refine List.forall_mem_cons.mpr ⟨(s_get (ci := 11) (k := 0) (am_dp pw_X11_isWhole_192 dd_X11_isWhole_192a.2.2.2.2.2.2.1) rfl (by decide) wd1333 inX11 rfl).to, ?_⟩
  refine List.forall_mem_cons.mpr ⟨(s_iload (am_dp pw_X11_isWhole_192 dd_X11_isWhole_192a.2.2.2.2.2.2.2)).to, ?_⟩
  refine List.forall_mem_cons.mpr ⟨(s_iconst (am_dp pw_X11_isWhole_192 dd_X11_isWhole_192b.1) (by decide)).to, ?_⟩
  refine List.forall_mem_cons.mpr ⟨(s_iadd (am_dp pw_X11_isWhole_192 dd_X11_isWhole_192b.2.1)).to, ?_⟩
  refine List.forall_mem_cons.mpr ⟨(s_iald (am_dp pw_X11_isWhole_192 dd_X11_isWhole_192b.2.2.1)).to, ?_⟩
  refine List.forall_mem_cons.mpr ⟨(s_iconst (am_dp pw_X11_isWhole_192 dd_X11_isWhole_192b.2.2.2.1) (by decide)).to, ?_⟩
  refine List.forall_mem_cons.mpr ⟨(s_icmp_le (am_dp pw_X11_isWhole_192 dd_X11_isWhole_192b.2.2.2.2.1) (by decide)).to, ?_⟩
  refine List.forall_mem_cons.mpr ⟨(s_iconst (am_dp pw_X11_isWhole_192 dd_X11_isWhole_192b.2.2.2.2.2.1) (by decide)).to, ?_⟩
  refine List.forall_mem_cons.mpr ⟨s_zret (am_dp pw_X11_isWhole_192 dd_X11_isWhole_192b.2.2.2.2.2.2.1) rfl, ?_⟩
  refine List.forall_mem_cons.mpr ⟨(s_iload (am_dp pw_X11_isWhole_192 dd_X11_isWhole_192b.2.2.2.2.2.2.2)).to, ?_⟩
  refine List.forall_mem_cons.mpr ⟨(s_istore (am_dp pw_X11_isWhole_192 dd_X11_isWhole_192c.1) (by decide)).to, ?_⟩
  refine List.forall_mem_cons.mpr ⟨(s_iinc (am_dp pw_X11_isWhole_192 dd_X11_isWhole_192c.2.1) (by decide) (by decide)).to, ?_⟩
  refine List.forall_mem_cons.mpr ⟨(s_goto (am_dp pw_X11_isWhole_192 dd_X11_isWhole_192c.2.2) (by decide)).to, ?_⟩
  refine List.forall_mem_cons.mpr ⟨(s_iloadn (am_dp pw_X11_isWhole_224 dd_X11_isWhole_224a.1) rfl).to, ?_⟩
  refine List.forall_mem_cons.mpr ⟨(s_iconst (am_dp pw_X11_isWhole_224 dd_X11_isWhole_224a.2.1) (by decide)).to, ?_⟩
  refine List.forall_mem_cons.mpr ⟨(s_iadd (am_dp pw_X11_isWhole_224 dd_X11_isWhole_224a.2.2.1)).to, ?_⟩
  refine List.forall_mem_cons.mpr ⟨(s_istore (am_dp pw_X11_isWhole_224 dd_X11_isWhole_224a.2.2.2.1) (by decide)).to, ?_⟩
  refine List.forall_mem_cons.mpr ⟨(s_iload (am_dp pw_X11_isWhole_224 dd_X11_isWhole_224a.2.2.2.2.1)).to, ?_⟩
  refine List.forall_mem_cons.mpr ⟨(s_iloadn (am_dp pw_X11_isWhole_224 dd_X11_isWhole_224a.2.2.2.2.2.1) rfl).to, ?_⟩
  refine List.forall_mem_cons.mpr ⟨(s_iconst (am_dp pw_X11_isWhole_224 dd_X11_isWhole_224a.2.2.2.2.2.2.1) (by decide)).to, ?_⟩
  refine List.forall_mem_cons.mpr ⟨(s_isub (am_dp pw_X11_isWhole_224 dd_X11_isWhole_224a.2.2.2.2.2.2.2)).to, ?_⟩
  refine List.forall_mem_cons.mpr ⟨(s_icmp_ge (am_dp pw_X11_isWhole_224 dd_X11_isWhole_224b.1) (by decide)).to, ?_⟩
  refine List.forall_mem_cons.mpr ⟨(s_aloadn (am_dp pw_X11_isWhole_224 dd_X11_isWhole_224b.2.1) rfl).to, ?_⟩
  refine List.forall_mem_cons.mpr ⟨(s_get (ci := 11) (k := 0) (am_dp pw_X11_isWhole_224 dd_X11_isWhole_224b.2.2.1) rfl (by decide) wd1333 inX11 rfl).to, ?_⟩
  refine List.forall_mem_cons.mpr ⟨(s_iload (am_dp pw_X11_isWhole_224 dd_X11_isWhole_224b.2.2.2.1)).to, ?_⟩
  refine List.forall_mem_cons.mpr ⟨(s_iald (am_dp pw_X11_isWhole_224 dd_X11_isWhole_224b.2.2.2.2.1)).to, ?_⟩
  refine List.forall_mem_cons.mpr ⟨(s_iconst (am_dp pw_X11_isWhole_224 dd_X11_isWhole_224b.2.2.2.2.2.1) (by decide)).to, ?_⟩
  refine List.forall_mem_cons.mpr ⟨(s_icmp_gt (am_dp pw_X11_isWhole_224 dd_X11_isWhole_224b.2.2.2.2.2.2.1) (by decide)).to, ?_⟩
  refine List.forall_mem_cons.mpr ⟨(s_aloadn (am_dp pw_X11_isWhole_224 dd_X11_isWhole_224b.2.2.2.2.2.2.2) rfl).to, ?_⟩
  refine List.forall_mem_cons.mpr ⟨(s_get (ci := 11) (k := 0) (am_dp pw_X11_isWhole_224 dd_X11_isWhole_224c.1) rfl (by decide) wd1333 inX11 rfl).to, ?_⟩
  refine List.forall_mem_cons.mpr ⟨(s_iload (am_dp pw_X11_isWhole_224 dd_X11_isWhole_224c.2)).to, ?_⟩
  refine List.forall_mem_cons.mpr ⟨(s_iconst (am_dp pw_X11_isWhole_256 dd_X11_isWhole_256a.1) (by decide)).to, ?_⟩
  refine List.forall_mem_cons.mpr ⟨(s_iadd (am_dp pw_X11_isWhole_256 dd_X11_isWhole_256a.2.1)).to, ?_⟩
  refine List.forall_mem_cons.mpr ⟨(s_iald (am_dp pw_X11_isWhole_256 dd_X11_isWhole_256a.2.2.1)).to, ?_⟩
  refine List.forall_mem_cons.mpr ⟨(s_aloadn (am_dp pw_X11_isWhole_256 dd_X11_isWhole_256a.2.2.2.1) rfl).to, ?_⟩
  refine List.forall_mem_cons.mpr ⟨zw_cv214 (am_dp pw_X11_isWhole_256 dd_X11_isWhole_256a.2.2.2.2.1) wd1771, ?_⟩
  refine List.forall_mem_cons.mpr ⟨(s_icmp_ge (am_dp pw_X11_isWhole_256 dd_X11_isWhole_256a.2.2.2.2.2.1) (by decide)).to, ?_⟩
  refine List.forall_mem_cons.mpr ⟨(s_aloadn (am_dp pw_X11_isWhole_256 dd_X11_isWhole_256a.2.2.2.2.2.2.1) rfl).to, ?_⟩
  refine List.forall_mem_cons.mpr ⟨(s_get (ci := 11) (k := 0) (am_dp pw_X11_isWhole_256 dd_X11_isWhole_256a.2.2.2.2.2.2.2) rfl (by decide) wd1333 inX11 rfl).to, ?_⟩
  refine List.forall_mem_cons.mpr ⟨(s_iload (am_dp pw_X11_isWhole_256 dd_X11_isWhole_256b.1)).to, ?_⟩
  refine List.forall_mem_cons.mpr ⟨(s_iconst (am_dp pw_X11_isWhole_256 dd_X11_isWhole_256b.2.1) (by decide)).to, ?_⟩
  refine List.forall_mem_cons.mpr ⟨(s_iadd (am_dp pw_X11_isWhole_256 dd_X11_isWhole_256b.2.2.1)).to, ?_⟩
  refine List.forall_mem_cons.mpr ⟨(s_iald (am_dp pw_X11_isWhole_256 dd_X11_isWhole_256b.2.2.2.1)).to, ?_⟩
  refine List.forall_mem_cons.mpr ⟨zw_cs219 (am_dp pw_X11_isWhole_256 dd_X11_isWhole_256b.2.2.2.2.1) wd1823, ?_⟩
  refine List.forall_mem_cons.mpr ⟨(s_if_ne (am_dp pw_X11_isWhole_256 dd_X11_isWhole_256b.2.2.2.2.2.1) (by decide)).to, ?_⟩
  refine List.forall_mem_cons.mpr ⟨(s_iconst (am_dp pw_X11_isWhole_256 dd_X11_isWhole_256b.2.2.2.2.2.2.1) (by decide)).to, ?_⟩
  refine List.forall_mem_cons.mpr ⟨s_zret (am_dp pw_X11_isWhole_256 dd_X11_isWhole_256b.2.2.2.2.2.2.2) rfl, ?_⟩
  refine List.forall_mem_cons.mpr ⟨(s_iinc (am_dp pw_X11_isWhole_256 dd_X11_isWhole_256c.1) (by decide) (by decide)).to, ?_⟩
  refine List.forall_mem_cons.mpr ⟨(s_goto (am_dp pw_X11_isWhole_256 dd_X11_isWhole_256c.2) (by decide)).to, ?_⟩
  refine List.forall_mem_cons.mpr ⟨(s_iconst (am_dp pw_X11_isWhole_288 dd_X11_isWhole_288a.1) (by decide)).to, ?_⟩
  refine List.forall_mem_cons.mpr ⟨s_zret (am_dp pw_X11_isWhole_288 dd_X11_isWhole_288a.2) rfl, ?_⟩
  exact fun _ h => absurd h List.not_mem_nil
theorem sn_tX11_isWhole : ∀ q ∈ tX11_isWhole, am_Snd am_P0 RX11 cX11_isWhole 7 (Option.some FieldType.boolean) "isWhole" q.1 q.2 := by
  unfold tX11_isWhole
  exact List.forall_mem_append.mpr ⟨List.forall_mem_append.mpr ⟨sn_tX11_isWhole_0, sn_tX11_isWhole_1⟩, sn_tX11_isWhole_2⟩
theorem sn_tX11_on_0 : ∀ q ∈ tX11_on_0, am_Snd am_P0 RX11 cX11_on 4 (Option.some FieldType.boolean) "on" q.1 q.2 := by
  unfold tX11_on_0
  refine List.forall_mem_cons.mpr ⟨(s_aloadn (am_dp pw_X11_on_0 dd_X11_on_0a.1) rfl).to, ?_⟩
  refine List.forall_mem_cons.mpr ⟨(s_get (ci := 11) (k := 1) (am_dp pw_X11_on_0 dd_X11_on_0a.2.1) rfl (by decide) wd1334 inX11 rfl).to, ?_⟩
  refine List.forall_mem_cons.mpr ⟨(s_istoren (am_dp pw_X11_on_0 dd_X11_on_0a.2.2.1) rfl (by decide)).to, ?_⟩
  refine List.forall_mem_cons.mpr ⟨(s_aloadn (am_dp pw_X11_on_0 dd_X11_on_0a.2.2.2.1) rfl).to, ?_⟩
  refine List.forall_mem_cons.mpr ⟨(s_iconst (am_dp pw_X11_on_0 dd_X11_on_0a.2.2.2.2.1) (by decide)).to, ?_⟩
  refine List.forall_mem_cons.mpr ⟨(s_put (ci := 11) (k := 1) (am_dp pw_X11_on_0 dd_X11_on_0a.2.2.2.2.2.1) rfl (by decide) wd1334 inX11 tyX11_ok nmX11 rfl rfl).to, ?_⟩
  refine List.forall_mem_cons.mpr ⟨(s_aloadn (am_dp pw_X11_on_0 dd_X11_on_0a.2.2.2.2.2.2.1) rfl).to, ?_⟩
  refine List.forall_mem_cons.mpr ⟨(s_iloadn (am_dp pw_X11_on_0 dd_X11_on_0a.2.2.2.2.2.2.2) rfl).to, ?_⟩
  refine List.forall_mem_cons.mpr ⟨zw_cv301 (am_dp pw_X11_on_0 dd_X11_on_0b.1) wd2146, ?_⟩
  refine List.forall_mem_cons.mpr ⟨(s_if_ne (am_dp pw_X11_on_0 dd_X11_on_0b.2.1) (by decide)).to, ?_⟩
  refine List.forall_mem_cons.mpr ⟨(s_aloadn (am_dp pw_X11_on_0 dd_X11_on_0b.2.2.1) rfl).to, ?_⟩
  refine List.forall_mem_cons.mpr ⟨(s_iconst (am_dp pw_X11_on_0 dd_X11_on_0b.2.2.2.1) (by decide)).to, ?_⟩
  refine List.forall_mem_cons.mpr ⟨zw_cv208 (am_dp pw_X11_on_0 dd_X11_on_0b.2.2.2.2.1) wd1587, ?_⟩
  refine List.forall_mem_cons.mpr ⟨(s_if_lt (am_dp pw_X11_on_0 dd_X11_on_0b.2.2.2.2.2.1) (by decide)).to, ?_⟩
  refine List.forall_mem_cons.mpr ⟨(s_iconst (am_dp pw_X11_on_0 dd_X11_on_0b.2.2.2.2.2.2.1) (by decide)).to, ?_⟩
  refine List.forall_mem_cons.mpr ⟨(s_goto (am_dp pw_X11_on_0 dd_X11_on_0b.2.2.2.2.2.2.2) (by decide)).to, ?_⟩
  refine List.forall_mem_cons.mpr ⟨(s_iconst (am_dp pw_X11_on_0 dd_X11_on_0c.1) (by decide)).to, ?_⟩
  refine List.forall_mem_cons.mpr ⟨s_zret (am_dp pw_X11_on_0 dd_X11_on_0c.2) rfl, ?_⟩
  refine List.forall_mem_cons.mpr ⟨(s_iconst (am_dp pw_X11_on_32 dd_X11_on_32a.1) (by decide)).to, ?_⟩
  refine List.forall_mem_cons.mpr ⟨(s_istoren (am_dp pw_X11_on_32 dd_X11_on_32a.2.1) rfl (by decide)).to, ?_⟩
  refine List.forall_mem_cons.mpr ⟨(s_iloadn (am_dp pw_X11_on_32 dd_X11_on_32a.2.2.1) rfl).to, ?_⟩
  refine List.forall_mem_cons.mpr ⟨(s_sipush (am_dp pw_X11_on_32 dd_X11_on_32a.2.2.2.1) (by decide)).to, ?_⟩
  refine List.forall_mem_cons.mpr ⟨(s_icmp_ge (am_dp pw_X11_on_32 dd_X11_on_32a.2.2.2.2.1) (by decide)).to, ?_⟩
  refine List.forall_mem_cons.mpr ⟨(s_aloadn (am_dp pw_X11_on_32 dd_X11_on_32a.2.2.2.2.2.1) rfl).to, ?_⟩
  refine List.forall_mem_cons.mpr ⟨(s_get (ci := 11) (k := 26) (am_dp pw_X11_on_32 dd_X11_on_32a.2.2.2.2.2.2.1) rfl (by decide) wd1359 inX11 rfl).to, ?_⟩
  refine List.forall_mem_cons.mpr ⟨(s_sipush (am_dp pw_X11_on_32 dd_X11_on_32a.2.2.2.2.2.2.2) (by decide)).to, ?_⟩
  refine List.forall_mem_cons.mpr ⟨(s_aloadn (am_dp pw_X11_on_32 dd_X11_on_32b.1) rfl).to, ?_⟩
  refine List.forall_mem_cons.mpr ⟨(s_get (ci := 11) (k := 12) (am_dp pw_X11_on_32 dd_X11_on_32b.2.1) rfl (by decide) wd1345 inX11 rfl).to, ?_⟩
  refine List.forall_mem_cons.mpr ⟨(s_imul (am_dp pw_X11_on_32 dd_X11_on_32b.2.2.1)).to, ?_⟩
  refine List.forall_mem_cons.mpr ⟨(s_iloadn (am_dp pw_X11_on_32 dd_X11_on_32b.2.2.2.1) rfl).to, ?_⟩
  refine List.forall_mem_cons.mpr ⟨(s_iadd (am_dp pw_X11_on_32 dd_X11_on_32b.2.2.2.2.1)).to, ?_⟩
  refine List.forall_mem_cons.mpr ⟨(s_iconst (am_dp pw_X11_on_32 dd_X11_on_32b.2.2.2.2.2.1) (by decide)).to, ?_⟩
  refine List.forall_mem_cons.mpr ⟨(s_iast (am_dp pw_X11_on_32 dd_X11_on_32b.2.2.2.2.2.2.1)).to, ?_⟩
  refine List.forall_mem_cons.mpr ⟨(s_iinc (am_dp pw_X11_on_32 dd_X11_on_32b.2.2.2.2.2.2.2) (by decide) (by decide)).to, ?_⟩
  refine List.forall_mem_cons.mpr ⟨(s_goto (am_dp pw_X11_on_32 dd_X11_on_32c.1) (by decide)).to, ?_⟩
  refine List.forall_mem_cons.mpr ⟨(s_aloadn (am_dp pw_X11_on_32 dd_X11_on_32c.2) rfl).to, ?_⟩
  refine List.forall_mem_cons.mpr ⟨(s_get (ci := 11) (k := 25) (am_dp pw_X11_on_64 dd_X11_on_64a.1) rfl (by decide) wd1358 inX11 rfl).to, ?_⟩
  refine List.forall_mem_cons.mpr ⟨(s_aloadn (am_dp pw_X11_on_64 dd_X11_on_64a.2.1) rfl).to, ?_⟩
  refine List.forall_mem_cons.mpr ⟨(s_get (ci := 11) (k := 12) (am_dp pw_X11_on_64 dd_X11_on_64a.2.2.1) rfl (by decide) wd1345 inX11 rfl).to, ?_⟩
  refine List.forall_mem_cons.mpr ⟨(s_iconst (am_dp pw_X11_on_64 dd_X11_on_64a.2.2.2.1) (by decide)).to, ?_⟩
  refine List.forall_mem_cons.mpr ⟨(s_iast (am_dp pw_X11_on_64 dd_X11_on_64a.2.2.2.2.1)).to, ?_⟩
  refine List.forall_mem_cons.mpr ⟨(s_aloadn (am_dp pw_X11_on_64 dd_X11_on_64a.2.2.2.2.2.1) rfl).to, ?_⟩
  refine List.forall_mem_cons.mpr ⟨(s_get (ci := 11) (k := 33) (am_dp pw_X11_on_64 dd_X11_on_64a.2.2.2.2.2.2.1) rfl (by decide) wd1366 inX11 rfl).to, ?_⟩
  refine List.forall_mem_cons.mpr ⟨(s_aloadn (am_dp pw_X11_on_64 dd_X11_on_64a.2.2.2.2.2.2.2) rfl).to, ?_⟩
  refine List.forall_mem_cons.mpr ⟨(s_get (ci := 11) (k := 12) (am_dp pw_X11_on_64 dd_X11_on_64b.1) rfl (by decide) wd1345 inX11 rfl).to, ?_⟩
  refine List.forall_mem_cons.mpr ⟨(s_iconst (am_dp pw_X11_on_64 dd_X11_on_64b.2.1) (by decide)).to, ?_⟩
  refine List.forall_mem_cons.mpr ⟨(s_iast (am_dp pw_X11_on_64 dd_X11_on_64b.2.2.1)).to, ?_⟩
  refine List.forall_mem_cons.mpr ⟨(s_iconst (am_dp pw_X11_on_64 dd_X11_on_64b.2.2.2.1) (by decide)).to, ?_⟩
  refine List.forall_mem_cons.mpr ⟨(s_iconst (am_dp pw_X11_on_64 dd_X11_on_64b.2.2.2.2.1) (by decide)).to, ?_⟩
  refine List.forall_mem_cons.mpr ⟨(s_aloadn (am_dp pw_X11_on_64 dd_X11_on_64b.2.2.2.2.2.1) rfl).to, ?_⟩
  refine List.forall_mem_cons.mpr ⟨(s_get (ci := 11) (k := 0) (am_dp pw_X11_on_64 dd_X11_on_64b.2.2.2.2.2.2.1) rfl (by decide) wd1333 inX11 rfl).to, ?_⟩
  refine List.forall_mem_cons.mpr ⟨(s_iconst (am_dp pw_X11_on_64 dd_X11_on_64b.2.2.2.2.2.2.2) (by decide)).to, ?_⟩
  refine List.forall_mem_cons.mpr ⟨(s_iald (am_dp pw_X11_on_64 dd_X11_on_64c.1)).to, ?_⟩
  refine List.forall_mem_cons.mpr ⟨(s_imul (am_dp pw_X11_on_64 dd_X11_on_64c.2.1)).to, ?_⟩
  refine List.forall_mem_cons.mpr ⟨(s_iadd (am_dp pw_X11_on_64 dd_X11_on_64c.2.2.1)).to, ?_⟩
  refine List.forall_mem_cons.mpr ⟨(s_istoren (am_dp pw_X11_on_64 dd_X11_on_64c.2.2.2.1) rfl (by decide)).to, ?_⟩
  refine List.forall_mem_cons.mpr ⟨(s_iconst (am_dp pw_X11_on_64 dd_X11_on_64c.2.2.2.2.1) (by decide)).to, ?_⟩
  refine List.forall_mem_cons.mpr ⟨(s_istoren (am_dp pw_X11_on_64 dd_X11_on_64c.2.2.2.2.2) rfl (by decide)).to, ?_⟩
  refine List.forall_mem_cons.mpr ⟨(s_iloadn (am_dp pw_X11_on_96 dd_X11_on_96a.1) rfl).to, ?_⟩
  refine List.forall_mem_cons.mpr ⟨(s_iloadn (am_dp pw_X11_on_96 dd_X11_on_96a.2.1) rfl).to, ?_⟩
  exact fun _ h => absurd h List.not_mem_nil
theorem sn_tX11_on_1 : ∀ q ∈ tX11_on_1, am_Snd am_P0 RX11 cX11_on 4 (Option.some FieldType.boolean) "on" q.1 q.2 := by
  unfold tX11_on_1
  refine List.forall_mem_cons.mpr ⟨(s_icmp_ge (am_dp pw_X11_on_96 dd_X11_on_96a.2.2.1) (by decide)).to, ?_⟩
  refine List.forall_mem_cons.mpr ⟨(s_aloadn (am_dp pw_X11_on_96 dd_X11_on_96a.2.2.2.1) rfl).to, ?_⟩
  refine List.forall_mem_cons.mpr ⟨(s_aloadn (am_dp pw_X11_on_96 dd_X11_on_96a.2.2.2.2.1) rfl).to, ?_⟩
  refine List.forall_mem_cons.mpr ⟨(s_get (ci := 11) (k := 0) (am_dp pw_X11_on_96 dd_X11_on_96a.2.2.2.2.2.1) rfl (by decide) wd1333 inX11 rfl).to, ?_⟩
  refine List.forall_mem_cons.mpr ⟨(s_iloadn (am_dp pw_X11_on_96 dd_X11_on_96a.2.2.2.2.2.2.1) rfl).to, ?_⟩
  refine List.forall_mem_cons.mpr ⟨(s_iald (am_dp pw_X11_on_96 dd_X11_on_96a.2.2.2.2.2.2.2)).to, ?_⟩
  refine List.forall_mem_cons.mpr ⟨(s_aloadn (am_dp pw_X11_on_96 dd_X11_on_96b.1) rfl).to, ?_⟩
  refine List.forall_mem_cons.mpr ⟨(s_get (ci := 11) (k := 0) (am_dp pw_X11_on_96 dd_X11_on_96b.2.1) rfl (by decide) wd1333 inX11 rfl).to, ?_⟩
  refine List.forall_mem_cons.mpr ⟨(s_iloadn (am_dp pw_X11_on_96 dd_X11_on_96b.2.2.1) rfl).to, ?_⟩
  refine List.forall_mem_cons.mpr ⟨(s_iconst (am_dp pw_X11_on_96 dd_X11_on_96b.2.2.2.1) (by decide)).to, ?_⟩
  refine List.forall_mem_cons.mpr ⟨(s_iadd (am_dp pw_X11_on_96 dd_X11_on_96b.2.2.2.2.1)).to, ?_⟩
  refine List.forall_mem_cons.mpr ⟨(s_iald (am_dp pw_X11_on_96 dd_X11_on_96b.2.2.2.2.2.1)).to, ?_⟩
  refine List.forall_mem_cons.mpr ⟨(s_aloadn (am_dp pw_X11_on_96 dd_X11_on_96b.2.2.2.2.2.2.1) rfl).to, ?_⟩
  refine List.forall_mem_cons.mpr ⟨(s_get (ci := 11) (k := 0) (am_dp pw_X11_on_96 dd_X11_on_96b.2.2.2.2.2.2.2) rfl (by decide) wd1333 inX11 rfl).to, ?_⟩
  refine List.forall_mem_cons.mpr ⟨(s_iloadn (am_dp pw_X11_on_96 dd_X11_on_96c.1) rfl).to, ?_⟩
  refine List.forall_mem_cons.mpr ⟨(s_iconst (am_dp pw_X11_on_96 dd_X11_on_96c.2.1) (by decide)).to, ?_⟩
  refine List.forall_mem_cons.mpr ⟨(s_iadd (am_dp pw_X11_on_96 dd_X11_on_96c.2.2.1)).to, ?_⟩
  refine List.forall_mem_cons.mpr ⟨(s_iald (am_dp pw_X11_on_96 dd_X11_on_96c.2.2.2.1)).to, ?_⟩
  refine List.forall_mem_cons.mpr ⟨(s_aloadn (am_dp pw_X11_on_96 dd_X11_on_96c.2.2.2.2.1) rfl).to, ?_⟩
  refine List.forall_mem_cons.mpr ⟨(s_get (ci := 11) (k := 0) (am_dp pw_X11_on_96 dd_X11_on_96c.2.2.2.2.2) rfl (by decide) wd1333 inX11 rfl).to, ?_⟩
  refine List.forall_mem_cons.mpr ⟨(s_iloadn (am_dp pw_X11_on_128 dd_X11_on_128a.1) rfl).to, ?_⟩
  refine List.forall_mem_cons.mpr ⟨(s_iconst (am_dp pw_X11_on_128 dd_X11_on_128a.2.1) (by decide)).to, ?_⟩
  refine List.forall_mem_cons.mpr ⟨(s_iadd (am_dp pw_X11_on_128 dd_X11_on_128a.2.2.1)).to, ?_⟩
  refine List.forall_mem_cons.mpr ⟨(s_iald (am_dp pw_X11_on_128 dd_X11_on_128a.2.2.2.1)).to, ?_⟩
  refine List.forall_mem_cons.mpr ⟨(s_iconst (am_dp pw_X11_on_128 dd_X11_on_128a.2.2.2.2.1) (by decide)).to, ?_⟩
  refine List.forall_mem_cons.mpr ⟨(s_icmp_ne (am_dp pw_X11_on_128 dd_X11_on_128a.2.2.2.2.2.1) (by decide)).to, ?_⟩
  refine List.forall_mem_cons.mpr ⟨(s_iconst (am_dp pw_X11_on_128 dd_X11_on_128a.2.2.2.2.2.2.1) (by decide)).to, ?_⟩
  refine List.forall_mem_cons.mpr ⟨(s_goto (am_dp pw_X11_on_128 dd_X11_on_128a.2.2.2.2.2.2.2) (by decide)).to, ?_⟩
  refine List.forall_mem_cons.mpr ⟨(s_iconst (am_dp pw_X11_on_128 dd_X11_on_128b.1) (by decide)).to, ?_⟩
  refine List.forall_mem_cons.mpr ⟨zw_cv293 (am_dp pw_X11_on_128 dd_X11_on_128b.2.1) wd2110, ?_⟩
  refine List.forall_mem_cons.mpr ⟨(s_iinc (am_dp pw_X11_on_128 dd_X11_on_128b.2.2.1) (by decide) (by decide)).to, ?_⟩
  refine List.forall_mem_cons.mpr ⟨(s_goto (am_dp pw_X11_on_128 dd_X11_on_128b.2.2.2.1) (by decide)).to, ?_⟩
  refine List.forall_mem_cons.mpr ⟨(s_iloadn (am_dp pw_X11_on_128 dd_X11_on_128b.2.2.2.2.1) rfl).to, ?_⟩
  refine List.forall_mem_cons.mpr ⟨(s_iconst (am_dp pw_X11_on_128 dd_X11_on_128b.2.2.2.2.2.1) (by decide)).to, ?_⟩
  refine List.forall_mem_cons.mpr ⟨(s_iadd (am_dp pw_X11_on_128 dd_X11_on_128b.2.2.2.2.2.2.1)).to, ?_⟩
  refine List.forall_mem_cons.mpr ⟨(s_istoren (am_dp pw_X11_on_128 dd_X11_on_128b.2.2.2.2.2.2.2) rfl (by decide)).to, ?_⟩
  refine List.forall_mem_cons.mpr ⟨(s_iloadn (am_dp pw_X11_on_128 dd_X11_on_128c.1) rfl).to, ?_⟩
  refine List.forall_mem_cons.mpr ⟨(s_iloadn (am_dp pw_X11_on_128 dd_X11_on_128c.2.1) rfl).to, ?_⟩
  refine List.forall_mem_cons.mpr ⟨(s_iconst (am_dp pw_X11_on_128 dd_X11_on_128c.2.2.1) (by decide)).to, ?_⟩
  refine List.forall_mem_cons.mpr ⟨(s_isub (am_dp pw_X11_on_128 dd_X11_on_128c.2.2.2.1)).to, ?_⟩
  refine List.forall_mem_cons.mpr ⟨(s_icmp_ge (am_dp pw_X11_on_128 dd_X11_on_128c.2.2.2.2) (by decide)).to, ?_⟩
  refine List.forall_mem_cons.mpr ⟨(s_aloadn (am_dp pw_X11_on_160 dd_X11_on_160a.1) rfl).to, ?_⟩
  refine List.forall_mem_cons.mpr ⟨(s_aloadn (am_dp pw_X11_on_160 dd_X11_on_160a.2.1) rfl).to, ?_⟩
  refine List.forall_mem_cons.mpr ⟨(s_get (ci := 11) (k := 0) (am_dp pw_X11_on_160 dd_X11_on_160a.2.2.1) rfl (by decide) wd1333 inX11 rfl).to, ?_⟩
  refine List.forall_mem_cons.mpr ⟨(s_iloadn (am_dp pw_X11_on_160 dd_X11_on_160a.2.2.2.1) rfl).to, ?_⟩
  refine List.forall_mem_cons.mpr ⟨(s_iald (am_dp pw_X11_on_160 dd_X11_on_160a.2.2.2.2.1)).to, ?_⟩
  refine List.forall_mem_cons.mpr ⟨(s_aloadn (am_dp pw_X11_on_160 dd_X11_on_160a.2.2.2.2.2.1) rfl).to, ?_⟩
  refine List.forall_mem_cons.mpr ⟨(s_get (ci := 11) (k := 0) (am_dp pw_X11_on_160 dd_X11_on_160a.2.2.2.2.2.2.1) rfl (by decide) wd1333 inX11 rfl).to, ?_⟩
  refine List.forall_mem_cons.mpr ⟨(s_iloadn (am_dp pw_X11_on_160 dd_X11_on_160a.2.2.2.2.2.2.2) rfl).to, ?_⟩
  refine List.forall_mem_cons.mpr ⟨(s_iconst (am_dp pw_X11_on_160 dd_X11_on_160b.1) (by decide)).to, ?_⟩
  refine List.forall_mem_cons.mpr ⟨(s_iadd (am_dp pw_X11_on_160 dd_X11_on_160b.2.1)).to, ?_⟩
  refine List.forall_mem_cons.mpr ⟨(s_iald (am_dp pw_X11_on_160 dd_X11_on_160b.2.2.1)).to, ?_⟩
  refine List.forall_mem_cons.mpr ⟨(s_aloadn (am_dp pw_X11_on_160 dd_X11_on_160b.2.2.2.1) rfl).to, ?_⟩
  refine List.forall_mem_cons.mpr ⟨(s_get (ci := 11) (k := 0) (am_dp pw_X11_on_160 dd_X11_on_160b.2.2.2.2.1) rfl (by decide) wd1333 inX11 rfl).to, ?_⟩
  refine List.forall_mem_cons.mpr ⟨(s_iloadn (am_dp pw_X11_on_160 dd_X11_on_160b.2.2.2.2.2.1) rfl).to, ?_⟩
  refine List.forall_mem_cons.mpr ⟨(s_iconst (am_dp pw_X11_on_160 dd_X11_on_160b.2.2.2.2.2.2.1) (by decide)).to, ?_⟩
  refine List.forall_mem_cons.mpr ⟨(s_iadd (am_dp pw_X11_on_160 dd_X11_on_160b.2.2.2.2.2.2.2)).to, ?_⟩
  refine List.forall_mem_cons.mpr ⟨(s_iald (am_dp pw_X11_on_160 dd_X11_on_160c.1)).to, ?_⟩
  refine List.forall_mem_cons.mpr ⟨zw_cv296 (am_dp pw_X11_on_160 dd_X11_on_160c.2.1) wd2126, ?_⟩
  refine List.forall_mem_cons.mpr ⟨(s_iinc (am_dp pw_X11_on_160 dd_X11_on_160c.2.2.1) (by decide) (by decide)).to, ?_⟩
  exact fun _ h => absurd h List.not_mem_nil
theorem sn_tX11_on_2 : ∀ q ∈ tX11_on_2, am_Snd am_P0 RX11 cX11_on 4 (Option.some FieldType.boolean) "on" q.1 q.2 := by
  unfold tX11_on_2
  refine List.forall_mem_cons.mpr ⟨(s_goto (am_dp pw_X11_on_160 dd_X11_on_160c.2.2.2) (by decide)).to, ?_⟩
  refine List.forall_mem_cons.mpr ⟨(s_iconst (am_dp pw_X11_on_192 dd_X11_on_192a.1) (by decide)).to, ?_⟩
  refine List.forall_mem_cons.mpr ⟨s_zret (am_dp pw_X11_on_192 dd_X11_on_192a.2) rfl, ?_⟩
  exact fun _ h => absurd h List.not_mem_nil
theorem sn_tX11_on : ∀ q ∈ tX11_on, am_Snd am_P0 RX11 cX11_on 4 (Option.some FieldType.boolean) "on" q.1 q.2 := by
  unfold tX11_on
  exact List.forall_mem_append.mpr ⟨List.forall_mem_append.mpr ⟨sn_tX11_on_0, sn_tX11_on_1⟩, sn_tX11_on_2⟩
end
