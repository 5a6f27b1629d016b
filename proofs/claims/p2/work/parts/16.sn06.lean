/-! the machine follows each instruction (by program: gen_prog.py) -/
theorem sn_tX11_isSign : ∀ q ∈ tX11_isSign, am_Snd am_P0 RX11 cX11_isSign 2 (Option.some FieldType.boolean) "isSign" q.1 q.2 := by
  unfold tX11_isSign
  refine List.forall_mem_cons.mpr ⟨(s_aloadn (am_dp pw_X11_isSign_0 dd_X11_isSign_0a.1) rfl).to, ?_⟩
  refine List.forall_mem_cons.mpr ⟨(s_get (ci := 11) (k := 3) (am_dp pw_X11_isSign_0 dd_X11_isSign_0a.2.1) rfl (by decide) wd1336 inX11 rfl).to, ?_⟩
  refine List.forall_mem_cons.mpr ⟨(s_iconst (am_dp pw_X11_isSign_0 dd_X11_isSign_0a.2.2.1) (by decide)).to, ?_⟩
  refine List.forall_mem_cons.mpr ⟨(s_icmp_ne (am_dp pw_X11_isSign_0 dd_X11_isSign_0a.2.2.2.1) (by decide)).to, ?_⟩
  refine List.forall_mem_cons.mpr ⟨(s_aloadn (am_dp pw_X11_isSign_0 dd_X11_isSign_0a.2.2.2.2.1) rfl).to, ?_⟩
  refine List.forall_mem_cons.mpr ⟨(s_get (ci := 11) (k := 6) (am_dp pw_X11_isSign_0 dd_X11_isSign_0a.2.2.2.2.2.1) rfl (by decide) wd1339 inX11 rfl).to, ?_⟩
  refine List.forall_mem_cons.mpr ⟨(s_iloadn (am_dp pw_X11_isSign_0 dd_X11_isSign_0a.2.2.2.2.2.2.1) rfl).to, ?_⟩
  refine List.forall_mem_cons.mpr ⟨(s_icmp_ne (am_dp pw_X11_isSign_0 dd_X11_isSign_0a.2.2.2.2.2.2.2) (by decide)).to, ?_⟩
  refine List.forall_mem_cons.mpr ⟨(s_iconst (am_dp pw_X11_isSign_0 dd_X11_isSign_0b.1) (by decide)).to, ?_⟩
  refine List.forall_mem_cons.mpr ⟨(s_goto (am_dp pw_X11_isSign_0 dd_X11_isSign_0b.2.1) (by decide)).to, ?_⟩
  refine List.forall_mem_cons.mpr ⟨(s_iconst (am_dp pw_X11_isSign_0 dd_X11_isSign_0b.2.2.1) (by decide)).to, ?_⟩
  refine List.forall_mem_cons.mpr ⟨s_zret (am_dp pw_X11_isSign_0 dd_X11_isSign_0b.2.2.2) rfl, ?_⟩
  exact fun _ h => absurd h List.not_mem_nil
theorem sn_tX11_isWord : ∀ q ∈ tX11_isWord, am_Snd am_P0 RX11 cX11_isWord 3 (Option.some FieldType.boolean) "isWord" q.1 q.2 := by
  unfold tX11_isWord
  refine List.forall_mem_cons.mpr ⟨(s_aloadn (am_dp pw_X11_isWord_0 dd_X11_isWord_0a.1) rfl).to, ?_⟩
  refine List.forall_mem_cons.mpr ⟨(s_get (ci := 11) (k := 3) (am_dp pw_X11_isWord_0 dd_X11_isWord_0a.2.1) rfl (by decide) wd1336 inX11 rfl).to, ?_⟩
  refine List.forall_mem_cons.mpr ⟨(s_iconst (am_dp pw_X11_isWord_0 dd_X11_isWord_0a.2.2.1) (by decide)).to, ?_⟩
  refine List.forall_mem_cons.mpr ⟨(s_icmp_ne (am_dp pw_X11_isWord_0 dd_X11_isWord_0a.2.2.2.1) (by decide)).to, ?_⟩
  refine List.forall_mem_cons.mpr ⟨(s_aloadn (am_dp pw_X11_isWord_0 dd_X11_isWord_0a.2.2.2.2.1) rfl).to, ?_⟩
  refine List.forall_mem_cons.mpr ⟨(s_get (ci := 11) (k := 7) (am_dp pw_X11_isWord_0 dd_X11_isWord_0a.2.2.2.2.2.1) rfl (by decide) wd1340 inX11 rfl).to, ?_⟩
  refine List.forall_mem_cons.mpr ⟨(s_lloadn (am_dp pw_X11_isWord_0 dd_X11_isWord_0a.2.2.2.2.2.2.1) rfl).to, ?_⟩
  refine List.forall_mem_cons.mpr ⟨(s_lcmp (am_dp pw_X11_isWord_0 dd_X11_isWord_0a.2.2.2.2.2.2.2)).to, ?_⟩
  refine List.forall_mem_cons.mpr ⟨(s_if_ne (am_dp pw_X11_isWord_0 dd_X11_isWord_0b.1) (by decide)).to, ?_⟩
  refine List.forall_mem_cons.mpr ⟨(s_iconst (am_dp pw_X11_isWord_0 dd_X11_isWord_0b.2.1) (by decide)).to, ?_⟩
  refine List.forall_mem_cons.mpr ⟨(s_goto (am_dp pw_X11_isWord_0 dd_X11_isWord_0b.2.2.1) (by decide)).to, ?_⟩
  refine List.forall_mem_cons.mpr ⟨(s_iconst (am_dp pw_X11_isWord_0 dd_X11_isWord_0b.2.2.2.1) (by decide)).to, ?_⟩
  refine List.forall_mem_cons.mpr ⟨s_zret (am_dp pw_X11_isWord_0 dd_X11_isWord_0b.2.2.2.2) rfl, ?_⟩
  exact fun _ h => absurd h List.not_mem_nil
theorem sn_tX11_must : ∀ q ∈ tX11_must, am_Snd am_P0 RX11 cX11_must 2 (Option.none : Option FieldType) "must" q.1 q.2 := by
  unfold tX11_must
  refine List.forall_mem_cons.mpr ⟨(s_aloadn (am_dp pw_X11_must_0 dd_X11_must_0a.1) rfl).to, ?_⟩
  refine List.forall_mem_cons.mpr ⟨(s_iloadn (am_dp pw_X11_must_0 dd_X11_must_0a.2.1) rfl).to, ?_⟩
  refine List.forall_mem_cons.mpr ⟨zw_cv175 (am_dp pw_X11_must_0 dd_X11_must_0a.2.2.1) wd1637, ?_⟩
  refine List.forall_mem_cons.mpr ⟨(s_if_ne (am_dp pw_X11_must_0 dd_X11_must_0a.2.2.2.1) (by decide)).to, ?_⟩
  refine List.forall_mem_cons.mpr ⟨(s_aloadn (am_dp pw_X11_must_0 dd_X11_must_0a.2.2.2.2.1) rfl).to, ?_⟩
  refine List.forall_mem_cons.mpr ⟨(s_iconst (am_dp pw_X11_must_0 dd_X11_must_0a.2.2.2.2.2.1) (by decide)).to, ?_⟩
  refine List.forall_mem_cons.mpr ⟨(s_aloadn (am_dp pw_X11_must_0 dd_X11_must_0a.2.2.2.2.2.2.1) rfl).to, ?_⟩
  refine List.forall_mem_cons.mpr ⟨(s_get (ci := 11) (k := 4) (am_dp pw_X11_must_0 dd_X11_must_0a.2.2.2.2.2.2.2) rfl (by decide) wd1337 inX11 rfl).to, ?_⟩
  refine List.forall_mem_cons.mpr ⟨zw_cv171 (am_dp pw_X11_must_0 dd_X11_must_0b.1) wd1613, ?_⟩
  refine List.forall_mem_cons.mpr ⟨(s_aloadn (am_dp pw_X11_must_0 dd_X11_must_0b.2.1) rfl).to, ?_⟩
  refine List.forall_mem_cons.mpr ⟨(s_get (ci := 11) (k := 8) (am_dp pw_X11_must_0 dd_X11_must_0b.2.2.1) rfl (by decide) wd1341 inX11 rfl).to, ?_⟩
  refine List.forall_mem_cons.mpr ⟨(s_if_ne (am_dp pw_X11_must_0 dd_X11_must_0b.2.2.2.1) (by decide)).to, ?_⟩
  refine List.forall_mem_cons.mpr ⟨(s_aloadn (am_dp pw_X11_must_0 dd_X11_must_0b.2.2.2.2.1) rfl).to, ?_⟩
  refine List.forall_mem_cons.mpr ⟨zw_cv174 (am_dp pw_X11_must_0 dd_X11_must_0b.2.2.2.2.2.1) wd1603, ?_⟩
  refine List.forall_mem_cons.mpr ⟨s_vret (am_dp pw_X11_must_0 dd_X11_must_0b.2.2.2.2.2.2) rfl, ?_⟩
  exact fun _ h => absurd h List.not_mem_nil
theorem sn_tX11_isOwn_0 : ∀ q ∈ tX11_isOwn_0, am_Snd am_P0 RX11 cX11_isOwn 3 (Option.some FieldType.boolean) "isOwn" q.1 q.2 := by
  unfold tX11_isOwn_0
  refine List.forall_mem_cons.mpr ⟨(s_lloadn (am_dp pw_X11_isOwn_0 dd_X11_isOwn_0a.1) rfl).to, ?_⟩
  refine List.forall_mem_cons.mpr ⟨(s_ldc2 (am_dp pw_X11_isOwn_0 dd_X11_isOwn_0a.2.1) wd1621).to, ?_⟩
  refine List.forall_mem_cons.mpr ⟨(s_lcmp (am_dp pw_X11_isOwn_0 dd_X11_isOwn_0a.2.2.1)).to, ?_⟩
  refine List.forall_mem_cons.mpr ⟨(s_if_eq (am_dp pw_X11_isOwn_0 dd_X11_isOwn_0a.2.2.2.1) (by decide)).to, ?_⟩
  refine List.forall_mem_cons.mpr ⟨(s_lloadn (am_dp pw_X11_isOwn_0 dd_X11_isOwn_0a.2.2.2.2.1) rfl).to, ?_⟩
  refine List.forall_mem_cons.mpr ⟨(s_ldc2 (am_dp pw_X11_isOwn_0 dd_X11_isOwn_0a.2.2.2.2.2.1) wd1645).to, ?_⟩
  refine List.forall_mem_cons.mpr ⟨(s_lcmp (am_dp pw_X11_isOwn_0 dd_X11_isOwn_0a.2.2.2.2.2.2.1)).to, ?_⟩
  refine List.forall_mem_cons.mpr ⟨(s_if_eq (am_dp pw_X11_isOwn_0 dd_X11_isOwn_0a.2.2.2.2.2.2.2) (by decide)).to, ?_⟩
  refine List.forall_mem_cons.mpr ⟨(s_lloadn (am_dp pw_X11_isOwn_0 dd_X11_isOwn_0b.1) rfl).to, ?_⟩
  refine List.forall_mem_cons.mpr ⟨(s_ldc2 (am_dp pw_X11_isOwn_0 dd_X11_isOwn_0b.2.1) wd1712).to, ?_⟩
  refine List.forall_mem_cons.mpr ⟨(s_lcmp (am_dp pw_X11_isOwn_0 dd_X11_isOwn_0b.2.2.1)).to, ?_⟩
  refine List.forall_mem_cons.mpr ⟨(s_if_eq (am_dp pw_X11_isOwn_0 dd_X11_isOwn_0b.2.2.2.1) (by decide)).to, ?_⟩
  refine List.forall_mem_cons.mpr ⟨(s_lloadn (am_dp pw_X11_isOwn_0 dd_X11_isOwn_0b.2.2.2.2.1) rfl).to, ?_⟩
  refine List.forall_mem_cons.mpr ⟨(s_ldc2 (am_dp pw_X11_isOwn_0 dd_X11_isOwn_0b.2.2.2.2.2.1) wd1713).to, ?_⟩
  refine List.forall_mem_cons.mpr ⟨(s_lcmp (am_dp pw_X11_isOwn_0 dd_X11_isOwn_0b.2.2.2.2.2.2.1)).to, ?_⟩
  refine List.forall_mem_cons.mpr ⟨(s_if_eq (am_dp pw_X11_isOwn_0 dd_X11_isOwn_0b.2.2.2.2.2.2.2) (by decide)).to, ?_⟩
  refine List.forall_mem_cons.mpr ⟨(s_lloadn (am_dp pw_X11_isOwn_32 dd_X11_isOwn_32a.1) rfl).to, ?_⟩
  refine List.forall_mem_cons.mpr ⟨(s_ldc2 (am_dp pw_X11_isOwn_32 dd_X11_isOwn_32a.2.1) wd1714).to, ?_⟩
  refine List.forall_mem_cons.mpr ⟨(s_lcmp (am_dp pw_X11_isOwn_32 dd_X11_isOwn_32a.2.2.1)).to, ?_⟩
  refine List.forall_mem_cons.mpr ⟨(s_if_ne (am_dp pw_X11_isOwn_32 dd_X11_isOwn_32a.2.2.2.1) (by decide)).to, ?_⟩
  refine List.forall_mem_cons.mpr ⟨(s_iconst (am_dp pw_X11_isOwn_32 dd_X11_isOwn_32a.2.2.2.2.1) (by decide)).to, ?_⟩
  refine List.forall_mem_cons.mpr ⟨s_zret (am_dp pw_X11_isOwn_32 dd_X11_isOwn_32a.2.2.2.2.2.1) rfl, ?_⟩
  refine List.forall_mem_cons.mpr ⟨(s_lloadn (am_dp pw_X11_isOwn_32 dd_X11_isOwn_32a.2.2.2.2.2.2.1) rfl).to, ?_⟩
  refine List.forall_mem_cons.mpr ⟨(s_ldc2 (am_dp pw_X11_isOwn_32 dd_X11_isOwn_32a.2.2.2.2.2.2.2) wd1727).to, ?_⟩
  refine List.forall_mem_cons.mpr ⟨(s_lcmp (am_dp pw_X11_isOwn_32 dd_X11_isOwn_32b.1)).to, ?_⟩
  refine List.forall_mem_cons.mpr ⟨(s_if_eq (am_dp pw_X11_isOwn_32 dd_X11_isOwn_32b.2.1) (by decide)).to, ?_⟩
  refine List.forall_mem_cons.mpr ⟨(s_lloadn (am_dp pw_X11_isOwn_32 dd_X11_isOwn_32b.2.2.1) rfl).to, ?_⟩
  refine List.forall_mem_cons.mpr ⟨(s_ldc2 (am_dp pw_X11_isOwn_32 dd_X11_isOwn_32b.2.2.2.1) wd1728).to, ?_⟩
  refine List.forall_mem_cons.mpr ⟨(s_lcmp (am_dp pw_X11_isOwn_32 dd_X11_isOwn_32b.2.2.2.2.1)).to, ?_⟩
  refine List.forall_mem_cons.mpr ⟨(s_if_eq (am_dp pw_X11_isOwn_32 dd_X11_isOwn_32b.2.2.2.2.2.1) (by decide)).to, ?_⟩
  refine List.forall_mem_cons.mpr ⟨(s_lloadn (am_dp pw_X11_isOwn_32 dd_X11_isOwn_32b.2.2.2.2.2.2.1) rfl).to, ?_⟩
  refine List.forall_mem_cons.mpr ⟨(s_ldc2 (am_dp pw_X11_isOwn_32 dd_X11_isOwn_32b.2.2.2.2.2.2.2) wd1729).to, ?_⟩
  refine List.forall_mem_cons.mpr ⟨(s_lcmp (am_dp pw_X11_isOwn_32 dd_X11_isOwn_32c.1)).to, ?_⟩
  refine List.forall_mem_cons.mpr ⟨(s_if_eq (am_dp pw_X11_isOwn_32 dd_X11_isOwn_32c.2) (by decide)).to, ?_⟩
  refine List.forall_mem_cons.mpr ⟨(s_lloadn (am_dp pw_X11_isOwn_64 dd_X11_isOwn_64a.1) rfl).to, ?_⟩
  refine List.forall_mem_cons.mpr ⟨(s_ldc2 (am_dp pw_X11_isOwn_64 dd_X11_isOwn_64a.2.1) wd1730).to, ?_⟩
  refine List.forall_mem_cons.mpr ⟨(s_lcmp (am_dp pw_X11_isOwn_64 dd_X11_isOwn_64a.2.2.1)).to, ?_⟩
  refine List.forall_mem_cons.mpr ⟨(s_if_eq (am_dp pw_X11_isOwn_64 dd_X11_isOwn_64a.2.2.2.1) (by decide)).to, ?_⟩
  refine List.forall_mem_cons.mpr ⟨(s_lloadn (am_dp pw_X11_isOwn_64 dd_X11_isOwn_64a.2.2.2.2.1) rfl).to, ?_⟩
  refine List.forall_mem_cons.mpr ⟨(s_ldc2 (am_dp pw_X11_isOwn_64 dd_X11_isOwn_64a.2.2.2.2.2.1) wd1731).to, ?_⟩
  refine List.forall_mem_cons.mpr ⟨(s_lcmp (am_dp pw_X11_isOwn_64 dd_X11_isOwn_64a.2.2.2.2.2.2.1)).to, ?_⟩
  refine List.forall_mem_cons.mpr ⟨(s_if_ne (am_dp pw_X11_isOwn_64 dd_X11_isOwn_64a.2.2.2.2.2.2.2) (by decide)).to, ?_⟩
  refine List.forall_mem_cons.mpr ⟨(s_iconst (am_dp pw_X11_isOwn_64 dd_X11_isOwn_64b.1) (by decide)).to, ?_⟩
  refine List.forall_mem_cons.mpr ⟨s_zret (am_dp pw_X11_isOwn_64 dd_X11_isOwn_64b.2.1) rfl, ?_⟩
  refine List.forall_mem_cons.mpr ⟨(s_lloadn (am_dp pw_X11_isOwn_64 dd_X11_isOwn_64b.2.2.1) rfl).to, ?_⟩
  refine List.forall_mem_cons.mpr ⟨(s_ldc2 (am_dp pw_X11_isOwn_64 dd_X11_isOwn_64b.2.2.2.1) wd1732).to, ?_⟩
  refine List.forall_mem_cons.mpr ⟨(s_lcmp (am_dp pw_X11_isOwn_64 dd_X11_isOwn_64b.2.2.2.2.1)).to, ?_⟩
  refine List.forall_mem_cons.mpr ⟨(s_if_eq (am_dp pw_X11_isOwn_64 dd_X11_isOwn_64b.2.2.2.2.2.1) (by decide)).to, ?_⟩
  refine List.forall_mem_cons.mpr ⟨(s_lloadn (am_dp pw_X11_isOwn_64 dd_X11_isOwn_64b.2.2.2.2.2.2.1) rfl).to, ?_⟩
  refine List.forall_mem_cons.mpr ⟨(s_ldc2 (am_dp pw_X11_isOwn_64 dd_X11_isOwn_64b.2.2.2.2.2.2.2) wd1733).to, ?_⟩
  refine List.forall_mem_cons.mpr ⟨(s_lcmp (am_dp pw_X11_isOwn_96 dd_X11_isOwn_96a.1)).to, ?_⟩
  refine List.forall_mem_cons.mpr ⟨(s_if_eq (am_dp pw_X11_isOwn_96 dd_X11_isOwn_96a.2.1) (by decide)).to, ?_⟩
  refine List.forall_mem_cons.mpr ⟨(s_lloadn (am_dp pw_X11_isOwn_96 dd_X11_isOwn_96a.2.2.1) rfl).to, ?_⟩
  refine List.forall_mem_cons.mpr ⟨(s_ldc2 (am_dp pw_X11_isOwn_96 dd_X11_isOwn_96a.2.2.2.1) wd1734).to, ?_⟩
  refine List.forall_mem_cons.mpr ⟨(s_lcmp (am_dp pw_X11_isOwn_96 dd_X11_isOwn_96a.2.2.2.2.1)).to, ?_⟩
  refine List.forall_mem_cons.mpr ⟨(s_if_eq (am_dp pw_X11_isOwn_96 dd_X11_isOwn_96a.2.2.2.2.2.1) (by decide)).to, ?_⟩
  refine List.forall_mem_cons.mpr ⟨(s_lloadn (am_dp pw_X11_isOwn_96 dd_X11_isOwn_96a.2.2.2.2.2.2.1) rfl).to, ?_⟩
  refine List.forall_mem_cons.mpr ⟨(s_ldc2 (am_dp pw_X11_isOwn_96 dd_X11_isOwn_96a.2.2.2.2.2.2.2) wd1735).to, ?_⟩
  refine List.forall_mem_cons.mpr ⟨(s_lcmp (am_dp pw_X11_isOwn_96 dd_X11_isOwn_96b.1)).to, ?_⟩
  refine List.forall_mem_cons.mpr ⟨(s_if_eq (am_dp pw_X11_isOwn_96 dd_X11_isOwn_96b.2.1) (by decide)).to, ?_⟩
  exact fun _ h => absurd h List.not_mem_nil
theorem sn_tX11_isOwn_1 : ∀ q ∈ tX11_isOwn_1, am_Snd am_P0 RX11 cX11_isOwn 3 (Option.some FieldType.boolean) "isOwn" q.1 q.2 := by
  unfold tX11_isOwn_1
  refine List.forall_mem_cons.mpr ⟨(s_lloadn (am_dp pw_X11_isOwn_96 dd_X11_isOwn_96b.2.2.1) rfl).to, ?_⟩
  refine List.forall_mem_cons.mpr ⟨(s_ldc2 (am_dp pw_X11_isOwn_96 dd_X11_isOwn_96b.2.2.2.1) wd1736).to, ?_⟩
  refine List.forall_mem_cons.mpr ⟨(s_lcmp (am_dp pw_X11_isOwn_96 dd_X11_isOwn_96b.2.2.2.2.1)).to, ?_⟩
  refine List.forall_mem_cons.mpr ⟨(s_if_ne (am_dp pw_X11_isOwn_96 dd_X11_isOwn_96b.2.2.2.2.2.1) (by decide)).to, ?_⟩
  refine List.forall_mem_cons.mpr ⟨(s_iconst (am_dp pw_X11_isOwn_96 dd_X11_isOwn_96b.2.2.2.2.2.2.1) (by decide)).to, ?_⟩
  refine List.forall_mem_cons.mpr ⟨s_zret (am_dp pw_X11_isOwn_96 dd_X11_isOwn_96b.2.2.2.2.2.2.2) rfl, ?_⟩
  refine List.forall_mem_cons.mpr ⟨(s_lloadn (am_dp pw_X11_isOwn_96 dd_X11_isOwn_96c.1) rfl).to, ?_⟩
  refine List.forall_mem_cons.mpr ⟨(s_ldc2 (am_dp pw_X11_isOwn_96 dd_X11_isOwn_96c.2) wd1737).to, ?_⟩
  refine List.forall_mem_cons.mpr ⟨(s_lcmp (am_dp pw_X11_isOwn_128 dd_X11_isOwn_128a.1)).to, ?_⟩
  refine List.forall_mem_cons.mpr ⟨(s_if_eq (am_dp pw_X11_isOwn_128 dd_X11_isOwn_128a.2.1) (by decide)).to, ?_⟩
  refine List.forall_mem_cons.mpr ⟨(s_lloadn (am_dp pw_X11_isOwn_128 dd_X11_isOwn_128a.2.2.1) rfl).to, ?_⟩
  refine List.forall_mem_cons.mpr ⟨(s_ldc2 (am_dp pw_X11_isOwn_128 dd_X11_isOwn_128a.2.2.2.1) wd1693).to, ?_⟩
  refine List.forall_mem_cons.mpr ⟨(s_lcmp (am_dp pw_X11_isOwn_128 dd_X11_isOwn_128a.2.2.2.2.1)).to, ?_⟩
  refine List.forall_mem_cons.mpr ⟨(s_if_eq (am_dp pw_X11_isOwn_128 dd_X11_isOwn_128a.2.2.2.2.2.1) (by decide)).to, ?_⟩
  refine List.forall_mem_cons.mpr ⟨(s_lloadn (am_dp pw_X11_isOwn_128 dd_X11_isOwn_128a.2.2.2.2.2.2.1) rfl).to, ?_⟩
  refine List.forall_mem_cons.mpr ⟨(s_ldc2 (am_dp pw_X11_isOwn_128 dd_X11_isOwn_128a.2.2.2.2.2.2.2) wd1738).to, ?_⟩
  refine List.forall_mem_cons.mpr ⟨(s_lcmp (am_dp pw_X11_isOwn_128 dd_X11_isOwn_128b.1)).to, ?_⟩
  refine List.forall_mem_cons.mpr ⟨(s_if_eq (am_dp pw_X11_isOwn_128 dd_X11_isOwn_128b.2.1) (by decide)).to, ?_⟩
  refine List.forall_mem_cons.mpr ⟨(s_lloadn (am_dp pw_X11_isOwn_128 dd_X11_isOwn_128b.2.2.1) rfl).to, ?_⟩
  refine List.forall_mem_cons.mpr ⟨(s_ldc2 (am_dp pw_X11_isOwn_128 dd_X11_isOwn_128b.2.2.2.1) wd1707).to, ?_⟩
  refine List.forall_mem_cons.mpr ⟨(s_lcmp (am_dp pw_X11_isOwn_128 dd_X11_isOwn_128b.2.2.2.2.1)).to, ?_⟩
  refine List.forall_mem_cons.mpr ⟨(s_if_eq (am_dp pw_X11_isOwn_128 dd_X11_isOwn_128b.2.2.2.2.2.1) (by decide)).to, ?_⟩
  refine List.forall_mem_cons.mpr ⟨(s_lloadn (am_dp pw_X11_isOwn_128 dd_X11_isOwn_128b.2.2.2.2.2.2.1) rfl).to, ?_⟩
  refine List.forall_mem_cons.mpr ⟨(s_ldc2 (am_dp pw_X11_isOwn_128 dd_X11_isOwn_128b.2.2.2.2.2.2.2) wd1706).to, ?_⟩
  refine List.forall_mem_cons.mpr ⟨(s_lcmp (am_dp pw_X11_isOwn_160 dd_X11_isOwn_160a.1)).to, ?_⟩
  refine List.forall_mem_cons.mpr ⟨(s_if_ne (am_dp pw_X11_isOwn_160 dd_X11_isOwn_160a.2.1) (by decide)).to, ?_⟩
  refine List.forall_mem_cons.mpr ⟨(s_iconst (am_dp pw_X11_isOwn_160 dd_X11_isOwn_160a.2.2.1) (by decide)).to, ?_⟩
  refine List.forall_mem_cons.mpr ⟨s_zret (am_dp pw_X11_isOwn_160 dd_X11_isOwn_160a.2.2.2.1) rfl, ?_⟩
  refine List.forall_mem_cons.mpr ⟨(s_lloadn (am_dp pw_X11_isOwn_160 dd_X11_isOwn_160a.2.2.2.2.1) rfl).to, ?_⟩
  refine List.forall_mem_cons.mpr ⟨(s_ldc2 (am_dp pw_X11_isOwn_160 dd_X11_isOwn_160a.2.2.2.2.2.1) wd1705).to, ?_⟩
  refine List.forall_mem_cons.mpr ⟨(s_lcmp (am_dp pw_X11_isOwn_160 dd_X11_isOwn_160a.2.2.2.2.2.2.1)).to, ?_⟩
  refine List.forall_mem_cons.mpr ⟨(s_if_eq (am_dp pw_X11_isOwn_160 dd_X11_isOwn_160a.2.2.2.2.2.2.2) (by decide)).to, ?_⟩
  refine List.forall_mem_cons.mpr ⟨(s_lloadn (am_dp pw_X11_isOwn_160 dd_X11_isOwn_160b.1) rfl).to, ?_⟩
  refine List.forall_mem_cons.mpr ⟨(s_ldc2 (am_dp pw_X11_isOwn_160 dd_X11_isOwn_160b.2.1) wd1675).to, ?_⟩
  refine List.forall_mem_cons.mpr ⟨(s_lcmp (am_dp pw_X11_isOwn_160 dd_X11_isOwn_160b.2.2.1)).to, ?_⟩
  refine List.forall_mem_cons.mpr ⟨(s_if_eq (am_dp pw_X11_isOwn_160 dd_X11_isOwn_160b.2.2.2.1) (by decide)).to, ?_⟩
  refine List.forall_mem_cons.mpr ⟨(s_lloadn (am_dp pw_X11_isOwn_160 dd_X11_isOwn_160b.2.2.2.2.1) rfl).to, ?_⟩
  refine List.forall_mem_cons.mpr ⟨(s_ldc2 (am_dp pw_X11_isOwn_160 dd_X11_isOwn_160b.2.2.2.2.2.1) wd1684).to, ?_⟩
  refine List.forall_mem_cons.mpr ⟨(s_lcmp (am_dp pw_X11_isOwn_160 dd_X11_isOwn_160b.2.2.2.2.2.2.1)).to, ?_⟩
  refine List.forall_mem_cons.mpr ⟨(s_if_eq (am_dp pw_X11_isOwn_160 dd_X11_isOwn_160b.2.2.2.2.2.2.2) (by decide)).to, ?_⟩
  refine List.forall_mem_cons.mpr ⟨(s_lloadn (am_dp pw_X11_isOwn_192 dd_X11_isOwn_192a.1) rfl).to, ?_⟩
  refine List.forall_mem_cons.mpr ⟨(s_ldc2 (am_dp pw_X11_isOwn_192 dd_X11_isOwn_192a.2.1) wd1691).to, ?_⟩
  refine List.forall_mem_cons.mpr ⟨(s_lcmp (am_dp pw_X11_isOwn_192 dd_X11_isOwn_192a.2.2.1)).to, ?_⟩
  refine List.forall_mem_cons.mpr ⟨(s_if_eq (am_dp pw_X11_isOwn_192 dd_X11_isOwn_192a.2.2.2.1) (by decide)).to, ?_⟩
  refine List.forall_mem_cons.mpr ⟨(s_lloadn (am_dp pw_X11_isOwn_192 dd_X11_isOwn_192a.2.2.2.2.1) rfl).to, ?_⟩
  refine List.forall_mem_cons.mpr ⟨(s_ldc2 (am_dp pw_X11_isOwn_192 dd_X11_isOwn_192a.2.2.2.2.2.1) wd1692).to, ?_⟩
  refine List.forall_mem_cons.mpr ⟨(s_lcmp (am_dp pw_X11_isOwn_192 dd_X11_isOwn_192a.2.2.2.2.2.2.1)).to, ?_⟩
  refine List.forall_mem_cons.mpr ⟨(s_if_ne (am_dp pw_X11_isOwn_192 dd_X11_isOwn_192a.2.2.2.2.2.2.2) (by decide)).to, ?_⟩
  refine List.forall_mem_cons.mpr ⟨(s_iconst (am_dp pw_X11_isOwn_192 dd_X11_isOwn_192b.1) (by decide)).to, ?_⟩
  refine List.forall_mem_cons.mpr ⟨s_zret (am_dp pw_X11_isOwn_192 dd_X11_isOwn_192b.2.1) rfl, ?_⟩
  refine List.forall_mem_cons.mpr ⟨(s_lloadn (am_dp pw_X11_isOwn_192 dd_X11_isOwn_192b.2.2.1) rfl).to, ?_⟩
  refine List.forall_mem_cons.mpr ⟨(s_ldc2 (am_dp pw_X11_isOwn_192 dd_X11_isOwn_192b.2.2.2.1) wd1689).to, ?_⟩
  refine List.forall_mem_cons.mpr ⟨(s_lcmp (am_dp pw_X11_isOwn_192 dd_X11_isOwn_192b.2.2.2.2.1)).to, ?_⟩
  refine List.forall_mem_cons.mpr ⟨(s_if_eq (am_dp pw_X11_isOwn_192 dd_X11_isOwn_192b.2.2.2.2.2.1) (by decide)).to, ?_⟩
  refine List.forall_mem_cons.mpr ⟨(s_lloadn (am_dp pw_X11_isOwn_192 dd_X11_isOwn_192b.2.2.2.2.2.2.1) rfl).to, ?_⟩
  refine List.forall_mem_cons.mpr ⟨(s_ldc2 (am_dp pw_X11_isOwn_192 dd_X11_isOwn_192b.2.2.2.2.2.2.2) wd1690).to, ?_⟩
  refine List.forall_mem_cons.mpr ⟨(s_lcmp (am_dp pw_X11_isOwn_192 dd_X11_isOwn_192c.1)).to, ?_⟩
  refine List.forall_mem_cons.mpr ⟨(s_if_ne (am_dp pw_X11_isOwn_192 dd_X11_isOwn_192c.2) (by decide)).to, ?_⟩
  refine List.forall_mem_cons.mpr ⟨(s_iconst (am_dp pw_X11_isOwn_224 dd_X11_isOwn_224a.1) (by decide)).to, ?_⟩
  refine List.forall_mem_cons.mpr ⟨s_zret (am_dp pw_X11_isOwn_224 dd_X11_isOwn_224a.2.1) rfl, ?_⟩
  exact fun _ h => absurd h List.not_mem_nil
theorem sn_tX11_isOwn_2 : ∀ q ∈ tX11_isOwn_2, am_Snd am_P0 RX11 cX11_isOwn 3 (Option.some FieldType.boolean) "isOwn" q.1 q.2 := by
  unfold tX11_isOwn_2
  refine List.forall_mem_cons.mpr ⟨(s_iconst (am_dp pw_X11_isOwn_224 dd_X11_isOwn_224a.2.2.1) (by decide)).to, ?_⟩
  refine List.forall_mem_cons.mpr ⟨s_zret (am_dp pw_X11_isOwn_224 dd_X11_isOwn_224a.2.2.2) rfl, ?_⟩
  exact fun _ h => absurd h List.not_mem_nil
theorem sn_tX11_isOwn : ∀ q ∈ tX11_isOwn, am_Snd am_P0 RX11 cX11_isOwn 3 (Option.some FieldType.boolean) "isOwn" q.1 q.2 := by
  unfold tX11_isOwn
  exact List.forall_mem_append.mpr ⟨List.forall_mem_append.mpr ⟨sn_tX11_isOwn_0, sn_tX11_isOwn_1⟩, sn_tX11_isOwn_2⟩
theorem sn_tX11_firstRule : ∀ q ∈ tX11_firstRule, am_Snd am_P0 RX11 cX11_firstRule 1 (Option.some FieldType.int) "firstRule" q.1 q.2 := by
  unfold tX11_firstRule
  refine List.forall_mem_cons.mpr ⟨(s_bipush (am_dp pw_X11_firstRule_0 dd_X11_firstRule_0a.1) (by decide)).to, ?_⟩
  refine List.forall_mem_cons.mpr ⟨(s_iloadn (am_dp pw_X11_firstRule_0 dd_X11_firstRule_0a.2.1) rfl).to, ?_⟩
  refine List.forall_mem_cons.mpr ⟨(s_imul (am_dp pw_X11_firstRule_0 dd_X11_firstRule_0a.2.2.1)).to, ?_⟩
  refine List.forall_mem_cons.mpr ⟨s_iret (am_dp pw_X11_firstRule_0 dd_X11_firstRule_0a.2.2.2) rfl, ?_⟩
  exact fun _ h => absurd h List.not_mem_nil
theorem sn_tX11_mostRules : ∀ q ∈ tX11_mostRules, am_Snd am_P0 RX11 cX11_mostRules 1 (Option.some FieldType.int) "mostRules" q.1 q.2 := by
  unfold tX11_mostRules
  refine List.forall_mem_cons.mpr ⟨(s_iloadn (am_dp pw_X11_mostRules_0 dd_X11_mostRules_0a.1) rfl).to, ?_⟩
  refine List.forall_mem_cons.mpr ⟨(s_iconst (am_dp pw_X11_mostRules_0 dd_X11_mostRules_0a.2.1) (by decide)).to, ?_⟩
  refine List.forall_mem_cons.mpr ⟨(s_icmp_ne (am_dp pw_X11_mostRules_0 dd_X11_mostRules_0a.2.2.1) (by decide)).to, ?_⟩
  refine List.forall_mem_cons.mpr ⟨(s_bipush (am_dp pw_X11_mostRules_0 dd_X11_mostRules_0a.2.2.2.1) (by decide)).to, ?_⟩
  refine List.forall_mem_cons.mpr ⟨(s_goto (am_dp pw_X11_mostRules_0 dd_X11_mostRules_0a.2.2.2.2.1) (by decide)).to, ?_⟩
  refine List.forall_mem_cons.mpr ⟨(s_bipush (am_dp pw_X11_mostRules_0 dd_X11_mostRules_0a.2.2.2.2.2.1) (by decide)).to, ?_⟩
  refine List.forall_mem_cons.mpr ⟨s_iret (am_dp pw_X11_mostRules_0 dd_X11_mostRules_0a.2.2.2.2.2.2) rfl, ?_⟩
  exact fun _ h => absurd h List.not_mem_nil
theorem sn_tX11_named : ∀ q ∈ tX11_named, am_Snd am_P0 RX11 cX11_named 4 (Option.some FieldType.int) "named" q.1 q.2 := by
  unfold tX11_named
  refine List.forall_mem_cons.mpr ⟨(s_iconst (am_dp pw_X11_named_0 dd_X11_named_0a.1) (by decide)).to, ?_⟩
  refine List.forall_mem_cons.mpr ⟨(s_istoren (am_dp pw_X11_named_0 dd_X11_named_0a.2.1) rfl (by decide)).to, ?_⟩
  refine List.forall_mem_cons.mpr ⟨(s_iloadn (am_dp pw_X11_named_0 dd_X11_named_0a.2.2.1) rfl).to, ?_⟩
  refine List.forall_mem_cons.mpr ⟨(s_aloadn (am_dp pw_X11_named_0 dd_X11_named_0a.2.2.2.1) rfl).to, ?_⟩
  refine List.forall_mem_cons.mpr ⟨(s_get (ci := 11) (k := 19) (am_dp pw_X11_named_0 dd_X11_named_0a.2.2.2.2.1) rfl (by decide) wd1352 inX11 rfl).to, ?_⟩
  refine List.forall_mem_cons.mpr ⟨(s_aloadn (am_dp pw_X11_named_0 dd_X11_named_0a.2.2.2.2.2.1) rfl).to, ?_⟩
  refine List.forall_mem_cons.mpr ⟨(s_get (ci := 11) (k := 41) (am_dp pw_X11_named_0 dd_X11_named_0a.2.2.2.2.2.2.1) rfl (by decide) wd1374 inX11 rfl).to, ?_⟩
  refine List.forall_mem_cons.mpr ⟨(s_iald (am_dp pw_X11_named_0 dd_X11_named_0a.2.2.2.2.2.2.2)).to, ?_⟩
  refine List.forall_mem_cons.mpr ⟨(s_icmp_ge (am_dp pw_X11_named_0 dd_X11_named_0b.1) (by decide)).to, ?_⟩
  refine List.forall_mem_cons.mpr ⟨(s_aloadn (am_dp pw_X11_named_0 dd_X11_named_0b.2.1) rfl).to, ?_⟩
  refine List.forall_mem_cons.mpr ⟨(s_get (ci := 11) (k := 20) (am_dp pw_X11_named_0 dd_X11_named_0b.2.2.1) rfl (by decide) wd1353 inX11 rfl).to, ?_⟩
  refine List.forall_mem_cons.mpr ⟨(s_bipush (am_dp pw_X11_named_0 dd_X11_named_0b.2.2.2.1) (by decide)).to, ?_⟩
  refine List.forall_mem_cons.mpr ⟨(s_aloadn (am_dp pw_X11_named_0 dd_X11_named_0b.2.2.2.2.1) rfl).to, ?_⟩
  refine List.forall_mem_cons.mpr ⟨(s_get (ci := 11) (k := 41) (am_dp pw_X11_named_0 dd_X11_named_0b.2.2.2.2.2.1) rfl (by decide) wd1374 inX11 rfl).to, ?_⟩
  refine List.forall_mem_cons.mpr ⟨(s_imul (am_dp pw_X11_named_0 dd_X11_named_0b.2.2.2.2.2.2.1)).to, ?_⟩
  refine List.forall_mem_cons.mpr ⟨(s_iloadn (am_dp pw_X11_named_0 dd_X11_named_0b.2.2.2.2.2.2.2) rfl).to, ?_⟩
  refine List.forall_mem_cons.mpr ⟨(s_iadd (am_dp pw_X11_named_0 dd_X11_named_0c.1)).to, ?_⟩
  refine List.forall_mem_cons.mpr ⟨(s_lald (am_dp pw_X11_named_0 dd_X11_named_0c.2.1)).to, ?_⟩
  refine List.forall_mem_cons.mpr ⟨(s_lloadn (am_dp pw_X11_named_0 dd_X11_named_0c.2.2.1) rfl).to, ?_⟩
  refine List.forall_mem_cons.mpr ⟨(s_lcmp (am_dp pw_X11_named_0 dd_X11_named_0c.2.2.2.1)).to, ?_⟩
  refine List.forall_mem_cons.mpr ⟨(s_if_ne (am_dp pw_X11_named_0 dd_X11_named_0c.2.2.2.2) (by decide)).to, ?_⟩
  refine List.forall_mem_cons.mpr ⟨(s_iloadn (am_dp pw_X11_named_32 dd_X11_named_32a.1) rfl).to, ?_⟩
  refine List.forall_mem_cons.mpr ⟨s_iret (am_dp pw_X11_named_32 dd_X11_named_32a.2.1) rfl, ?_⟩
  refine List.forall_mem_cons.mpr ⟨(s_iinc (am_dp pw_X11_named_32 dd_X11_named_32a.2.2.1) (by decide) (by decide)).to, ?_⟩
  refine List.forall_mem_cons.mpr ⟨(s_goto (am_dp pw_X11_named_32 dd_X11_named_32a.2.2.2.1) (by decide)).to, ?_⟩
  refine List.forall_mem_cons.mpr ⟨(s_iconst (am_dp pw_X11_named_32 dd_X11_named_32a.2.2.2.2.1) (by decide)).to, ?_⟩
  refine List.forall_mem_cons.mpr ⟨s_iret (am_dp pw_X11_named_32 dd_X11_named_32a.2.2.2.2.2) rfl, ?_⟩
  exact fun _ h => absurd h List.not_mem_nil
theorem sn_tX11_number : ∀ q ∈ tX11_number, am_Snd am_P0 RX11 cX11_number 4 (Option.some FieldType.int) "number" q.1 q.2 := by
  unfold tX11_number
  refine List.forall_mem_cons.mpr ⟨(s_aloadn (am_dp pw_X11_number_0 dd_X11_number_0a.1) rfl).to, ?_⟩
  refine List.forall_mem_cons.mpr ⟨(s_get (ci := 11) (k := 8) (am_dp pw_X11_number_0 dd_X11_number_0a.2.1) rfl (by decide) wd1341 inX11 rfl).to, ?_⟩
  refine List.forall_mem_cons.mpr ⟨(s_if_le (am_dp pw_X11_number_0 dd_X11_number_0a.2.2.1) (by decide)).to, ?_⟩
  refine List.forall_mem_cons.mpr ⟨(s_iconst (am_dp pw_X11_number_0 dd_X11_number_0a.2.2.2.1) (by decide)).to, ?_⟩
  refine List.forall_mem_cons.mpr ⟨s_iret (am_dp pw_X11_number_0 dd_X11_number_0a.2.2.2.2.1) rfl, ?_⟩
  refine List.forall_mem_cons.mpr ⟨(s_aloadn (am_dp pw_X11_number_0 dd_X11_number_0a.2.2.2.2.2.1) rfl).to, ?_⟩
  refine List.forall_mem_cons.mpr ⟨(s_get (ci := 11) (k := 3) (am_dp pw_X11_number_0 dd_X11_number_0a.2.2.2.2.2.2.1) rfl (by decide) wd1336 inX11 rfl).to, ?_⟩
  refine List.forall_mem_cons.mpr ⟨(s_iconst (am_dp pw_X11_number_0 dd_X11_number_0a.2.2.2.2.2.2.2) (by decide)).to, ?_⟩
  refine List.forall_mem_cons.mpr ⟨(s_icmp_eq (am_dp pw_X11_number_0 dd_X11_number_0b.1) (by decide)).to, ?_⟩
  refine List.forall_mem_cons.mpr ⟨(s_aloadn (am_dp pw_X11_number_0 dd_X11_number_0b.2.1) rfl).to, ?_⟩
  refine List.forall_mem_cons.mpr ⟨(s_iconst (am_dp pw_X11_number_0 dd_X11_number_0b.2.2.1) (by decide)).to, ?_⟩
  refine List.forall_mem_cons.mpr ⟨(s_aloadn (am_dp pw_X11_number_0 dd_X11_number_0b.2.2.2.1) rfl).to, ?_⟩
  refine List.forall_mem_cons.mpr ⟨(s_get (ci := 11) (k := 4) (am_dp pw_X11_number_0 dd_X11_number_0b.2.2.2.2.1) rfl (by decide) wd1337 inX11 rfl).to, ?_⟩
  refine List.forall_mem_cons.mpr ⟨zw_cv171 (am_dp pw_X11_number_0 dd_X11_number_0b.2.2.2.2.2.1) wd1613, ?_⟩
  refine List.forall_mem_cons.mpr ⟨(s_aloadn (am_dp pw_X11_number_0 dd_X11_number_0b.2.2.2.2.2.2.1) rfl).to, ?_⟩
  refine List.forall_mem_cons.mpr ⟨(s_get (ci := 11) (k := 8) (am_dp pw_X11_number_0 dd_X11_number_0b.2.2.2.2.2.2.2) rfl (by decide) wd1341 inX11 rfl).to, ?_⟩
  refine List.forall_mem_cons.mpr ⟨(s_if_ne (am_dp pw_X11_number_0 dd_X11_number_0c) (by decide)).to, ?_⟩
  refine List.forall_mem_cons.mpr ⟨(s_aloadn (am_dp pw_X11_number_32 dd_X11_number_32a.1) rfl).to, ?_⟩
  refine List.forall_mem_cons.mpr ⟨(s_get (ci := 11) (k := 6) (am_dp pw_X11_number_32 dd_X11_number_32a.2.1) rfl (by decide) wd1339 inX11 rfl).to, ?_⟩
  refine List.forall_mem_cons.mpr ⟨(s_iloadn (am_dp pw_X11_number_32 dd_X11_number_32a.2.2.1) rfl).to, ?_⟩
  refine List.forall_mem_cons.mpr ⟨(s_iloadn (am_dp pw_X11_number_32 dd_X11_number_32a.2.2.2.1) rfl).to, ?_⟩
  refine List.forall_mem_cons.mpr ⟨zw_cs167 (am_dp pw_X11_number_32 dd_X11_number_32a.2.2.2.2.1) wd1630, ?_⟩
  refine List.forall_mem_cons.mpr ⟨(s_if_ne (am_dp pw_X11_number_32 dd_X11_number_32a.2.2.2.2.2.1) (by decide)).to, ?_⟩
  refine List.forall_mem_cons.mpr ⟨(s_aloadn (am_dp pw_X11_number_32 dd_X11_number_32a.2.2.2.2.2.2.1) rfl).to, ?_⟩
  refine List.forall_mem_cons.mpr ⟨(s_iconst (am_dp pw_X11_number_32 dd_X11_number_32a.2.2.2.2.2.2.2) (by decide)).to, ?_⟩
  refine List.forall_mem_cons.mpr ⟨(s_aloadn (am_dp pw_X11_number_32 dd_X11_number_32b.1) rfl).to, ?_⟩
  refine List.forall_mem_cons.mpr ⟨(s_get (ci := 11) (k := 4) (am_dp pw_X11_number_32 dd_X11_number_32b.2.1) rfl (by decide) wd1337 inX11 rfl).to, ?_⟩
  refine List.forall_mem_cons.mpr ⟨zw_cv171 (am_dp pw_X11_number_32 dd_X11_number_32b.2.2.1) wd1613, ?_⟩
  refine List.forall_mem_cons.mpr ⟨(s_aloadn (am_dp pw_X11_number_32 dd_X11_number_32b.2.2.2.1) rfl).to, ?_⟩
  refine List.forall_mem_cons.mpr ⟨(s_get (ci := 11) (k := 6) (am_dp pw_X11_number_32 dd_X11_number_32b.2.2.2.2.1) rfl (by decide) wd1339 inX11 rfl).to, ?_⟩
  refine List.forall_mem_cons.mpr ⟨(s_istoren (am_dp pw_X11_number_32 dd_X11_number_32b.2.2.2.2.2.1) rfl (by decide)).to, ?_⟩
  refine List.forall_mem_cons.mpr ⟨(s_aloadn (am_dp pw_X11_number_32 dd_X11_number_32b.2.2.2.2.2.2.1) rfl).to, ?_⟩
  refine List.forall_mem_cons.mpr ⟨(s_get (ci := 11) (k := 8) (am_dp pw_X11_number_32 dd_X11_number_32b.2.2.2.2.2.2.2) rfl (by decide) wd1341 inX11 rfl).to, ?_⟩
  refine List.forall_mem_cons.mpr ⟨(s_if_ne (am_dp pw_X11_number_32 dd_X11_number_32c) (by decide)).to, ?_⟩
  refine List.forall_mem_cons.mpr ⟨(s_aloadn (am_dp pw_X11_number_64 dd_X11_number_64a.1) rfl).to, ?_⟩
  refine List.forall_mem_cons.mpr ⟨zw_cv174 (am_dp pw_X11_number_64 dd_X11_number_64a.2.1) wd1603, ?_⟩
  refine List.forall_mem_cons.mpr ⟨(s_iloadn (am_dp pw_X11_number_64 dd_X11_number_64a.2.2.1) rfl).to, ?_⟩
  refine List.forall_mem_cons.mpr ⟨s_iret (am_dp pw_X11_number_64 dd_X11_number_64a.2.2.2) rfl, ?_⟩
  exact fun _ h => absurd h List.not_mem_nil
theorem sn_tX11_add : ∀ q ∈ tX11_add, am_Snd am_P0 RX11 cX11_add 3 (Option.none : Option FieldType) "add" q.1 q.2 := by
  unfold tX11_add
  refine List.forall_mem_cons.mpr ⟨(s_aloadn (am_dp pw_X11_add_0 dd_X11_add_0a.1) rfl).to, ?_⟩
  refine List.forall_mem_cons.mpr ⟨(s_get (ci := 11) (k := 38) (am_dp pw_X11_add_0 dd_X11_add_0a.2.1) rfl (by decide) wd1371 inX11 rfl).to, ?_⟩
  refine List.forall_mem_cons.mpr ⟨(s_sipush (am_dp pw_X11_add_0 dd_X11_add_0a.2.2.1) (by decide)).to, ?_⟩
  refine List.forall_mem_cons.mpr ⟨(s_aloadn (am_dp pw_X11_add_0 dd_X11_add_0a.2.2.2.1) rfl).to, ?_⟩
  refine List.forall_mem_cons.mpr ⟨(s_get (ci := 11) (k := 41) (am_dp pw_X11_add_0 dd_X11_add_0a.2.2.2.2.1) rfl (by decide) wd1374 inX11 rfl).to, ?_⟩
  refine List.forall_mem_cons.mpr ⟨(s_imul (am_dp pw_X11_add_0 dd_X11_add_0a.2.2.2.2.2.1)).to, ?_⟩
  refine List.forall_mem_cons.mpr ⟨(s_aloadn (am_dp pw_X11_add_0 dd_X11_add_0a.2.2.2.2.2.2.1) rfl).to, ?_⟩
  refine List.forall_mem_cons.mpr ⟨(s_get (ci := 11) (k := 40) (am_dp pw_X11_add_0 dd_X11_add_0a.2.2.2.2.2.2.2) rfl (by decide) wd1373 inX11 rfl).to, ?_⟩
  refine List.forall_mem_cons.mpr ⟨(s_iadd (am_dp pw_X11_add_0 dd_X11_add_0b.1)).to, ?_⟩
  refine List.forall_mem_cons.mpr ⟨(s_iloadn (am_dp pw_X11_add_0 dd_X11_add_0b.2.1) rfl).to, ?_⟩
  refine List.forall_mem_cons.mpr ⟨(s_iast (am_dp pw_X11_add_0 dd_X11_add_0b.2.2.1)).to, ?_⟩
  refine List.forall_mem_cons.mpr ⟨(s_aloadn (am_dp pw_X11_add_0 dd_X11_add_0b.2.2.2.1) rfl).to, ?_⟩
  refine List.forall_mem_cons.mpr ⟨(s_get (ci := 11) (k := 39) (am_dp pw_X11_add_0 dd_X11_add_0b.2.2.2.2.1) rfl (by decide) wd1372 inX11 rfl).to, ?_⟩
  refine List.forall_mem_cons.mpr ⟨(s_sipush (am_dp pw_X11_add_0 dd_X11_add_0b.2.2.2.2.2.1) (by decide)).to, ?_⟩
  refine List.forall_mem_cons.mpr ⟨(s_aloadn (am_dp pw_X11_add_0 dd_X11_add_0b.2.2.2.2.2.2.1) rfl).to, ?_⟩
  refine List.forall_mem_cons.mpr ⟨(s_get (ci := 11) (k := 41) (am_dp pw_X11_add_0 dd_X11_add_0b.2.2.2.2.2.2.2) rfl (by decide) wd1374 inX11 rfl).to, ?_⟩
  refine List.forall_mem_cons.mpr ⟨(s_imul (am_dp pw_X11_add_0 dd_X11_add_0c.1)).to, ?_⟩
  refine List.forall_mem_cons.mpr ⟨(s_aloadn (am_dp pw_X11_add_0 dd_X11_add_0c.2) rfl).to, ?_⟩
  refine List.forall_mem_cons.mpr ⟨(s_get (ci := 11) (k := 40) (am_dp pw_X11_add_32 dd_X11_add_32a.1) rfl (by decide) wd1373 inX11 rfl).to, ?_⟩
  refine List.forall_mem_cons.mpr ⟨(s_iadd (am_dp pw_X11_add_32 dd_X11_add_32a.2.1)).to, ?_⟩
  refine List.forall_mem_cons.mpr ⟨(s_iloadn (am_dp pw_X11_add_32 dd_X11_add_32a.2.2.1) rfl).to, ?_⟩
  refine List.forall_mem_cons.mpr ⟨(s_iast (am_dp pw_X11_add_32 dd_X11_add_32a.2.2.2.1)).to, ?_⟩
  refine List.forall_mem_cons.mpr ⟨(s_aloadn (am_dp pw_X11_add_32 dd_X11_add_32a.2.2.2.2.1) rfl).to, ?_⟩
  refine List.forall_mem_cons.mpr ⟨(s_dup (am_dp pw_X11_add_32 dd_X11_add_32a.2.2.2.2.2.1)).to, ?_⟩
  refine List.forall_mem_cons.mpr ⟨(s_get (ci := 11) (k := 40) (am_dp pw_X11_add_32 dd_X11_add_32a.2.2.2.2.2.2.1) rfl (by decide) wd1373 inX11 rfl).to, ?_⟩
  refine List.forall_mem_cons.mpr ⟨(s_iconst (am_dp pw_X11_add_32 dd_X11_add_32a.2.2.2.2.2.2.2) (by decide)).to, ?_⟩
  refine List.forall_mem_cons.mpr ⟨(s_iadd (am_dp pw_X11_add_32 dd_X11_add_32b.1)).to, ?_⟩
  refine List.forall_mem_cons.mpr ⟨(s_put (ci := 11) (k := 40) (am_dp pw_X11_add_32 dd_X11_add_32b.2.1) rfl (by decide) wd1373 inX11 tyX11_ok nmX11 rfl rfl).to, ?_⟩
  refine List.forall_mem_cons.mpr ⟨s_vret (am_dp pw_X11_add_32 dd_X11_add_32b.2.2) rfl, ?_⟩
  exact fun _ h => absurd h List.not_mem_nil
theorem sn_tX11_rank : ∀ q ∈ tX11_rank, am_Snd am_P0 RX11 cX11_rank 1 (Option.some FieldType.int) "rank" q.1 q.2 := by
  unfold tX11_rank
  refine List.forall_mem_cons.mpr ⟨(s_iloadn (am_dp pw_X11_rank_0 dd_X11_rank_0a.1) rfl).to, ?_⟩
  refine List.forall_mem_cons.mpr ⟨(s_bipush (am_dp pw_X11_rank_0 dd_X11_rank_0a.2.1) (by decide)).to, ?_⟩
  refine List.forall_mem_cons.mpr ⟨(s_icmp_ne (am_dp pw_X11_rank_0 dd_X11_rank_0a.2.2.1) (by decide)).to, ?_⟩
  refine List.forall_mem_cons.mpr ⟨(s_iconst (am_dp pw_X11_rank_0 dd_X11_rank_0a.2.2.2.1) (by decide)).to, ?_⟩
  refine List.forall_mem_cons.mpr ⟨(s_goto (am_dp pw_X11_rank_0 dd_X11_rank_0a.2.2.2.2.1) (by decide)).to, ?_⟩
  refine List.forall_mem_cons.mpr ⟨(s_iloadn (am_dp pw_X11_rank_0 dd_X11_rank_0a.2.2.2.2.2.1) rfl).to, ?_⟩
  refine List.forall_mem_cons.mpr ⟨(s_bipush (am_dp pw_X11_rank_0 dd_X11_rank_0a.2.2.2.2.2.2.1) (by decide)).to, ?_⟩
  refine List.forall_mem_cons.mpr ⟨(s_icmp_ne (am_dp pw_X11_rank_0 dd_X11_rank_0a.2.2.2.2.2.2.2) (by decide)).to, ?_⟩
  refine List.forall_mem_cons.mpr ⟨(s_iconst (am_dp pw_X11_rank_0 dd_X11_rank_0b.1) (by decide)).to, ?_⟩
  refine List.forall_mem_cons.mpr ⟨(s_goto (am_dp pw_X11_rank_0 dd_X11_rank_0b.2.1) (by decide)).to, ?_⟩
  refine List.forall_mem_cons.mpr ⟨(s_iloadn (am_dp pw_X11_rank_0 dd_X11_rank_0b.2.2.1) rfl).to, ?_⟩
  refine List.forall_mem_cons.mpr ⟨(s_bipush (am_dp pw_X11_rank_0 dd_X11_rank_0b.2.2.2.1) (by decide)).to, ?_⟩
  refine List.forall_mem_cons.mpr ⟨(s_icmp_ne (am_dp pw_X11_rank_0 dd_X11_rank_0b.2.2.2.2.1) (by decide)).to, ?_⟩
  refine List.forall_mem_cons.mpr ⟨(s_iconst (am_dp pw_X11_rank_0 dd_X11_rank_0b.2.2.2.2.2.1) (by decide)).to, ?_⟩
  refine List.forall_mem_cons.mpr ⟨(s_goto (am_dp pw_X11_rank_0 dd_X11_rank_0b.2.2.2.2.2.2.1) (by decide)).to, ?_⟩
  refine List.forall_mem_cons.mpr ⟨(s_iloadn (am_dp pw_X11_rank_0 dd_X11_rank_0b.2.2.2.2.2.2.2) rfl).to, ?_⟩
  refine List.forall_mem_cons.mpr ⟨(s_bipush (am_dp pw_X11_rank_0 dd_X11_rank_0c) (by decide)).to, ?_⟩
  refine List.forall_mem_cons.mpr ⟨(s_icmp_eq (am_dp pw_X11_rank_32 dd_X11_rank_32a.1) (by decide)).to, ?_⟩
  refine List.forall_mem_cons.mpr ⟨(s_iloadn (am_dp pw_X11_rank_32 dd_X11_rank_32a.2.1) rfl).to, ?_⟩
  refine List.forall_mem_cons.mpr ⟨(s_bipush (am_dp pw_X11_rank_32 dd_X11_rank_32a.2.2.1) (by decide)).to, ?_⟩
  refine List.forall_mem_cons.mpr ⟨(s_icmp_eq (am_dp pw_X11_rank_32 dd_X11_rank_32a.2.2.2.1) (by decide)).to, ?_⟩
  refine List.forall_mem_cons.mpr ⟨(s_iloadn (am_dp pw_X11_rank_32 dd_X11_rank_32a.2.2.2.2.1) rfl).to, ?_⟩
  refine List.forall_mem_cons.mpr ⟨(s_bipush (am_dp pw_X11_rank_32 dd_X11_rank_32a.2.2.2.2.2.1) (by decide)).to, ?_⟩
  refine List.forall_mem_cons.mpr ⟨(s_icmp_ne (am_dp pw_X11_rank_32 dd_X11_rank_32a.2.2.2.2.2.2.1) (by decide)).to, ?_⟩
  refine List.forall_mem_cons.mpr ⟨(s_iconst (am_dp pw_X11_rank_32 dd_X11_rank_32a.2.2.2.2.2.2.2) (by decide)).to, ?_⟩
  refine List.forall_mem_cons.mpr ⟨(s_goto (am_dp pw_X11_rank_32 dd_X11_rank_32b.1) (by decide)).to, ?_⟩
  refine List.forall_mem_cons.mpr ⟨(s_iloadn (am_dp pw_X11_rank_32 dd_X11_rank_32b.2.1) rfl).to, ?_⟩
  refine List.forall_mem_cons.mpr ⟨(s_bipush (am_dp pw_X11_rank_32 dd_X11_rank_32b.2.2.1) (by decide)).to, ?_⟩
  refine List.forall_mem_cons.mpr ⟨(s_icmp_eq (am_dp pw_X11_rank_32 dd_X11_rank_32b.2.2.2.1) (by decide)).to, ?_⟩
  refine List.forall_mem_cons.mpr ⟨(s_iloadn (am_dp pw_X11_rank_32 dd_X11_rank_32b.2.2.2.2.1) rfl).to, ?_⟩
  refine List.forall_mem_cons.mpr ⟨(s_bipush (am_dp pw_X11_rank_32 dd_X11_rank_32b.2.2.2.2.2.1) (by decide)).to, ?_⟩
  refine List.forall_mem_cons.mpr ⟨(s_icmp_ne (am_dp pw_X11_rank_32 dd_X11_rank_32b.2.2.2.2.2.2) (by decide)).to, ?_⟩
  refine List.forall_mem_cons.mpr ⟨(s_iconst (am_dp pw_X11_rank_64 dd_X11_rank_64a.1) (by decide)).to, ?_⟩
  refine List.forall_mem_cons.mpr ⟨(s_goto (am_dp pw_X11_rank_64 dd_X11_rank_64a.2.1) (by decide)).to, ?_⟩
  refine List.forall_mem_cons.mpr ⟨(s_bipush (am_dp pw_X11_rank_64 dd_X11_rank_64a.2.2.1) (by decide)).to, ?_⟩
  refine List.forall_mem_cons.mpr ⟨s_iret (am_dp pw_X11_rank_64 dd_X11_rank_64a.2.2.2) rfl, ?_⟩
  exact fun _ h => absurd h List.not_mem_nil
theorem sn_tX11_joins : ∀ q ∈ tX11_joins, am_Snd am_P0 RX11 cX11_joins 2 (Option.none : Option FieldType) "joins" q.1 q.2 := by
  unfold tX11_joins
  refine List.forall_mem_cons.mpr ⟨(s_aloadn (am_dp pw_X11_joins_0 dd_X11_joins_0a.1) rfl).to, ?_⟩
  refine List.forall_mem_cons.mpr ⟨(s_get (ci := 11) (k := 50) (am_dp pw_X11_joins_0 dd_X11_joins_0a.2.1) rfl (by decide) wd1383 inX11 rfl).to, ?_⟩
  refine List.forall_mem_cons.mpr ⟨(s_aloadn (am_dp pw_X11_joins_0 dd_X11_joins_0a.2.2.1) rfl).to, ?_⟩
  refine List.forall_mem_cons.mpr ⟨(s_get (ci := 11) (k := 46) (am_dp pw_X11_joins_0 dd_X11_joins_0a.2.2.2.1) rfl (by decide) wd1379 inX11 rfl).to, ?_⟩
  refine List.forall_mem_cons.mpr ⟨(s_aloadn (am_dp pw_X11_joins_0 dd_X11_joins_0a.2.2.2.2.1) rfl).to, ?_⟩
  refine List.forall_mem_cons.mpr ⟨(s_get (ci := 11) (k := 47) (am_dp pw_X11_joins_0 dd_X11_joins_0a.2.2.2.2.2.1) rfl (by decide) wd1380 inX11 rfl).to, ?_⟩
  refine List.forall_mem_cons.mpr ⟨(s_iconst (am_dp pw_X11_joins_0 dd_X11_joins_0a.2.2.2.2.2.2.1) (by decide)).to, ?_⟩
  refine List.forall_mem_cons.mpr ⟨(s_isub (am_dp pw_X11_joins_0 dd_X11_joins_0a.2.2.2.2.2.2.2)).to, ?_⟩
  refine List.forall_mem_cons.mpr ⟨(s_iald (am_dp pw_X11_joins_0 dd_X11_joins_0b.1)).to, ?_⟩
  refine List.forall_mem_cons.mpr ⟨(s_icmp_le (am_dp pw_X11_joins_0 dd_X11_joins_0b.2.1) (by decide)).to, ?_⟩
  refine List.forall_mem_cons.mpr ⟨(s_aloadn (am_dp pw_X11_joins_0 dd_X11_joins_0b.2.2.1) rfl).to, ?_⟩
  refine List.forall_mem_cons.mpr ⟨(s_get (ci := 11) (k := 49) (am_dp pw_X11_joins_0 dd_X11_joins_0b.2.2.2.1) rfl (by decide) wd1382 inX11 rfl).to, ?_⟩
  refine List.forall_mem_cons.mpr ⟨(s_aloadn (am_dp pw_X11_joins_0 dd_X11_joins_0b.2.2.2.2.1) rfl).to, ?_⟩
  refine List.forall_mem_cons.mpr ⟨(s_get (ci := 11) (k := 50) (am_dp pw_X11_joins_0 dd_X11_joins_0b.2.2.2.2.2.1) rfl (by decide) wd1383 inX11 rfl).to, ?_⟩
  refine List.forall_mem_cons.mpr ⟨(s_iconst (am_dp pw_X11_joins_0 dd_X11_joins_0b.2.2.2.2.2.2.1) (by decide)).to, ?_⟩
  refine List.forall_mem_cons.mpr ⟨(s_isub (am_dp pw_X11_joins_0 dd_X11_joins_0b.2.2.2.2.2.2.2)).to, ?_⟩
  refine List.forall_mem_cons.mpr ⟨(s_iald (am_dp pw_X11_joins_0 dd_X11_joins_0c.1)).to, ?_⟩
  refine List.forall_mem_cons.mpr ⟨zw_cs184 (am_dp pw_X11_joins_0 dd_X11_joins_0c.2) wd1702, ?_⟩
  refine List.forall_mem_cons.mpr ⟨(s_iloadn (am_dp pw_X11_joins_32 dd_X11_joins_32a.1) rfl).to, ?_⟩
  refine List.forall_mem_cons.mpr ⟨(s_icmp_lt (am_dp pw_X11_joins_32 dd_X11_joins_32a.2.1) (by decide)).to, ?_⟩
  refine List.forall_mem_cons.mpr ⟨(s_aloadn (am_dp pw_X11_joins_32 dd_X11_joins_32a.2.2.1) rfl).to, ?_⟩
  refine List.forall_mem_cons.mpr ⟨(s_dup (am_dp pw_X11_joins_32 dd_X11_joins_32a.2.2.2.1)).to, ?_⟩
  refine List.forall_mem_cons.mpr ⟨(s_get (ci := 11) (k := 50) (am_dp pw_X11_joins_32 dd_X11_joins_32a.2.2.2.2.1) rfl (by decide) wd1383 inX11 rfl).to, ?_⟩
  refine List.forall_mem_cons.mpr ⟨(s_iconst (am_dp pw_X11_joins_32 dd_X11_joins_32a.2.2.2.2.2.1) (by decide)).to, ?_⟩
  refine List.forall_mem_cons.mpr ⟨(s_isub (am_dp pw_X11_joins_32 dd_X11_joins_32a.2.2.2.2.2.2.1)).to, ?_⟩
  refine List.forall_mem_cons.mpr ⟨(s_put (ci := 11) (k := 50) (am_dp pw_X11_joins_32 dd_X11_joins_32a.2.2.2.2.2.2.2) rfl (by decide) wd1383 inX11 tyX11_ok nmX11 rfl rfl).to, ?_⟩
  refine List.forall_mem_cons.mpr ⟨(s_aloadn (am_dp pw_X11_joins_32 dd_X11_joins_32b.1) rfl).to, ?_⟩
  refine List.forall_mem_cons.mpr ⟨(s_aloadn (am_dp pw_X11_joins_32 dd_X11_joins_32b.2.1) rfl).to, ?_⟩
  refine List.forall_mem_cons.mpr ⟨(s_get (ci := 11) (k := 49) (am_dp pw_X11_joins_32 dd_X11_joins_32b.2.2.1) rfl (by decide) wd1382 inX11 rfl).to, ?_⟩
  refine List.forall_mem_cons.mpr ⟨(s_aloadn (am_dp pw_X11_joins_32 dd_X11_joins_32b.2.2.2.1) rfl).to, ?_⟩
  refine List.forall_mem_cons.mpr ⟨(s_get (ci := 11) (k := 50) (am_dp pw_X11_joins_32 dd_X11_joins_32b.2.2.2.2.1) rfl (by decide) wd1383 inX11 rfl).to, ?_⟩
  refine List.forall_mem_cons.mpr ⟨(s_iald (am_dp pw_X11_joins_32 dd_X11_joins_32b.2.2.2.2.2.1)).to, ?_⟩
  refine List.forall_mem_cons.mpr ⟨(s_iconst (am_dp pw_X11_joins_32 dd_X11_joins_32b.2.2.2.2.2.2.1) (by decide)).to, ?_⟩
  refine List.forall_mem_cons.mpr ⟨zw_cv183 (am_dp pw_X11_joins_32 dd_X11_joins_32b.2.2.2.2.2.2.2) wd1685, ?_⟩
  refine List.forall_mem_cons.mpr ⟨(s_goto (am_dp pw_X11_joins_32 dd_X11_joins_32c.1) (by decide)).to, ?_⟩
  refine List.forall_mem_cons.mpr ⟨s_vret (am_dp pw_X11_joins_32 dd_X11_joins_32c.2) rfl, ?_⟩
  exact fun _ h => absurd h List.not_mem_nil
theorem sn_tX11_holdsBack : ∀ q ∈ tX11_holdsBack, am_Snd am_P0 RX11 cX11_holdsBack 2 (Option.none : Option FieldType) "holdsBack" q.1 q.2 := by
  unfold tX11_holdsBack
  refine List.forall_mem_cons.mpr ⟨(s_aloadn (am_dp pw_X11_holdsBack_0 dd_X11_holdsBack_0a.1) rfl).to, ?_⟩
  refine List.forall_mem_cons.mpr ⟨(s_get (ci := 11) (k := 49) (am_dp pw_X11_holdsBack_0 dd_X11_holdsBack_0a.2.1) rfl (by decide) wd1382 inX11 rfl).to, ?_⟩
  refine List.forall_mem_cons.mpr ⟨(s_aloadn (am_dp pw_X11_holdsBack_0 dd_X11_holdsBack_0a.2.2.1) rfl).to, ?_⟩
  refine List.forall_mem_cons.mpr ⟨(s_get (ci := 11) (k := 50) (am_dp pw_X11_holdsBack_0 dd_X11_holdsBack_0a.2.2.2.1) rfl (by decide) wd1383 inX11 rfl).to, ?_⟩
  refine List.forall_mem_cons.mpr ⟨(s_iloadn (am_dp pw_X11_holdsBack_0 dd_X11_holdsBack_0a.2.2.2.2.1) rfl).to, ?_⟩
  refine List.forall_mem_cons.mpr ⟨(s_iast (am_dp pw_X11_holdsBack_0 dd_X11_holdsBack_0a.2.2.2.2.2.1)).to, ?_⟩
  refine List.forall_mem_cons.mpr ⟨(s_aloadn (am_dp pw_X11_holdsBack_0 dd_X11_holdsBack_0a.2.2.2.2.2.2.1) rfl).to, ?_⟩
  refine List.forall_mem_cons.mpr ⟨(s_dup (am_dp pw_X11_holdsBack_0 dd_X11_holdsBack_0a.2.2.2.2.2.2.2)).to, ?_⟩
  refine List.forall_mem_cons.mpr ⟨(s_get (ci := 11) (k := 50) (am_dp pw_X11_holdsBack_0 dd_X11_holdsBack_0b.1) rfl (by decide) wd1383 inX11 rfl).to, ?_⟩
  refine List.forall_mem_cons.mpr ⟨(s_iconst (am_dp pw_X11_holdsBack_0 dd_X11_holdsBack_0b.2.1) (by decide)).to, ?_⟩
  refine List.forall_mem_cons.mpr ⟨(s_iadd (am_dp pw_X11_holdsBack_0 dd_X11_holdsBack_0b.2.2.1)).to, ?_⟩
  refine List.forall_mem_cons.mpr ⟨(s_put (ci := 11) (k := 50) (am_dp pw_X11_holdsBack_0 dd_X11_holdsBack_0b.2.2.2.1) rfl (by decide) wd1383 inX11 tyX11_ok nmX11 rfl rfl).to, ?_⟩
  refine List.forall_mem_cons.mpr ⟨s_vret (am_dp pw_X11_holdsBack_0 dd_X11_holdsBack_0b.2.2.2.2) rfl, ?_⟩
  exact fun _ h => absurd h List.not_mem_nil
theorem sn_tX11_pushes : ∀ q ∈ tX11_pushes, am_Snd am_P0 RX11 cX11_pushes 2 (Option.none : Option FieldType) "pushes" q.1 q.2 := by
  unfold tX11_pushes
  refine List.forall_mem_cons.mpr ⟨(s_aloadn (am_dp pw_X11_pushes_0 dd_X11_pushes_0a.1) rfl).to, ?_⟩
  refine List.forall_mem_cons.mpr ⟨(s_get (ci := 11) (k := 42) (am_dp pw_X11_pushes_0 dd_X11_pushes_0a.2.1) rfl (by decide) wd1375 inX11 rfl).to, ?_⟩
  refine List.forall_mem_cons.mpr ⟨(s_aloadn (am_dp pw_X11_pushes_0 dd_X11_pushes_0a.2.2.1) rfl).to, ?_⟩
  refine List.forall_mem_cons.mpr ⟨(s_get (ci := 11) (k := 47) (am_dp pw_X11_pushes_0 dd_X11_pushes_0a.2.2.2.1) rfl (by decide) wd1380 inX11 rfl).to, ?_⟩
  refine List.forall_mem_cons.mpr ⟨(s_iloadn (am_dp pw_X11_pushes_0 dd_X11_pushes_0a.2.2.2.2.1) rfl).to, ?_⟩
  refine List.forall_mem_cons.mpr ⟨(s_iast (am_dp pw_X11_pushes_0 dd_X11_pushes_0a.2.2.2.2.2.1)).to, ?_⟩
  refine List.forall_mem_cons.mpr ⟨(s_aloadn (am_dp pw_X11_pushes_0 dd_X11_pushes_0a.2.2.2.2.2.2.1) rfl).to, ?_⟩
  refine List.forall_mem_cons.mpr ⟨(s_get (ci := 11) (k := 43) (am_dp pw_X11_pushes_0 dd_X11_pushes_0a.2.2.2.2.2.2.2) rfl (by decide) wd1376 inX11 rfl).to, ?_⟩
  refine List.forall_mem_cons.mpr ⟨(s_aloadn (am_dp pw_X11_pushes_0 dd_X11_pushes_0b.1) rfl).to, ?_⟩
  refine List.forall_mem_cons.mpr ⟨(s_get (ci := 11) (k := 47) (am_dp pw_X11_pushes_0 dd_X11_pushes_0b.2.1) rfl (by decide) wd1380 inX11 rfl).to, ?_⟩
  refine List.forall_mem_cons.mpr ⟨(s_iconst (am_dp pw_X11_pushes_0 dd_X11_pushes_0b.2.2.1) (by decide)).to, ?_⟩
  refine List.forall_mem_cons.mpr ⟨(s_iast (am_dp pw_X11_pushes_0 dd_X11_pushes_0b.2.2.2.1)).to, ?_⟩
  refine List.forall_mem_cons.mpr ⟨(s_aloadn (am_dp pw_X11_pushes_0 dd_X11_pushes_0b.2.2.2.2.1) rfl).to, ?_⟩
  refine List.forall_mem_cons.mpr ⟨(s_get (ci := 11) (k := 44) (am_dp pw_X11_pushes_0 dd_X11_pushes_0b.2.2.2.2.2.1) rfl (by decide) wd1377 inX11 rfl).to, ?_⟩
  refine List.forall_mem_cons.mpr ⟨(s_aloadn (am_dp pw_X11_pushes_0 dd_X11_pushes_0b.2.2.2.2.2.2.1) rfl).to, ?_⟩
  refine List.forall_mem_cons.mpr ⟨(s_get (ci := 11) (k := 47) (am_dp pw_X11_pushes_0 dd_X11_pushes_0b.2.2.2.2.2.2.2) rfl (by decide) wd1380 inX11 rfl).to, ?_⟩
  refine List.forall_mem_cons.mpr ⟨(s_iconst (am_dp pw_X11_pushes_0 dd_X11_pushes_0c.1) (by decide)).to, ?_⟩
  refine List.forall_mem_cons.mpr ⟨(s_zast (am_dp pw_X11_pushes_0 dd_X11_pushes_0c.2.1)).to, ?_⟩
  refine List.forall_mem_cons.mpr ⟨(s_aloadn (am_dp pw_X11_pushes_0 dd_X11_pushes_0c.2.2.1) rfl).to, ?_⟩
  refine List.forall_mem_cons.mpr ⟨(s_get (ci := 11) (k := 46) (am_dp pw_X11_pushes_0 dd_X11_pushes_0c.2.2.2) rfl (by decide) wd1379 inX11 rfl).to, ?_⟩
  refine List.forall_mem_cons.mpr ⟨(s_aloadn (am_dp pw_X11_pushes_32 dd_X11_pushes_32a.1) rfl).to, ?_⟩
  refine List.forall_mem_cons.mpr ⟨(s_get (ci := 11) (k := 47) (am_dp pw_X11_pushes_32 dd_X11_pushes_32a.2.1) rfl (by decide) wd1380 inX11 rfl).to, ?_⟩
  refine List.forall_mem_cons.mpr ⟨(s_aloadn (am_dp pw_X11_pushes_32 dd_X11_pushes_32a.2.2.1) rfl).to, ?_⟩
  refine List.forall_mem_cons.mpr ⟨(s_get (ci := 11) (k := 50) (am_dp pw_X11_pushes_32 dd_X11_pushes_32a.2.2.2.1) rfl (by decide) wd1383 inX11 rfl).to, ?_⟩
  refine List.forall_mem_cons.mpr ⟨(s_iast (am_dp pw_X11_pushes_32 dd_X11_pushes_32a.2.2.2.2.1)).to, ?_⟩
  refine List.forall_mem_cons.mpr ⟨(s_aloadn (am_dp pw_X11_pushes_32 dd_X11_pushes_32a.2.2.2.2.2.1) rfl).to, ?_⟩
  refine List.forall_mem_cons.mpr ⟨(s_dup (am_dp pw_X11_pushes_32 dd_X11_pushes_32a.2.2.2.2.2.2.1)).to, ?_⟩
  refine List.forall_mem_cons.mpr ⟨(s_get (ci := 11) (k := 47) (am_dp pw_X11_pushes_32 dd_X11_pushes_32a.2.2.2.2.2.2.2) rfl (by decide) wd1380 inX11 rfl).to, ?_⟩
  refine List.forall_mem_cons.mpr ⟨(s_iconst (am_dp pw_X11_pushes_32 dd_X11_pushes_32b.1) (by decide)).to, ?_⟩
  refine List.forall_mem_cons.mpr ⟨(s_iadd (am_dp pw_X11_pushes_32 dd_X11_pushes_32b.2.1)).to, ?_⟩
  refine List.forall_mem_cons.mpr ⟨(s_put (ci := 11) (k := 47) (am_dp pw_X11_pushes_32 dd_X11_pushes_32b.2.2.1) rfl (by decide) wd1380 inX11 tyX11_ok nmX11 rfl rfl).to, ?_⟩
  refine List.forall_mem_cons.mpr ⟨s_vret (am_dp pw_X11_pushes_32 dd_X11_pushes_32b.2.2.2) rfl, ?_⟩
  exact fun _ h => absurd h List.not_mem_nil
theorem sn_tX11_opens : ∀ q ∈ tX11_opens, am_Snd am_P0 RX11 cX11_opens 2 (Option.none : Option FieldType) "opens" q.1 q.2 := by
  unfold tX11_opens
  refine List.forall_mem_cons.mpr ⟨(s_aloadn (am_dp pw_X11_opens_0 dd_X11_opens_0a.1) rfl).to, ?_⟩
  refine List.forall_mem_cons.mpr ⟨(s_get (ci := 11) (k := 48) (am_dp pw_X11_opens_0 dd_X11_opens_0a.2.1) rfl (by decide) wd1381 inX11 rfl).to, ?_⟩
  refine List.forall_mem_cons.mpr ⟨(s_bipush (am_dp pw_X11_opens_0 dd_X11_opens_0a.2.2.1) (by decide)).to, ?_⟩
  refine List.forall_mem_cons.mpr ⟨(s_icmp_ne (am_dp pw_X11_opens_0 dd_X11_opens_0a.2.2.2.1) (by decide)).to, ?_⟩
  refine List.forall_mem_cons.mpr ⟨(s_aloadn (am_dp pw_X11_opens_0 dd_X11_opens_0a.2.2.2.2.1) rfl).to, ?_⟩
  refine List.forall_mem_cons.mpr ⟨(s_iconst (am_dp pw_X11_opens_0 dd_X11_opens_0a.2.2.2.2.2.1) (by decide)).to, ?_⟩
  refine List.forall_mem_cons.mpr ⟨(s_aloadn (am_dp pw_X11_opens_0 dd_X11_opens_0a.2.2.2.2.2.2.1) rfl).to, ?_⟩
  refine List.forall_mem_cons.mpr ⟨(s_get (ci := 11) (k := 4) (am_dp pw_X11_opens_0 dd_X11_opens_0a.2.2.2.2.2.2.2) rfl (by decide) wd1337 inX11 rfl).to, ?_⟩
  refine List.forall_mem_cons.mpr ⟨zw_cv171 (am_dp pw_X11_opens_0 dd_X11_opens_0b.1) wd1613, ?_⟩
  refine List.forall_mem_cons.mpr ⟨(s_aloadn (am_dp pw_X11_opens_0 dd_X11_opens_0b.2.1) rfl).to, ?_⟩
  refine List.forall_mem_cons.mpr ⟨(s_get (ci := 11) (k := 8) (am_dp pw_X11_opens_0 dd_X11_opens_0b.2.2.1) rfl (by decide) wd1341 inX11 rfl).to, ?_⟩
  refine List.forall_mem_cons.mpr ⟨(s_if_le (am_dp pw_X11_opens_0 dd_X11_opens_0b.2.2.2.1) (by decide)).to, ?_⟩
  refine List.forall_mem_cons.mpr ⟨s_vret (am_dp pw_X11_opens_0 dd_X11_opens_0b.2.2.2.2.1) rfl, ?_⟩
  refine List.forall_mem_cons.mpr ⟨(s_aloadn (am_dp pw_X11_opens_0 dd_X11_opens_0b.2.2.2.2.2.1) rfl).to, ?_⟩
  refine List.forall_mem_cons.mpr ⟨(s_dup (am_dp pw_X11_opens_0 dd_X11_opens_0b.2.2.2.2.2.2.1)).to, ?_⟩
  refine List.forall_mem_cons.mpr ⟨(s_get (ci := 11) (k := 48) (am_dp pw_X11_opens_0 dd_X11_opens_0b.2.2.2.2.2.2.2) rfl (by decide) wd1381 inX11 rfl).to, ?_⟩
  refine List.forall_mem_cons.mpr ⟨(s_iconst (am_dp pw_X11_opens_0 dd_X11_opens_0c) (by decide)).to, ?_⟩
  refine List.forall_mem_cons.mpr ⟨(s_iadd (am_dp pw_X11_opens_32 dd_X11_opens_32a.1)).to, ?_⟩
  refine List.forall_mem_cons.mpr ⟨(s_put (ci := 11) (k := 48) (am_dp pw_X11_opens_32 dd_X11_opens_32a.2.1) rfl (by decide) wd1381 inX11 tyX11_ok nmX11 rfl rfl).to, ?_⟩
  refine List.forall_mem_cons.mpr ⟨(s_aloadn (am_dp pw_X11_opens_32 dd_X11_opens_32a.2.2.1) rfl).to, ?_⟩
  refine List.forall_mem_cons.mpr ⟨zw_cv174 (am_dp pw_X11_opens_32 dd_X11_opens_32a.2.2.2.1) wd1603, ?_⟩
  refine List.forall_mem_cons.mpr ⟨(s_aloadn (am_dp pw_X11_opens_32 dd_X11_opens_32a.2.2.2.2.1) rfl).to, ?_⟩
  refine List.forall_mem_cons.mpr ⟨(s_iloadn (am_dp pw_X11_opens_32 dd_X11_opens_32a.2.2.2.2.2.1) rfl).to, ?_⟩
  refine List.forall_mem_cons.mpr ⟨zw_cv187 (am_dp pw_X11_opens_32 dd_X11_opens_32a.2.2.2.2.2.2.1) wd1664, ?_⟩
  refine List.forall_mem_cons.mpr ⟨s_vret (am_dp pw_X11_opens_32 dd_X11_opens_32a.2.2.2.2.2.2.2) rfl, ?_⟩
  exact fun _ h => absurd h List.not_mem_nil
theorem sn_tX11_isTest : ∀ q ∈ tX11_isTest, am_Snd am_P0 RX11 cX11_isTest 1 (Option.some FieldType.boolean) "isTest" q.1 q.2 := by
  unfold tX11_isTest
  refine List.forall_mem_cons.mpr ⟨(s_iloadn (am_dp pw_X11_isTest_0 dd_X11_isTest_0a.1) rfl).to, ?_⟩
  refine List.forall_mem_cons.mpr ⟨(s_iconst (am_dp pw_X11_isTest_0 dd_X11_isTest_0a.2.1) (by decide)).to, ?_⟩
  refine List.forall_mem_cons.mpr ⟨(s_icmp_eq (am_dp pw_X11_isTest_0 dd_X11_isTest_0a.2.2.1) (by decide)).to, ?_⟩
  refine List.forall_mem_cons.mpr ⟨(s_iloadn (am_dp pw_X11_isTest_0 dd_X11_isTest_0a.2.2.2.1) rfl).to, ?_⟩
  refine List.forall_mem_cons.mpr ⟨(s_iconst (am_dp pw_X11_isTest_0 dd_X11_isTest_0a.2.2.2.2.1) (by decide)).to, ?_⟩
  refine List.forall_mem_cons.mpr ⟨(s_icmp_ne (am_dp pw_X11_isTest_0 dd_X11_isTest_0a.2.2.2.2.2.1) (by decide)).to, ?_⟩
  refine List.forall_mem_cons.mpr ⟨(s_iconst (am_dp pw_X11_isTest_0 dd_X11_isTest_0a.2.2.2.2.2.2.1) (by decide)).to, ?_⟩
  refine List.forall_mem_cons.mpr ⟨(s_goto (am_dp pw_X11_isTest_0 dd_X11_isTest_0a.2.2.2.2.2.2.2) (by decide)).to, ?_⟩
  refine List.forall_mem_cons.mpr ⟨(s_iconst (am_dp pw_X11_isTest_0 dd_X11_isTest_0b.1) (by decide)).to, ?_⟩
  refine List.forall_mem_cons.mpr ⟨s_zret (am_dp pw_X11_isTest_0 dd_X11_isTest_0b.2) rfl, ?_⟩
  exact fun _ h => absurd h List.not_mem_nil
theorem sn_tX11_operand_0 : ∀ q ∈ tX11_operand_0, am_Snd am_P0 RX11 cX11_operand 4 (Option.some FieldType.boolean) "operand" q.1 q.2 := by
  unfold tX11_operand_0
  refine List.forall_mem_cons.mpr ⟨(s_aloadn (am_dp pw_X11_operand_0 dd_X11_operand_0a.1) rfl).to, ?_⟩
  refine List.forall_mem_cons.mpr ⟨(s_get (ci := 11) (k := 47) (am_dp pw_X11_operand_0 dd_X11_operand_0a.2.1) rfl (by decide) wd1380 inX11 rfl).to, ?_⟩
  refine List.forall_mem_cons.mpr ⟨(s_iconst (am_dp pw_X11_operand_0 dd_X11_operand_0a.2.2.1) (by decide)).to, ?_⟩
  refine List.forall_mem_cons.mpr ⟨(s_isub (am_dp pw_X11_operand_0 dd_X11_operand_0a.2.2.2.1)).to, ?_⟩
  refine List.forall_mem_cons.mpr ⟨(s_istoren (am_dp pw_X11_operand_0 dd_X11_operand_0a.2.2.2.2.1) rfl (by decide)).to, ?_⟩
  refine List.forall_mem_cons.mpr ⟨(s_aloadn (am_dp pw_X11_operand_0 dd_X11_operand_0a.2.2.2.2.2.1) rfl).to, ?_⟩
  refine List.forall_mem_cons.mpr ⟨(s_get (ci := 11) (k := 42) (am_dp pw_X11_operand_0 dd_X11_operand_0a.2.2.2.2.2.2.1) rfl (by decide) wd1375 inX11 rfl).to, ?_⟩
  refine List.forall_mem_cons.mpr ⟨(s_iloadn (am_dp pw_X11_operand_0 dd_X11_operand_0a.2.2.2.2.2.2.2) rfl).to, ?_⟩
  refine List.forall_mem_cons.mpr ⟨(s_iald (am_dp pw_X11_operand_0 dd_X11_operand_0b.1)).to, ?_⟩
  refine List.forall_mem_cons.mpr ⟨zw_cs189 (am_dp pw_X11_operand_0 dd_X11_operand_0b.2.1) wd1672, ?_⟩
  refine List.forall_mem_cons.mpr ⟨(s_if_eq (am_dp pw_X11_operand_0 dd_X11_operand_0b.2.2.1) (by decide)).to, ?_⟩
  refine List.forall_mem_cons.mpr ⟨(s_aloadn (am_dp pw_X11_operand_0 dd_X11_operand_0b.2.2.2.1) rfl).to, ?_⟩
  refine List.forall_mem_cons.mpr ⟨(s_get (ci := 11) (k := 44) (am_dp pw_X11_operand_0 dd_X11_operand_0b.2.2.2.2.1) rfl (by decide) wd1377 inX11 rfl).to, ?_⟩
  refine List.forall_mem_cons.mpr ⟨(s_iloadn (am_dp pw_X11_operand_0 dd_X11_operand_0b.2.2.2.2.2.1) rfl).to, ?_⟩
  refine List.forall_mem_cons.mpr ⟨(s_zald (am_dp pw_X11_operand_0 dd_X11_operand_0b.2.2.2.2.2.2.1)).to, ?_⟩
  refine List.forall_mem_cons.mpr ⟨(s_if_eq (am_dp pw_X11_operand_0 dd_X11_operand_0b.2.2.2.2.2.2.2) (by decide)).to, ?_⟩
  refine List.forall_mem_cons.mpr ⟨(s_iconst (am_dp pw_X11_operand_0 dd_X11_operand_0c.1) (by decide)).to, ?_⟩
  refine List.forall_mem_cons.mpr ⟨(s_goto (am_dp pw_X11_operand_0 dd_X11_operand_0c.2) (by decide)).to, ?_⟩
  refine List.forall_mem_cons.mpr ⟨(s_iconst (am_dp pw_X11_operand_32 dd_X11_operand_32a.1) (by decide)).to, ?_⟩
  refine List.forall_mem_cons.mpr ⟨(s_istoren (am_dp pw_X11_operand_32 dd_X11_operand_32a.2.1) rfl (by decide)).to, ?_⟩
  refine List.forall_mem_cons.mpr ⟨(s_iloadn (am_dp pw_X11_operand_32 dd_X11_operand_32a.2.2.1) rfl).to, ?_⟩
  refine List.forall_mem_cons.mpr ⟨(s_if_eq (am_dp pw_X11_operand_32 dd_X11_operand_32a.2.2.2.1) (by decide)).to, ?_⟩
  refine List.forall_mem_cons.mpr ⟨(s_aloadn (am_dp pw_X11_operand_32 dd_X11_operand_32a.2.2.2.2.1) rfl).to, ?_⟩
  refine List.forall_mem_cons.mpr ⟨(s_ldc2 (am_dp pw_X11_operand_32 dd_X11_operand_32a.2.2.2.2.2.1) wd1675).to, ?_⟩
  refine List.forall_mem_cons.mpr ⟨zw_cv176 (am_dp pw_X11_operand_32 dd_X11_operand_32a.2.2.2.2.2.2.1) wd1622, ?_⟩
  refine List.forall_mem_cons.mpr ⟨(s_if_eq (am_dp pw_X11_operand_32 dd_X11_operand_32a.2.2.2.2.2.2.2) (by decide)).to, ?_⟩
  refine List.forall_mem_cons.mpr ⟨(s_aloadn (am_dp pw_X11_operand_32 dd_X11_operand_32b.1) rfl).to, ?_⟩
  refine List.forall_mem_cons.mpr ⟨(s_bipush (am_dp pw_X11_operand_32 dd_X11_operand_32b.2.1) (by decide)).to, ?_⟩
  refine List.forall_mem_cons.mpr ⟨zw_cv186 (am_dp pw_X11_operand_32 dd_X11_operand_32b.2.2.1) wd1676, ?_⟩
  refine List.forall_mem_cons.mpr ⟨(s_aloadn (am_dp pw_X11_operand_32 dd_X11_operand_32b.2.2.2.1) rfl).to, ?_⟩
  refine List.forall_mem_cons.mpr ⟨zw_cv174 (am_dp pw_X11_operand_32 dd_X11_operand_32b.2.2.2.2.1) wd1603, ?_⟩
  refine List.forall_mem_cons.mpr ⟨(s_iconst (am_dp pw_X11_operand_32 dd_X11_operand_32b.2.2.2.2.2.1) (by decide)).to, ?_⟩
  refine List.forall_mem_cons.mpr ⟨s_zret (am_dp pw_X11_operand_32 dd_X11_operand_32b.2.2.2.2.2.2.1) rfl, ?_⟩
  refine List.forall_mem_cons.mpr ⟨(s_aloadn (am_dp pw_X11_operand_32 dd_X11_operand_32b.2.2.2.2.2.2.2) rfl).to, ?_⟩
  refine List.forall_mem_cons.mpr ⟨(s_get (ci := 11) (k := 44) (am_dp pw_X11_operand_32 dd_X11_operand_32c) rfl (by decide) wd1377 inX11 rfl).to, ?_⟩
  refine List.forall_mem_cons.mpr ⟨(s_iloadn (am_dp pw_X11_operand_64 dd_X11_operand_64a.1) rfl).to, ?_⟩
  refine List.forall_mem_cons.mpr ⟨(s_iconst (am_dp pw_X11_operand_64 dd_X11_operand_64a.2.1) (by decide)).to, ?_⟩
  refine List.forall_mem_cons.mpr ⟨(s_zast (am_dp pw_X11_operand_64 dd_X11_operand_64a.2.2.1)).to, ?_⟩
  refine List.forall_mem_cons.mpr ⟨(s_iloadn (am_dp pw_X11_operand_64 dd_X11_operand_64a.2.2.2.1) rfl).to, ?_⟩
  refine List.forall_mem_cons.mpr ⟨(s_if_eq (am_dp pw_X11_operand_64 dd_X11_operand_64a.2.2.2.2.1) (by decide)).to, ?_⟩
  refine List.forall_mem_cons.mpr ⟨(s_aloadn (am_dp pw_X11_operand_64 dd_X11_operand_64a.2.2.2.2.2.1) rfl).to, ?_⟩
  refine List.forall_mem_cons.mpr ⟨(s_bipush (am_dp pw_X11_operand_64 dd_X11_operand_64a.2.2.2.2.2.2.1) (by decide)).to, ?_⟩
  refine List.forall_mem_cons.mpr ⟨zw_cv175 (am_dp pw_X11_operand_64 dd_X11_operand_64a.2.2.2.2.2.2.2) wd1637, ?_⟩
  refine List.forall_mem_cons.mpr ⟨(s_if_eq (am_dp pw_X11_operand_64 dd_X11_operand_64b.1) (by decide)).to, ?_⟩
  refine List.forall_mem_cons.mpr ⟨(s_aloadn (am_dp pw_X11_operand_64 dd_X11_operand_64b.2.1) rfl).to, ?_⟩
  refine List.forall_mem_cons.mpr ⟨(s_iconst (am_dp pw_X11_operand_64 dd_X11_operand_64b.2.2.1) (by decide)).to, ?_⟩
  refine List.forall_mem_cons.mpr ⟨zw_cv188 (am_dp pw_X11_operand_64 dd_X11_operand_64b.2.2.2.1) wd1680, ?_⟩
  refine List.forall_mem_cons.mpr ⟨(s_iconst (am_dp pw_X11_operand_64 dd_X11_operand_64b.2.2.2.2.1) (by decide)).to, ?_⟩
  refine List.forall_mem_cons.mpr ⟨s_zret (am_dp pw_X11_operand_64 dd_X11_operand_64b.2.2.2.2.2.1) rfl, ?_⟩
  refine List.forall_mem_cons.mpr ⟨(s_iloadn (am_dp pw_X11_operand_64 dd_X11_operand_64b.2.2.2.2.2.2.1) rfl).to, ?_⟩
  refine List.forall_mem_cons.mpr ⟨(s_if_eq (am_dp pw_X11_operand_64 dd_X11_operand_64b.2.2.2.2.2.2.2) (by decide)).to, ?_⟩
  refine List.forall_mem_cons.mpr ⟨(s_aloadn (am_dp pw_X11_operand_64 dd_X11_operand_64c.1) rfl).to, ?_⟩
  refine List.forall_mem_cons.mpr ⟨(s_ldc2 (am_dp pw_X11_operand_64 dd_X11_operand_64c.2.1) wd1684).to, ?_⟩
  refine List.forall_mem_cons.mpr ⟨zw_cv176 (am_dp pw_X11_operand_64 dd_X11_operand_64c.2.2) wd1622, ?_⟩
  refine List.forall_mem_cons.mpr ⟨(s_if_eq (am_dp pw_X11_operand_96 dd_X11_operand_96a.1) (by decide)).to, ?_⟩
  refine List.forall_mem_cons.mpr ⟨(s_aloadn (am_dp pw_X11_operand_96 dd_X11_operand_96a.2.1) rfl).to, ?_⟩
  refine List.forall_mem_cons.mpr ⟨(s_bipush (am_dp pw_X11_operand_96 dd_X11_operand_96a.2.2.1) (by decide)).to, ?_⟩
  refine List.forall_mem_cons.mpr ⟨(s_iconst (am_dp pw_X11_operand_96 dd_X11_operand_96a.2.2.2.1) (by decide)).to, ?_⟩
  refine List.forall_mem_cons.mpr ⟨zw_cv183 (am_dp pw_X11_operand_96 dd_X11_operand_96a.2.2.2.2.1) wd1685, ?_⟩
  refine List.forall_mem_cons.mpr ⟨(s_aloadn (am_dp pw_X11_operand_96 dd_X11_operand_96a.2.2.2.2.2.1) rfl).to, ?_⟩
  exact fun _ h => absurd h List.not_mem_nil
theorem sn_tX11_operand_1 : ∀ q ∈ tX11_operand_1, am_Snd am_P0 RX11 cX11_operand 4 (Option.some FieldType.boolean) "operand" q.1 q.2 := by
  unfold tX11_operand_1
  refine List.forall_mem_cons.mpr ⟨(s_get (ci := 11) (k := 43) (am_dp pw_X11_operand_96 dd_X11_operand_96a.2.2.2.2.2.2.1) rfl (by decide) wd1376 inX11 rfl).to, ?_⟩
  refine List.forall_mem_cons.mpr ⟨(s_iloadn (am_dp pw_X11_operand_96 dd_X11_operand_96a.2.2.2.2.2.2.2) rfl).to, ?_⟩
  refine List.forall_mem_cons.mpr ⟨(s_iconst (am_dp pw_X11_operand_96 dd_X11_operand_96b.1) (by decide)).to, ?_⟩
  refine List.forall_mem_cons.mpr ⟨(s_iast (am_dp pw_X11_operand_96 dd_X11_operand_96b.2.1)).to, ?_⟩
  refine List.forall_mem_cons.mpr ⟨(s_aloadn (am_dp pw_X11_operand_96 dd_X11_operand_96b.2.2.1) rfl).to, ?_⟩
  refine List.forall_mem_cons.mpr ⟨zw_cv174 (am_dp pw_X11_operand_96 dd_X11_operand_96b.2.2.2.1) wd1603, ?_⟩
  refine List.forall_mem_cons.mpr ⟨(s_iconst (am_dp pw_X11_operand_96 dd_X11_operand_96b.2.2.2.2.1) (by decide)).to, ?_⟩
  refine List.forall_mem_cons.mpr ⟨s_zret (am_dp pw_X11_operand_96 dd_X11_operand_96b.2.2.2.2.2.1) rfl, ?_⟩
  refine List.forall_mem_cons.mpr ⟨(s_aloadn (am_dp pw_X11_operand_96 dd_X11_operand_96b.2.2.2.2.2.2.1) rfl).to, ?_⟩
  refine List.forall_mem_cons.mpr ⟨(s_bipush (am_dp pw_X11_operand_96 dd_X11_operand_96b.2.2.2.2.2.2.2) (by decide)).to, ?_⟩
  refine List.forall_mem_cons.mpr ⟨zw_cv175 (am_dp pw_X11_operand_96 dd_X11_operand_96c.1) wd1637, ?_⟩
  refine List.forall_mem_cons.mpr ⟨(s_if_eq (am_dp pw_X11_operand_96 dd_X11_operand_96c.2) (by decide)).to, ?_⟩
  refine List.forall_mem_cons.mpr ⟨(s_aloadn (am_dp pw_X11_operand_128 dd_X11_operand_128a.1) rfl).to, ?_⟩
  refine List.forall_mem_cons.mpr ⟨(s_iconst (am_dp pw_X11_operand_128 dd_X11_operand_128a.2.1) (by decide)).to, ?_⟩
  refine List.forall_mem_cons.mpr ⟨zw_cv188 (am_dp pw_X11_operand_128 dd_X11_operand_128a.2.2.1) wd1680, ?_⟩
  refine List.forall_mem_cons.mpr ⟨(s_iconst (am_dp pw_X11_operand_128 dd_X11_operand_128a.2.2.2.1) (by decide)).to, ?_⟩
  refine List.forall_mem_cons.mpr ⟨s_zret (am_dp pw_X11_operand_128 dd_X11_operand_128a.2.2.2.2.1) rfl, ?_⟩
  refine List.forall_mem_cons.mpr ⟨(s_aloadn (am_dp pw_X11_operand_128 dd_X11_operand_128a.2.2.2.2.2.1) rfl).to, ?_⟩
  refine List.forall_mem_cons.mpr ⟨(s_ldc2 (am_dp pw_X11_operand_128 dd_X11_operand_128a.2.2.2.2.2.2.1) wd1689).to, ?_⟩
  refine List.forall_mem_cons.mpr ⟨zw_cv176 (am_dp pw_X11_operand_128 dd_X11_operand_128a.2.2.2.2.2.2.2) wd1622, ?_⟩
  refine List.forall_mem_cons.mpr ⟨(s_if_ne (am_dp pw_X11_operand_128 dd_X11_operand_128b.1) (by decide)).to, ?_⟩
  refine List.forall_mem_cons.mpr ⟨(s_aloadn (am_dp pw_X11_operand_128 dd_X11_operand_128b.2.1) rfl).to, ?_⟩
  refine List.forall_mem_cons.mpr ⟨(s_ldc2 (am_dp pw_X11_operand_128 dd_X11_operand_128b.2.2.1) wd1690).to, ?_⟩
  refine List.forall_mem_cons.mpr ⟨zw_cv176 (am_dp pw_X11_operand_128 dd_X11_operand_128b.2.2.2.1) wd1622, ?_⟩
  refine List.forall_mem_cons.mpr ⟨(s_if_eq (am_dp pw_X11_operand_128 dd_X11_operand_128b.2.2.2.2.1) (by decide)).to, ?_⟩
  refine List.forall_mem_cons.mpr ⟨(s_aloadn (am_dp pw_X11_operand_128 dd_X11_operand_128b.2.2.2.2.2.1) rfl).to, ?_⟩
  refine List.forall_mem_cons.mpr ⟨(s_ldc2 (am_dp pw_X11_operand_128 dd_X11_operand_128b.2.2.2.2.2.2) wd1689).to, ?_⟩
  refine List.forall_mem_cons.mpr ⟨zw_cv176 (am_dp pw_X11_operand_160 dd_X11_operand_160a.1) wd1622, ?_⟩
  refine List.forall_mem_cons.mpr ⟨(s_if_eq (am_dp pw_X11_operand_160 dd_X11_operand_160a.2.1) (by decide)).to, ?_⟩
  refine List.forall_mem_cons.mpr ⟨(s_bipush (am_dp pw_X11_operand_160 dd_X11_operand_160a.2.2.1) (by decide)).to, ?_⟩
  refine List.forall_mem_cons.mpr ⟨(s_goto (am_dp pw_X11_operand_160 dd_X11_operand_160a.2.2.2.1) (by decide)).to, ?_⟩
  refine List.forall_mem_cons.mpr ⟨(s_bipush (am_dp pw_X11_operand_160 dd_X11_operand_160a.2.2.2.2.1) (by decide)).to, ?_⟩
  refine List.forall_mem_cons.mpr ⟨(s_istoren (am_dp pw_X11_operand_160 dd_X11_operand_160a.2.2.2.2.2.1) rfl (by decide)).to, ?_⟩
  refine List.forall_mem_cons.mpr ⟨(s_aloadn (am_dp pw_X11_operand_160 dd_X11_operand_160a.2.2.2.2.2.2.1) rfl).to, ?_⟩
  refine List.forall_mem_cons.mpr ⟨zw_cv174 (am_dp pw_X11_operand_160 dd_X11_operand_160a.2.2.2.2.2.2.2) wd1603, ?_⟩
  refine List.forall_mem_cons.mpr ⟨(s_aloadn (am_dp pw_X11_operand_160 dd_X11_operand_160b.1) rfl).to, ?_⟩
  refine List.forall_mem_cons.mpr ⟨(s_bipush (am_dp pw_X11_operand_160 dd_X11_operand_160b.2.1) (by decide)).to, ?_⟩
  refine List.forall_mem_cons.mpr ⟨zw_cv175 (am_dp pw_X11_operand_160 dd_X11_operand_160b.2.2.1) wd1637, ?_⟩
  refine List.forall_mem_cons.mpr ⟨(s_if_ne (am_dp pw_X11_operand_160 dd_X11_operand_160b.2.2.2.1) (by decide)).to, ?_⟩
  refine List.forall_mem_cons.mpr ⟨(s_aloadn (am_dp pw_X11_operand_160 dd_X11_operand_160b.2.2.2.2.1) rfl).to, ?_⟩
  refine List.forall_mem_cons.mpr ⟨(s_iconst (am_dp pw_X11_operand_160 dd_X11_operand_160b.2.2.2.2.2.1) (by decide)).to, ?_⟩
  refine List.forall_mem_cons.mpr ⟨(s_aloadn (am_dp pw_X11_operand_160 dd_X11_operand_160b.2.2.2.2.2.2.1) rfl).to, ?_⟩
  refine List.forall_mem_cons.mpr ⟨(s_get (ci := 11) (k := 4) (am_dp pw_X11_operand_160 dd_X11_operand_160b.2.2.2.2.2.2.2) rfl (by decide) wd1337 inX11 rfl).to, ?_⟩
  refine List.forall_mem_cons.mpr ⟨zw_cv171 (am_dp pw_X11_operand_192 dd_X11_operand_192a.1) wd1613, ?_⟩
  refine List.forall_mem_cons.mpr ⟨(s_aloadn (am_dp pw_X11_operand_192 dd_X11_operand_192a.2.1) rfl).to, ?_⟩
  refine List.forall_mem_cons.mpr ⟨(s_iconst (am_dp pw_X11_operand_192 dd_X11_operand_192a.2.2.1) (by decide)).to, ?_⟩
  refine List.forall_mem_cons.mpr ⟨zw_cv188 (am_dp pw_X11_operand_192 dd_X11_operand_192a.2.2.2.1) wd1680, ?_⟩
  refine List.forall_mem_cons.mpr ⟨(s_aloadn (am_dp pw_X11_operand_192 dd_X11_operand_192a.2.2.2.2.1) rfl).to, ?_⟩
  refine List.forall_mem_cons.mpr ⟨(s_get (ci := 11) (k := 8) (am_dp pw_X11_operand_192 dd_X11_operand_192a.2.2.2.2.2.1) rfl (by decide) wd1341 inX11 rfl).to, ?_⟩
  refine List.forall_mem_cons.mpr ⟨(s_if_ne (am_dp pw_X11_operand_192 dd_X11_operand_192a.2.2.2.2.2.2.1) (by decide)).to, ?_⟩
  refine List.forall_mem_cons.mpr ⟨(s_aloadn (am_dp pw_X11_operand_192 dd_X11_operand_192a.2.2.2.2.2.2.2) rfl).to, ?_⟩
  refine List.forall_mem_cons.mpr ⟨(s_get (ci := 11) (k := 45) (am_dp pw_X11_operand_192 dd_X11_operand_192b.1) rfl (by decide) wd1378 inX11 rfl).to, ?_⟩
  refine List.forall_mem_cons.mpr ⟨(s_aloadn (am_dp pw_X11_operand_192 dd_X11_operand_192b.2.1) rfl).to, ?_⟩
  refine List.forall_mem_cons.mpr ⟨(s_get (ci := 11) (k := 47) (am_dp pw_X11_operand_192 dd_X11_operand_192b.2.2.1) rfl (by decide) wd1380 inX11 rfl).to, ?_⟩
  refine List.forall_mem_cons.mpr ⟨(s_iconst (am_dp pw_X11_operand_192 dd_X11_operand_192b.2.2.2.1) (by decide)).to, ?_⟩
  refine List.forall_mem_cons.mpr ⟨(s_isub (am_dp pw_X11_operand_192 dd_X11_operand_192b.2.2.2.2.1)).to, ?_⟩
  refine List.forall_mem_cons.mpr ⟨(s_iloadn (am_dp pw_X11_operand_192 dd_X11_operand_192b.2.2.2.2.2.1) rfl).to, ?_⟩
  refine List.forall_mem_cons.mpr ⟨(s_iast (am_dp pw_X11_operand_192 dd_X11_operand_192b.2.2.2.2.2.2.1)).to, ?_⟩
  refine List.forall_mem_cons.mpr ⟨(s_iconst (am_dp pw_X11_operand_192 dd_X11_operand_192b.2.2.2.2.2.2.2) (by decide)).to, ?_⟩
  refine List.forall_mem_cons.mpr ⟨s_zret (am_dp pw_X11_operand_192 dd_X11_operand_192c.1) rfl, ?_⟩
  exact fun _ h => absurd h List.not_mem_nil
theorem sn_tX11_operand_2 : ∀ q ∈ tX11_operand_2, am_Snd am_P0 RX11 cX11_operand 4 (Option.some FieldType.boolean) "operand" q.1 q.2 := by
  unfold tX11_operand_2
  refine List.forall_mem_cons.mpr ⟨(s_aloadn (am_dp pw_X11_operand_192 dd_X11_operand_192c.2) rfl).to, ?_⟩
  refine List.forall_mem_cons.mpr ⟨(s_get (ci := 11) (k := 3) (am_dp pw_X11_operand_224 dd_X11_operand_224a.1) rfl (by decide) wd1336 inX11 rfl).to, ?_⟩
  refine List.forall_mem_cons.mpr ⟨(s_iconst (am_dp pw_X11_operand_224 dd_X11_operand_224a.2.1) (by decide)).to, ?_⟩
  refine List.forall_mem_cons.mpr ⟨(s_icmp_ne (am_dp pw_X11_operand_224 dd_X11_operand_224a.2.2.1) (by decide)).to, ?_⟩
  refine List.forall_mem_cons.mpr ⟨(s_iconst (am_dp pw_X11_operand_224 dd_X11_operand_224a.2.2.2.1) (by decide)).to, ?_⟩
  refine List.forall_mem_cons.mpr ⟨(s_goto (am_dp pw_X11_operand_224 dd_X11_operand_224a.2.2.2.2.1) (by decide)).to, ?_⟩
  refine List.forall_mem_cons.mpr ⟨(s_aloadn (am_dp pw_X11_operand_224 dd_X11_operand_224a.2.2.2.2.2.1) rfl).to, ?_⟩
  refine List.forall_mem_cons.mpr ⟨(s_ldc2 (am_dp pw_X11_operand_224 dd_X11_operand_224a.2.2.2.2.2.2.1) wd1691).to, ?_⟩
  refine List.forall_mem_cons.mpr ⟨zw_cv176 (am_dp pw_X11_operand_224 dd_X11_operand_224a.2.2.2.2.2.2.2) wd1622, ?_⟩
  refine List.forall_mem_cons.mpr ⟨(s_if_eq (am_dp pw_X11_operand_224 dd_X11_operand_224b.1) (by decide)).to, ?_⟩
  refine List.forall_mem_cons.mpr ⟨(s_iconst (am_dp pw_X11_operand_224 dd_X11_operand_224b.2.1) (by decide)).to, ?_⟩
  refine List.forall_mem_cons.mpr ⟨(s_goto (am_dp pw_X11_operand_224 dd_X11_operand_224b.2.2.1) (by decide)).to, ?_⟩
  refine List.forall_mem_cons.mpr ⟨(s_aloadn (am_dp pw_X11_operand_224 dd_X11_operand_224b.2.2.2.1) rfl).to, ?_⟩
  refine List.forall_mem_cons.mpr ⟨(s_ldc2 (am_dp pw_X11_operand_224 dd_X11_operand_224b.2.2.2.2.1) wd1692).to, ?_⟩
  refine List.forall_mem_cons.mpr ⟨zw_cv176 (am_dp pw_X11_operand_224 dd_X11_operand_224b.2.2.2.2.2) wd1622, ?_⟩
  refine List.forall_mem_cons.mpr ⟨(s_if_eq (am_dp pw_X11_operand_256 dd_X11_operand_256a.1) (by decide)).to, ?_⟩
  refine List.forall_mem_cons.mpr ⟨(s_iconst (am_dp pw_X11_operand_256 dd_X11_operand_256a.2.1) (by decide)).to, ?_⟩
  refine List.forall_mem_cons.mpr ⟨(s_goto (am_dp pw_X11_operand_256 dd_X11_operand_256a.2.2.1) (by decide)).to, ?_⟩
  refine List.forall_mem_cons.mpr ⟨(s_aloadn (am_dp pw_X11_operand_256 dd_X11_operand_256a.2.2.2.1) rfl).to, ?_⟩
  refine List.forall_mem_cons.mpr ⟨(s_ldc2 (am_dp pw_X11_operand_256 dd_X11_operand_256a.2.2.2.2.1) wd1693).to, ?_⟩
  refine List.forall_mem_cons.mpr ⟨zw_cv176 (am_dp pw_X11_operand_256 dd_X11_operand_256a.2.2.2.2.2.1) wd1622, ?_⟩
  refine List.forall_mem_cons.mpr ⟨(s_if_eq (am_dp pw_X11_operand_256 dd_X11_operand_256a.2.2.2.2.2.2.1) (by decide)).to, ?_⟩
  refine List.forall_mem_cons.mpr ⟨(s_iconst (am_dp pw_X11_operand_256 dd_X11_operand_256a.2.2.2.2.2.2.2) (by decide)).to, ?_⟩
  refine List.forall_mem_cons.mpr ⟨(s_goto (am_dp pw_X11_operand_256 dd_X11_operand_256b.1) (by decide)).to, ?_⟩
  refine List.forall_mem_cons.mpr ⟨(s_aloadn (am_dp pw_X11_operand_256 dd_X11_operand_256b.2.1) rfl).to, ?_⟩
  refine List.forall_mem_cons.mpr ⟨(s_ldc2 (am_dp pw_X11_operand_256 dd_X11_operand_256b.2.2.1) wd1645).to, ?_⟩
  refine List.forall_mem_cons.mpr ⟨zw_cv176 (am_dp pw_X11_operand_256 dd_X11_operand_256b.2.2.2.1) wd1622, ?_⟩
  refine List.forall_mem_cons.mpr ⟨(s_if_eq (am_dp pw_X11_operand_256 dd_X11_operand_256b.2.2.2.2.1) (by decide)).to, ?_⟩
  refine List.forall_mem_cons.mpr ⟨(s_iconst (am_dp pw_X11_operand_256 dd_X11_operand_256b.2.2.2.2.2) (by decide)).to, ?_⟩
  refine List.forall_mem_cons.mpr ⟨(s_goto (am_dp pw_X11_operand_288 dd_X11_operand_288a.1) (by decide)).to, ?_⟩
  refine List.forall_mem_cons.mpr ⟨(s_iconst (am_dp pw_X11_operand_288 dd_X11_operand_288a.2.1) (by decide)).to, ?_⟩
  refine List.forall_mem_cons.mpr ⟨(s_istoren (am_dp pw_X11_operand_288 dd_X11_operand_288a.2.2.1) rfl (by decide)).to, ?_⟩
  refine List.forall_mem_cons.mpr ⟨(s_iloadn (am_dp pw_X11_operand_288 dd_X11_operand_288a.2.2.2.1) rfl).to, ?_⟩
  refine List.forall_mem_cons.mpr ⟨(s_iconst (am_dp pw_X11_operand_288 dd_X11_operand_288a.2.2.2.2.1) (by decide)).to, ?_⟩
  refine List.forall_mem_cons.mpr ⟨(s_icmp_ne (am_dp pw_X11_operand_288 dd_X11_operand_288a.2.2.2.2.2.1) (by decide)).to, ?_⟩
  refine List.forall_mem_cons.mpr ⟨(s_aloadn (am_dp pw_X11_operand_288 dd_X11_operand_288a.2.2.2.2.2.2.1) rfl).to, ?_⟩
  refine List.forall_mem_cons.mpr ⟨(s_iconst (am_dp pw_X11_operand_288 dd_X11_operand_288a.2.2.2.2.2.2.2) (by decide)).to, ?_⟩
  refine List.forall_mem_cons.mpr ⟨(s_aloadn (am_dp pw_X11_operand_288 dd_X11_operand_288b.1) rfl).to, ?_⟩
  refine List.forall_mem_cons.mpr ⟨(s_get (ci := 11) (k := 4) (am_dp pw_X11_operand_288 dd_X11_operand_288b.2.1) rfl (by decide) wd1337 inX11 rfl).to, ?_⟩
  refine List.forall_mem_cons.mpr ⟨zw_cv171 (am_dp pw_X11_operand_288 dd_X11_operand_288b.2.2.1) wd1613, ?_⟩
  refine List.forall_mem_cons.mpr ⟨(s_aloadn (am_dp pw_X11_operand_288 dd_X11_operand_288b.2.2.2.1) rfl).to, ?_⟩
  refine List.forall_mem_cons.mpr ⟨(s_get (ci := 11) (k := 8) (am_dp pw_X11_operand_288 dd_X11_operand_288b.2.2.2.2.1) rfl (by decide) wd1341 inX11 rfl).to, ?_⟩
  refine List.forall_mem_cons.mpr ⟨(s_if_le (am_dp pw_X11_operand_288 dd_X11_operand_288b.2.2.2.2.2.1) (by decide)).to, ?_⟩
  refine List.forall_mem_cons.mpr ⟨(s_iconst (am_dp pw_X11_operand_288 dd_X11_operand_288b.2.2.2.2.2.2.1) (by decide)).to, ?_⟩
  refine List.forall_mem_cons.mpr ⟨s_zret (am_dp pw_X11_operand_288 dd_X11_operand_288b.2.2.2.2.2.2.2) rfl, ?_⟩
  refine List.forall_mem_cons.mpr ⟨(s_aloadn (am_dp pw_X11_operand_288 dd_X11_operand_288c.1) rfl).to, ?_⟩
  refine List.forall_mem_cons.mpr ⟨(s_iloadn (am_dp pw_X11_operand_288 dd_X11_operand_288c.2.1) rfl).to, ?_⟩
  refine List.forall_mem_cons.mpr ⟨(s_aloadn (am_dp pw_X11_operand_288 dd_X11_operand_288c.2.2.1) rfl).to, ?_⟩
  refine List.forall_mem_cons.mpr ⟨(s_get (ci := 11) (k := 6) (am_dp pw_X11_operand_288 dd_X11_operand_288c.2.2.2) rfl (by decide) wd1339 inX11 rfl).to, ?_⟩
  refine List.forall_mem_cons.mpr ⟨zw_cv183 (am_dp pw_X11_operand_320 dd_X11_operand_320a.1) wd1685, ?_⟩
  refine List.forall_mem_cons.mpr ⟨(s_aloadn (am_dp pw_X11_operand_320 dd_X11_operand_320a.2.1) rfl).to, ?_⟩
  refine List.forall_mem_cons.mpr ⟨zw_cv174 (am_dp pw_X11_operand_320 dd_X11_operand_320a.2.2.1) wd1603, ?_⟩
  refine List.forall_mem_cons.mpr ⟨(s_iconst (am_dp pw_X11_operand_320 dd_X11_operand_320a.2.2.2.1) (by decide)).to, ?_⟩
  refine List.forall_mem_cons.mpr ⟨s_zret (am_dp pw_X11_operand_320 dd_X11_operand_320a.2.2.2.2) rfl, ?_⟩
  exact fun _ h => absurd h List.not_mem_nil
theorem sn_tX11_operand : ∀ q ∈ tX11_operand, am_Snd am_P0 RX11 cX11_operand 4 (Option.some FieldType.boolean) "operand" q.1 q.2 := by
  unfold tX11_operand
  exact List.forall_mem_append.mpr ⟨List.forall_mem_append.mpr ⟨sn_tX11_operand_0, sn_tX11_operand_1⟩, sn_tX11_operand_2⟩
theorem sn_tX11_goesOn_0 : ∀ q ∈ tX11_goesOn_0, am_Snd am_P0 RX11 cX11_goesOn 5 (Option.some FieldType.boolean) "goesOn" q.1 q.2 := by
  unfold tX11_goesOn_0
  refine List.forall_mem_cons.mpr ⟨(s_aloadn (am_dp pw_X11_goesOn_0 dd_X11_goesOn_0a.1) rfl).to, ?_⟩
  refine List.forall_mem_cons.mpr ⟨(s_get (ci := 11) (k := 47) (am_dp pw_X11_goesOn_0 dd_X11_goesOn_0a.2.1) rfl (by decide) wd1380 inX11 rfl).to, ?_⟩
  refine List.forall_mem_cons.mpr ⟨(s_iconst (am_dp pw_X11_goesOn_0 dd_X11_goesOn_0a.2.2.1) (by decide)).to, ?_⟩
  refine List.forall_mem_cons.mpr ⟨(s_isub (am_dp pw_X11_goesOn_0 dd_X11_goesOn_0a.2.2.2.1)).to, ?_⟩
  refine List.forall_mem_cons.mpr ⟨(s_istoren (am_dp pw_X11_goesOn_0 dd_X11_goesOn_0a.2.2.2.2.1) rfl (by decide)).to, ?_⟩
  refine List.forall_mem_cons.mpr ⟨(s_aloadn (am_dp pw_X11_goesOn_0 dd_X11_goesOn_0a.2.2.2.2.2.1) rfl).to, ?_⟩
  refine List.forall_mem_cons.mpr ⟨(s_get (ci := 11) (k := 42) (am_dp pw_X11_goesOn_0 dd_X11_goesOn_0a.2.2.2.2.2.2.1) rfl (by decide) wd1375 inX11 rfl).to, ?_⟩
  refine List.forall_mem_cons.mpr ⟨(s_iloadn (am_dp pw_X11_goesOn_0 dd_X11_goesOn_0a.2.2.2.2.2.2.2) rfl).to, ?_⟩
  refine List.forall_mem_cons.mpr ⟨(s_iald (am_dp pw_X11_goesOn_0 dd_X11_goesOn_0b.1)).to, ?_⟩
  refine List.forall_mem_cons.mpr ⟨(s_istoren (am_dp pw_X11_goesOn_0 dd_X11_goesOn_0b.2.1) rfl (by decide)).to, ?_⟩
  refine List.forall_mem_cons.mpr ⟨(s_iloadn (am_dp pw_X11_goesOn_0 dd_X11_goesOn_0b.2.2.1) rfl).to, ?_⟩
  refine List.forall_mem_cons.mpr ⟨zw_cs189 (am_dp pw_X11_goesOn_0 dd_X11_goesOn_0b.2.2.2.1) wd1672, ?_⟩
  refine List.forall_mem_cons.mpr ⟨(s_istoren (am_dp pw_X11_goesOn_0 dd_X11_goesOn_0b.2.2.2.2.1) rfl (by decide)).to, ?_⟩
  refine List.forall_mem_cons.mpr ⟨(s_aloadn (am_dp pw_X11_goesOn_0 dd_X11_goesOn_0b.2.2.2.2.2.1) rfl).to, ?_⟩
  refine List.forall_mem_cons.mpr ⟨(s_get (ci := 11) (k := 43) (am_dp pw_X11_goesOn_0 dd_X11_goesOn_0b.2.2.2.2.2.2.1) rfl (by decide) wd1376 inX11 rfl).to, ?_⟩
  refine List.forall_mem_cons.mpr ⟨(s_iloadn (am_dp pw_X11_goesOn_0 dd_X11_goesOn_0b.2.2.2.2.2.2.2) rfl).to, ?_⟩
  refine List.forall_mem_cons.mpr ⟨(s_iald (am_dp pw_X11_goesOn_0 dd_X11_goesOn_0c.1)).to, ?_⟩
  refine List.forall_mem_cons.mpr ⟨(s_iconst (am_dp pw_X11_goesOn_0 dd_X11_goesOn_0c.2.1) (by decide)).to, ?_⟩
  refine List.forall_mem_cons.mpr ⟨(s_icmp_ge (am_dp pw_X11_goesOn_0 dd_X11_goesOn_0c.2.2.1) (by decide)).to, ?_⟩
  refine List.forall_mem_cons.mpr ⟨(s_aloadn (am_dp pw_X11_goesOn_0 dd_X11_goesOn_0c.2.2.2.1) rfl).to, ?_⟩
  refine List.forall_mem_cons.mpr ⟨(s_bipush (am_dp pw_X11_goesOn_0 dd_X11_goesOn_0c.2.2.2.2) (by decide)).to, ?_⟩
  refine List.forall_mem_cons.mpr ⟨zw_cv175 (am_dp pw_X11_goesOn_32 dd_X11_goesOn_32a.1) wd1637, ?_⟩
  refine List.forall_mem_cons.mpr ⟨(s_if_ne (am_dp pw_X11_goesOn_32 dd_X11_goesOn_32a.2.1) (by decide)).to, ?_⟩
  refine List.forall_mem_cons.mpr ⟨(s_aloadn (am_dp pw_X11_goesOn_32 dd_X11_goesOn_32a.2.2.1) rfl).to, ?_⟩
  refine List.forall_mem_cons.mpr ⟨(s_bipush (am_dp pw_X11_goesOn_32 dd_X11_goesOn_32a.2.2.2.1) (by decide)).to, ?_⟩
  refine List.forall_mem_cons.mpr ⟨zw_cv175 (am_dp pw_X11_goesOn_32 dd_X11_goesOn_32a.2.2.2.2.1) wd1637, ?_⟩
  refine List.forall_mem_cons.mpr ⟨(s_if_ne (am_dp pw_X11_goesOn_32 dd_X11_goesOn_32a.2.2.2.2.2.1) (by decide)).to, ?_⟩
  refine List.forall_mem_cons.mpr ⟨(s_aloadn (am_dp pw_X11_goesOn_32 dd_X11_goesOn_32a.2.2.2.2.2.2.1) rfl).to, ?_⟩
  refine List.forall_mem_cons.mpr ⟨(s_bipush (am_dp pw_X11_goesOn_32 dd_X11_goesOn_32a.2.2.2.2.2.2.2) (by decide)).to, ?_⟩
  refine List.forall_mem_cons.mpr ⟨zw_cv175 (am_dp pw_X11_goesOn_32 dd_X11_goesOn_32b.1) wd1637, ?_⟩
  refine List.forall_mem_cons.mpr ⟨(s_if_ne (am_dp pw_X11_goesOn_32 dd_X11_goesOn_32b.2.1) (by decide)).to, ?_⟩
  refine List.forall_mem_cons.mpr ⟨(s_aloadn (am_dp pw_X11_goesOn_32 dd_X11_goesOn_32b.2.2.1) rfl).to, ?_⟩
  refine List.forall_mem_cons.mpr ⟨(s_bipush (am_dp pw_X11_goesOn_32 dd_X11_goesOn_32b.2.2.2.1) (by decide)).to, ?_⟩
  refine List.forall_mem_cons.mpr ⟨zw_cv175 (am_dp pw_X11_goesOn_32 dd_X11_goesOn_32b.2.2.2.2.1) wd1637, ?_⟩
  refine List.forall_mem_cons.mpr ⟨(s_if_ne (am_dp pw_X11_goesOn_32 dd_X11_goesOn_32b.2.2.2.2.2) (by decide)).to, ?_⟩
  refine List.forall_mem_cons.mpr ⟨(s_aloadn (am_dp pw_X11_goesOn_64 dd_X11_goesOn_64a.1) rfl).to, ?_⟩
  refine List.forall_mem_cons.mpr ⟨(s_bipush (am_dp pw_X11_goesOn_64 dd_X11_goesOn_64a.2.1) (by decide)).to, ?_⟩
  refine List.forall_mem_cons.mpr ⟨zw_cv175 (am_dp pw_X11_goesOn_64 dd_X11_goesOn_64a.2.2.1) wd1637, ?_⟩
  refine List.forall_mem_cons.mpr ⟨(s_if_eq (am_dp pw_X11_goesOn_64 dd_X11_goesOn_64a.2.2.2.1) (by decide)).to, ?_⟩
  refine List.forall_mem_cons.mpr ⟨(s_aloadn (am_dp pw_X11_goesOn_64 dd_X11_goesOn_64a.2.2.2.2.1) rfl).to, ?_⟩
  refine List.forall_mem_cons.mpr ⟨(s_aloadn (am_dp pw_X11_goesOn_64 dd_X11_goesOn_64a.2.2.2.2.2.1) rfl).to, ?_⟩
  refine List.forall_mem_cons.mpr ⟨(s_bipush (am_dp pw_X11_goesOn_64 dd_X11_goesOn_64a.2.2.2.2.2.2.1) (by decide)).to, ?_⟩
  refine List.forall_mem_cons.mpr ⟨zw_cv175 (am_dp pw_X11_goesOn_64 dd_X11_goesOn_64a.2.2.2.2.2.2.2) wd1637, ?_⟩
  refine List.forall_mem_cons.mpr ⟨(s_if_ne (am_dp pw_X11_goesOn_64 dd_X11_goesOn_64b.1) (by decide)).to, ?_⟩
  refine List.forall_mem_cons.mpr ⟨(s_aloadn (am_dp pw_X11_goesOn_64 dd_X11_goesOn_64b.2.1) rfl).to, ?_⟩
  refine List.forall_mem_cons.mpr ⟨(s_bipush (am_dp pw_X11_goesOn_64 dd_X11_goesOn_64b.2.2.1) (by decide)).to, ?_⟩
  refine List.forall_mem_cons.mpr ⟨zw_cv175 (am_dp pw_X11_goesOn_64 dd_X11_goesOn_64b.2.2.2.1) wd1637, ?_⟩
  refine List.forall_mem_cons.mpr ⟨(s_if_eq (am_dp pw_X11_goesOn_64 dd_X11_goesOn_64b.2.2.2.2.1) (by decide)).to, ?_⟩
  refine List.forall_mem_cons.mpr ⟨(s_iconst (am_dp pw_X11_goesOn_64 dd_X11_goesOn_64b.2.2.2.2.2.1) (by decide)).to, ?_⟩
  refine List.forall_mem_cons.mpr ⟨(s_goto (am_dp pw_X11_goesOn_64 dd_X11_goesOn_64b.2.2.2.2.2.2) (by decide)).to, ?_⟩
  refine List.forall_mem_cons.mpr ⟨(s_bipush (am_dp pw_X11_goesOn_96 dd_X11_goesOn_96a.1) (by decide)).to, ?_⟩
  refine List.forall_mem_cons.mpr ⟨zw_cv185 (am_dp pw_X11_goesOn_96 dd_X11_goesOn_96a.2.1) wd1698, ?_⟩
  refine List.forall_mem_cons.mpr ⟨(s_aloadn (am_dp pw_X11_goesOn_96 dd_X11_goesOn_96a.2.2.1) rfl).to, ?_⟩
  refine List.forall_mem_cons.mpr ⟨(s_aloadn (am_dp pw_X11_goesOn_96 dd_X11_goesOn_96a.2.2.2.1) rfl).to, ?_⟩
  refine List.forall_mem_cons.mpr ⟨(s_bipush (am_dp pw_X11_goesOn_96 dd_X11_goesOn_96a.2.2.2.2.1) (by decide)).to, ?_⟩
  refine List.forall_mem_cons.mpr ⟨zw_cv175 (am_dp pw_X11_goesOn_96 dd_X11_goesOn_96a.2.2.2.2.2.1) wd1637, ?_⟩
  refine List.forall_mem_cons.mpr ⟨(s_if_eq (am_dp pw_X11_goesOn_96 dd_X11_goesOn_96a.2.2.2.2.2.2.1) (by decide)).to, ?_⟩
  refine List.forall_mem_cons.mpr ⟨(s_bipush (am_dp pw_X11_goesOn_96 dd_X11_goesOn_96a.2.2.2.2.2.2.2) (by decide)).to, ?_⟩
  refine List.forall_mem_cons.mpr ⟨(s_goto (am_dp pw_X11_goesOn_96 dd_X11_goesOn_96b.1) (by decide)).to, ?_⟩
  refine List.forall_mem_cons.mpr ⟨(s_aloadn (am_dp pw_X11_goesOn_96 dd_X11_goesOn_96b.2.1) rfl).to, ?_⟩
  exact fun _ h => absurd h List.not_mem_nil
theorem sn_tX11_goesOn_1 : ∀ q ∈ tX11_goesOn_1, am_Snd am_P0 RX11 cX11_goesOn 5 (Option.some FieldType.boolean) "goesOn" q.1 q.2 := by
  unfold tX11_goesOn_1
  refine List.forall_mem_cons.mpr ⟨(s_bipush (am_dp pw_X11_goesOn_96 dd_X11_goesOn_96b.2.2.1) (by decide)).to, ?_⟩
  refine List.forall_mem_cons.mpr ⟨zw_cv175 (am_dp pw_X11_goesOn_96 dd_X11_goesOn_96b.2.2.2.1) wd1637, ?_⟩
  refine List.forall_mem_cons.mpr ⟨(s_if_eq (am_dp pw_X11_goesOn_96 dd_X11_goesOn_96b.2.2.2.2.1) (by decide)).to, ?_⟩
  refine List.forall_mem_cons.mpr ⟨(s_bipush (am_dp pw_X11_goesOn_96 dd_X11_goesOn_96b.2.2.2.2.2) (by decide)).to, ?_⟩
  refine List.forall_mem_cons.mpr ⟨(s_goto (am_dp pw_X11_goesOn_128 dd_X11_goesOn_128a.1) (by decide)).to, ?_⟩
  refine List.forall_mem_cons.mpr ⟨(s_aloadn (am_dp pw_X11_goesOn_128 dd_X11_goesOn_128a.2.1) rfl).to, ?_⟩
  refine List.forall_mem_cons.mpr ⟨(s_bipush (am_dp pw_X11_goesOn_128 dd_X11_goesOn_128a.2.2.1) (by decide)).to, ?_⟩
  refine List.forall_mem_cons.mpr ⟨zw_cv175 (am_dp pw_X11_goesOn_128 dd_X11_goesOn_128a.2.2.2.1) wd1637, ?_⟩
  refine List.forall_mem_cons.mpr ⟨(s_if_eq (am_dp pw_X11_goesOn_128 dd_X11_goesOn_128a.2.2.2.2.1) (by decide)).to, ?_⟩
  refine List.forall_mem_cons.mpr ⟨(s_bipush (am_dp pw_X11_goesOn_128 dd_X11_goesOn_128a.2.2.2.2.2.1) (by decide)).to, ?_⟩
  refine List.forall_mem_cons.mpr ⟨(s_goto (am_dp pw_X11_goesOn_128 dd_X11_goesOn_128a.2.2.2.2.2.2.1) (by decide)).to, ?_⟩
  refine List.forall_mem_cons.mpr ⟨(s_aloadn (am_dp pw_X11_goesOn_128 dd_X11_goesOn_128a.2.2.2.2.2.2.2) rfl).to, ?_⟩
  refine List.forall_mem_cons.mpr ⟨(s_bipush (am_dp pw_X11_goesOn_128 dd_X11_goesOn_128b.1) (by decide)).to, ?_⟩
  refine List.forall_mem_cons.mpr ⟨zw_cv175 (am_dp pw_X11_goesOn_128 dd_X11_goesOn_128b.2.1) wd1637, ?_⟩
  refine List.forall_mem_cons.mpr ⟨(s_if_eq (am_dp pw_X11_goesOn_128 dd_X11_goesOn_128b.2.2.1) (by decide)).to, ?_⟩
  refine List.forall_mem_cons.mpr ⟨(s_bipush (am_dp pw_X11_goesOn_128 dd_X11_goesOn_128b.2.2.2.1) (by decide)).to, ?_⟩
  refine List.forall_mem_cons.mpr ⟨(s_goto (am_dp pw_X11_goesOn_128 dd_X11_goesOn_128b.2.2.2.2.1) (by decide)).to, ?_⟩
  refine List.forall_mem_cons.mpr ⟨(s_bipush (am_dp pw_X11_goesOn_128 dd_X11_goesOn_128b.2.2.2.2.2) (by decide)).to, ?_⟩
  refine List.forall_mem_cons.mpr ⟨zw_cv186 (am_dp pw_X11_goesOn_160 dd_X11_goesOn_160a.1) wd1676, ?_⟩
  refine List.forall_mem_cons.mpr ⟨(s_aloadn (am_dp pw_X11_goesOn_160 dd_X11_goesOn_160a.2.1) rfl).to, ?_⟩
  refine List.forall_mem_cons.mpr ⟨zw_cv174 (am_dp pw_X11_goesOn_160 dd_X11_goesOn_160a.2.2.1) wd1603, ?_⟩
  refine List.forall_mem_cons.mpr ⟨(s_aloadn (am_dp pw_X11_goesOn_160 dd_X11_goesOn_160a.2.2.2.1) rfl).to, ?_⟩
  refine List.forall_mem_cons.mpr ⟨(s_iconst (am_dp pw_X11_goesOn_160 dd_X11_goesOn_160a.2.2.2.2.1) (by decide)).to, ?_⟩
  refine List.forall_mem_cons.mpr ⟨(s_put (ci := 11) (k := 51) (am_dp pw_X11_goesOn_160 dd_X11_goesOn_160a.2.2.2.2.2.1) rfl (by decide) wd1384 inX11 tyX11_ok nmX11 rfl rfl).to, ?_⟩
  refine List.forall_mem_cons.mpr ⟨(s_iconst (am_dp pw_X11_goesOn_160 dd_X11_goesOn_160a.2.2.2.2.2.2.1) (by decide)).to, ?_⟩
  refine List.forall_mem_cons.mpr ⟨s_zret (am_dp pw_X11_goesOn_160 dd_X11_goesOn_160a.2.2.2.2.2.2.2) rfl, ?_⟩
  refine List.forall_mem_cons.mpr ⟨(s_iloadn (am_dp pw_X11_goesOn_160 dd_X11_goesOn_160b.1) rfl).to, ?_⟩
  refine List.forall_mem_cons.mpr ⟨(s_if_eq (am_dp pw_X11_goesOn_160 dd_X11_goesOn_160b.2.1) (by decide)).to, ?_⟩
  refine List.forall_mem_cons.mpr ⟨(s_aloadn (am_dp pw_X11_goesOn_160 dd_X11_goesOn_160b.2.2.1) rfl).to, ?_⟩
  refine List.forall_mem_cons.mpr ⟨(s_get (ci := 11) (k := 43) (am_dp pw_X11_goesOn_160 dd_X11_goesOn_160b.2.2.2.1) rfl (by decide) wd1376 inX11 rfl).to, ?_⟩
  refine List.forall_mem_cons.mpr ⟨(s_iloadn (am_dp pw_X11_goesOn_160 dd_X11_goesOn_160b.2.2.2.2.1) rfl).to, ?_⟩
  refine List.forall_mem_cons.mpr ⟨(s_iald (am_dp pw_X11_goesOn_160 dd_X11_goesOn_160b.2.2.2.2.2.1)).to, ?_⟩
  refine List.forall_mem_cons.mpr ⟨(s_if_ne (am_dp pw_X11_goesOn_160 dd_X11_goesOn_160b.2.2.2.2.2.2.1) (by decide)).to, ?_⟩
  refine List.forall_mem_cons.mpr ⟨(s_aloadn (am_dp pw_X11_goesOn_160 dd_X11_goesOn_160b.2.2.2.2.2.2.2) rfl).to, ?_⟩
  refine List.forall_mem_cons.mpr ⟨(s_bipush (am_dp pw_X11_goesOn_160 dd_X11_goesOn_160c.1) (by decide)).to, ?_⟩
  refine List.forall_mem_cons.mpr ⟨zw_cv175 (am_dp pw_X11_goesOn_160 dd_X11_goesOn_160c.2) wd1637, ?_⟩
  refine List.forall_mem_cons.mpr ⟨(s_if_ne (am_dp pw_X11_goesOn_192 dd_X11_goesOn_192a.1) (by decide)).to, ?_⟩
  refine List.forall_mem_cons.mpr ⟨(s_aloadn (am_dp pw_X11_goesOn_192 dd_X11_goesOn_192a.2.1) rfl).to, ?_⟩
  refine List.forall_mem_cons.mpr ⟨(s_bipush (am_dp pw_X11_goesOn_192 dd_X11_goesOn_192a.2.2.1) (by decide)).to, ?_⟩
  refine List.forall_mem_cons.mpr ⟨zw_cv175 (am_dp pw_X11_goesOn_192 dd_X11_goesOn_192a.2.2.2.1) wd1637, ?_⟩
  refine List.forall_mem_cons.mpr ⟨(s_if_ne (am_dp pw_X11_goesOn_192 dd_X11_goesOn_192a.2.2.2.2.1) (by decide)).to, ?_⟩
  refine List.forall_mem_cons.mpr ⟨(s_aloadn (am_dp pw_X11_goesOn_192 dd_X11_goesOn_192a.2.2.2.2.2.1) rfl).to, ?_⟩
  refine List.forall_mem_cons.mpr ⟨(s_bipush (am_dp pw_X11_goesOn_192 dd_X11_goesOn_192a.2.2.2.2.2.2.1) (by decide)).to, ?_⟩
  refine List.forall_mem_cons.mpr ⟨zw_cv175 (am_dp pw_X11_goesOn_192 dd_X11_goesOn_192a.2.2.2.2.2.2.2) wd1637, ?_⟩
  refine List.forall_mem_cons.mpr ⟨(s_if_eq (am_dp pw_X11_goesOn_192 dd_X11_goesOn_192b.1) (by decide)).to, ?_⟩
  refine List.forall_mem_cons.mpr ⟨(s_aloadn (am_dp pw_X11_goesOn_192 dd_X11_goesOn_192b.2.1) rfl).to, ?_⟩
  refine List.forall_mem_cons.mpr ⟨(s_iconst (am_dp pw_X11_goesOn_192 dd_X11_goesOn_192b.2.2.1) (by decide)).to, ?_⟩
  refine List.forall_mem_cons.mpr ⟨zw_cv185 (am_dp pw_X11_goesOn_192 dd_X11_goesOn_192b.2.2.2.1) wd1698, ?_⟩
  refine List.forall_mem_cons.mpr ⟨(s_aloadn (am_dp pw_X11_goesOn_192 dd_X11_goesOn_192b.2.2.2.2.1) rfl).to, ?_⟩
  refine List.forall_mem_cons.mpr ⟨(s_aloadn (am_dp pw_X11_goesOn_192 dd_X11_goesOn_192b.2.2.2.2.2.1) rfl).to, ?_⟩
  refine List.forall_mem_cons.mpr ⟨(s_bipush (am_dp pw_X11_goesOn_192 dd_X11_goesOn_192b.2.2.2.2.2.2) (by decide)).to, ?_⟩
  refine List.forall_mem_cons.mpr ⟨zw_cv175 (am_dp pw_X11_goesOn_224 dd_X11_goesOn_224a.1) wd1637, ?_⟩
  refine List.forall_mem_cons.mpr ⟨(s_if_eq (am_dp pw_X11_goesOn_224 dd_X11_goesOn_224a.2.1) (by decide)).to, ?_⟩
  refine List.forall_mem_cons.mpr ⟨(s_bipush (am_dp pw_X11_goesOn_224 dd_X11_goesOn_224a.2.2.1) (by decide)).to, ?_⟩
  refine List.forall_mem_cons.mpr ⟨(s_goto (am_dp pw_X11_goesOn_224 dd_X11_goesOn_224a.2.2.2.1) (by decide)).to, ?_⟩
  refine List.forall_mem_cons.mpr ⟨(s_aloadn (am_dp pw_X11_goesOn_224 dd_X11_goesOn_224a.2.2.2.2.1) rfl).to, ?_⟩
  refine List.forall_mem_cons.mpr ⟨(s_bipush (am_dp pw_X11_goesOn_224 dd_X11_goesOn_224a.2.2.2.2.2.1) (by decide)).to, ?_⟩
  refine List.forall_mem_cons.mpr ⟨zw_cv175 (am_dp pw_X11_goesOn_224 dd_X11_goesOn_224a.2.2.2.2.2.2.1) wd1637, ?_⟩
  refine List.forall_mem_cons.mpr ⟨(s_if_eq (am_dp pw_X11_goesOn_224 dd_X11_goesOn_224a.2.2.2.2.2.2.2) (by decide)).to, ?_⟩
  refine List.forall_mem_cons.mpr ⟨(s_bipush (am_dp pw_X11_goesOn_224 dd_X11_goesOn_224b.1) (by decide)).to, ?_⟩
  exact fun _ h => absurd h List.not_mem_nil
theorem sn_tX11_goesOn_2 : ∀ q ∈ tX11_goesOn_2, am_Snd am_P0 RX11 cX11_goesOn 5 (Option.some FieldType.boolean) "goesOn" q.1 q.2 := by
  unfold tX11_goesOn_2
  refine List.forall_mem_cons.mpr ⟨(s_goto (am_dp pw_X11_goesOn_224 dd_X11_goesOn_224b.2.1) (by decide)).to, ?_⟩
  refine List.forall_mem_cons.mpr ⟨(s_bipush (am_dp pw_X11_goesOn_224 dd_X11_goesOn_224b.2.2.1) (by decide)).to, ?_⟩
  refine List.forall_mem_cons.mpr ⟨zw_cv186 (am_dp pw_X11_goesOn_224 dd_X11_goesOn_224b.2.2.2.1) wd1676, ?_⟩
  refine List.forall_mem_cons.mpr ⟨(s_aloadn (am_dp pw_X11_goesOn_224 dd_X11_goesOn_224b.2.2.2.2.1) rfl).to, ?_⟩
  refine List.forall_mem_cons.mpr ⟨(s_get (ci := 11) (k := 43) (am_dp pw_X11_goesOn_224 dd_X11_goesOn_224b.2.2.2.2.2) rfl (by decide) wd1376 inX11 rfl).to, ?_⟩
  refine List.forall_mem_cons.mpr ⟨(s_iloadn (am_dp pw_X11_goesOn_256 dd_X11_goesOn_256a.1) rfl).to, ?_⟩
  refine List.forall_mem_cons.mpr ⟨(s_iconst (am_dp pw_X11_goesOn_256 dd_X11_goesOn_256a.2.1) (by decide)).to, ?_⟩
  refine List.forall_mem_cons.mpr ⟨(s_iast (am_dp pw_X11_goesOn_256 dd_X11_goesOn_256a.2.2.1)).to, ?_⟩
  refine List.forall_mem_cons.mpr ⟨(s_aloadn (am_dp pw_X11_goesOn_256 dd_X11_goesOn_256a.2.2.2.1) rfl).to, ?_⟩
  refine List.forall_mem_cons.mpr ⟨zw_cv174 (am_dp pw_X11_goesOn_256 dd_X11_goesOn_256a.2.2.2.2.1) wd1603, ?_⟩
  refine List.forall_mem_cons.mpr ⟨(s_aloadn (am_dp pw_X11_goesOn_256 dd_X11_goesOn_256a.2.2.2.2.2.1) rfl).to, ?_⟩
  refine List.forall_mem_cons.mpr ⟨(s_iconst (am_dp pw_X11_goesOn_256 dd_X11_goesOn_256a.2.2.2.2.2.2.1) (by decide)).to, ?_⟩
  refine List.forall_mem_cons.mpr ⟨(s_put (ci := 11) (k := 51) (am_dp pw_X11_goesOn_256 dd_X11_goesOn_256a.2.2.2.2.2.2.2) rfl (by decide) wd1384 inX11 tyX11_ok nmX11 rfl rfl).to, ?_⟩
  refine List.forall_mem_cons.mpr ⟨(s_iconst (am_dp pw_X11_goesOn_256 dd_X11_goesOn_256b.1) (by decide)).to, ?_⟩
  refine List.forall_mem_cons.mpr ⟨s_zret (am_dp pw_X11_goesOn_256 dd_X11_goesOn_256b.2.1) rfl, ?_⟩
  refine List.forall_mem_cons.mpr ⟨(s_iloadn (am_dp pw_X11_goesOn_256 dd_X11_goesOn_256b.2.2.1) rfl).to, ?_⟩
  refine List.forall_mem_cons.mpr ⟨(s_if_eq (am_dp pw_X11_goesOn_256 dd_X11_goesOn_256b.2.2.2.1) (by decide)).to, ?_⟩
  refine List.forall_mem_cons.mpr ⟨(s_aloadn (am_dp pw_X11_goesOn_256 dd_X11_goesOn_256b.2.2.2.2.1) rfl).to, ?_⟩
  refine List.forall_mem_cons.mpr ⟨(s_ldc2 (am_dp pw_X11_goesOn_256 dd_X11_goesOn_256b.2.2.2.2.2.1) wd1705).to, ?_⟩
  refine List.forall_mem_cons.mpr ⟨zw_cv176 (am_dp pw_X11_goesOn_256 dd_X11_goesOn_256b.2.2.2.2.2.2.1) wd1622, ?_⟩
  refine List.forall_mem_cons.mpr ⟨(s_if_ne (am_dp pw_X11_goesOn_256 dd_X11_goesOn_256b.2.2.2.2.2.2.2) (by decide)).to, ?_⟩
  refine List.forall_mem_cons.mpr ⟨(s_aloadn (am_dp pw_X11_goesOn_256 dd_X11_goesOn_256c.1) rfl).to, ?_⟩
  refine List.forall_mem_cons.mpr ⟨(s_ldc2 (am_dp pw_X11_goesOn_256 dd_X11_goesOn_256c.2) wd1706).to, ?_⟩
  refine List.forall_mem_cons.mpr ⟨zw_cv176 (am_dp pw_X11_goesOn_288 dd_X11_goesOn_288a.1) wd1622, ?_⟩
  refine List.forall_mem_cons.mpr ⟨(s_if_eq (am_dp pw_X11_goesOn_288 dd_X11_goesOn_288a.2.1) (by decide)).to, ?_⟩
  refine List.forall_mem_cons.mpr ⟨(s_aloadn (am_dp pw_X11_goesOn_288 dd_X11_goesOn_288a.2.2.1) rfl).to, ?_⟩
  refine List.forall_mem_cons.mpr ⟨(s_get (ci := 11) (k := 43) (am_dp pw_X11_goesOn_288 dd_X11_goesOn_288a.2.2.2.1) rfl (by decide) wd1376 inX11 rfl).to, ?_⟩
  refine List.forall_mem_cons.mpr ⟨(s_iloadn (am_dp pw_X11_goesOn_288 dd_X11_goesOn_288a.2.2.2.2.1) rfl).to, ?_⟩
  refine List.forall_mem_cons.mpr ⟨(s_iald (am_dp pw_X11_goesOn_288 dd_X11_goesOn_288a.2.2.2.2.2.1)).to, ?_⟩
  refine List.forall_mem_cons.mpr ⟨(s_if_ne (am_dp pw_X11_goesOn_288 dd_X11_goesOn_288a.2.2.2.2.2.2.1) (by decide)).to, ?_⟩
  refine List.forall_mem_cons.mpr ⟨(s_aloadn (am_dp pw_X11_goesOn_288 dd_X11_goesOn_288a.2.2.2.2.2.2.2) rfl).to, ?_⟩
  refine List.forall_mem_cons.mpr ⟨(s_iconst (am_dp pw_X11_goesOn_288 dd_X11_goesOn_288b.1) (by decide)).to, ?_⟩
  refine List.forall_mem_cons.mpr ⟨(s_aloadn (am_dp pw_X11_goesOn_288 dd_X11_goesOn_288b.2.1) rfl).to, ?_⟩
  refine List.forall_mem_cons.mpr ⟨(s_get (ci := 11) (k := 4) (am_dp pw_X11_goesOn_288 dd_X11_goesOn_288b.2.2.1) rfl (by decide) wd1337 inX11 rfl).to, ?_⟩
  refine List.forall_mem_cons.mpr ⟨zw_cv171 (am_dp pw_X11_goesOn_288 dd_X11_goesOn_288b.2.2.2.1) wd1613, ?_⟩
  refine List.forall_mem_cons.mpr ⟨(s_aloadn (am_dp pw_X11_goesOn_288 dd_X11_goesOn_288b.2.2.2.2.1) rfl).to, ?_⟩
  refine List.forall_mem_cons.mpr ⟨(s_get (ci := 11) (k := 8) (am_dp pw_X11_goesOn_288 dd_X11_goesOn_288b.2.2.2.2.2.1) rfl (by decide) wd1341 inX11 rfl).to, ?_⟩
  refine List.forall_mem_cons.mpr ⟨(s_if_le (am_dp pw_X11_goesOn_288 dd_X11_goesOn_288b.2.2.2.2.2.2) (by decide)).to, ?_⟩
  refine List.forall_mem_cons.mpr ⟨(s_iconst (am_dp pw_X11_goesOn_320 dd_X11_goesOn_320a.1) (by decide)).to, ?_⟩
  refine List.forall_mem_cons.mpr ⟨s_zret (am_dp pw_X11_goesOn_320 dd_X11_goesOn_320a.2.1) rfl, ?_⟩
  refine List.forall_mem_cons.mpr ⟨(s_aloadn (am_dp pw_X11_goesOn_320 dd_X11_goesOn_320a.2.2.1) rfl).to, ?_⟩
  refine List.forall_mem_cons.mpr ⟨(s_ldc2 (am_dp pw_X11_goesOn_320 dd_X11_goesOn_320a.2.2.2.1) wd1705).to, ?_⟩
  refine List.forall_mem_cons.mpr ⟨zw_cv176 (am_dp pw_X11_goesOn_320 dd_X11_goesOn_320a.2.2.2.2.1) wd1622, ?_⟩
  refine List.forall_mem_cons.mpr ⟨(s_istore (am_dp pw_X11_goesOn_320 dd_X11_goesOn_320a.2.2.2.2.2.1) (by decide)).to, ?_⟩
  refine List.forall_mem_cons.mpr ⟨(s_aloadn (am_dp pw_X11_goesOn_320 dd_X11_goesOn_320a.2.2.2.2.2.2.1) rfl).to, ?_⟩
  refine List.forall_mem_cons.mpr ⟨(s_iload (am_dp pw_X11_goesOn_320 dd_X11_goesOn_320a.2.2.2.2.2.2.2)).to, ?_⟩
  refine List.forall_mem_cons.mpr ⟨(s_if_eq (am_dp pw_X11_goesOn_320 dd_X11_goesOn_320b.1) (by decide)).to, ?_⟩
  refine List.forall_mem_cons.mpr ⟨(s_iconst (am_dp pw_X11_goesOn_320 dd_X11_goesOn_320b.2.1) (by decide)).to, ?_⟩
  refine List.forall_mem_cons.mpr ⟨(s_goto (am_dp pw_X11_goesOn_320 dd_X11_goesOn_320b.2.2.1) (by decide)).to, ?_⟩
  refine List.forall_mem_cons.mpr ⟨(s_iconst (am_dp pw_X11_goesOn_320 dd_X11_goesOn_320b.2.2.2.1) (by decide)).to, ?_⟩
  refine List.forall_mem_cons.mpr ⟨zw_cv185 (am_dp pw_X11_goesOn_320 dd_X11_goesOn_320b.2.2.2.2.1) wd1698, ?_⟩
  refine List.forall_mem_cons.mpr ⟨(s_aloadn (am_dp pw_X11_goesOn_320 dd_X11_goesOn_320b.2.2.2.2.2.1) rfl).to, ?_⟩
  refine List.forall_mem_cons.mpr ⟨(s_iload (am_dp pw_X11_goesOn_320 dd_X11_goesOn_320b.2.2.2.2.2.2.1)).to, ?_⟩
  refine List.forall_mem_cons.mpr ⟨(s_if_eq (am_dp pw_X11_goesOn_320 dd_X11_goesOn_320b.2.2.2.2.2.2.2) (by decide)).to, ?_⟩
  refine List.forall_mem_cons.mpr ⟨(s_bipush (am_dp pw_X11_goesOn_352 dd_X11_goesOn_352a.1) (by decide)).to, ?_⟩
  refine List.forall_mem_cons.mpr ⟨(s_goto (am_dp pw_X11_goesOn_352 dd_X11_goesOn_352a.2.1) (by decide)).to, ?_⟩
  refine List.forall_mem_cons.mpr ⟨(s_bipush (am_dp pw_X11_goesOn_352 dd_X11_goesOn_352a.2.2.1) (by decide)).to, ?_⟩
  refine List.forall_mem_cons.mpr ⟨zw_cv186 (am_dp pw_X11_goesOn_352 dd_X11_goesOn_352a.2.2.2.1) wd1676, ?_⟩
  refine List.forall_mem_cons.mpr ⟨(s_aloadn (am_dp pw_X11_goesOn_352 dd_X11_goesOn_352a.2.2.2.2.1) rfl).to, ?_⟩
  refine List.forall_mem_cons.mpr ⟨(s_get (ci := 11) (k := 43) (am_dp pw_X11_goesOn_352 dd_X11_goesOn_352a.2.2.2.2.2.1) rfl (by decide) wd1376 inX11 rfl).to, ?_⟩
  exact fun _ h => absurd h List.not_mem_nil
theorem sn_tX11_goesOn_3 : ∀ q ∈ tX11_goesOn_3, am_Snd am_P0 RX11 cX11_goesOn 5 (Option.some FieldType.boolean) "goesOn" q.1 q.2 := by
  unfold tX11_goesOn_3
  refine List.forall_mem_cons.mpr ⟨(s_iloadn (am_dp pw_X11_goesOn_352 dd_X11_goesOn_352a.2.2.2.2.2.2.1) rfl).to, ?_⟩
  refine List.forall_mem_cons.mpr ⟨(s_iconst (am_dp pw_X11_goesOn_352 dd_X11_goesOn_352a.2.2.2.2.2.2.2) (by decide)).to, ?_⟩
  refine List.forall_mem_cons.mpr ⟨(s_iast (am_dp pw_X11_goesOn_352 dd_X11_goesOn_352b.1)).to, ?_⟩
  refine List.forall_mem_cons.mpr ⟨(s_aloadn (am_dp pw_X11_goesOn_352 dd_X11_goesOn_352b.2.1) rfl).to, ?_⟩
  refine List.forall_mem_cons.mpr ⟨(s_get (ci := 11) (k := 44) (am_dp pw_X11_goesOn_352 dd_X11_goesOn_352b.2.2.1) rfl (by decide) wd1377 inX11 rfl).to, ?_⟩
  refine List.forall_mem_cons.mpr ⟨(s_iloadn (am_dp pw_X11_goesOn_352 dd_X11_goesOn_352b.2.2.2.1) rfl).to, ?_⟩
  refine List.forall_mem_cons.mpr ⟨(s_iconst (am_dp pw_X11_goesOn_352 dd_X11_goesOn_352b.2.2.2.2.1) (by decide)).to, ?_⟩
  refine List.forall_mem_cons.mpr ⟨(s_zast (am_dp pw_X11_goesOn_352 dd_X11_goesOn_352b.2.2.2.2.2.1)).to, ?_⟩
  refine List.forall_mem_cons.mpr ⟨(s_aloadn (am_dp pw_X11_goesOn_352 dd_X11_goesOn_352b.2.2.2.2.2.2.1) rfl).to, ?_⟩
  refine List.forall_mem_cons.mpr ⟨zw_cv174 (am_dp pw_X11_goesOn_352 dd_X11_goesOn_352b.2.2.2.2.2.2.2) wd1603, ?_⟩
  refine List.forall_mem_cons.mpr ⟨(s_aloadn (am_dp pw_X11_goesOn_352 dd_X11_goesOn_352c.1) rfl).to, ?_⟩
  refine List.forall_mem_cons.mpr ⟨(s_iconst (am_dp pw_X11_goesOn_352 dd_X11_goesOn_352c.2.1) (by decide)).to, ?_⟩
  refine List.forall_mem_cons.mpr ⟨(s_put (ci := 11) (k := 51) (am_dp pw_X11_goesOn_352 dd_X11_goesOn_352c.2.2) rfl (by decide) wd1384 inX11 tyX11_ok nmX11 rfl rfl).to, ?_⟩
  refine List.forall_mem_cons.mpr ⟨(s_iconst (am_dp pw_X11_goesOn_384 dd_X11_goesOn_384a.1) (by decide)).to, ?_⟩
  refine List.forall_mem_cons.mpr ⟨s_zret (am_dp pw_X11_goesOn_384 dd_X11_goesOn_384a.2.1) rfl, ?_⟩
  refine List.forall_mem_cons.mpr ⟨(s_iloadn (am_dp pw_X11_goesOn_384 dd_X11_goesOn_384a.2.2.1) rfl).to, ?_⟩
  refine List.forall_mem_cons.mpr ⟨(s_if_eq (am_dp pw_X11_goesOn_384 dd_X11_goesOn_384a.2.2.2.1) (by decide)).to, ?_⟩
  refine List.forall_mem_cons.mpr ⟨(s_aloadn (am_dp pw_X11_goesOn_384 dd_X11_goesOn_384a.2.2.2.2.1) rfl).to, ?_⟩
  refine List.forall_mem_cons.mpr ⟨(s_get (ci := 11) (k := 43) (am_dp pw_X11_goesOn_384 dd_X11_goesOn_384a.2.2.2.2.2.1) rfl (by decide) wd1376 inX11 rfl).to, ?_⟩
  refine List.forall_mem_cons.mpr ⟨(s_iloadn (am_dp pw_X11_goesOn_384 dd_X11_goesOn_384a.2.2.2.2.2.2.1) rfl).to, ?_⟩
  refine List.forall_mem_cons.mpr ⟨(s_iald (am_dp pw_X11_goesOn_384 dd_X11_goesOn_384a.2.2.2.2.2.2.2)).to, ?_⟩
  refine List.forall_mem_cons.mpr ⟨(s_if_ne (am_dp pw_X11_goesOn_384 dd_X11_goesOn_384b.1) (by decide)).to, ?_⟩
  refine List.forall_mem_cons.mpr ⟨(s_aloadn (am_dp pw_X11_goesOn_384 dd_X11_goesOn_384b.2.1) rfl).to, ?_⟩
  refine List.forall_mem_cons.mpr ⟨(s_iconst (am_dp pw_X11_goesOn_384 dd_X11_goesOn_384b.2.2.1) (by decide)).to, ?_⟩
  refine List.forall_mem_cons.mpr ⟨(s_aloadn (am_dp pw_X11_goesOn_384 dd_X11_goesOn_384b.2.2.2.1) rfl).to, ?_⟩
  refine List.forall_mem_cons.mpr ⟨(s_get (ci := 11) (k := 4) (am_dp pw_X11_goesOn_384 dd_X11_goesOn_384b.2.2.2.2.1) rfl (by decide) wd1337 inX11 rfl).to, ?_⟩
  refine List.forall_mem_cons.mpr ⟨zw_cv171 (am_dp pw_X11_goesOn_384 dd_X11_goesOn_384b.2.2.2.2.2.1) wd1613, ?_⟩
  refine List.forall_mem_cons.mpr ⟨(s_iloadn (am_dp pw_X11_goesOn_384 dd_X11_goesOn_384b.2.2.2.2.2.2.1) rfl).to, ?_⟩
  refine List.forall_mem_cons.mpr ⟨(s_iconst (am_dp pw_X11_goesOn_384 dd_X11_goesOn_384b.2.2.2.2.2.2.2) (by decide)).to, ?_⟩
  refine List.forall_mem_cons.mpr ⟨(s_icmp_ge (am_dp pw_X11_goesOn_384 dd_X11_goesOn_384c.1) (by decide)).to, ?_⟩
  refine List.forall_mem_cons.mpr ⟨(s_aloadn (am_dp pw_X11_goesOn_384 dd_X11_goesOn_384c.2.1) rfl).to, ?_⟩
  refine List.forall_mem_cons.mpr ⟨(s_get (ci := 11) (k := 8) (am_dp pw_X11_goesOn_384 dd_X11_goesOn_384c.2.2) rfl (by decide) wd1341 inX11 rfl).to, ?_⟩
  refine List.forall_mem_cons.mpr ⟨(s_if_ne (am_dp pw_X11_goesOn_416 dd_X11_goesOn_416a.1) (by decide)).to, ?_⟩
  refine List.forall_mem_cons.mpr ⟨(s_aloadn (am_dp pw_X11_goesOn_416 dd_X11_goesOn_416a.2.1) rfl).to, ?_⟩
  refine List.forall_mem_cons.mpr ⟨(s_iconst (am_dp pw_X11_goesOn_416 dd_X11_goesOn_416a.2.2.1) (by decide)).to, ?_⟩
  refine List.forall_mem_cons.mpr ⟨zw_cv185 (am_dp pw_X11_goesOn_416 dd_X11_goesOn_416a.2.2.2.1) wd1698, ?_⟩
  refine List.forall_mem_cons.mpr ⟨(s_iconst (am_dp pw_X11_goesOn_416 dd_X11_goesOn_416a.2.2.2.2.1) (by decide)).to, ?_⟩
  refine List.forall_mem_cons.mpr ⟨s_zret (am_dp pw_X11_goesOn_416 dd_X11_goesOn_416a.2.2.2.2.2.1) rfl, ?_⟩
  refine List.forall_mem_cons.mpr ⟨(s_iloadn (am_dp pw_X11_goesOn_416 dd_X11_goesOn_416a.2.2.2.2.2.2.1) rfl).to, ?_⟩
  refine List.forall_mem_cons.mpr ⟨(s_iconst (am_dp pw_X11_goesOn_416 dd_X11_goesOn_416a.2.2.2.2.2.2.2) (by decide)).to, ?_⟩
  refine List.forall_mem_cons.mpr ⟨(s_icmp_ne (am_dp pw_X11_goesOn_416 dd_X11_goesOn_416b.1) (by decide)).to, ?_⟩
  refine List.forall_mem_cons.mpr ⟨(s_aloadn (am_dp pw_X11_goesOn_416 dd_X11_goesOn_416b.2.1) rfl).to, ?_⟩
  refine List.forall_mem_cons.mpr ⟨(s_bipush (am_dp pw_X11_goesOn_416 dd_X11_goesOn_416b.2.2.1) (by decide)).to, ?_⟩
  refine List.forall_mem_cons.mpr ⟨zw_cv175 (am_dp pw_X11_goesOn_416 dd_X11_goesOn_416b.2.2.2.1) wd1637, ?_⟩
  refine List.forall_mem_cons.mpr ⟨(s_if_ne (am_dp pw_X11_goesOn_416 dd_X11_goesOn_416b.2.2.2.2.1) (by decide)).to, ?_⟩
  refine List.forall_mem_cons.mpr ⟨(s_aloadn (am_dp pw_X11_goesOn_416 dd_X11_goesOn_416b.2.2.2.2.2.1) rfl).to, ?_⟩
  refine List.forall_mem_cons.mpr ⟨(s_iconst (am_dp pw_X11_goesOn_416 dd_X11_goesOn_416b.2.2.2.2.2.2.1) (by decide)).to, ?_⟩
  refine List.forall_mem_cons.mpr ⟨(s_aloadn (am_dp pw_X11_goesOn_416 dd_X11_goesOn_416b.2.2.2.2.2.2.2) rfl).to, ?_⟩
  refine List.forall_mem_cons.mpr ⟨(s_get (ci := 11) (k := 4) (am_dp pw_X11_goesOn_416 dd_X11_goesOn_416c) rfl (by decide) wd1337 inX11 rfl).to, ?_⟩
  refine List.forall_mem_cons.mpr ⟨zw_cv171 (am_dp pw_X11_goesOn_448 dd_X11_goesOn_448a.1) wd1613, ?_⟩
  refine List.forall_mem_cons.mpr ⟨(s_aloadn (am_dp pw_X11_goesOn_448 dd_X11_goesOn_448a.2.1) rfl).to, ?_⟩
  refine List.forall_mem_cons.mpr ⟨(s_get (ci := 11) (k := 8) (am_dp pw_X11_goesOn_448 dd_X11_goesOn_448a.2.2.1) rfl (by decide) wd1341 inX11 rfl).to, ?_⟩
  refine List.forall_mem_cons.mpr ⟨(s_if_le (am_dp pw_X11_goesOn_448 dd_X11_goesOn_448a.2.2.2.1) (by decide)).to, ?_⟩
  refine List.forall_mem_cons.mpr ⟨(s_iconst (am_dp pw_X11_goesOn_448 dd_X11_goesOn_448a.2.2.2.2.1) (by decide)).to, ?_⟩
  refine List.forall_mem_cons.mpr ⟨s_zret (am_dp pw_X11_goesOn_448 dd_X11_goesOn_448a.2.2.2.2.2.1) rfl, ?_⟩
  refine List.forall_mem_cons.mpr ⟨(s_aloadn (am_dp pw_X11_goesOn_448 dd_X11_goesOn_448a.2.2.2.2.2.2.1) rfl).to, ?_⟩
  refine List.forall_mem_cons.mpr ⟨(s_iconst (am_dp pw_X11_goesOn_448 dd_X11_goesOn_448a.2.2.2.2.2.2.2) (by decide)).to, ?_⟩
  refine List.forall_mem_cons.mpr ⟨zw_cv185 (am_dp pw_X11_goesOn_448 dd_X11_goesOn_448b.1) wd1698, ?_⟩
  refine List.forall_mem_cons.mpr ⟨(s_aloadn (am_dp pw_X11_goesOn_448 dd_X11_goesOn_448b.2.1) rfl).to, ?_⟩
  refine List.forall_mem_cons.mpr ⟨(s_get (ci := 11) (k := 42) (am_dp pw_X11_goesOn_448 dd_X11_goesOn_448b.2.2.1) rfl (by decide) wd1375 inX11 rfl).to, ?_⟩
  exact fun _ h => absurd h List.not_mem_nil
theorem sn_tX11_goesOn_4 : ∀ q ∈ tX11_goesOn_4, am_Snd am_P0 RX11 cX11_goesOn 5 (Option.some FieldType.boolean) "goesOn" q.1 q.2 := by
  unfold tX11_goesOn_4
  refine List.forall_mem_cons.mpr ⟨(s_iloadn (am_dp pw_X11_goesOn_448 dd_X11_goesOn_448b.2.2.2.1) rfl).to, ?_⟩
  refine List.forall_mem_cons.mpr ⟨(s_iconst (am_dp pw_X11_goesOn_448 dd_X11_goesOn_448b.2.2.2.2.1) (by decide)).to, ?_⟩
  refine List.forall_mem_cons.mpr ⟨(s_iast (am_dp pw_X11_goesOn_448 dd_X11_goesOn_448b.2.2.2.2.2.1)).to, ?_⟩
  refine List.forall_mem_cons.mpr ⟨(s_aloadn (am_dp pw_X11_goesOn_448 dd_X11_goesOn_448b.2.2.2.2.2.2.1) rfl).to, ?_⟩
  refine List.forall_mem_cons.mpr ⟨zw_cv174 (am_dp pw_X11_goesOn_448 dd_X11_goesOn_448b.2.2.2.2.2.2.2) wd1603, ?_⟩
  refine List.forall_mem_cons.mpr ⟨(s_aloadn (am_dp pw_X11_goesOn_448 dd_X11_goesOn_448c.1) rfl).to, ?_⟩
  refine List.forall_mem_cons.mpr ⟨(s_iconst (am_dp pw_X11_goesOn_448 dd_X11_goesOn_448c.2.1) (by decide)).to, ?_⟩
  refine List.forall_mem_cons.mpr ⟨(s_put (ci := 11) (k := 51) (am_dp pw_X11_goesOn_448 dd_X11_goesOn_448c.2.2) rfl (by decide) wd1384 inX11 tyX11_ok nmX11 rfl rfl).to, ?_⟩
  refine List.forall_mem_cons.mpr ⟨(s_iconst (am_dp pw_X11_goesOn_480 dd_X11_goesOn_480a.1) (by decide)).to, ?_⟩
  refine List.forall_mem_cons.mpr ⟨s_zret (am_dp pw_X11_goesOn_480 dd_X11_goesOn_480a.2.1) rfl, ?_⟩
  refine List.forall_mem_cons.mpr ⟨(s_aloadn (am_dp pw_X11_goesOn_480 dd_X11_goesOn_480a.2.2.1) rfl).to, ?_⟩
  refine List.forall_mem_cons.mpr ⟨(s_iloadn (am_dp pw_X11_goesOn_480 dd_X11_goesOn_480a.2.2.2.1) rfl).to, ?_⟩
  refine List.forall_mem_cons.mpr ⟨(s_iconst (am_dp pw_X11_goesOn_480 dd_X11_goesOn_480a.2.2.2.2.1) (by decide)).to, ?_⟩
  refine List.forall_mem_cons.mpr ⟨(s_icmp_ne (am_dp pw_X11_goesOn_480 dd_X11_goesOn_480a.2.2.2.2.2.1) (by decide)).to, ?_⟩
  refine List.forall_mem_cons.mpr ⟨(s_bipush (am_dp pw_X11_goesOn_480 dd_X11_goesOn_480a.2.2.2.2.2.2.1) (by decide)).to, ?_⟩
  refine List.forall_mem_cons.mpr ⟨(s_goto (am_dp pw_X11_goesOn_480 dd_X11_goesOn_480a.2.2.2.2.2.2.2) (by decide)).to, ?_⟩
  refine List.forall_mem_cons.mpr ⟨(s_bipush (am_dp pw_X11_goesOn_480 dd_X11_goesOn_480b.1) (by decide)).to, ?_⟩
  refine List.forall_mem_cons.mpr ⟨zw_cv175 (am_dp pw_X11_goesOn_480 dd_X11_goesOn_480b.2.1) wd1637, ?_⟩
  refine List.forall_mem_cons.mpr ⟨(s_if_ne (am_dp pw_X11_goesOn_480 dd_X11_goesOn_480b.2.2.1) (by decide)).to, ?_⟩
  refine List.forall_mem_cons.mpr ⟨(s_aloadn (am_dp pw_X11_goesOn_480 dd_X11_goesOn_480b.2.2.2.1) rfl).to, ?_⟩
  refine List.forall_mem_cons.mpr ⟨(s_iconst (am_dp pw_X11_goesOn_480 dd_X11_goesOn_480b.2.2.2.2.1) (by decide)).to, ?_⟩
  refine List.forall_mem_cons.mpr ⟨(s_aloadn (am_dp pw_X11_goesOn_480 dd_X11_goesOn_480b.2.2.2.2.2.1) rfl).to, ?_⟩
  refine List.forall_mem_cons.mpr ⟨(s_get (ci := 11) (k := 4) (am_dp pw_X11_goesOn_480 dd_X11_goesOn_480b.2.2.2.2.2.2.1) rfl (by decide) wd1337 inX11 rfl).to, ?_⟩
  refine List.forall_mem_cons.mpr ⟨zw_cv171 (am_dp pw_X11_goesOn_480 dd_X11_goesOn_480b.2.2.2.2.2.2.2) wd1613, ?_⟩
  refine List.forall_mem_cons.mpr ⟨(s_aloadn (am_dp pw_X11_goesOn_480 dd_X11_goesOn_480c) rfl).to, ?_⟩
  refine List.forall_mem_cons.mpr ⟨(s_get (ci := 11) (k := 8) (am_dp pw_X11_goesOn_512 dd_X11_goesOn_512a.1) rfl (by decide) wd1341 inX11 rfl).to, ?_⟩
  refine List.forall_mem_cons.mpr ⟨(s_if_le (am_dp pw_X11_goesOn_512 dd_X11_goesOn_512a.2.1) (by decide)).to, ?_⟩
  refine List.forall_mem_cons.mpr ⟨(s_iconst (am_dp pw_X11_goesOn_512 dd_X11_goesOn_512a.2.2.1) (by decide)).to, ?_⟩
  refine List.forall_mem_cons.mpr ⟨s_zret (am_dp pw_X11_goesOn_512 dd_X11_goesOn_512a.2.2.2.1) rfl, ?_⟩
  refine List.forall_mem_cons.mpr ⟨(s_aloadn (am_dp pw_X11_goesOn_512 dd_X11_goesOn_512a.2.2.2.2.1) rfl).to, ?_⟩
  refine List.forall_mem_cons.mpr ⟨(s_iconst (am_dp pw_X11_goesOn_512 dd_X11_goesOn_512a.2.2.2.2.2.1) (by decide)).to, ?_⟩
  refine List.forall_mem_cons.mpr ⟨zw_cv185 (am_dp pw_X11_goesOn_512 dd_X11_goesOn_512a.2.2.2.2.2.2.1) wd1698, ?_⟩
  refine List.forall_mem_cons.mpr ⟨(s_aloadn (am_dp pw_X11_goesOn_512 dd_X11_goesOn_512a.2.2.2.2.2.2.2) rfl).to, ?_⟩
  refine List.forall_mem_cons.mpr ⟨(s_dup (am_dp pw_X11_goesOn_512 dd_X11_goesOn_512b.1)).to, ?_⟩
  refine List.forall_mem_cons.mpr ⟨(s_get (ci := 11) (k := 47) (am_dp pw_X11_goesOn_512 dd_X11_goesOn_512b.2.1) rfl (by decide) wd1380 inX11 rfl).to, ?_⟩
  refine List.forall_mem_cons.mpr ⟨(s_iconst (am_dp pw_X11_goesOn_512 dd_X11_goesOn_512b.2.2.1) (by decide)).to, ?_⟩
  refine List.forall_mem_cons.mpr ⟨(s_isub (am_dp pw_X11_goesOn_512 dd_X11_goesOn_512b.2.2.2.1)).to, ?_⟩
  refine List.forall_mem_cons.mpr ⟨(s_put (ci := 11) (k := 47) (am_dp pw_X11_goesOn_512 dd_X11_goesOn_512b.2.2.2.2.1) rfl (by decide) wd1380 inX11 tyX11_ok nmX11 rfl rfl).to, ?_⟩
  refine List.forall_mem_cons.mpr ⟨(s_aloadn (am_dp pw_X11_goesOn_512 dd_X11_goesOn_512b.2.2.2.2.2.1) rfl).to, ?_⟩
  refine List.forall_mem_cons.mpr ⟨(s_dup (am_dp pw_X11_goesOn_512 dd_X11_goesOn_512b.2.2.2.2.2.2.1)).to, ?_⟩
  refine List.forall_mem_cons.mpr ⟨(s_get (ci := 11) (k := 48) (am_dp pw_X11_goesOn_512 dd_X11_goesOn_512b.2.2.2.2.2.2.2) rfl (by decide) wd1381 inX11 rfl).to, ?_⟩
  refine List.forall_mem_cons.mpr ⟨(s_iconst (am_dp pw_X11_goesOn_512 dd_X11_goesOn_512c.1) (by decide)).to, ?_⟩
  refine List.forall_mem_cons.mpr ⟨(s_isub (am_dp pw_X11_goesOn_512 dd_X11_goesOn_512c.2.1)).to, ?_⟩
  refine List.forall_mem_cons.mpr ⟨(s_put (ci := 11) (k := 48) (am_dp pw_X11_goesOn_512 dd_X11_goesOn_512c.2.2) rfl (by decide) wd1381 inX11 tyX11_ok nmX11 rfl rfl).to, ?_⟩
  refine List.forall_mem_cons.mpr ⟨(s_iloadn (am_dp pw_X11_goesOn_544 dd_X11_goesOn_544a.1) rfl).to, ?_⟩
  refine List.forall_mem_cons.mpr ⟨(s_iconst (am_dp pw_X11_goesOn_544 dd_X11_goesOn_544a.2.1) (by decide)).to, ?_⟩
  refine List.forall_mem_cons.mpr ⟨(s_icmp_ne (am_dp pw_X11_goesOn_544 dd_X11_goesOn_544a.2.2.1) (by decide)).to, ?_⟩
  refine List.forall_mem_cons.mpr ⟨(s_aloadn (am_dp pw_X11_goesOn_544 dd_X11_goesOn_544a.2.2.2.1) rfl).to, ?_⟩
  refine List.forall_mem_cons.mpr ⟨(s_aloadn (am_dp pw_X11_goesOn_544 dd_X11_goesOn_544a.2.2.2.2.1) rfl).to, ?_⟩
  refine List.forall_mem_cons.mpr ⟨(s_get (ci := 11) (k := 45) (am_dp pw_X11_goesOn_544 dd_X11_goesOn_544a.2.2.2.2.2.1) rfl (by decide) wd1378 inX11 rfl).to, ?_⟩
  refine List.forall_mem_cons.mpr ⟨(s_iloadn (am_dp pw_X11_goesOn_544 dd_X11_goesOn_544a.2.2.2.2.2.2.1) rfl).to, ?_⟩
  refine List.forall_mem_cons.mpr ⟨(s_iald (am_dp pw_X11_goesOn_544 dd_X11_goesOn_544a.2.2.2.2.2.2.2)).to, ?_⟩
  refine List.forall_mem_cons.mpr ⟨(s_iconst (am_dp pw_X11_goesOn_544 dd_X11_goesOn_544b.1) (by decide)).to, ?_⟩
  refine List.forall_mem_cons.mpr ⟨zw_cv183 (am_dp pw_X11_goesOn_544 dd_X11_goesOn_544b.2.1) wd1685, ?_⟩
  refine List.forall_mem_cons.mpr ⟨(s_iloadn (am_dp pw_X11_goesOn_544 dd_X11_goesOn_544b.2.2.1) rfl).to, ?_⟩
  refine List.forall_mem_cons.mpr ⟨(s_iconst (am_dp pw_X11_goesOn_544 dd_X11_goesOn_544b.2.2.2.1) (by decide)).to, ?_⟩
  refine List.forall_mem_cons.mpr ⟨(s_icmp_ne (am_dp pw_X11_goesOn_544 dd_X11_goesOn_544b.2.2.2.2.1) (by decide)).to, ?_⟩
  refine List.forall_mem_cons.mpr ⟨(s_aloadn (am_dp pw_X11_goesOn_544 dd_X11_goesOn_544b.2.2.2.2.2.1) rfl).to, ?_⟩
  refine List.forall_mem_cons.mpr ⟨(s_get (ci := 11) (k := 43) (am_dp pw_X11_goesOn_544 dd_X11_goesOn_544b.2.2.2.2.2.2.1) rfl (by decide) wd1376 inX11 rfl).to, ?_⟩
  refine List.forall_mem_cons.mpr ⟨(s_aloadn (am_dp pw_X11_goesOn_544 dd_X11_goesOn_544b.2.2.2.2.2.2.2) rfl).to, ?_⟩
  exact fun _ h => absurd h List.not_mem_nil
theorem sn_tX11_goesOn_5 : ∀ q ∈ tX11_goesOn_5, am_Snd am_P0 RX11 cX11_goesOn 5 (Option.some FieldType.boolean) "goesOn" q.1 q.2 := by
  unfold tX11_goesOn_5
  refine List.forall_mem_cons.mpr ⟨(s_get (ci := 11) (k := 47) (am_dp pw_X11_goesOn_544 dd_X11_goesOn_544c.1) rfl (by decide) wd1380 inX11 rfl).to, ?_⟩
  refine List.forall_mem_cons.mpr ⟨(s_iconst (am_dp pw_X11_goesOn_544 dd_X11_goesOn_544c.2.1) (by decide)).to, ?_⟩
  refine List.forall_mem_cons.mpr ⟨(s_isub (am_dp pw_X11_goesOn_544 dd_X11_goesOn_544c.2.2)).to, ?_⟩
  refine List.forall_mem_cons.mpr ⟨(s_iconst (am_dp pw_X11_goesOn_576 dd_X11_goesOn_576a.1) (by decide)).to, ?_⟩
  refine List.forall_mem_cons.mpr ⟨(s_iast (am_dp pw_X11_goesOn_576 dd_X11_goesOn_576a.2.1)).to, ?_⟩
  refine List.forall_mem_cons.mpr ⟨(s_aloadn (am_dp pw_X11_goesOn_576 dd_X11_goesOn_576a.2.2.1) rfl).to, ?_⟩
  refine List.forall_mem_cons.mpr ⟨zw_cv174 (am_dp pw_X11_goesOn_576 dd_X11_goesOn_576a.2.2.2.1) wd1603, ?_⟩
  refine List.forall_mem_cons.mpr ⟨(s_iconst (am_dp pw_X11_goesOn_576 dd_X11_goesOn_576a.2.2.2.2.1) (by decide)).to, ?_⟩
  refine List.forall_mem_cons.mpr ⟨s_zret (am_dp pw_X11_goesOn_576 dd_X11_goesOn_576a.2.2.2.2.2) rfl, ?_⟩
  exact fun _ h => absurd h List.not_mem_nil
theorem sn_tX11_goesOn : ∀ q ∈ tX11_goesOn, am_Snd am_P0 RX11 cX11_goesOn 5 (Option.some FieldType.boolean) "goesOn" q.1 q.2 := by
  unfold tX11_goesOn
  exact List.forall_mem_append.mpr ⟨List.forall_mem_append.mpr ⟨List.forall_mem_append.mpr ⟨List.forall_mem_append.mpr ⟨List.forall_mem_append.mpr ⟨sn_tX11_goesOn_0, sn_tX11_goesOn_1⟩, sn_tX11_goesOn_2⟩, sn_tX11_goesOn_3⟩, sn_tX11_goesOn_4⟩, sn_tX11_goesOn_5⟩
theorem sn_tX11_reads : ∀ q ∈ tX11_reads, am_Snd am_P0 RX11 cX11_reads 3 (Option.none : Option FieldType) "reads" q.1 q.2 := by
  unfold tX11_reads
  refine List.forall_mem_cons.mpr ⟨(s_aloadn (am_dp pw_X11_reads_0 dd_X11_reads_0a.1) rfl).to, ?_⟩
  refine List.forall_mem_cons.mpr ⟨(s_get (ci := 11) (k := 8) (am_dp pw_X11_reads_0 dd_X11_reads_0a.2.1) rfl (by decide) wd1341 inX11 rfl).to, ?_⟩
  refine List.forall_mem_cons.mpr ⟨(s_if_le (am_dp pw_X11_reads_0 dd_X11_reads_0a.2.2.1) (by decide)).to, ?_⟩
  refine List.forall_mem_cons.mpr ⟨s_vret (am_dp pw_X11_reads_0 dd_X11_reads_0a.2.2.2.1) rfl, ?_⟩
  refine List.forall_mem_cons.mpr ⟨(s_aloadn (am_dp pw_X11_reads_0 dd_X11_reads_0a.2.2.2.2.1) rfl).to, ?_⟩
  refine List.forall_mem_cons.mpr ⟨(s_iconst (am_dp pw_X11_reads_0 dd_X11_reads_0a.2.2.2.2.2.1) (by decide)).to, ?_⟩
  refine List.forall_mem_cons.mpr ⟨(s_put (ci := 11) (k := 47) (am_dp pw_X11_reads_0 dd_X11_reads_0a.2.2.2.2.2.2.1) rfl (by decide) wd1380 inX11 tyX11_ok nmX11 rfl rfl).to, ?_⟩
  refine List.forall_mem_cons.mpr ⟨(s_aloadn (am_dp pw_X11_reads_0 dd_X11_reads_0a.2.2.2.2.2.2.2) rfl).to, ?_⟩
  refine List.forall_mem_cons.mpr ⟨(s_iconst (am_dp pw_X11_reads_0 dd_X11_reads_0b.1) (by decide)).to, ?_⟩
  refine List.forall_mem_cons.mpr ⟨(s_put (ci := 11) (k := 48) (am_dp pw_X11_reads_0 dd_X11_reads_0b.2.1) rfl (by decide) wd1381 inX11 tyX11_ok nmX11 rfl rfl).to, ?_⟩
  refine List.forall_mem_cons.mpr ⟨(s_aloadn (am_dp pw_X11_reads_0 dd_X11_reads_0b.2.2.1) rfl).to, ?_⟩
  refine List.forall_mem_cons.mpr ⟨(s_iconst (am_dp pw_X11_reads_0 dd_X11_reads_0b.2.2.2.1) (by decide)).to, ?_⟩
  refine List.forall_mem_cons.mpr ⟨(s_put (ci := 11) (k := 50) (am_dp pw_X11_reads_0 dd_X11_reads_0b.2.2.2.2.1) rfl (by decide) wd1383 inX11 tyX11_ok nmX11 rfl rfl).to, ?_⟩
  refine List.forall_mem_cons.mpr ⟨(s_aloadn (am_dp pw_X11_reads_0 dd_X11_reads_0b.2.2.2.2.2.1) rfl).to, ?_⟩
  refine List.forall_mem_cons.mpr ⟨(s_iconst (am_dp pw_X11_reads_0 dd_X11_reads_0b.2.2.2.2.2.2.1) (by decide)).to, ?_⟩
  refine List.forall_mem_cons.mpr ⟨(s_put (ci := 11) (k := 51) (am_dp pw_X11_reads_0 dd_X11_reads_0b.2.2.2.2.2.2.2) rfl (by decide) wd1384 inX11 tyX11_ok nmX11 rfl rfl).to, ?_⟩
  refine List.forall_mem_cons.mpr ⟨(s_aloadn (am_dp pw_X11_reads_0 dd_X11_reads_0c.1) rfl).to, ?_⟩
  refine List.forall_mem_cons.mpr ⟨(s_iloadn (am_dp pw_X11_reads_0 dd_X11_reads_0c.2.1) rfl).to, ?_⟩
  refine List.forall_mem_cons.mpr ⟨(s_if_eq (am_dp pw_X11_reads_0 dd_X11_reads_0c.2.2) (by decide)).to, ?_⟩
  refine List.forall_mem_cons.mpr ⟨(s_iconst (am_dp pw_X11_reads_32 dd_X11_reads_32a.1) (by decide)).to, ?_⟩
  refine List.forall_mem_cons.mpr ⟨(s_goto (am_dp pw_X11_reads_32 dd_X11_reads_32a.2.1) (by decide)).to, ?_⟩
  refine List.forall_mem_cons.mpr ⟨(s_iconst (am_dp pw_X11_reads_32 dd_X11_reads_32a.2.2.1) (by decide)).to, ?_⟩
  refine List.forall_mem_cons.mpr ⟨zw_cv187 (am_dp pw_X11_reads_32 dd_X11_reads_32a.2.2.2.1) wd1664, ?_⟩
  refine List.forall_mem_cons.mpr ⟨(s_iconst (am_dp pw_X11_reads_32 dd_X11_reads_32a.2.2.2.2.1) (by decide)).to, ?_⟩
  refine List.forall_mem_cons.mpr ⟨(s_istoren (am_dp pw_X11_reads_32 dd_X11_reads_32a.2.2.2.2.2.1) rfl (by decide)).to, ?_⟩
  refine List.forall_mem_cons.mpr ⟨(s_iloadn (am_dp pw_X11_reads_32 dd_X11_reads_32a.2.2.2.2.2.2.1) rfl).to, ?_⟩
  refine List.forall_mem_cons.mpr ⟨(s_if_eq (am_dp pw_X11_reads_32 dd_X11_reads_32a.2.2.2.2.2.2.2) (by decide)).to, ?_⟩
  refine List.forall_mem_cons.mpr ⟨(s_aloadn (am_dp pw_X11_reads_32 dd_X11_reads_32b.1) rfl).to, ?_⟩
  refine List.forall_mem_cons.mpr ⟨(s_get (ci := 11) (k := 51) (am_dp pw_X11_reads_32 dd_X11_reads_32b.2.1) rfl (by decide) wd1384 inX11 rfl).to, ?_⟩
  refine List.forall_mem_cons.mpr ⟨(s_if_ne (am_dp pw_X11_reads_32 dd_X11_reads_32b.2.2.1) (by decide)).to, ?_⟩
  refine List.forall_mem_cons.mpr ⟨(s_aloadn (am_dp pw_X11_reads_32 dd_X11_reads_32b.2.2.2.1) rfl).to, ?_⟩
  refine List.forall_mem_cons.mpr ⟨(s_aloadn (am_dp pw_X11_reads_32 dd_X11_reads_32b.2.2.2.2.1) rfl).to, ?_⟩
  refine List.forall_mem_cons.mpr ⟨zw_cv190 (am_dp pw_X11_reads_32 dd_X11_reads_32b.2.2.2.2.2.1) wd1668, ?_⟩
  refine List.forall_mem_cons.mpr ⟨(s_put (ci := 11) (k := 51) (am_dp pw_X11_reads_32 dd_X11_reads_32b.2.2.2.2.2.2.1) rfl (by decide) wd1384 inX11 tyX11_ok nmX11 rfl rfl).to, ?_⟩
  refine List.forall_mem_cons.mpr ⟨(s_goto (am_dp pw_X11_reads_32 dd_X11_reads_32b.2.2.2.2.2.2.2) (by decide)).to, ?_⟩
  refine List.forall_mem_cons.mpr ⟨(s_aloadn (am_dp pw_X11_reads_64 dd_X11_reads_64a.1) rfl).to, ?_⟩
  refine List.forall_mem_cons.mpr ⟨zw_cv191 (am_dp pw_X11_reads_64 dd_X11_reads_64a.2.1) wd1694, ?_⟩
  refine List.forall_mem_cons.mpr ⟨(s_istoren (am_dp pw_X11_reads_64 dd_X11_reads_64a.2.2.1) rfl (by decide)).to, ?_⟩
  refine List.forall_mem_cons.mpr ⟨(s_iloadn (am_dp pw_X11_reads_64 dd_X11_reads_64a.2.2.2.1) rfl).to, ?_⟩
  refine List.forall_mem_cons.mpr ⟨(s_if_eq (am_dp pw_X11_reads_64 dd_X11_reads_64a.2.2.2.2.1) (by decide)).to, ?_⟩
  refine List.forall_mem_cons.mpr ⟨(s_aloadn (am_dp pw_X11_reads_64 dd_X11_reads_64a.2.2.2.2.2.1) rfl).to, ?_⟩
  refine List.forall_mem_cons.mpr ⟨(s_get (ci := 11) (k := 8) (am_dp pw_X11_reads_64 dd_X11_reads_64a.2.2.2.2.2.2.1) rfl (by decide) wd1341 inX11 rfl).to, ?_⟩
  refine List.forall_mem_cons.mpr ⟨(s_if_ne (am_dp pw_X11_reads_64 dd_X11_reads_64a.2.2.2.2.2.2.2) (by decide)).to, ?_⟩
  refine List.forall_mem_cons.mpr ⟨(s_iconst (am_dp pw_X11_reads_64 dd_X11_reads_64b.1) (by decide)).to, ?_⟩
  refine List.forall_mem_cons.mpr ⟨(s_goto (am_dp pw_X11_reads_64 dd_X11_reads_64b.2.1) (by decide)).to, ?_⟩
  refine List.forall_mem_cons.mpr ⟨(s_iconst (am_dp pw_X11_reads_64 dd_X11_reads_64b.2.2.1) (by decide)).to, ?_⟩
  refine List.forall_mem_cons.mpr ⟨(s_istoren (am_dp pw_X11_reads_64 dd_X11_reads_64b.2.2.2.1) rfl (by decide)).to, ?_⟩
  refine List.forall_mem_cons.mpr ⟨(s_goto (am_dp pw_X11_reads_64 dd_X11_reads_64b.2.2.2.2.1) (by decide)).to, ?_⟩
  refine List.forall_mem_cons.mpr ⟨s_vret (am_dp pw_X11_reads_64 dd_X11_reads_64b.2.2.2.2.2) rfl, ?_⟩
  exact fun _ h => absurd h List.not_mem_nil
theorem sn_tX11_counts : ∀ q ∈ tX11_counts, am_Snd am_P0 RX11 cX11_counts 2 (Option.some FieldType.boolean) "counts" q.1 q.2 := by
  unfold tX11_counts
  refine List.forall_mem_cons.mpr ⟨(s_aloadn (am_dp pw_X11_counts_0 dd_X11_counts_0a.1) rfl).to, ?_⟩
  refine List.forall_mem_cons.mpr ⟨(s_get (ci := 11) (k := 8) (am_dp pw_X11_counts_0 dd_X11_counts_0a.2.1) rfl (by decide) wd1341 inX11 rfl).to, ?_⟩
  refine List.forall_mem_cons.mpr ⟨(s_if_ne (am_dp pw_X11_counts_0 dd_X11_counts_0a.2.2.1) (by decide)).to, ?_⟩
  refine List.forall_mem_cons.mpr ⟨(s_iloadn (am_dp pw_X11_counts_0 dd_X11_counts_0a.2.2.2.1) rfl).to, ?_⟩
  refine List.forall_mem_cons.mpr ⟨(s_if_eq (am_dp pw_X11_counts_0 dd_X11_counts_0a.2.2.2.2.1) (by decide)).to, ?_⟩
  refine List.forall_mem_cons.mpr ⟨(s_aloadn (am_dp pw_X11_counts_0 dd_X11_counts_0a.2.2.2.2.2.1) rfl).to, ?_⟩
  refine List.forall_mem_cons.mpr ⟨(s_iconst (am_dp pw_X11_counts_0 dd_X11_counts_0a.2.2.2.2.2.2.1) (by decide)).to, ?_⟩
  refine List.forall_mem_cons.mpr ⟨(s_aloadn (am_dp pw_X11_counts_0 dd_X11_counts_0a.2.2.2.2.2.2.2) rfl).to, ?_⟩
  refine List.forall_mem_cons.mpr ⟨(s_get (ci := 11) (k := 4) (am_dp pw_X11_counts_0 dd_X11_counts_0b.1) rfl (by decide) wd1337 inX11 rfl).to, ?_⟩
  refine List.forall_mem_cons.mpr ⟨zw_cv171 (am_dp pw_X11_counts_0 dd_X11_counts_0b.2.1) wd1613, ?_⟩
  refine List.forall_mem_cons.mpr ⟨(s_aloadn (am_dp pw_X11_counts_0 dd_X11_counts_0b.2.2.1) rfl).to, ?_⟩
  refine List.forall_mem_cons.mpr ⟨(s_get (ci := 11) (k := 8) (am_dp pw_X11_counts_0 dd_X11_counts_0b.2.2.2.1) rfl (by decide) wd1341 inX11 rfl).to, ?_⟩
  refine List.forall_mem_cons.mpr ⟨(s_if_ne (am_dp pw_X11_counts_0 dd_X11_counts_0b.2.2.2.2.1) (by decide)).to, ?_⟩
  refine List.forall_mem_cons.mpr ⟨(s_aloadn (am_dp pw_X11_counts_0 dd_X11_counts_0b.2.2.2.2.2.1) rfl).to, ?_⟩
  refine List.forall_mem_cons.mpr ⟨zw_cv174 (am_dp pw_X11_counts_0 dd_X11_counts_0b.2.2.2.2.2.2.1) wd1603, ?_⟩
  refine List.forall_mem_cons.mpr ⟨(s_aloadn (am_dp pw_X11_counts_0 dd_X11_counts_0b.2.2.2.2.2.2.2) rfl).to, ?_⟩
  refine List.forall_mem_cons.mpr ⟨(s_get (ci := 11) (k := 8) (am_dp pw_X11_counts_32 dd_X11_counts_32a.1) rfl (by decide) wd1341 inX11 rfl).to, ?_⟩
  refine List.forall_mem_cons.mpr ⟨(s_if_ne (am_dp pw_X11_counts_32 dd_X11_counts_32a.2.1) (by decide)).to, ?_⟩
  refine List.forall_mem_cons.mpr ⟨(s_iconst (am_dp pw_X11_counts_32 dd_X11_counts_32a.2.2.1) (by decide)).to, ?_⟩
  refine List.forall_mem_cons.mpr ⟨(s_goto (am_dp pw_X11_counts_32 dd_X11_counts_32a.2.2.2.1) (by decide)).to, ?_⟩
  refine List.forall_mem_cons.mpr ⟨(s_iconst (am_dp pw_X11_counts_32 dd_X11_counts_32a.2.2.2.2.1) (by decide)).to, ?_⟩
  refine List.forall_mem_cons.mpr ⟨s_zret (am_dp pw_X11_counts_32 dd_X11_counts_32a.2.2.2.2.2) rfl, ?_⟩
  exact fun _ h => absurd h List.not_mem_nil
theorem sn_tX11_must_ : ∀ q ∈ tX11_must_, am_Snd am_P0 RX11 cX11_must_ 3 (Option.none : Option FieldType) "must" q.1 q.2 := by
  unfold tX11_must_
  refine List.forall_mem_cons.mpr ⟨(s_aloadn (am_dp pw_X11_must__0 dd_X11_must__0a.1) rfl).to, ?_⟩
  refine List.forall_mem_cons.mpr ⟨(s_get (ci := 11) (k := 8) (am_dp pw_X11_must__0 dd_X11_must__0a.2.1) rfl (by decide) wd1341 inX11 rfl).to, ?_⟩
  refine List.forall_mem_cons.mpr ⟨(s_if_le (am_dp pw_X11_must__0 dd_X11_must__0a.2.2.1) (by decide)).to, ?_⟩
  refine List.forall_mem_cons.mpr ⟨s_vret (am_dp pw_X11_must__0 dd_X11_must__0a.2.2.2.1) rfl, ?_⟩
  refine List.forall_mem_cons.mpr ⟨(s_aloadn (am_dp pw_X11_must__0 dd_X11_must__0a.2.2.2.2.1) rfl).to, ?_⟩
  refine List.forall_mem_cons.mpr ⟨(s_lloadn (am_dp pw_X11_must__0 dd_X11_must__0a.2.2.2.2.2.1) rfl).to, ?_⟩
  refine List.forall_mem_cons.mpr ⟨zw_cv176 (am_dp pw_X11_must__0 dd_X11_must__0a.2.2.2.2.2.2.1) wd1622, ?_⟩
  refine List.forall_mem_cons.mpr ⟨(s_if_ne (am_dp pw_X11_must__0 dd_X11_must__0a.2.2.2.2.2.2.2) (by decide)).to, ?_⟩
  refine List.forall_mem_cons.mpr ⟨(s_aloadn (am_dp pw_X11_must__0 dd_X11_must__0b.1) rfl).to, ?_⟩
  refine List.forall_mem_cons.mpr ⟨(s_iconst (am_dp pw_X11_must__0 dd_X11_must__0b.2.1) (by decide)).to, ?_⟩
  refine List.forall_mem_cons.mpr ⟨(s_aloadn (am_dp pw_X11_must__0 dd_X11_must__0b.2.2.1) rfl).to, ?_⟩
  refine List.forall_mem_cons.mpr ⟨(s_get (ci := 11) (k := 4) (am_dp pw_X11_must__0 dd_X11_must__0b.2.2.2.1) rfl (by decide) wd1337 inX11 rfl).to, ?_⟩
  refine List.forall_mem_cons.mpr ⟨zw_cv171 (am_dp pw_X11_must__0 dd_X11_must__0b.2.2.2.2.1) wd1613, ?_⟩
  refine List.forall_mem_cons.mpr ⟨(s_aloadn (am_dp pw_X11_must__0 dd_X11_must__0b.2.2.2.2.2.1) rfl).to, ?_⟩
  refine List.forall_mem_cons.mpr ⟨(s_get (ci := 11) (k := 8) (am_dp pw_X11_must__0 dd_X11_must__0b.2.2.2.2.2.2.1) rfl (by decide) wd1341 inX11 rfl).to, ?_⟩
  refine List.forall_mem_cons.mpr ⟨(s_if_ne (am_dp pw_X11_must__0 dd_X11_must__0b.2.2.2.2.2.2.2) (by decide)).to, ?_⟩
  refine List.forall_mem_cons.mpr ⟨(s_aloadn (am_dp pw_X11_must__32 dd_X11_must__32a.1) rfl).to, ?_⟩
  refine List.forall_mem_cons.mpr ⟨zw_cv174 (am_dp pw_X11_must__32 dd_X11_must__32a.2.1) wd1603, ?_⟩
  refine List.forall_mem_cons.mpr ⟨s_vret (am_dp pw_X11_must__32 dd_X11_must__32a.2.2) rfl, ?_⟩
  exact fun _ h => absurd h List.not_mem_nil
theorem sn_tX11_fresh : ∀ q ∈ tX11_fresh, am_Snd am_P0 RX11 cX11_fresh 3 (Option.some FieldType.long) "fresh" q.1 q.2 := by
  unfold tX11_fresh
  refine List.forall_mem_cons.mpr ⟨(s_aloadn (am_dp pw_X11_fresh_0 dd_X11_fresh_0a.1) rfl).to, ?_⟩
  refine List.forall_mem_cons.mpr ⟨(s_get (ci := 11) (k := 8) (am_dp pw_X11_fresh_0 dd_X11_fresh_0a.2.1) rfl (by decide) wd1341 inX11 rfl).to, ?_⟩
  refine List.forall_mem_cons.mpr ⟨(s_if_le (am_dp pw_X11_fresh_0 dd_X11_fresh_0a.2.2.1) (by decide)).to, ?_⟩
  refine List.forall_mem_cons.mpr ⟨(s_lconst (am_dp pw_X11_fresh_0 dd_X11_fresh_0a.2.2.2.1) (by decide)).to, ?_⟩
  refine List.forall_mem_cons.mpr ⟨s_lret (am_dp pw_X11_fresh_0 dd_X11_fresh_0a.2.2.2.2.1) rfl, ?_⟩
  refine List.forall_mem_cons.mpr ⟨(s_aloadn (am_dp pw_X11_fresh_0 dd_X11_fresh_0a.2.2.2.2.2.1) rfl).to, ?_⟩
  refine List.forall_mem_cons.mpr ⟨(s_get (ci := 11) (k := 3) (am_dp pw_X11_fresh_0 dd_X11_fresh_0a.2.2.2.2.2.2.1) rfl (by decide) wd1336 inX11 rfl).to, ?_⟩
  refine List.forall_mem_cons.mpr ⟨(s_iconst (am_dp pw_X11_fresh_0 dd_X11_fresh_0a.2.2.2.2.2.2.2) (by decide)).to, ?_⟩
  refine List.forall_mem_cons.mpr ⟨(s_icmp_ne (am_dp pw_X11_fresh_0 dd_X11_fresh_0b.1) (by decide)).to, ?_⟩
  refine List.forall_mem_cons.mpr ⟨(s_aloadn (am_dp pw_X11_fresh_0 dd_X11_fresh_0b.2.1) rfl).to, ?_⟩
  refine List.forall_mem_cons.mpr ⟨(s_aloadn (am_dp pw_X11_fresh_0 dd_X11_fresh_0b.2.2.1) rfl).to, ?_⟩
  refine List.forall_mem_cons.mpr ⟨(s_get (ci := 11) (k := 7) (am_dp pw_X11_fresh_0 dd_X11_fresh_0b.2.2.2.1) rfl (by decide) wd1340 inX11 rfl).to, ?_⟩
  refine List.forall_mem_cons.mpr ⟨zw_cv178 (am_dp pw_X11_fresh_0 dd_X11_fresh_0b.2.2.2.2.1) wd1723, ?_⟩
  refine List.forall_mem_cons.mpr ⟨(s_if_eq (am_dp pw_X11_fresh_0 dd_X11_fresh_0b.2.2.2.2.2.1) (by decide)).to, ?_⟩
  refine List.forall_mem_cons.mpr ⟨(s_aloadn (am_dp pw_X11_fresh_0 dd_X11_fresh_0b.2.2.2.2.2.2.1) rfl).to, ?_⟩
  refine List.forall_mem_cons.mpr ⟨(s_iconst (am_dp pw_X11_fresh_0 dd_X11_fresh_0b.2.2.2.2.2.2.2) (by decide)).to, ?_⟩
  refine List.forall_mem_cons.mpr ⟨(s_aloadn (am_dp pw_X11_fresh_0 dd_X11_fresh_0c.1) rfl).to, ?_⟩
  refine List.forall_mem_cons.mpr ⟨(s_get (ci := 11) (k := 4) (am_dp pw_X11_fresh_0 dd_X11_fresh_0c.2) rfl (by decide) wd1337 inX11 rfl).to, ?_⟩
  refine List.forall_mem_cons.mpr ⟨zw_cv171 (am_dp pw_X11_fresh_32 dd_X11_fresh_32a.1) wd1613, ?_⟩
  refine List.forall_mem_cons.mpr ⟨(s_aloadn (am_dp pw_X11_fresh_32 dd_X11_fresh_32a.2.1) rfl).to, ?_⟩
  refine List.forall_mem_cons.mpr ⟨(s_get (ci := 11) (k := 8) (am_dp pw_X11_fresh_32 dd_X11_fresh_32a.2.2.1) rfl (by decide) wd1341 inX11 rfl).to, ?_⟩
  refine List.forall_mem_cons.mpr ⟨(s_if_ne (am_dp pw_X11_fresh_32 dd_X11_fresh_32a.2.2.2.1) (by decide)).to, ?_⟩
  refine List.forall_mem_cons.mpr ⟨(s_aloadn (am_dp pw_X11_fresh_32 dd_X11_fresh_32a.2.2.2.2.1) rfl).to, ?_⟩
  refine List.forall_mem_cons.mpr ⟨(s_aloadn (am_dp pw_X11_fresh_32 dd_X11_fresh_32a.2.2.2.2.2.1) rfl).to, ?_⟩
  refine List.forall_mem_cons.mpr ⟨(s_get (ci := 11) (k := 7) (am_dp pw_X11_fresh_32 dd_X11_fresh_32a.2.2.2.2.2.2.1) rfl (by decide) wd1340 inX11 rfl).to, ?_⟩
  refine List.forall_mem_cons.mpr ⟨zw_cv181 (am_dp pw_X11_fresh_32 dd_X11_fresh_32a.2.2.2.2.2.2.2) wd1739, ?_⟩
  refine List.forall_mem_cons.mpr ⟨(s_iconst (am_dp pw_X11_fresh_32 dd_X11_fresh_32b.1) (by decide)).to, ?_⟩
  refine List.forall_mem_cons.mpr ⟨(s_icmp_eq (am_dp pw_X11_fresh_32 dd_X11_fresh_32b.2.1) (by decide)).to, ?_⟩
  refine List.forall_mem_cons.mpr ⟨(s_aloadn (am_dp pw_X11_fresh_32 dd_X11_fresh_32b.2.2.1) rfl).to, ?_⟩
  refine List.forall_mem_cons.mpr ⟨(s_iconst (am_dp pw_X11_fresh_32 dd_X11_fresh_32b.2.2.2.1) (by decide)).to, ?_⟩
  refine List.forall_mem_cons.mpr ⟨(s_aloadn (am_dp pw_X11_fresh_32 dd_X11_fresh_32b.2.2.2.2.1) rfl).to, ?_⟩
  refine List.forall_mem_cons.mpr ⟨(s_get (ci := 11) (k := 4) (am_dp pw_X11_fresh_32 dd_X11_fresh_32b.2.2.2.2.2.1) rfl (by decide) wd1337 inX11 rfl).to, ?_⟩
  refine List.forall_mem_cons.mpr ⟨zw_cv171 (am_dp pw_X11_fresh_32 dd_X11_fresh_32b.2.2.2.2.2.2) wd1613, ?_⟩
  refine List.forall_mem_cons.mpr ⟨(s_aloadn (am_dp pw_X11_fresh_64 dd_X11_fresh_64a.1) rfl).to, ?_⟩
  refine List.forall_mem_cons.mpr ⟨(s_get (ci := 11) (k := 7) (am_dp pw_X11_fresh_64 dd_X11_fresh_64a.2.1) rfl (by decide) wd1340 inX11 rfl).to, ?_⟩
  refine List.forall_mem_cons.mpr ⟨(s_lstoren (am_dp pw_X11_fresh_64 dd_X11_fresh_64a.2.2.1) rfl (by decide)).to, ?_⟩
  refine List.forall_mem_cons.mpr ⟨(s_aloadn (am_dp pw_X11_fresh_64 dd_X11_fresh_64a.2.2.2.1) rfl).to, ?_⟩
  refine List.forall_mem_cons.mpr ⟨(s_get (ci := 11) (k := 8) (am_dp pw_X11_fresh_64 dd_X11_fresh_64a.2.2.2.2.1) rfl (by decide) wd1341 inX11 rfl).to, ?_⟩
  refine List.forall_mem_cons.mpr ⟨(s_if_ne (am_dp pw_X11_fresh_64 dd_X11_fresh_64a.2.2.2.2.2.1) (by decide)).to, ?_⟩
  refine List.forall_mem_cons.mpr ⟨(s_aloadn (am_dp pw_X11_fresh_64 dd_X11_fresh_64a.2.2.2.2.2.2.1) rfl).to, ?_⟩
  refine List.forall_mem_cons.mpr ⟨zw_cv174 (am_dp pw_X11_fresh_64 dd_X11_fresh_64a.2.2.2.2.2.2.2) wd1603, ?_⟩
  refine List.forall_mem_cons.mpr ⟨(s_lloadn (am_dp pw_X11_fresh_64 dd_X11_fresh_64b.1) rfl).to, ?_⟩
  refine List.forall_mem_cons.mpr ⟨s_lret (am_dp pw_X11_fresh_64 dd_X11_fresh_64b.2) rfl, ?_⟩
  exact fun _ h => absurd h List.not_mem_nil
theorem sn_tX11_asked : ∀ q ∈ tX11_asked, am_Snd am_P0 RX11 cX11_asked 2 (Option.some FieldType.int) "asked" q.1 q.2 := by
  unfold tX11_asked
  refine List.forall_mem_cons.mpr ⟨(s_aloadn (am_dp pw_X11_asked_0 dd_X11_asked_0a.1) rfl).to, ?_⟩
  refine List.forall_mem_cons.mpr ⟨(s_get (ci := 11) (k := 8) (am_dp pw_X11_asked_0 dd_X11_asked_0a.2.1) rfl (by decide) wd1341 inX11 rfl).to, ?_⟩
  refine List.forall_mem_cons.mpr ⟨(s_if_le (am_dp pw_X11_asked_0 dd_X11_asked_0a.2.2.1) (by decide)).to, ?_⟩
  refine List.forall_mem_cons.mpr ⟨(s_iconst (am_dp pw_X11_asked_0 dd_X11_asked_0a.2.2.2.1) (by decide)).to, ?_⟩
  refine List.forall_mem_cons.mpr ⟨s_iret (am_dp pw_X11_asked_0 dd_X11_asked_0a.2.2.2.2.1) rfl, ?_⟩
  refine List.forall_mem_cons.mpr ⟨(s_aloadn (am_dp pw_X11_asked_0 dd_X11_asked_0a.2.2.2.2.2.1) rfl).to, ?_⟩
  refine List.forall_mem_cons.mpr ⟨(s_get (ci := 11) (k := 3) (am_dp pw_X11_asked_0 dd_X11_asked_0a.2.2.2.2.2.2.1) rfl (by decide) wd1336 inX11 rfl).to, ?_⟩
  refine List.forall_mem_cons.mpr ⟨(s_iconst (am_dp pw_X11_asked_0 dd_X11_asked_0a.2.2.2.2.2.2.2) (by decide)).to, ?_⟩
  refine List.forall_mem_cons.mpr ⟨(s_icmp_ne (am_dp pw_X11_asked_0 dd_X11_asked_0b.1) (by decide)).to, ?_⟩
  refine List.forall_mem_cons.mpr ⟨(s_aloadn (am_dp pw_X11_asked_0 dd_X11_asked_0b.2.1) rfl).to, ?_⟩
  refine List.forall_mem_cons.mpr ⟨(s_aloadn (am_dp pw_X11_asked_0 dd_X11_asked_0b.2.2.1) rfl).to, ?_⟩
  refine List.forall_mem_cons.mpr ⟨(s_get (ci := 11) (k := 7) (am_dp pw_X11_asked_0 dd_X11_asked_0b.2.2.2.1) rfl (by decide) wd1340 inX11 rfl).to, ?_⟩
  refine List.forall_mem_cons.mpr ⟨zw_cv178 (am_dp pw_X11_asked_0 dd_X11_asked_0b.2.2.2.2.1) wd1723, ?_⟩
  refine List.forall_mem_cons.mpr ⟨(s_if_eq (am_dp pw_X11_asked_0 dd_X11_asked_0b.2.2.2.2.2.1) (by decide)).to, ?_⟩
  refine List.forall_mem_cons.mpr ⟨(s_aloadn (am_dp pw_X11_asked_0 dd_X11_asked_0b.2.2.2.2.2.2.1) rfl).to, ?_⟩
  refine List.forall_mem_cons.mpr ⟨(s_iconst (am_dp pw_X11_asked_0 dd_X11_asked_0b.2.2.2.2.2.2.2) (by decide)).to, ?_⟩
  refine List.forall_mem_cons.mpr ⟨(s_aloadn (am_dp pw_X11_asked_0 dd_X11_asked_0c.1) rfl).to, ?_⟩
  refine List.forall_mem_cons.mpr ⟨(s_get (ci := 11) (k := 4) (am_dp pw_X11_asked_0 dd_X11_asked_0c.2) rfl (by decide) wd1337 inX11 rfl).to, ?_⟩
  refine List.forall_mem_cons.mpr ⟨zw_cv171 (am_dp pw_X11_asked_32 dd_X11_asked_32a.1) wd1613, ?_⟩
  refine List.forall_mem_cons.mpr ⟨(s_aloadn (am_dp pw_X11_asked_32 dd_X11_asked_32a.2.1) rfl).to, ?_⟩
  refine List.forall_mem_cons.mpr ⟨(s_get (ci := 11) (k := 8) (am_dp pw_X11_asked_32 dd_X11_asked_32a.2.2.1) rfl (by decide) wd1341 inX11 rfl).to, ?_⟩
  refine List.forall_mem_cons.mpr ⟨(s_if_le (am_dp pw_X11_asked_32 dd_X11_asked_32a.2.2.2.1) (by decide)).to, ?_⟩
  refine List.forall_mem_cons.mpr ⟨(s_iconst (am_dp pw_X11_asked_32 dd_X11_asked_32a.2.2.2.2.1) (by decide)).to, ?_⟩
  refine List.forall_mem_cons.mpr ⟨(s_goto (am_dp pw_X11_asked_32 dd_X11_asked_32a.2.2.2.2.2.1) (by decide)).to, ?_⟩
  refine List.forall_mem_cons.mpr ⟨(s_aloadn (am_dp pw_X11_asked_32 dd_X11_asked_32a.2.2.2.2.2.2.1) rfl).to, ?_⟩
  refine List.forall_mem_cons.mpr ⟨(s_aloadn (am_dp pw_X11_asked_32 dd_X11_asked_32a.2.2.2.2.2.2.2) rfl).to, ?_⟩
  refine List.forall_mem_cons.mpr ⟨(s_get (ci := 11) (k := 7) (am_dp pw_X11_asked_32 dd_X11_asked_32b.1) rfl (by decide) wd1340 inX11 rfl).to, ?_⟩
  refine List.forall_mem_cons.mpr ⟨zw_cv181 (am_dp pw_X11_asked_32 dd_X11_asked_32b.2.1) wd1739, ?_⟩
  refine List.forall_mem_cons.mpr ⟨(s_istoren (am_dp pw_X11_asked_32 dd_X11_asked_32b.2.2.1) rfl (by decide)).to, ?_⟩
  refine List.forall_mem_cons.mpr ⟨(s_aloadn (am_dp pw_X11_asked_32 dd_X11_asked_32b.2.2.2.1) rfl).to, ?_⟩
  refine List.forall_mem_cons.mpr ⟨(s_get (ci := 11) (k := 8) (am_dp pw_X11_asked_32 dd_X11_asked_32b.2.2.2.2.1) rfl (by decide) wd1341 inX11 rfl).to, ?_⟩
  refine List.forall_mem_cons.mpr ⟨(s_if_ne (am_dp pw_X11_asked_32 dd_X11_asked_32b.2.2.2.2.2) (by decide)).to, ?_⟩
  refine List.forall_mem_cons.mpr ⟨(s_iloadn (am_dp pw_X11_asked_64 dd_X11_asked_64a.1) rfl).to, ?_⟩
  refine List.forall_mem_cons.mpr ⟨(s_iconst (am_dp pw_X11_asked_64 dd_X11_asked_64a.2.1) (by decide)).to, ?_⟩
  refine List.forall_mem_cons.mpr ⟨(s_icmp_ne (am_dp pw_X11_asked_64 dd_X11_asked_64a.2.2.1) (by decide)).to, ?_⟩
  refine List.forall_mem_cons.mpr ⟨(s_aloadn (am_dp pw_X11_asked_64 dd_X11_asked_64a.2.2.2.1) rfl).to, ?_⟩
  refine List.forall_mem_cons.mpr ⟨(s_iconst (am_dp pw_X11_asked_64 dd_X11_asked_64a.2.2.2.2.1) (by decide)).to, ?_⟩
  refine List.forall_mem_cons.mpr ⟨(s_aloadn (am_dp pw_X11_asked_64 dd_X11_asked_64a.2.2.2.2.2.1) rfl).to, ?_⟩
  refine List.forall_mem_cons.mpr ⟨(s_get (ci := 11) (k := 4) (am_dp pw_X11_asked_64 dd_X11_asked_64a.2.2.2.2.2.2.1) rfl (by decide) wd1337 inX11 rfl).to, ?_⟩
  refine List.forall_mem_cons.mpr ⟨zw_cv171 (am_dp pw_X11_asked_64 dd_X11_asked_64a.2.2.2.2.2.2.2) wd1613, ?_⟩
  refine List.forall_mem_cons.mpr ⟨(s_aloadn (am_dp pw_X11_asked_64 dd_X11_asked_64b.1) rfl).to, ?_⟩
  refine List.forall_mem_cons.mpr ⟨(s_get (ci := 11) (k := 8) (am_dp pw_X11_asked_64 dd_X11_asked_64b.2.1) rfl (by decide) wd1341 inX11 rfl).to, ?_⟩
  refine List.forall_mem_cons.mpr ⟨(s_if_ne (am_dp pw_X11_asked_64 dd_X11_asked_64b.2.2.1) (by decide)).to, ?_⟩
  refine List.forall_mem_cons.mpr ⟨(s_aloadn (am_dp pw_X11_asked_64 dd_X11_asked_64b.2.2.2.1) rfl).to, ?_⟩
  refine List.forall_mem_cons.mpr ⟨zw_cv174 (am_dp pw_X11_asked_64 dd_X11_asked_64b.2.2.2.2.1) wd1603, ?_⟩
  refine List.forall_mem_cons.mpr ⟨(s_aloadn (am_dp pw_X11_asked_64 dd_X11_asked_64b.2.2.2.2.2.1) rfl).to, ?_⟩
  refine List.forall_mem_cons.mpr ⟨(s_get (ci := 11) (k := 8) (am_dp pw_X11_asked_64 dd_X11_asked_64b.2.2.2.2.2.2.1) rfl (by decide) wd1341 inX11 rfl).to, ?_⟩
  refine List.forall_mem_cons.mpr ⟨(s_if_le (am_dp pw_X11_asked_64 dd_X11_asked_64b.2.2.2.2.2.2.2) (by decide)).to, ?_⟩
  refine List.forall_mem_cons.mpr ⟨(s_iconst (am_dp pw_X11_asked_96 dd_X11_asked_96a.1) (by decide)).to, ?_⟩
  refine List.forall_mem_cons.mpr ⟨(s_goto (am_dp pw_X11_asked_96 dd_X11_asked_96a.2.1) (by decide)).to, ?_⟩
  refine List.forall_mem_cons.mpr ⟨(s_iloadn (am_dp pw_X11_asked_96 dd_X11_asked_96a.2.2.1) rfl).to, ?_⟩
  refine List.forall_mem_cons.mpr ⟨s_iret (am_dp pw_X11_asked_96 dd_X11_asked_96a.2.2.2) rfl, ?_⟩
  exact fun _ h => absurd h List.not_mem_nil
theorem sn_tX11_sizes : ∀ q ∈ tX11_sizes, am_Snd am_P0 RX11 cX11_sizes 1 (Option.none : Option FieldType) "sizes" q.1 q.2 := by
  unfold tX11_sizes
  refine List.forall_mem_cons.mpr ⟨(s_aloadn (am_dp pw_X11_sizes_0 dd_X11_sizes_0a.1) rfl).to, ?_⟩
  refine List.forall_mem_cons.mpr ⟨(s_ldc2 (am_dp pw_X11_sizes_0 dd_X11_sizes_0a.2.1) wd1621).to, ?_⟩
  refine List.forall_mem_cons.mpr ⟨zw_cv176 (am_dp pw_X11_sizes_0 dd_X11_sizes_0a.2.2.1) wd1622, ?_⟩
  refine List.forall_mem_cons.mpr ⟨(s_if_ne (am_dp pw_X11_sizes_0 dd_X11_sizes_0a.2.2.2.1) (by decide)).to, ?_⟩
  refine List.forall_mem_cons.mpr ⟨(s_aloadn (am_dp pw_X11_sizes_0 dd_X11_sizes_0a.2.2.2.2.1) rfl).to, ?_⟩
  refine List.forall_mem_cons.mpr ⟨(s_iconst (am_dp pw_X11_sizes_0 dd_X11_sizes_0a.2.2.2.2.2.1) (by decide)).to, ?_⟩
  refine List.forall_mem_cons.mpr ⟨(s_aloadn (am_dp pw_X11_sizes_0 dd_X11_sizes_0a.2.2.2.2.2.2.1) rfl).to, ?_⟩
  refine List.forall_mem_cons.mpr ⟨(s_get (ci := 11) (k := 4) (am_dp pw_X11_sizes_0 dd_X11_sizes_0a.2.2.2.2.2.2.2) rfl (by decide) wd1337 inX11 rfl).to, ?_⟩
  refine List.forall_mem_cons.mpr ⟨zw_cv171 (am_dp pw_X11_sizes_0 dd_X11_sizes_0b.1) wd1613, ?_⟩
  refine List.forall_mem_cons.mpr ⟨(s_aloadn (am_dp pw_X11_sizes_0 dd_X11_sizes_0b.2.1) rfl).to, ?_⟩
  refine List.forall_mem_cons.mpr ⟨(s_get (ci := 11) (k := 8) (am_dp pw_X11_sizes_0 dd_X11_sizes_0b.2.2.1) rfl (by decide) wd1341 inX11 rfl).to, ?_⟩
  refine List.forall_mem_cons.mpr ⟨(s_if_le (am_dp pw_X11_sizes_0 dd_X11_sizes_0b.2.2.2.1) (by decide)).to, ?_⟩
  refine List.forall_mem_cons.mpr ⟨s_vret (am_dp pw_X11_sizes_0 dd_X11_sizes_0b.2.2.2.2.1) rfl, ?_⟩
  refine List.forall_mem_cons.mpr ⟨(s_aloadn (am_dp pw_X11_sizes_0 dd_X11_sizes_0b.2.2.2.2.2.1) rfl).to, ?_⟩
  refine List.forall_mem_cons.mpr ⟨zw_cv174 (am_dp pw_X11_sizes_0 dd_X11_sizes_0b.2.2.2.2.2.2.1) wd1603, ?_⟩
  refine List.forall_mem_cons.mpr ⟨(s_aloadn (am_dp pw_X11_sizes_0 dd_X11_sizes_0b.2.2.2.2.2.2.2) rfl).to, ?_⟩
  refine List.forall_mem_cons.mpr ⟨(s_get (ci := 11) (k := 13) (am_dp pw_X11_sizes_32 dd_X11_sizes_32a.1) rfl (by decide) wd1346 inX11 rfl).to, ?_⟩
  refine List.forall_mem_cons.mpr ⟨(s_aloadn (am_dp pw_X11_sizes_32 dd_X11_sizes_32a.2.1) rfl).to, ?_⟩
  refine List.forall_mem_cons.mpr ⟨(s_get (ci := 11) (k := 41) (am_dp pw_X11_sizes_32 dd_X11_sizes_32a.2.2.1) rfl (by decide) wd1374 inX11 rfl).to, ?_⟩
  refine List.forall_mem_cons.mpr ⟨(s_aloadn (am_dp pw_X11_sizes_32 dd_X11_sizes_32a.2.2.2.1) rfl).to, ?_⟩
  refine List.forall_mem_cons.mpr ⟨(s_iconst (am_dp pw_X11_sizes_32 dd_X11_sizes_32a.2.2.2.2.1) (by decide)).to, ?_⟩
  refine List.forall_mem_cons.mpr ⟨(s_bipush (am_dp pw_X11_sizes_32 dd_X11_sizes_32a.2.2.2.2.2.1) (by decide)).to, ?_⟩
  refine List.forall_mem_cons.mpr ⟨zw_cv182 (am_dp pw_X11_sizes_32 dd_X11_sizes_32a.2.2.2.2.2.2.1) wd1626, ?_⟩
  refine List.forall_mem_cons.mpr ⟨(s_iast (am_dp pw_X11_sizes_32 dd_X11_sizes_32a.2.2.2.2.2.2.2)).to, ?_⟩
  refine List.forall_mem_cons.mpr ⟨(s_aloadn (am_dp pw_X11_sizes_32 dd_X11_sizes_32b.1) rfl).to, ?_⟩
  refine List.forall_mem_cons.mpr ⟨(s_get (ci := 11) (k := 14) (am_dp pw_X11_sizes_32 dd_X11_sizes_32b.2.1) rfl (by decide) wd1347 inX11 rfl).to, ?_⟩
  refine List.forall_mem_cons.mpr ⟨(s_aloadn (am_dp pw_X11_sizes_32 dd_X11_sizes_32b.2.2.1) rfl).to, ?_⟩
  refine List.forall_mem_cons.mpr ⟨(s_get (ci := 11) (k := 41) (am_dp pw_X11_sizes_32 dd_X11_sizes_32b.2.2.2.1) rfl (by decide) wd1374 inX11 rfl).to, ?_⟩
  refine List.forall_mem_cons.mpr ⟨(s_aloadn (am_dp pw_X11_sizes_32 dd_X11_sizes_32b.2.2.2.2.1) rfl).to, ?_⟩
  refine List.forall_mem_cons.mpr ⟨(s_iconst (am_dp pw_X11_sizes_32 dd_X11_sizes_32b.2.2.2.2.2.1) (by decide)).to, ?_⟩
  refine List.forall_mem_cons.mpr ⟨(s_bipush (am_dp pw_X11_sizes_32 dd_X11_sizes_32b.2.2.2.2.2.2.1) (by decide)).to, ?_⟩
  refine List.forall_mem_cons.mpr ⟨zw_cv182 (am_dp pw_X11_sizes_32 dd_X11_sizes_32b.2.2.2.2.2.2.2) wd1626, ?_⟩
  refine List.forall_mem_cons.mpr ⟨(s_iast (am_dp pw_X11_sizes_32 dd_X11_sizes_32c.1)).to, ?_⟩
  refine List.forall_mem_cons.mpr ⟨(s_aloadn (am_dp pw_X11_sizes_32 dd_X11_sizes_32c.2) rfl).to, ?_⟩
  refine List.forall_mem_cons.mpr ⟨(s_get (ci := 11) (k := 8) (am_dp pw_X11_sizes_64 dd_X11_sizes_64a.1) rfl (by decide) wd1341 inX11 rfl).to, ?_⟩
  refine List.forall_mem_cons.mpr ⟨(s_if_ne (am_dp pw_X11_sizes_64 dd_X11_sizes_64a.2.1) (by decide)).to, ?_⟩
  refine List.forall_mem_cons.mpr ⟨(s_aloadn (am_dp pw_X11_sizes_64 dd_X11_sizes_64a.2.2.1) rfl).to, ?_⟩
  refine List.forall_mem_cons.mpr ⟨(s_bipush (am_dp pw_X11_sizes_64 dd_X11_sizes_64a.2.2.2.1) (by decide)).to, ?_⟩
  refine List.forall_mem_cons.mpr ⟨zw_cv177 (am_dp pw_X11_sizes_64 dd_X11_sizes_64a.2.2.2.2.1) wd1633, ?_⟩
  refine List.forall_mem_cons.mpr ⟨s_vret (am_dp pw_X11_sizes_64 dd_X11_sizes_64a.2.2.2.2.2) rfl, ?_⟩
  exact fun _ h => absurd h List.not_mem_nil
theorem sn_tX11_rule_0 : ∀ q ∈ tX11_rule_0, am_Snd am_P0 RX11 cX11_rule 3 (Option.none : Option FieldType) "rule" q.1 q.2 := by
  unfold tX11_rule_0
  refine List.forall_mem_cons.mpr ⟨(s_aloadn (am_dp pw_X11_rule_0 dd_X11_rule_0a.1) rfl).to, ?_⟩
  refine List.forall_mem_cons.mpr ⟨(s_aloadn (am_dp pw_X11_rule_0 dd_X11_rule_0a.2.1) rfl).to, ?_⟩
  refine List.forall_mem_cons.mpr ⟨(s_get (ci := 11) (k := 15) (am_dp pw_X11_rule_0 dd_X11_rule_0a.2.2.1) rfl (by decide) wd1348 inX11 rfl).to, ?_⟩
  refine List.forall_mem_cons.mpr ⟨(s_iconst (am_dp pw_X11_rule_0 dd_X11_rule_0a.2.2.2.1) (by decide)).to, ?_⟩
  refine List.forall_mem_cons.mpr ⟨(s_aloadn (am_dp pw_X11_rule_0 dd_X11_rule_0a.2.2.2.2.1) rfl).to, ?_⟩
  refine List.forall_mem_cons.mpr ⟨(s_get (ci := 11) (k := 41) (am_dp pw_X11_rule_0 dd_X11_rule_0a.2.2.2.2.2.1) rfl (by decide) wd1374 inX11 rfl).to, ?_⟩
  refine List.forall_mem_cons.mpr ⟨(s_imul (am_dp pw_X11_rule_0 dd_X11_rule_0a.2.2.2.2.2.2.1)).to, ?_⟩
  refine List.forall_mem_cons.mpr ⟨(s_iloadn (am_dp pw_X11_rule_0 dd_X11_rule_0a.2.2.2.2.2.2.2) rfl).to, ?_⟩
  refine List.forall_mem_cons.mpr ⟨(s_iadd (am_dp pw_X11_rule_0 dd_X11_rule_0b.1)).to, ?_⟩
  refine List.forall_mem_cons.mpr ⟨(s_iald (am_dp pw_X11_rule_0 dd_X11_rule_0b.2.1)).to, ?_⟩
  refine List.forall_mem_cons.mpr ⟨(s_iloadn (am_dp pw_X11_rule_0 dd_X11_rule_0b.2.2.1) rfl).to, ?_⟩
  refine List.forall_mem_cons.mpr ⟨zw_cs180 (am_dp pw_X11_rule_0 dd_X11_rule_0b.2.2.2.1) wd1650, ?_⟩
  refine List.forall_mem_cons.mpr ⟨(s_icmp_ne (am_dp pw_X11_rule_0 dd_X11_rule_0b.2.2.2.2.1) (by decide)).to, ?_⟩
  refine List.forall_mem_cons.mpr ⟨(s_iconst (am_dp pw_X11_rule_0 dd_X11_rule_0b.2.2.2.2.2.1) (by decide)).to, ?_⟩
  refine List.forall_mem_cons.mpr ⟨(s_goto (am_dp pw_X11_rule_0 dd_X11_rule_0b.2.2.2.2.2.2.1) (by decide)).to, ?_⟩
  refine List.forall_mem_cons.mpr ⟨(s_iconst (am_dp pw_X11_rule_0 dd_X11_rule_0b.2.2.2.2.2.2.2) (by decide)).to, ?_⟩
  refine List.forall_mem_cons.mpr ⟨zw_cv193 (am_dp pw_X11_rule_0 dd_X11_rule_0c.1) wd1653, ?_⟩
  refine List.forall_mem_cons.mpr ⟨(s_if_ne (am_dp pw_X11_rule_0 dd_X11_rule_0c.2) (by decide)).to, ?_⟩
  refine List.forall_mem_cons.mpr ⟨s_vret (am_dp pw_X11_rule_32 dd_X11_rule_32a.1) rfl, ?_⟩
  refine List.forall_mem_cons.mpr ⟨(s_bipush (am_dp pw_X11_rule_32 dd_X11_rule_32a.2.1) (by decide)).to, ?_⟩
  refine List.forall_mem_cons.mpr ⟨(s_aloadn (am_dp pw_X11_rule_32 dd_X11_rule_32a.2.2.1) rfl).to, ?_⟩
  refine List.forall_mem_cons.mpr ⟨(s_get (ci := 11) (k := 41) (am_dp pw_X11_rule_32 dd_X11_rule_32a.2.2.2.1) rfl (by decide) wd1374 inX11 rfl).to, ?_⟩
  refine List.forall_mem_cons.mpr ⟨(s_imul (am_dp pw_X11_rule_32 dd_X11_rule_32a.2.2.2.2.1)).to, ?_⟩
  refine List.forall_mem_cons.mpr ⟨(s_iloadn (am_dp pw_X11_rule_32 dd_X11_rule_32a.2.2.2.2.2.1) rfl).to, ?_⟩
  refine List.forall_mem_cons.mpr ⟨zw_cs179 (am_dp pw_X11_rule_32 dd_X11_rule_32a.2.2.2.2.2.2.1) wd1657, ?_⟩
  refine List.forall_mem_cons.mpr ⟨(s_iadd (am_dp pw_X11_rule_32 dd_X11_rule_32a.2.2.2.2.2.2.2)).to, ?_⟩
  refine List.forall_mem_cons.mpr ⟨(s_aloadn (am_dp pw_X11_rule_32 dd_X11_rule_32b.1) rfl).to, ?_⟩
  refine List.forall_mem_cons.mpr ⟨(s_get (ci := 11) (k := 15) (am_dp pw_X11_rule_32 dd_X11_rule_32b.2.1) rfl (by decide) wd1348 inX11 rfl).to, ?_⟩
  refine List.forall_mem_cons.mpr ⟨(s_iconst (am_dp pw_X11_rule_32 dd_X11_rule_32b.2.2.1) (by decide)).to, ?_⟩
  refine List.forall_mem_cons.mpr ⟨(s_aloadn (am_dp pw_X11_rule_32 dd_X11_rule_32b.2.2.2.1) rfl).to, ?_⟩
  refine List.forall_mem_cons.mpr ⟨(s_get (ci := 11) (k := 41) (am_dp pw_X11_rule_32 dd_X11_rule_32b.2.2.2.2.1) rfl (by decide) wd1374 inX11 rfl).to, ?_⟩
  refine List.forall_mem_cons.mpr ⟨(s_imul (am_dp pw_X11_rule_32 dd_X11_rule_32b.2.2.2.2.2.1)).to, ?_⟩
  refine List.forall_mem_cons.mpr ⟨(s_iloadn (am_dp pw_X11_rule_32 dd_X11_rule_32b.2.2.2.2.2.2.1) rfl).to, ?_⟩
  refine List.forall_mem_cons.mpr ⟨(s_iadd (am_dp pw_X11_rule_32 dd_X11_rule_32b.2.2.2.2.2.2.2)).to, ?_⟩
  refine List.forall_mem_cons.mpr ⟨(s_iald (am_dp pw_X11_rule_32 dd_X11_rule_32c.1)).to, ?_⟩
  refine List.forall_mem_cons.mpr ⟨(s_iadd (am_dp pw_X11_rule_32 dd_X11_rule_32c.2.1)).to, ?_⟩
  refine List.forall_mem_cons.mpr ⟨(s_istoren (am_dp pw_X11_rule_32 dd_X11_rule_32c.2.2.1) rfl (by decide)).to, ?_⟩
  refine List.forall_mem_cons.mpr ⟨(s_aloadn (am_dp pw_X11_rule_32 dd_X11_rule_32c.2.2.2.1) rfl).to, ?_⟩
  refine List.forall_mem_cons.mpr ⟨(s_get (ci := 11) (k := 16) (am_dp pw_X11_rule_32 dd_X11_rule_32c.2.2.2.2) rfl (by decide) wd1349 inX11 rfl).to, ?_⟩
  refine List.forall_mem_cons.mpr ⟨(s_iloadn (am_dp pw_X11_rule_64 dd_X11_rule_64a.1) rfl).to, ?_⟩
  refine List.forall_mem_cons.mpr ⟨(s_aloadn (am_dp pw_X11_rule_64 dd_X11_rule_64a.2.1) rfl).to, ?_⟩
  refine List.forall_mem_cons.mpr ⟨(s_get (ci := 11) (k := 40) (am_dp pw_X11_rule_64 dd_X11_rule_64a.2.2.1) rfl (by decide) wd1373 inX11 rfl).to, ?_⟩
  refine List.forall_mem_cons.mpr ⟨(s_iast (am_dp pw_X11_rule_64 dd_X11_rule_64a.2.2.2.1)).to, ?_⟩
  refine List.forall_mem_cons.mpr ⟨(s_iloadn (am_dp pw_X11_rule_64 dd_X11_rule_64a.2.2.2.2.1) rfl).to, ?_⟩
  refine List.forall_mem_cons.mpr ⟨(s_iconst (am_dp pw_X11_rule_64 dd_X11_rule_64a.2.2.2.2.2.1) (by decide)).to, ?_⟩
  refine List.forall_mem_cons.mpr ⟨(s_icmp_eq (am_dp pw_X11_rule_64 dd_X11_rule_64a.2.2.2.2.2.2.1) (by decide)).to, ?_⟩
  refine List.forall_mem_cons.mpr ⟨(s_aloadn (am_dp pw_X11_rule_64 dd_X11_rule_64a.2.2.2.2.2.2.2) rfl).to, ?_⟩
  refine List.forall_mem_cons.mpr ⟨(s_iconst (am_dp pw_X11_rule_64 dd_X11_rule_64b.1) (by decide)).to, ?_⟩
  refine List.forall_mem_cons.mpr ⟨zw_cv192 (am_dp pw_X11_rule_64 dd_X11_rule_64b.2.1) wd1660, ?_⟩
  refine List.forall_mem_cons.mpr ⟨(s_aloadn (am_dp pw_X11_rule_64 dd_X11_rule_64b.2.2.1) rfl).to, ?_⟩
  refine List.forall_mem_cons.mpr ⟨(s_ldc2 (am_dp pw_X11_rule_64 dd_X11_rule_64b.2.2.2.1) wd1707).to, ?_⟩
  refine List.forall_mem_cons.mpr ⟨zw_cv194 (am_dp pw_X11_rule_64 dd_X11_rule_64b.2.2.2.2.1) wd1708, ?_⟩
  refine List.forall_mem_cons.mpr ⟨(s_aloadn (am_dp pw_X11_rule_64 dd_X11_rule_64b.2.2.2.2.2.1) rfl).to, ?_⟩
  refine List.forall_mem_cons.mpr ⟨(s_get (ci := 11) (k := 17) (am_dp pw_X11_rule_64 dd_X11_rule_64b.2.2.2.2.2.2.1) rfl (by decide) wd1350 inX11 rfl).to, ?_⟩
  refine List.forall_mem_cons.mpr ⟨(s_iloadn (am_dp pw_X11_rule_64 dd_X11_rule_64b.2.2.2.2.2.2.2) rfl).to, ?_⟩
  refine List.forall_mem_cons.mpr ⟨(s_aloadn (am_dp pw_X11_rule_64 dd_X11_rule_64c.1) rfl).to, ?_⟩
  refine List.forall_mem_cons.mpr ⟨(s_get (ci := 11) (k := 40) (am_dp pw_X11_rule_64 dd_X11_rule_64c.2) rfl (by decide) wd1373 inX11 rfl).to, ?_⟩
  refine List.forall_mem_cons.mpr ⟨(s_iast (am_dp pw_X11_rule_96 dd_X11_rule_96a.1)).to, ?_⟩
  refine List.forall_mem_cons.mpr ⟨(s_aloadn (am_dp pw_X11_rule_96 dd_X11_rule_96a.2.1) rfl).to, ?_⟩
  refine List.forall_mem_cons.mpr ⟨(s_get (ci := 11) (k := 8) (am_dp pw_X11_rule_96 dd_X11_rule_96a.2.2.1) rfl (by decide) wd1341 inX11 rfl).to, ?_⟩
  exact fun _ h => absurd h List.not_mem_nil
theorem sn_tX11_rule_1 : ∀ q ∈ tX11_rule_1, am_Snd am_P0 RX11 cX11_rule 3 (Option.none : Option FieldType) "rule" q.1 q.2 := by
  unfold tX11_rule_1
  refine List.forall_mem_cons.mpr ⟨(s_if_ne (am_dp pw_X11_rule_96 dd_X11_rule_96a.2.2.2.1) (by decide)).to, ?_⟩
  refine List.forall_mem_cons.mpr ⟨(s_aloadn (am_dp pw_X11_rule_96 dd_X11_rule_96a.2.2.2.2.1) rfl).to, ?_⟩
  refine List.forall_mem_cons.mpr ⟨(s_iconst (am_dp pw_X11_rule_96 dd_X11_rule_96a.2.2.2.2.2.1) (by decide)).to, ?_⟩
  refine List.forall_mem_cons.mpr ⟨zw_cv192 (am_dp pw_X11_rule_96 dd_X11_rule_96a.2.2.2.2.2.2.1) wd1660, ?_⟩
  refine List.forall_mem_cons.mpr ⟨(s_aloadn (am_dp pw_X11_rule_96 dd_X11_rule_96a.2.2.2.2.2.2.2) rfl).to, ?_⟩
  refine List.forall_mem_cons.mpr ⟨(s_get (ci := 11) (k := 18) (am_dp pw_X11_rule_96 dd_X11_rule_96b.1) rfl (by decide) wd1351 inX11 rfl).to, ?_⟩
  refine List.forall_mem_cons.mpr ⟨(s_iloadn (am_dp pw_X11_rule_96 dd_X11_rule_96b.2.1) rfl).to, ?_⟩
  refine List.forall_mem_cons.mpr ⟨(s_aloadn (am_dp pw_X11_rule_96 dd_X11_rule_96b.2.2.1) rfl).to, ?_⟩
  refine List.forall_mem_cons.mpr ⟨(s_get (ci := 11) (k := 40) (am_dp pw_X11_rule_96 dd_X11_rule_96b.2.2.2.1) rfl (by decide) wd1373 inX11 rfl).to, ?_⟩
  refine List.forall_mem_cons.mpr ⟨(s_iast (am_dp pw_X11_rule_96 dd_X11_rule_96b.2.2.2.2.1)).to, ?_⟩
  refine List.forall_mem_cons.mpr ⟨(s_aloadn (am_dp pw_X11_rule_96 dd_X11_rule_96b.2.2.2.2.2.1) rfl).to, ?_⟩
  refine List.forall_mem_cons.mpr ⟨(s_get (ci := 11) (k := 8) (am_dp pw_X11_rule_96 dd_X11_rule_96b.2.2.2.2.2.2.1) rfl (by decide) wd1341 inX11 rfl).to, ?_⟩
  refine List.forall_mem_cons.mpr ⟨(s_if_ne (am_dp pw_X11_rule_96 dd_X11_rule_96b.2.2.2.2.2.2.2) (by decide)).to, ?_⟩
  refine List.forall_mem_cons.mpr ⟨(s_aloadn (am_dp pw_X11_rule_96 dd_X11_rule_96c.1) rfl).to, ?_⟩
  refine List.forall_mem_cons.mpr ⟨(s_get (ci := 11) (k := 15) (am_dp pw_X11_rule_96 dd_X11_rule_96c.2) rfl (by decide) wd1348 inX11 rfl).to, ?_⟩
  refine List.forall_mem_cons.mpr ⟨(s_iconst (am_dp pw_X11_rule_128 dd_X11_rule_128a.1) (by decide)).to, ?_⟩
  refine List.forall_mem_cons.mpr ⟨(s_aloadn (am_dp pw_X11_rule_128 dd_X11_rule_128a.2.1) rfl).to, ?_⟩
  refine List.forall_mem_cons.mpr ⟨(s_get (ci := 11) (k := 41) (am_dp pw_X11_rule_128 dd_X11_rule_128a.2.2.1) rfl (by decide) wd1374 inX11 rfl).to, ?_⟩
  refine List.forall_mem_cons.mpr ⟨(s_imul (am_dp pw_X11_rule_128 dd_X11_rule_128a.2.2.2.1)).to, ?_⟩
  refine List.forall_mem_cons.mpr ⟨(s_iloadn (am_dp pw_X11_rule_128 dd_X11_rule_128a.2.2.2.2.1) rfl).to, ?_⟩
  refine List.forall_mem_cons.mpr ⟨(s_iadd (am_dp pw_X11_rule_128 dd_X11_rule_128a.2.2.2.2.2.1)).to, ?_⟩
  refine List.forall_mem_cons.mpr ⟨(s_dup2 (am_dp pw_X11_rule_128 dd_X11_rule_128a.2.2.2.2.2.2.1)).to, ?_⟩
  refine List.forall_mem_cons.mpr ⟨(s_iald (am_dp pw_X11_rule_128 dd_X11_rule_128a.2.2.2.2.2.2.2)).to, ?_⟩
  refine List.forall_mem_cons.mpr ⟨(s_iconst (am_dp pw_X11_rule_128 dd_X11_rule_128b.1) (by decide)).to, ?_⟩
  refine List.forall_mem_cons.mpr ⟨(s_iadd (am_dp pw_X11_rule_128 dd_X11_rule_128b.2.1)).to, ?_⟩
  refine List.forall_mem_cons.mpr ⟨(s_iast (am_dp pw_X11_rule_128 dd_X11_rule_128b.2.2.1)).to, ?_⟩
  refine List.forall_mem_cons.mpr ⟨s_vret (am_dp pw_X11_rule_128 dd_X11_rule_128b.2.2.2) rfl, ?_⟩
  exact fun _ h => absurd h List.not_mem_nil
theorem sn_tX11_rule : ∀ q ∈ tX11_rule, am_Snd am_P0 RX11 cX11_rule 3 (Option.none : Option FieldType) "rule" q.1 q.2 := by
  unfold tX11_rule
  exact List.forall_mem_append.mpr ⟨sn_tX11_rule_0, sn_tX11_rule_1⟩
