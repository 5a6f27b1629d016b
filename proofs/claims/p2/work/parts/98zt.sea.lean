/-! sea: the class and the model -/
/-- the spare sea is touched, the sea stays -/
theorem XR_v {M M' : am_M} {z : Nat} {D : Dat} {S T' : Nat → Nat → Prop} (hD : dOK D) (h : XR M z D) (hg : gF S T' M M') (hL' : Lay M') (hS : ∀ a j, S a j → (a = 0 ∧ j < 13) ∨ a = 1 ∨ a = 169 ∨ a = 170 ∨ a = 165 ∨ (85 - z ≤ a ∧ a ≤ 85 - z + 80)) (hT' : ∀ a j, T' a j → a = 164 ∨ a = 165) : XR M' z D := by
  obtain ⟨⟨hL, hI, hz, r2, r3, hO⟩, ⟨c, hP⟩, hS1, hTk, hLk⟩ := h
  have n8 := dN_8 hD
  have g2 : gF S nT M (swp M M') := ⟨hg.1, hg.2.1, fun _ _ _ => rfl, rfl⟩
  have hf : zF S M (swp M M') := zF_g hL hI g2 (fun a j s' q w => by have := hS a j w; omega) (fun a j w => by have := hS a j w; omega)
  have kr : ∀ a j, ¬ a = 164 → ¬ a = 165 → mR M' a j = mR M a j := fun a j q1 q2 => hg.2.2.1 a j (fun w => by have := hT' a j w; omega)
  have kz : ∀ a j, z ≤ a → a ≤ z + 80 → ¬ S a j := fun a j q1 q2 w => by have := hS a j w; omega
  refine ⟨⟨hL', gF_RInv hg hI (fun a j s hs w => by have := hT' a j w; omega), hz, by rw [kr _ _ (by omega) (by omega)]; exact r2, by rw [kr _ _ (by omega) (by omega)]; exact r3, fun k hk => ?_⟩, ⟨c, PsX_t hz hP hD.1 hg (fun a j q1 q2 => Or.inl (kz a j q1 q2))⟩, ?_, fun s hs => ?_, ?_⟩
  · rw [hg.1 _ _ (fun w => by have := hS _ _ w; omega)]; exact hO k hk
  · exact SqX_u hS1 (fun a j q1 q2 q3 => hg.1 _ _ (kz a j (by omega) (by omega))) (fun a j q => hg.2.1 _ _ (kz a j (by omega) (by omega)))
  · have h1 := hTk s hs
    have h2 := XTk_z hz (by omega) h1 hf (fun a j q w => by have := hS a j w; unfold sTc at q; omega) (fun a j q w => by have := hS a j w; omega)
    obtain ⟨⟨t0, ⟨p1, p2, p3⟩, tB, tY⟩, -⟩ := h1
    obtain ⟨⟨-, ⟨-, -, q3⟩, uB, uY⟩, u2, u3, u4⟩ := h2
    exact ⟨⟨TrW_gF t0 hI (by omega) hg (fun a j q w => by have := hS a j w; omega) (fun j w => by have := hT' _ _ w; omega), ⟨by rw [kr _ _ (by omega) (by omega)]; exact p1, by rw [kr _ _ (by omega) (by omega)]; exact p2, q3⟩, uB, uY⟩, u2, u3, u4⟩
  · have h2 := LkX_z hLk hf (fun j hj w => by have := hS 0 j w; omega)
    exact h2
theorem RaM_l {M : am_M} {b kd : Nat} {sm : Bool} {R : Rls} (h : RaM M b kd sm R) : RlM M b kd sm R 1800 := by
  refine ⟨h.2.1, fun k r hr => ?_⟩
  obtain ⟨s0, s1, s2, b1, b2, b3, b4, b5, b6, b7, b8, b9, b10⟩ := h.2.2 k r hr
  exact ⟨s0, s1, s2, b1, b2, b3, b4, b5, b6, b7, b8, fun q => ⟨(b10 q).1, (b10 q).2.1⟩⟩
/-- the other bank is touched -/
theorem MdM_b {M M' : am_M} {b : Nat} {D : Dat} (h : MdM M b D) (hD : dOK D) (hg : gF (sSo (1 - b)) nT M M') (h12 : mI M' 277 12 = nI b) (h13 : ∀ a j, 313 ≤ a → mI M' a j = mI M a j) : MdM M' b D := by
  obtain ⟨h1, h2, h3, h4, h5, h6, h7, ⟨r1, r2, r3⟩, h8⟩ := h
  have hb2 := h1.2
  obtain ⟨-, -, ⟨o3, -, -⟩, -, -, -, ⟨⟨o7, -⟩, -⟩, ⟨o8, -⟩, o9, o10, o11⟩ := hD.1
  have k : ∀ a j, ((a = 279 ∨ a = 280 ∨ a = 285 ∨ a = 291 ∨ a = 294 ∨ a = 299 ∨ a = 303) ∧ j = b) ∨ (a = 281 ∧ 3 * b ≤ j ∧ j < 3 * b + 3) ∨ ((282 ≤ a ∧ a ≤ 284) ∧ 30 * b ≤ j ∧ j < 30 * b + 30) ∨ ((286 ≤ a ∧ a ≤ 290) ∧ 8 * b ≤ j ∧ j < 8 * b + 8) ∨ ((a = 292 ∨ a = 293) ∧ 384 * b ≤ j ∧ j < 384 * b + 384) ∨ ((295 ≤ a ∧ a ≤ 298) ∧ 12 * b ≤ j ∧ j < 12 * b + 12) ∨ ((300 ≤ a ∧ a ≤ 302) ∧ 40 * b ≤ j ∧ j < 40 * b + 40) ∨ ((a = 304 ∨ a = 305) ∧ 1800 * b ≤ j ∧ j < 1800 * b + 1800) → ¬ sSo (1 - b) a j := fun a j q w => by
    unfold sSo sSm at w
    rcases (by omega : b = 0 ∨ b = 1) with e | e <;> subst e <;> omega
  refine ⟨⟨h12, hb2⟩, ⟨by rw [hg.1 _ _ (k _ _ (by omega))]; exact h2.1, by rw [hg.1 _ _ (k _ _ (by omega))]; exact h2.2⟩, by rw [hg.1 _ _ (k _ _ (by omega))]; exact h3, ShpM_g h4 hg (k _ _ (by omega)) (fun a j q1 q2 q3 => k _ _ (by omega)), ⟨by rw [hg.1 _ _ (k _ _ (by omega))]; exact h5.1, fun s hs => SyM_gF (h5.2 s hs) hg (fun a t q ht => k _ _ (by omega))⟩, BkM_gF h6 hg (k _ _ (by omega)) (fun a j q1 q2 q3 => k _ _ (by omega)), SgM_g h7 hg (k _ _ (by omega)) (fun a j q1 q2 q3 => k _ _ (by omega)), ⟨?_, ?_, ?_⟩, fun p hp => ⟨by rw [h13 _ _ (by omega)]; exact (h8 p hp).1, by rw [h13 _ _ (by omega)]; exact (h8 p hp).2⟩⟩
  · have q2 := r1.1.2
    exact RlM_a (RlM_g (RaM_l r1) o9.1 hg (k _ _ (by omega)) (fun a j w1 w2 w3 => k _ _ (by omega)) (fun a j w1 w2 w3 => k _ _ (by omega))) (Nat.le_refl _) o9 (by omega) (by omega)
  · have q2 := r2.1.2
    exact RlM_a (RlM_g (RaM_l r2) o10.1 hg (k _ _ (by omega)) (fun a j w1 w2 w3 => k _ _ (by omega)) (fun a j w1 w2 w3 => k _ _ (by omega))) (Nat.le_refl _) o10 (by omega) (by omega)
  · have q2 := r3.1.2
    have q3 := o11.1
    exact RlM_a (RlM_g (RaM_l r3) (by omega) hg (k _ _ (by omega)) (fun a j w1 w2 w3 => k _ _ (by omega)) (fun a j w1 w2 w3 => k _ _ (by omega))) (Nat.le_refl _) o11 (by omega) (by omega)
theorem sSr_no {z a j : Nat} (h : sSr z a j) : a = 165 ∨ (z ≤ a ∧ a ≤ z + 80) ∨ (a = 0 ∧ (j = 1 ∨ j = 5 ∨ j = 6 ∨ j = 13)) ∨ (a = 169 ∧ j = 1) ∨ (173 ≤ a ∧ a < 277) := by
  rcases h with q | q | ⟨s, hs, q⟩
  · unfold sSq sSea at q; omega
  · omega
  · unfold sTb sWb at q; omega
theorem op_sea : OpI 111 206 [] isI := by
  intro M hI d hd
  obtain ⟨z, b, D, hD, hX, hM, ⟨T, n, t1, t2, t3, t4⟩, hRf, hFt, ⟨k, k1, k2, k3, k4⟩⟩ := id hI
  obtain ⟨hL, hRI, hz, r2, r3, hO⟩ := hX.1
  have hb2 := hM.1.2
  obtain ⟨d', rfl⟩ : ∃ d', d = d' + 122 := ⟨d - 122, by omega⟩
  have hz' : 85 - z = 2 ∨ 85 - z = 83 := by omega
  refine c_x_sea (T := T) (n := n) (z := 85 - z) hz' t1 d' z M _ hL hRI hz r2 r3 t2 (fun j hj => ⟨(t4 j hj).1, (t4 j hj).2.1⟩) hO (fun M1 e hs g1 L1 v1 v2 v3 v5 => ?_) (fun M1 kk D' c hs hk hD1 hC hR g1 L1 I1 w2 w3 P1 S1 T1 v1 v5 v6 v13 v169 => ?_)
  · refine ⟨_, rfl, ⟨_, rfl⟩, L1, ?_⟩
    have kx : ∀ a j, (a = 1 ∨ 277 ≤ a ∨ (a = 169 ∧ ¬ j = 1) ∨ a = 170 ∨ (a = 0 ∧ ¬ j = 1 ∧ ¬ j = 5 ∧ ¬ j = 6)) → mI M1 a j = mI M a j := fun a j q => g1.1 _ _ (fun w => by unfold sSq sSea at w; omega)
    have X1 : XR M1 z D := XR_v hD hX g1 L1 (fun a j q => by unfold sSq sSea at q; omega) (fun a j q => by unfold tOp at q; omega)
    have m1 := MdM_g hM g1 (fun a j q w => by unfold tlM at q; unfold sSq sSea at w; omega)
    refine m_sea (T := T) (n := n) (b := b) (d' + 115) (.inl e) M1 _ hs L1 m1.1.1 hb2 (by rw [kx _ _ (by omega)]; exact t3) t1 (fun j hj => ⟨(t4 j hj).1, by rw [kx _ _ (by omega)]; exact (t4 j hj).2.2⟩) (fun e2 M2 he g2 u1 u10 u11 u312 u12 u13 => ?_) (fun kk D' M2 he => by cases he)
    cases he
    have ko : ∀ a j, a < 277 ∨ (a = 277 ∧ j = 82) ∨ a = 278 ∨ (a = 312 ∧ ¬ j = 1) ∨ a = 335 → mI M2 a j = mI M1 a j := fun a j q => g2.1 _ _ (fun w => by unfold sSo sSm at w; omega)
    refine ⟨rfl, z, b, D, hD, XR_m hD X1 g2 (fun a j q => by unfold sSo sSm at q; omega), MdM_b m1 hD g2 u12 u13, ⟨T, 0, by omega, by rw [ko _ _ (by omega)]; exact v1, u1, fun j hj => ⟨(t4 j hj).1, ?_, ?_⟩⟩, fun j hj => ?_, ⟨?_, ?_⟩, ⟨k, k1, ?_, ?_, fun j hj => ?_⟩⟩
    · rw [ko _ _ (by omega), kx _ _ (by omega)]; exact (t4 j hj).2.1
    · rw [ko _ _ (by omega), kx _ _ (by omega)]; exact (t4 j hj).2.2
    · by_cases e0 : j = 1
      · subst e0
        rw [ko _ _ (by omega), v5, u312, kx 312 1 (by omega), hRf 1 (by omega)]
      · rw [ko _ _ (by omega), kx _ _ (by omega), ko _ _ (by omega), kx _ _ (by omega)]; exact hRf j hj
    · rw [ko _ _ (by omega), v3, u10]
    · trivial
    · rw [ko _ _ (by omega), kx _ _ (by omega)]; exact k2
    · rw [ko _ _ (by omega), kx _ _ (by omega)]; exact k3
    · rw [ko _ _ (by omega), kx _ _ (by omega), ko _ _ (by omega), kx _ _ (by omega)]; exact k4 j hj
  · refine ⟨_, rfl, ⟨_, rfl⟩, L1, ?_⟩
    have hD' : dOK D' := ⟨hD1, Or.inl ⟨hC, hR⟩⟩
    have kx : ∀ a j, (a = 1 ∨ 277 ≤ a ∨ (a = 169 ∧ ¬ j = 1) ∨ a = 166 ∨ a = 170 ∨ (a = 0 ∧ ¬ j = 1 ∧ ¬ j = 5 ∧ ¬ j = 6 ∧ ¬ j = 13)) → mI M1 a j = mI M a j := fun a j q => g1.1 _ _ (fun w => by have := sSr_no w; omega)
    have X1 : XR M1 (85 - z) D' := by
      refine ⟨⟨L1, I1, hz', w2, by rw [show 85 - (85 - z) = z by omega]; exact w3, fun k hk => by rw [kx _ _ (by omega)]; exact hO k hk⟩, ⟨c, P1⟩, S1, fun s hs => ?_, Or.inl v13⟩
      have hsp := dSp_at hs
      have hok := dSp_ok hD1 hs
      obtain ⟨b0, b1, b2, b4, b5, b6⟩ := T1 s _ hsp
      obtain ⟨⟨e0, e1, e2, e3, e4⟩, hSy, hBk⟩ := P1.2.1 s _ hsp
      exact ⟨⟨b0, ⟨b1, b2, e3, e4, hok.2.2.2.2.2.2.2.1, hok.2.2.2.2.2.2.2.2, S1.2.2.1⟩, hBk, hSy⟩, Or.inl b4, Or.inl b5, Or.inl b6⟩
    have m1 := MdM_g hM g1 (fun a j q w => by have := sSr_no w; unfold tlM at q; omega)
    refine m_sea (T := T) (n := n) (b := b) (d' + 115) (.inr (kk, D')) M1 _ hs L1 m1.1.1 hb2 (by rw [kx _ _ (by omega)]; exact t3) t1 (fun j hj => ⟨(t4 j hj).1, by rw [kx _ _ (by omega)]; exact (t4 j hj).2.2⟩) (fun e2 M2 he => by cases he) (fun k2' D2 M2 he g2 u1 u10 u11 u312 m2 hD2 => ?_)
    cases he
    have ko : ∀ a j, a < 277 ∨ (a = 277 ∧ j = 82) ∨ a = 278 ∨ (a = 312 ∧ ¬ j = 1) ∨ a = 335 → mI M2 a j = mI M1 a j := fun a j q => g2.1 _ _ (fun w => by unfold sSo sSm at w; omega)
    refine ⟨rfl, 85 - z, 1 - b, D', hD', XR_m hD' X1 g2 (fun a j q => by unfold sSo sSm at q; omega), m2, ⟨T, 0, by omega, by rw [ko _ _ (by omega)]; exact v1, u1, fun j hj => ⟨(t4 j hj).1, ?_, ?_⟩⟩, fun j hj => ?_, ⟨?_, ?_⟩, ⟨k, k1, ?_, ?_, fun j hj => ?_⟩⟩
    · rw [ko _ _ (by omega), kx _ _ (by omega)]; exact (t4 j hj).2.1
    · rw [ko _ _ (by omega), kx _ _ (by omega)]; exact (t4 j hj).2.2
    · by_cases e0 : j = 1
      · subst e0
        rw [ko _ _ (by omega), v169, u312, kx 312 1 (by omega), hRf 1 (by omega)]
      · rw [ko _ _ (by omega), kx _ _ (by omega), ko _ _ (by omega), kx _ _ (by omega)]; exact hRf j hj
    · rw [ko _ _ (by omega), v5, u10]
    · trivial
    · rw [ko _ _ (by omega), kx _ _ (by omega)]; exact k2
    · rw [ko _ _ (by omega), kx _ _ (by omega)]; exact k3
    · rw [ko _ _ (by omega), kx _ _ (by omega), ko _ _ (by omega), kx _ _ (by omega)]; exact k4 j hj
