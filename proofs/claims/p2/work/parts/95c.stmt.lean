/-! the class's parser: statements -/
def sSea (z a _j : Nat) : Prop := a = 165 ∨ (z ≤ a ∧ a ≤ z + 80)
section
variable (T : Nat → Nat) (n z : Nat)
def GdX (M : am_M) (D : Dat) (c : Nat) (t : Tok) : Prop := Lay M ∧ mR M 164 1 = some z ∧ RdX M T n t ∧ PsX M z D c ∧ DOK D ∧ c ≤ tS t
def EdX (t : Tok) (M M' : am_M) : Sum (Nat × Nat) (Tok × Dat) → Prop
  | .inl e => gF (sSea z) nT M M' ∧ FaX M' z T n e
  | .inr q => gF (sSea z) nT M M' ∧ (∃ c', GdX T n z M' q.2 c' q.1) ∧ tS t < tS q.1
/-- a token behind another -/
def AfR (t : Tok) : Rt → Prop
  | .inl _ => True
  | .inr t' => ∃ a, tE t ≤ a ∧ a ≤ n ∧ t' = tk T n a
end
section
variable {T : Nat → Nat} {n z : Nat}
theorem AfR_1 {t : Tok} (h : tE t ≤ n) : AfR T n t (advR T n t) := by
  unfold advR
  split
  · trivial
  · exact ⟨tE t, Nat.le_refl _, h, rfl⟩
theorem AfR_a {t t1 : Tok} (h : AfR T n t (.inr t1)) : AfR T n t (advR T n t1) := by
  obtain ⟨a, h1, h2, rfl⟩ := h
  have h3 := tk_go T n a h2
  have h4 := tk_V T n a h2
  unfold advR
  split
  · trivial
  · exact ⟨_, by omega, h3.2.1, rfl⟩
theorem AfR_s {t : Tok} {r : Rt} (h : AfR T n t r) : AfR T n t (stepR T n r) := by
  cases r with
  | inl e => trivial
  | inr t1 => exact AfR_a h
theorem AfR_w {t : Tok} {r : Rt} (k : Nat) (h : AfR T n t r) : AfR T n t (wordR T n k r) := by
  cases r with
  | inl e => trivial
  | inr t1 =>
    show AfR T n t (if isW t1 (ownW.getD k []) = true then advR T n t1 else .inl (1, tS t1))
    split
    · exact AfR_a h
    · trivial
theorem AfR_g {t : Tok} {r : Rt} (k : Nat) (h : AfR T n t r) : AfR T n t (signR T n k r) := by
  cases r with
  | inl e => trivial
  | inr t1 =>
    show AfR T n t (if isS t1 k = true then advR T n t1 else .inl (1, tS t1))
    split
    · exact AfR_a h
    · trivial
theorem AfR_n {t : Tok} {r : Rt} (lo hi : Nat) (h : AfR T n t r) : AfR T n t (numR T n lo hi r).1 := by
  cases r with
  | inl e => trivial
  | inr t1 =>
    show AfR T n t (if ¬ t1.1 = 2 then (.inl (1, tS t1), lo) else if t1.2.1 < lo ∨ hi < t1.2.1 then (.inl (4, tS t1), lo) else (advR T n t1, t1.2.1) : Rt × Nat).1
    split
    · trivial
    · split
      · trivial
      · exact AfR_a h
theorem AfR_f {t : Tok} {r : Rt} (w lo hi : Nat) (h : AfR T n t r) : AfR T n t (aftR T n w lo hi r).1 := AfR_n lo hi (AfR_w w h)
theorem AfR_p {t : Tok} {r : Rt} (C R : Nat) (h : AfR T n t r) : AfR T n t (plcR T n C R r).1 := AfR_n _ _ (AfR_n _ _ (AfR_w 10 h))
theorem AfR_m {t : Tok} {r : Rt} (h : AfR T n t r) : AfR T n t (nameR r).1 := by
  cases r with
  | inl e => trivial
  | inr t1 =>
    show AfR T n t (if isNm t1 = true then (.inr t1, true) else (.inl (1, tS t1), false) : Rt × Bool).1
    split
    · exact h
    · trivial
theorem AfR_i {t : Tok} {r : Rt} (lo hi : Nat) (h : AfR T n t r) : AfR T n t (isNR lo hi r).1 := by
  cases r with
  | inl e => trivial
  | inr t1 =>
    show AfR T n t (if ¬ t1.1 = 2 then (.inl (1, tS t1), false) else if t1.2.1 < lo ∨ hi < t1.2.1 then (.inl (4, tS t1), false) else (.inr t1, true) : Rt × Bool).1
    split
    · trivial
    · split
      · trivial
      · exact h
theorem AfR_h {t : Tok} {r : Rt} (D : Dat) (h : AfR T n t r) : AfR T n t (shpR T n D r).1 := by
  have h1 := AfR_m h
  unfold shpR
  cases hm : (nameR r).1 with
  | inl e => trivial
  | inr t1 =>
    rw [hm] at h1
    dsimp only
    cases shF D t1.2.2.1 with
    | none => trivial
    | some s => exact AfR_a h1
theorem AfR_lt {t t' : Tok} (hG : tkG T n t) (h0 : ¬ t.1 = 0) (h : AfR T n t (.inr t')) : tS t < tS t' := by
  obtain ⟨a, h1, h2, rfl⟩ := h
  have := (tk_V T n a h2).2.1
  have := tkG_0 hG h0
  omega
theorem GdX_t {M : am_M} {D : Dat} {c : Nat} {t : Tok} (h : GdX T n z M D c t) : tkG T n t := h.2.2.1.2.2.2.2.2.2.2.2.1
theorem sRd_S {M M' : am_M} (h : gF sRd nT M M') : gF (sSea z) nT M M' := gF_up h (fun a j q => Or.inl q) (fun _ _ q => q)
theorem sFz_S {M M' : am_M} (h : gF (sFz z) nT M M') : gF (sSea z) nT M M' := gF_up h (fun a j q => by unfold sFz at q; unfold sSea; omega) (fun _ _ q => q)
theorem sPz_S {M M' : am_M} {c : Nat} (h : gF (sPz z c) nT M M') : gF (sSea z) nT M M' := sFz_S (sPz_F h)
theorem Fa_of {M : am_M} {D : Dat} {c : Nat} {e : Nat × Nat} (hp : mR M 164 1 = some z) (hP : PsX M z D c) (h : StR M T n (.inl e)) : FaX M z T n e := ⟨h, hp, c, hP.2.2.2.2⟩
theorem f_0 {M : am_M} {r : Rt} (h : StR M T n r) : (∀ e, r = .inl e → ¬ mI M 165 8 = 0) ∧ (∀ t, r = .inr t → mI M 165 8 = 0) := by
  constructor
  · intro e he
    rw [he] at h
    exact FtX_8 h
  · intro t ht
    rw [ht] at h
    exact h.2.2.1
/-- how far it is: luck -/
theorem PsX_mk {M : am_M} {D D' : Dat} {c : Nat} (h : PsX M z D' c) (e : D = D') : PsX M z D c := by rw [e]; exact h
theorem b_luck (hz : z = 2 ∨ z = 83) (d c : Nat) (D : Dat) (t : Tok) (M : am_M) (Q : Option Value → am_M → Prop) (hG : GdX T n z M D c t) (h0 : ¬ t.1 = 0) (hQ : ∀ M', EdX T n z t M M' (spLuck T n D t) → Q none M') : am_P am_P0 (d + 4) (am_look tX2_readStatement) 200 [.ref 164, .int 0] [] M Q := by
  obtain ⟨hL, hp, hR, hP, hD, hc⟩ := id hG
  have hst : StR M T n (.inr t) := hR
  have hEn := (GdX_t hG).1
  simp +decide only [qX2_readStatement_0, qX2_readStatement_1, lx hL, am_w1_i, am_w1_r, am_w1_x, am_w1_l, am_w1_w, va_rf_s, am_push_n, am_push_s, am_cs_0, am_cs_i, am_cs_l, am_cs_r, m_uI_K, m_uI_N, m_uI_R, m_uI_L, m_uI_I, m_uL_K, m_uL_N, m_uL_R, m_uL_I, m_uL_L, m_uR_K, m_uR_N, m_uR_I, m_uR_L, m_uR_R, true_and, and_true, true_implies, false_implies, not_true_eq_false, not_false_eq_true, if_true, if_false, false_and, and_false]
  refine c_x_stepR (d + 2) n T (.inr t) M _ hL hst (fun M1 g1 h1 => ?_)
  have L1 := gF_LayN g1 hL
  have P1 := PsX_r hP hz hD g1
  have p1 : mR M1 164 1 = some z := by rw [g1.2.2.1 _ _ (fun q => q)]; exact hp
  simp +decide only [qX2_readStatement_0, qX2_readStatement_1, lx L1, p1, am_w1_i, am_w1_r, am_w1_x, am_w1_l, am_w1_w, va_rf_s, am_push_n, am_push_s, am_cs_0, am_cs_i, am_cs_l, am_cs_r, m_uI_K, m_uI_N, m_uI_R, m_uI_L, m_uI_I, m_uL_K, m_uL_N, m_uL_R, m_uL_I, m_uL_L, m_uR_K, m_uR_N, m_uR_I, m_uR_L, m_uR_R, true_and, and_true, true_implies, false_implies, not_true_eq_false, not_false_eq_true, if_true, if_false, false_and, and_false]
  rw [show (0 : Int32) = nI 0 from rfl, show (100 : Int32) = nI 100 from rfl]
  refine c_x_takeNumber d n 0 100 T _ M1 _ L1 (by omega) (by omega) h1 (fun M2 g2 h2 => ?_)
  have L2 := gF_LayN g2 L1
  have P2 := PsX_r P1 hz hD g2
  have p2 : mR M2 164 1 = some z := by rw [g2.2.2.1 _ _ (fun q => q)]; exact p1
  have h2' : StR M2 T n (numR T n 0 100 (advR T n t)).1 := h2
  simp +decide only [qX2_readStatement_0, qX2_readStatement_1, lz L2 hz, am_w1_i, am_w1_r, am_w1_x, am_w1_l, am_w1_w, va_rf_s, am_push_n, am_push_s, am_cs_0, am_cs_i, am_cs_l, am_cs_r, m_uI_K, m_uI_N, m_uI_R, m_uI_L, m_uI_I, m_uL_K, m_uL_N, m_uL_R, m_uL_I, m_uL_L, m_uR_K, m_uR_N, m_uR_I, m_uR_L, m_uR_R, true_and, and_true, true_implies, false_implies, not_true_eq_false, not_false_eq_true, if_true, if_false, false_and, and_false]
  have g3 : gF (fun a j => a = z ∧ j = 2) nT M2 (uI M2 z 2 (nI (numR T n 0 100 (stepR T n (.inr t))).2)) := gF_i _ ⟨rfl, rfl⟩
  have G : gF (sSea z) nT M (uI M2 z 2 (nI (numR T n 0 100 (stepR T n (.inr t))).2)) := gF_trans (sRd_S g1) (gF_trans (sRd_S g2) (gF_up g3 (fun a j q => by unfold sSea; omega) (fun _ _ q => q)))
  have h3 : StR (uI M2 z 2 (nI (numR T n 0 100 (stepR T n (.inr t))).2)) T n (numR T n 0 100 (advR T n t)).1 := StR_g h2' g3 (fun a j q w => by omega) (fun q => q)
  refine hQ _ ?_
  unfold spLuck bR
  cases hr : (numR T n 0 100 (advR T n t)).1 with
  | inl e =>
    rw [hr] at h3
    exact ⟨G, h3, p2, c, FmX_g P2.2.2.2.2 g3 (fun q => by omega)⟩
  | inr t' =>
    rw [hr] at h3
    have haf : AfR T n t (.inr t') := by rw [← hr]; exact AfR_n _ _ (AfR_1 hEn)
    have hlt := AfR_lt (GdX_t hG) h0 haf
    have hv := numR_v hr
    refine ⟨G, ⟨c, L2, p2, h3, ?_, ?_, by show c ≤ tS t'; omega⟩, hlt⟩
    · obtain ⟨⟨a1, a2, a3, a4⟩, b, s, ⟨r1, r2, r3⟩, f⟩ := P2
      refine ⟨⟨by rw [m_uI_I, if_neg (by omega)]; exact a1, by rw [m_uI_I, if_neg (by omega)]; exact a2, by rw [m_uI_I, if_pos ⟨rfl, rfl⟩]; rfl, by rw [m_uI_I, if_neg (by omega)]; exact a4⟩, fun s' sp hs' => ?_, SgX_g s g3 (fun a j q1 q2 w => by omega), ⟨RlC_g r1 g3 (fun a j q1 q2 w => by omega) (fun j hj w => by omega), RlC_g r2 g3 (fun a j q1 q2 w => by omega) (fun j hj w => by omega), RlC_g r3 g3 (fun a j q1 q2 w => by omega) (fun j hj w => by omega)⟩, FmX_g f g3 (fun q => by omega)⟩
      exact ShX_g (b s' sp hs') g3 (fun a j q1 q2 w => by omega)
    · obtain ⟨d1, d2, d3⟩ := hD
      exact ⟨d1, hv.2, d3⟩
theorem b_size (hz : z = 2 ∨ z = 83) (d c : Nat) (t : Tok) (M : am_M) (Q : Option Value → am_M → Prop) (hG : GdX T n z M dat0 c t) (h0 : ¬ t.1 = 0) (hQ : ∀ M', EdX T n z t M M' (spSize T n dat0 t) → Q none M') : am_E am_P0 (d + 4) 12 [.ref 164] M Q := by
  obtain ⟨hL, hp, hR, hP, hD, hc⟩ := id hG
  have hst : StR M T n (.inr t) := hR
  have hEn := (GdX_t hG).1
  rw [eX2_readSize]
  simp +decide only [qX2_readSize, lx hL, am_w1_i, am_w1_r, am_w1_x, am_w1_l, am_w1_w, va_rf_s, am_push_n, am_push_s, am_cs_0, am_cs_i, am_cs_l, am_cs_r, m_uI_K, m_uI_N, m_uI_R, m_uI_L, m_uI_I, m_uL_K, m_uL_N, m_uL_R, m_uL_I, m_uL_L, m_uR_K, m_uR_N, m_uR_I, m_uR_L, m_uR_R, true_and, and_true, true_implies, false_implies, not_true_eq_false, not_false_eq_true, if_true, if_false, false_and, and_false]
  refine c_x_stepR (d + 2) n T (.inr t) M _ hL hst (fun M1 g1 h1 => ?_)
  have L1 := gF_LayN g1 hL
  have P1 := PsX_r hP hz hD g1
  have p1 : mR M1 164 1 = some z := by rw [g1.2.2.1 _ _ (fun q => q)]; exact hp
  simp +decide only [qX2_readSize, lx L1, p1, am_w1_i, am_w1_r, am_w1_x, am_w1_l, am_w1_w, va_rf_s, am_push_n, am_push_s, am_cs_0, am_cs_i, am_cs_l, am_cs_r, m_uI_K, m_uI_N, m_uI_R, m_uI_L, m_uI_I, m_uL_K, m_uL_N, m_uL_R, m_uL_I, m_uL_L, m_uR_K, m_uR_N, m_uR_I, m_uR_L, m_uR_R, true_and, and_true, true_implies, false_implies, not_true_eq_false, not_false_eq_true, if_true, if_false, false_and, and_false]
  rw [show (2 : Int32) = nI 2 from rfl, show (16 : Int32) = nI 16 from rfl]
  refine c_x_takeNumber d n 2 16 T _ M1 _ L1 (by omega) (by omega) h1 (fun M2 g2 h2 => ?_)
  have L2 := gF_LayN g2 L1
  have P2 := PsX_r P1 hz hD g2
  have p2 : mR M2 164 1 = some z := by rw [g2.2.2.1 _ _ (fun q => q)]; exact p1
  have h2' : StR M2 T n (numR T n 2 16 (advR T n t)).1 := h2
  obtain ⟨M3, hM3⟩ : ∃ M3, M3 = uI M2 z 0 (nI (numR T n 2 16 (stepR T n (.inr t))).2) := ⟨_, rfl⟩
  have g3 : gF (fun a j => a = z ∧ j = 0) nT M2 M3 := by rw [hM3]; exact gF_i _ ⟨rfl, rfl⟩
  have h3 : StR M3 T n (numR T n 2 16 (advR T n t)).1 := StR_g h2' g3 (fun a j q w => by omega) (fun q => q)
  have L3 := gF_LayN g3 L2
  have p3 : mR M3 164 1 = some z := by rw [g3.2.2.1 _ _ (fun q => q)]; exact p2
  simp +decide only [qX2_readSize, lz L2 hz, ← hM3, am_w1_i, am_w1_r, am_w1_x, am_w1_l, am_w1_w, va_rf_s, am_push_n, am_push_s, am_cs_0, am_cs_i, am_cs_l, am_cs_r, m_uI_K, m_uI_N, m_uI_R, m_uI_L, m_uI_I, m_uL_K, m_uL_N, m_uL_R, m_uL_I, m_uL_L, m_uR_K, m_uR_N, m_uR_I, m_uR_L, m_uR_R, true_and, and_true, true_implies, false_implies, not_true_eq_false, not_false_eq_true, if_true, if_false, false_and, and_false]
  simp +decide only [qX2_readSize, lx L3, p3, am_w1_i, am_w1_r, am_w1_x, am_w1_l, am_w1_w, va_rf_s, am_push_n, am_push_s, am_cs_0, am_cs_i, am_cs_l, am_cs_r, m_uI_K, m_uI_N, m_uI_R, m_uI_L, m_uI_I, m_uL_K, m_uL_N, m_uL_R, m_uL_I, m_uL_L, m_uR_K, m_uR_N, m_uR_I, m_uR_L, m_uR_R, true_and, and_true, true_implies, false_implies, not_true_eq_false, not_false_eq_true, if_true, if_false, false_and, and_false]
  rw [show (2 : Int32) = nI 2 from rfl, show (16 : Int32) = nI 16 from rfl]
  refine c_x_takeNumber d n 2 16 T _ M3 _ L3 (by omega) (by omega) h3 (fun M4 g4 h4 => ?_)
  have L4 := gF_LayN g4 L3
  have p4 : mR M4 164 1 = some z := by rw [g4.2.2.1 _ _ (fun q => q)]; exact p3
  simp +decide only [qX2_readSize, lz L4 hz, am_w1_i, am_w1_r, am_w1_x, am_w1_l, am_w1_w, va_rf_s, am_push_n, am_push_s, am_cs_0, am_cs_i, am_cs_l, am_cs_r, m_uI_K, m_uI_N, m_uI_R, m_uI_L, m_uI_I, m_uL_K, m_uL_N, m_uL_R, m_uL_I, m_uL_L, m_uR_K, m_uR_N, m_uR_I, m_uR_L, m_uR_R, true_and, and_true, true_implies, false_implies, not_true_eq_false, not_false_eq_true, if_true, if_false, false_and, and_false]
  obtain ⟨M5, hM5⟩ : ∃ M5, M5 = uI M4 z 1 (nI (numR T n 2 16 (numR T n 2 16 (advR T n t)).1).2) := ⟨_, rfl⟩
  have g5 : gF (fun a j => a = z ∧ j = 1) nT M4 M5 := by rw [hM5]; exact gF_i _ ⟨rfl, rfl⟩
  have h5 : StR M5 T n (numR T n 2 16 (numR T n 2 16 (advR T n t)).1).1 := StR_g h4 g5 (fun a j q w => by omega) (fun q => q)
  have G25 : gF (fun a j => a = 165 ∨ (a = z ∧ (j = 0 ∨ j = 1))) nT M2 M5 := gF_trans (gF_up g3 (fun a j q => by omega) (fun _ _ q => q)) (gF_trans (gF_up g4 (fun a j q => Or.inl q) (fun _ _ q => q)) (gF_up g5 (fun a j q => by omega) (fun _ _ q => q)))
  have G : gF (sSea z) nT M M5 := gF_trans (sRd_S g1) (gF_trans (sRd_S g2) (gF_up G25 (fun a j q => by unfold sSea; omega) (fun _ _ q => q)))
  have p5 : mR M5 164 1 = some z := by rw [g5.2.2.1 _ _ (fun q => q)]; exact p4
  rw [← hM5]
  refine hQ M5 ?_
  unfold spSize bR
  cases hr : (numR T n 2 16 (numR T n 2 16 (advR T n t)).1).1 with
  | inl e =>
    rw [hr] at h5
    exact ⟨G, h5, p5, c, FmX_g P2.2.2.2.2 G25 (fun q => by omega)⟩
  | inr t' =>
    rw [hr] at h5
    have haf : AfR T n t (.inr t') := by rw [← hr]; exact AfR_n _ _ (AfR_n _ _ (AfR_1 hEn))
    have hlt := AfR_lt (GdX_t hG) h0 haf
    have hv := numR_v hr
    obtain ⟨t1, ht1⟩ := numR_i hr
    have hv1 := numR_v ht1
    refine ⟨G, ⟨c, gF_LayN g5 L4, p5, h5, ?_, ?_, by show c ≤ tS t'; omega⟩, hlt⟩
    · obtain ⟨⟨a1, a2, a3, a4⟩, b, s, ⟨r1, r2, r3⟩, f⟩ := P2
      refine ⟨⟨?_, ?_, by rw [G25.1 _ _ (by omega)]; exact a3, by rw [G25.1 _ _ (by omega)]; exact a4⟩, fun s' sp hs' => (by cases hs'), SgX_g s G25 (fun a j q1 q2 w => by omega), ⟨RlC_g r1 G25 (fun a j q1 q2 w => by omega) (fun j hj w => by omega), RlC_g r2 G25 (fun a j q1 q2 w => by omega) (fun j hj w => by omega), RlC_g r3 G25 (fun a j q1 q2 w => by omega) (fun j hj w => by omega)⟩, FmX_g f G25 (fun q => by omega)⟩
      · rw [g5.1 _ _ (by omega), g4.1 _ _ (by unfold sRd; omega), hM3, m_uI_I, if_pos ⟨rfl, rfl⟩]; rfl
      · rw [hM5, m_uI_I, if_pos ⟨rfl, rfl⟩]; rfl
    · exact ⟨⟨hv1.2, hv.2⟩, (show 10 ≤ 100 by decide), ⟨Nat.zero_le _, rfl, fun s hs => absurd hs List.not_mem_nil⟩, fun s y hy => absurd hy List.not_mem_nil, fun s => List.Pairwise.nil, Nat.zero_le _, ⟨⟨Nat.zero_le _, fun k hk => absurd hk List.not_mem_nil⟩, fun k hk => absurd hk List.not_mem_nil⟩, ⟨Nat.zero_le _, fun g hg => absurd hg List.not_mem_nil⟩, ⟨Nat.zero_le _, fun r hr => absurd hr List.not_mem_nil⟩, ⟨Nat.zero_le _, fun r hr => absurd hr List.not_mem_nil⟩, ⟨Nat.zero_le _, fun r hr => absurd hr List.not_mem_nil⟩⟩
end
