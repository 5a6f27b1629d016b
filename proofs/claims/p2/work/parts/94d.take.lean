/-! the class's reader: what is taken -/
abbrev Rt := Sum (Nat × Nat) Tok
def StR (M : am_M) (T : Nat → Nat) (n : Nat) : Rt → Prop
  | .inl e => FtX M T n e.1 e.2
  | .inr t => RdX M T n t
def advR (T : Nat → Nat) (n : Nat) (t : Tok) : Rt := if (tk T n (tE t)).1 = 4 then .inl (1, tS (tk T n (tE t))) else .inr (tk T n (tE t))
def stepR (T : Nat → Nat) (n : Nat) : Rt → Rt
  | .inl e => .inl e
  | .inr t => advR T n t
def refR (k : Nat) : Rt → Rt
  | .inl e => .inl e
  | .inr t => .inl (k, tS t)
def signR (T : Nat → Nat) (n c : Nat) : Rt → Rt
  | .inl e => .inl e
  | .inr t => if isS t c = true then advR T n t else .inl (1, tS t)
def wordR (T : Nat → Nat) (n k : Nat) : Rt → Rt
  | .inl e => .inl e
  | .inr t => if isW t (ownW.getD k []) = true then advR T n t else .inl (1, tS t)
def isNR (lo hi : Nat) : Rt → Rt × Bool
  | .inl e => (.inl e, false)
  | .inr t => if ¬ t.1 = 2 then (.inl (1, tS t), false) else if t.2.1 < lo ∨ hi < t.2.1 then (.inl (4, tS t), false) else (.inr t, true)
def numR (T : Nat → Nat) (n lo hi : Nat) : Rt → Rt × Nat
  | .inl e => (.inl e, lo)
  | .inr t => if ¬ t.1 = 2 then (.inl (1, tS t), lo) else if t.2.1 < lo ∨ hi < t.2.1 then (.inl (4, tS t), lo) else (advR T n t, t.2.1)
/-- a name: a word that is no own word -/
def isNm (t : Tok) : Bool := t.1 == 1 && !decide (t.2.2.1 ∈ ownW)
def nameR : Rt → Rt × Bool
  | .inl e => (.inl e, false)
  | .inr t => if isNm t = true then (.inr t, true) else (.inl (1, tS t), false)
theorem RdX_g {M M' : am_M} {T : Nat → Nat} {n : Nat} {t : Tok} {S T' : Nat → Nat → Prop} (h : RdX M T n t) (hg : gF S T' M M') (hS : ∀ a j, a = 165 ∨ a = 1 ∨ a = 166 → ¬ S a j) (hT : ¬ T' 165 1) : RdX M' T n t := by
  obtain ⟨⟨a1, a2, a3, a4⟩, b2, b3, b4, b5, b6, b7, b8, b9, b10⟩ := h
  have k : ∀ j, mI M' 165 j = mI M 165 j := fun j => hg.1 _ _ (hS _ _ (Or.inl rfl))
  exact ⟨⟨by rw [hg.2.2.1 _ _ hT]; exact a1, by rw [k]; exact a2, a3, fun j hj => ⟨(a4 j hj).1, by rw [hg.1 _ _ (hS _ _ (Or.inr (Or.inl rfl)))]; exact (a4 j hj).2⟩⟩, OwX_g b2 hg (fun j => hS _ _ (Or.inr (Or.inr rfl))), by rw [k]; exact b3, by rw [k]; exact b4, by rw [k]; exact b5, by rw [k]; exact b6, by rw [k]; exact b7, by rw [k]; exact b8, b9, by rw [k]; exact b10⟩
theorem FtX_g {M M' : am_M} {T : Nat → Nat} {n k p : Nat} {S T' : Nat → Nat → Prop} (h : FtX M T n k p) (hg : gF S T' M M') (hS : ∀ a j, a = 165 ∨ a = 1 ∨ a = 166 → ¬ S a j) (hT : ¬ T' 165 1) : FtX M' T n k p := by
  obtain ⟨⟨a1, a2, a3, a4⟩, b2, b3, b4, b5, b6, b7⟩ := h
  have k : ∀ j, mI M' 165 j = mI M 165 j := fun j => hg.1 _ _ (hS _ _ (Or.inl rfl))
  exact ⟨⟨by rw [hg.2.2.1 _ _ hT]; exact a1, by rw [k]; exact a2, a3, fun j hj => ⟨(a4 j hj).1, by rw [hg.1 _ _ (hS _ _ (Or.inr (Or.inl rfl)))]; exact (a4 j hj).2⟩⟩, OwX_g b2 hg (fun j => hS _ _ (Or.inr (Or.inr rfl))), by rw [k]; exact b3, b4, Or.inl trivial, by rw [k]; exact b6, by rw [k]; exact b7⟩
theorem StR_g {M M' : am_M} {T : Nat → Nat} {n : Nat} {r : Rt} {S T' : Nat → Nat → Prop} (h : StR M T n r) (hg : gF S T' M M') (hS : ∀ a j, a = 165 ∨ a = 1 ∨ a = 166 → ¬ S a j) (hT : ¬ T' 165 1) : StR M' T n r := by
  cases r with
  | inl e => exact FtX_g h hg hS hT
  | inr t => exact RdX_g h hg hS hT
theorem c_x_stepR (d n : Nat) (T : Nat → Nat) (r : Rt) (M : am_M) (Q : Option Value → am_M → Prop) (hL : Lay M) (hR : StR M T n r) (hQ : ∀ M', gF sRd nT M M' → StR M' T n (stepR T n r) → Q none M') : am_E am_P0 (d + 1) 35 [.ref 165] M Q := by
  cases r with
  | inl e => rw [c_x_stepF (d + 1) n e.1 e.2 T M Q hL hR]; exact hQ M (gF_refl _ _ _) hR
  | inr t =>
    refine c_x_step d n T t M Q hL hR (fun h4 M1 g1 hF => hQ M1 g1 ?_) (fun h4 M1 g1 hF => hQ M1 g1 ?_)
    · show StR M1 T n (advR T n t); unfold advR; rw [if_pos h4]; exact hF
    · show StR M1 T n (advR T n t); unfold advR; rw [if_neg h4]; exact hF
theorem c_x_refuse (d n k : Nat) (T : Nat → Nat) (r : Rt) (M : am_M) (Q : Option Value → am_M → Prop) (hL : Lay M) (hk : 1 ≤ k ∧ k ≤ 5) (hR : StR M T n r) (hQ : ∀ M', gF sRd nT M M' → StR M' T n (refR k r) → Q none M') : am_E am_P0 (d + 1) 39 [.ref 165, .int (nI k)] M Q := by
  rw [eX3_refuse]
  cases r with
  | inl e =>
    have h8 := FtX_8 hR
    have hf := FtX_1 hR
    have h0 := hQ _ hf.2 hf.1
    simp +decide only [qX3_refuse, lx hL, am_w1_i, am_w1_r, am_w1_x, am_w1_l, am_w1_w, va_rf_s, am_push_n, am_push_s, am_cs_0, am_cs_i, am_cs_l, am_cs_r, m_uI_K, m_uI_N, m_uI_R, m_uI_L, m_uI_I, m_uL_K, m_uL_N, m_uL_R, m_uL_I, m_uL_L, m_uR_K, m_uR_N, m_uR_I, m_uR_L, m_uR_R, true_and, and_true, true_implies, false_implies, not_true_eq_false, not_false_eq_true, if_true, if_false, false_and, and_false]
    rw [c_x_refuseAt1 d _ _ M _ hL h8]
    simp +decide only [qX3_refuse, lx hL, am_w1_i, am_w1_r, am_w1_x, am_w1_l, am_w1_w, va_rf_s, am_push_n, am_push_s, am_cs_0, am_cs_i, am_cs_l, am_cs_r, m_uI_K, m_uI_N, m_uI_R, m_uI_L, m_uI_I, m_uL_K, m_uL_N, m_uL_R, m_uL_I, m_uL_L, m_uR_K, m_uR_N, m_uR_I, m_uR_L, m_uR_R, true_and, and_true, true_implies, false_implies, not_true_eq_false, not_false_eq_true, if_true, if_false, false_and, and_false]
    exact h0
  | inr t =>
    obtain ⟨hT, hO, h8, h3, h4, h7, -⟩ := id hR
    have hf := FtX_0 (k := k) (p := tS t) hT hO hk
    have h0 := hQ _ hf.2 hf.1
    simp +decide only [qX3_refuse, lx hL, h7, am_w1_i, am_w1_r, am_w1_x, am_w1_l, am_w1_w, va_rf_s, am_push_n, am_push_s, am_cs_0, am_cs_i, am_cs_l, am_cs_r, m_uI_K, m_uI_N, m_uI_R, m_uI_L, m_uI_I, m_uL_K, m_uL_N, m_uL_R, m_uL_I, m_uL_L, m_uR_K, m_uR_N, m_uR_I, m_uR_L, m_uR_R, true_and, and_true, true_implies, false_implies, not_true_eq_false, not_false_eq_true, if_true, if_false, false_and, and_false]
    rw [c_x_refuseAt0 d _ _ M _ hL h8]
    simp +decide only [qX3_refuse, lx hL, am_w1_i, am_w1_r, am_w1_x, am_w1_l, am_w1_w, va_rf_s, am_push_n, am_push_s, am_cs_0, am_cs_i, am_cs_l, am_cs_r, m_uI_K, m_uI_N, m_uI_R, m_uI_L, m_uI_I, m_uL_K, m_uL_N, m_uL_R, m_uL_I, m_uL_L, m_uR_K, m_uR_N, m_uR_I, m_uR_L, m_uR_R, true_and, and_true, true_implies, false_implies, not_true_eq_false, not_false_eq_true, if_true, if_false, false_and, and_false]
    exact h0
def isSr (c : Nat) : Rt → Bool
  | .inl _ => false
  | .inr t => isS t c
def isWr (k : Nat) : Rt → Bool
  | .inl _ => false
  | .inr t => isW t (ownW.getD k [])
theorem c_x_isSign (d n c : Nat) (T : Nat → Nat) (r : Rt) (M : am_M) (Q : Option Value → am_M → Prop) (hL : Lay M) (hc : c < 256) (hR : StR M T n r) : am_E am_P0 d 40 [.ref 165, .int (nI c)] M Q ↔ Q (some (.int (b01 (isSr c r)))) M := by
  rw [eX3_isSign]
  cases r with
  | inl e =>
    have h4 := hR.2.2.2.2.2.1
    simp +decide only [qX3_isSign, lx hL, h4, am_w1_i, am_w1_r, am_w1_x, am_w1_l, am_w1_w, va_rf_s, am_push_n, am_push_s, am_cs_0, am_cs_i, am_cs_l, am_cs_r, m_uI_K, m_uI_N, m_uI_R, m_uI_L, m_uI_I, m_uL_K, m_uL_N, m_uL_R, m_uL_I, m_uL_L, m_uR_K, m_uR_N, m_uR_I, m_uR_L, m_uR_R, true_and, and_true, true_implies, false_implies, not_true_eq_false, not_false_eq_true, if_true, if_false, false_and, and_false]
    exact Iff.rfl
  | inr t =>
    obtain ⟨hT, hO, h8, h3, h4, h7, h6, h5, hG, -⟩ := id hR
    simp +decide only [qX3_isSign, lx hL, h4, h5, am_w1_i, am_w1_r, am_w1_x, am_w1_l, am_w1_w, va_rf_s, am_push_n, am_push_s, am_cs_0, am_cs_i, am_cs_l, am_cs_r, m_uI_K, m_uI_N, m_uI_R, m_uI_L, m_uI_I, m_uL_K, m_uL_N, m_uL_R, m_uL_I, m_uL_L, m_uR_K, m_uR_N, m_uR_I, m_uR_L, m_uR_R, true_and, and_true, true_implies, false_implies, not_true_eq_false, not_false_eq_true, if_true, if_false, false_and, and_false]
    have hle := hG.2.2.1
    show _ ↔ Q (some (.int (b01 (isS t c)))) M
    by_cases c3 : t.1 = 3
    · have ht := hG.2.2.2.2.2.2.2.1 c3
      have e3 : nI t.1 = 3 := by rw [c3]; rfl
      rw [br_r e3, if_neg (by omega)]
      by_cases cc : t.2.1 = c
      · have : isS t c = true := by unfold isS; rw [c3, cc]; simp
        rw [br_r (by rw [cc]), this]; exact Iff.rfl
      · have : isS t c = false := by unfold isS; rw [Bool.and_eq_false_iff]; exact Or.inr (by simpa using cc)
        rw [br_q (fun q => cc ((ni_eq (by omega) (by omega)).mp q)), this]; exact Iff.rfl
    · have : isS t c = false := by unfold isS; rw [Bool.and_eq_false_iff]; exact Or.inl (by simpa using c3)
      have n3 : ¬ nI t.1 = 3 := fun q => c3 ((ni_eq (b := 3) (by omega) (by omega)).mp q)
      rw [br_q n3, this]; exact Iff.rfl
theorem wr_is {M : am_M} {T : Nat → Nat} {n k : Nat} {r : Rt} (hR : StR M T n r) (hk : k < 27) : mI M 165 6 = nI k ↔ isWr k r = true := by
  cases r with
  | inl e =>
    have h6 : mI M 165 6 = -1 := hR.2.2.2.2.2.2
    rw [h6]
    exact ⟨fun q => absurd q.symm (nI_m1 (by omega)), fun q => absurd q (by show ¬ false = true; decide)⟩
  | inr t =>
    obtain ⟨hT, hO, h8, h3, h4, h7, h6, h5, hG, -⟩ := id hR
    rw [h6]
    show _ ↔ isW t (ownW.getD k []) = true
    unfold isW
    rw [Bool.and_eq_true, beq_iff_eq, beq_iff_eq]
    by_cases c : t.1 = 1
    · rw [if_pos c, owI_is hk]
      exact ⟨fun q => ⟨c, q⟩, fun q => q.2⟩
    · rw [if_neg c]
      exact ⟨fun q => absurd q.symm (nI_m1 (by omega)), fun q => absurd q.1 c⟩
theorem c_x_takeSign (d n c : Nat) (T : Nat → Nat) (r : Rt) (M : am_M) (Q : Option Value → am_M → Prop) (hL : Lay M) (hc : c < 256) (hR : StR M T n r) (hQ : ∀ M', gF sRd nT M M' → StR M' T n (signR T n c r) → Q none M') : am_E am_P0 (d + 2) 41 [.ref 165, .int (nI c)] M Q := by
  rw [eX3_takeSign]
  simp +decide only [qX3_takeSign, lx hL, c_x_isSign (d + 1) n c T r M _ hL hc hR, am_w1_i, am_w1_r, am_w1_x, am_w1_l, am_w1_w, va_rf_s, am_push_n, am_push_s, am_cs_0, am_cs_i, am_cs_l, am_cs_r, m_uI_K, m_uI_N, m_uI_R, m_uI_L, m_uI_I, m_uL_K, m_uL_N, m_uL_R, m_uL_I, m_uL_L, m_uR_K, m_uR_N, m_uR_I, m_uR_L, m_uR_R, true_and, and_true, true_implies, false_implies, not_true_eq_false, not_false_eq_true, if_true, if_false, false_and, and_false]
  cases hs : isSr c r with
  | true =>
    simp +decide only [b01, am_w1_i, am_w1_r, am_w1_x, am_w1_l, am_w1_w, va_rf_s, am_push_n, am_push_s, am_cs_0, am_cs_i, am_cs_l, am_cs_r, m_uI_K, m_uI_N, m_uI_R, m_uI_L, m_uI_I, m_uL_K, m_uL_N, m_uL_R, m_uL_I, m_uL_L, m_uR_K, m_uR_N, m_uR_I, m_uR_L, m_uR_R, true_and, and_true, true_implies, false_implies, not_true_eq_false, not_false_eq_true, if_true, if_false, false_and, and_false]
    refine c_x_stepR d n T r M _ hL hR (fun M1 g1 h1 => ?_)
    simp +decide only [qX3_takeSign, am_w1_i, am_w1_r, am_w1_x, am_w1_l, am_w1_w, va_rf_s, am_push_n, am_push_s, am_cs_0, am_cs_i, am_cs_l, am_cs_r, m_uI_K, m_uI_N, m_uI_R, m_uI_L, m_uI_I, m_uL_K, m_uL_N, m_uL_R, m_uL_I, m_uL_L, m_uR_K, m_uR_N, m_uR_I, m_uR_L, m_uR_R, true_and, and_true, true_implies, false_implies, not_true_eq_false, not_false_eq_true, if_true, if_false, false_and, and_false]
    refine hQ M1 g1 ?_
    cases r with
    | inl e => exact absurd hs (by show ¬ false = true; decide)
    | inr t =>
      have hs' : isS t c = true := hs
      show StR M1 T n (if isS t c = true then advR T n t else .inl (1, tS t)); rw [if_pos hs']; exact h1
  | false =>
    simp +decide only [b01, am_w1_i, am_w1_r, am_w1_x, am_w1_l, am_w1_w, va_rf_s, am_push_n, am_push_s, am_cs_0, am_cs_i, am_cs_l, am_cs_r, m_uI_K, m_uI_N, m_uI_R, m_uI_L, m_uI_I, m_uL_K, m_uL_N, m_uL_R, m_uL_I, m_uL_L, m_uR_K, m_uR_N, m_uR_I, m_uR_L, m_uR_R, true_and, and_true, true_implies, false_implies, not_true_eq_false, not_false_eq_true, if_true, if_false, false_and, and_false]
    rw [show (1 : Int32) = nI 1 from rfl]
    refine c_x_refuse d n 1 T r M _ hL (by omega) hR (fun M1 g1 h1 => ?_)
    simp +decide only [qX3_takeSign, am_w1_i, am_w1_r, am_w1_x, am_w1_l, am_w1_w, va_rf_s, am_push_n, am_push_s, am_cs_0, am_cs_i, am_cs_l, am_cs_r, m_uI_K, m_uI_N, m_uI_R, m_uI_L, m_uI_I, m_uL_K, m_uL_N, m_uL_R, m_uL_I, m_uL_L, m_uR_K, m_uR_N, m_uR_I, m_uR_L, m_uR_R, true_and, and_true, true_implies, false_implies, not_true_eq_false, not_false_eq_true, if_true, if_false, false_and, and_false]
    refine hQ M1 g1 ?_
    cases r with
    | inl e => exact h1
    | inr t =>
      have hs' : isS t c = false := hs
      show StR M1 T n (if isS t c = true then advR T n t else .inl (1, tS t)); rw [hs', if_neg (by decide)]; exact h1
theorem c_x_takeWord (d n k : Nat) (T : Nat → Nat) (r : Rt) (M : am_M) (Q : Option Value → am_M → Prop) (hL : Lay M) (hk : k < 27) (hR : StR M T n r) (hQ : ∀ M', gF sRd nT M M' → StR M' T n (wordR T n k r) → Q none M') : am_E am_P0 (d + 2) 42 [.ref 165, .int (nI k)] M Q := by
  have hw := wr_is hR hk
  rw [eX3_takeWord]
  simp +decide only [qX3_takeWord, lx hL, am_w1_i, am_w1_r, am_w1_x, am_w1_l, am_w1_w, va_rf_s, am_push_n, am_push_s, am_cs_0, am_cs_i, am_cs_l, am_cs_r, m_uI_K, m_uI_N, m_uI_R, m_uI_L, m_uI_I, m_uL_K, m_uL_N, m_uL_R, m_uL_I, m_uL_L, m_uR_K, m_uR_N, m_uR_I, m_uR_L, m_uR_R, true_and, and_true, true_implies, false_implies, not_true_eq_false, not_false_eq_true, if_true, if_false, false_and, and_false]
  by_cases hs : isWr k r = true
  · rw [br_r (hw.mpr hs)]
    refine c_x_stepR d n T r M _ hL hR (fun M1 g1 h1 => ?_)
    simp +decide only [qX3_takeWord, am_w1_i, am_w1_r, am_w1_x, am_w1_l, am_w1_w, va_rf_s, am_push_n, am_push_s, am_cs_0, am_cs_i, am_cs_l, am_cs_r, m_uI_K, m_uI_N, m_uI_R, m_uI_L, m_uI_I, m_uL_K, m_uL_N, m_uL_R, m_uL_I, m_uL_L, m_uR_K, m_uR_N, m_uR_I, m_uR_L, m_uR_R, true_and, and_true, true_implies, false_implies, not_true_eq_false, not_false_eq_true, if_true, if_false, false_and, and_false]
    refine hQ M1 g1 ?_
    cases r with
    | inl e => exact absurd hs (by show ¬ false = true; decide)
    | inr t =>
      have hs' : isW t (ownW.getD k []) = true := hs
      show StR M1 T n (if isW t (ownW.getD k []) = true then advR T n t else .inl (1, tS t)); rw [if_pos hs']; exact h1
  · rw [br_q (fun q => hs (hw.mp q)), show (1 : Int32) = nI 1 from rfl]
    refine c_x_refuse d n 1 T r M _ hL (by omega) hR (fun M1 g1 h1 => ?_)
    simp +decide only [qX3_takeWord, am_w1_i, am_w1_r, am_w1_x, am_w1_l, am_w1_w, va_rf_s, am_push_n, am_push_s, am_cs_0, am_cs_i, am_cs_l, am_cs_r, m_uI_K, m_uI_N, m_uI_R, m_uI_L, m_uI_I, m_uL_K, m_uL_N, m_uL_R, m_uL_I, m_uL_L, m_uR_K, m_uR_N, m_uR_I, m_uR_L, m_uR_R, true_and, and_true, true_implies, false_implies, not_true_eq_false, not_false_eq_true, if_true, if_false, false_and, and_false]
    refine hQ M1 g1 ?_
    cases r with
    | inl e => exact h1
    | inr t =>
      have hs' : ¬ isW t (ownW.getD k []) = true := hs
      show StR M1 T n (if isW t (ownW.getD k []) = true then advR T n t else .inl (1, tS t)); rw [if_neg hs']; exact h1
theorem c_x_isNumberF (d n : Nat) (e : Nat × Nat) (lo hi : Int32) (T : Nat → Nat) (M : am_M) (Q : Option Value → am_M → Prop) (hL : Lay M) (hR : StR M T n (.inl e)) (hQ : ∀ M', gF sRd nT M M' → StR M' T n (.inl e) → Q (some (.int 0)) M') : am_E am_P0 (d + 2) 43 [.ref 165, .int lo, .int hi] M Q := by
  have h4 : mI M 165 4 = 0 := hR.2.2.2.2.2.1
  rw [eX3_checkNumber]
  simp +decide only [qX3_checkNumber, lx hL, h4, am_w1_i, am_w1_r, am_w1_x, am_w1_l, am_w1_w, va_rf_s, am_push_n, am_push_s, am_cs_0, am_cs_i, am_cs_l, am_cs_r, m_uI_K, m_uI_N, m_uI_R, m_uI_L, m_uI_I, m_uL_K, m_uL_N, m_uL_R, m_uL_I, m_uL_L, m_uR_K, m_uR_N, m_uR_I, m_uR_L, m_uR_R, true_and, and_true, true_implies, false_implies, not_true_eq_false, not_false_eq_true, if_true, if_false, false_and, and_false]
  rw [show (1 : Int32) = nI 1 from rfl]
  refine c_x_refuse d n 1 T (.inl e) M _ hL (by omega) hR (fun M1 g1 h1 => ?_)
  have h0 := hQ M1 g1 h1
  simp +decide only [qX3_checkNumber, am_w1_i, am_w1_r, am_w1_x, am_w1_l, am_w1_w, va_rf_s, am_push_n, am_push_s, am_cs_0, am_cs_i, am_cs_l, am_cs_r, m_uI_K, m_uI_N, m_uI_R, m_uI_L, m_uI_I, m_uL_K, m_uL_N, m_uL_R, m_uL_I, m_uL_L, m_uR_K, m_uR_N, m_uR_I, m_uR_L, m_uR_R, true_and, and_true, true_implies, false_implies, not_true_eq_false, not_false_eq_true, if_true, if_false, false_and, and_false]
  exact h0
theorem c_x_isNumber (d n lo hi : Nat) (T : Nat → Nat) (r : Rt) (M : am_M) (Q : Option Value → am_M → Prop) (hL : Lay M) (hlo : lo < 10000) (hhi : hi < 10000) (hR : StR M T n r) (hQ : ∀ M', gF sRd nT M M' → StR M' T n (isNR lo hi r).1 → Q (some (.int (b01 (isNR lo hi r).2))) M') : am_E am_P0 (d + 2) 43 [.ref 165, .int (nI lo), .int (nI hi)] M Q := by
  cases r with
  | inl e => exact c_x_isNumberF d n e _ _ T M Q hL hR hQ
  | inr t =>
    obtain ⟨hT, hO, h8, h3, h4, h7, h6, h5, hG, -⟩ := id hR
    have hle := hG.2.2.1
    rw [eX3_checkNumber]
    simp +decide only [qX3_checkNumber, lx hL, h4, h5, am_w1_i, am_w1_r, am_w1_x, am_w1_l, am_w1_w, va_rf_s, am_push_n, am_push_s, am_cs_0, am_cs_i, am_cs_l, am_cs_r, m_uI_K, m_uI_N, m_uI_R, m_uI_L, m_uI_I, m_uL_K, m_uL_N, m_uL_R, m_uL_I, m_uL_L, m_uR_K, m_uR_N, m_uR_I, m_uR_L, m_uR_R, true_and, and_true, true_implies, false_implies, not_true_eq_false, not_false_eq_true, if_true, if_false, false_and, and_false]
    have en : isNR lo hi (.inr t) = if ¬ t.1 = 2 then (.inl (1, tS t), false) else if t.2.1 < lo ∨ hi < t.2.1 then (.inl (4, tS t), false) else (.inr t, true) := rfl
    by_cases c2 : t.1 = 2
    · have hv := hG.2.2.2.2.2.2.1 c2
      rw [br_p (by rw [c2]; rfl), if_neg (by omega)]
      rw [if_neg (by omega)] at en
      by_cases c : t.2.1 < lo ∨ hi < t.2.1
      · rw [if_pos c] at en
        rw [en] at hQ
        have goal : am_E am_P0 (d + 1) 39 [.ref 165, .int 4] M (fun r M2 => am_P am_P0 (d + 2) (am_look tX3_checkNumber) 37 [.ref 165, .int (nI lo), .int (nI hi)] (.int 0 :: am_push r []) M2 Q) := by
          rw [show (4 : Int32) = nI 4 from rfl]
          refine c_x_refuse d n 4 T (.inr t) M _ hL (by omega) hR (fun M1 g1 h1 => ?_)
          have h0 := hQ M1 g1 h1
          simp +decide only [qX3_checkNumber, am_w1_i, am_w1_r, am_w1_x, am_w1_l, am_w1_w, va_rf_s, am_push_n, am_push_s, am_cs_0, am_cs_i, am_cs_l, am_cs_r, m_uI_K, m_uI_N, m_uI_R, m_uI_L, m_uI_I, m_uL_K, m_uL_N, m_uL_R, m_uL_I, m_uL_L, m_uR_K, m_uR_N, m_uR_I, m_uR_L, m_uR_R, true_and, and_true, true_implies, false_implies, not_true_eq_false, not_false_eq_true, if_true, if_false, false_and, and_false]
          exact h0
        by_cases c1 : t.2.1 < lo
        · rw [br_p ((ni_lt (by omega) (by omega)).mpr c1)]
          exact goal
        · rw [br_n (by rw [ni_lt (by omega) (by omega)]; exact c1), br_n (by rw [ni_le (by omega) (by omega)]; omega)]
          exact goal
      · rw [if_neg c] at en
        rw [en] at hQ
        rw [br_n (by rw [ni_lt (by omega) (by omega)]; omega), br_p (by rw [ni_le (by omega) (by omega)]; omega)]
        exact hQ M (gF_refl _ _ _) hR
    · rw [if_pos c2] at en
      rw [en] at hQ
      have n2 : ¬ nI t.1 = 2 := fun q => c2 ((ni_eq (b := 2) (by omega) (by omega)).mp q)
      rw [br_n n2, show (1 : Int32) = nI 1 from rfl]
      refine c_x_refuse d n 1 T (.inr t) M _ hL (by omega) hR (fun M1 g1 h1 => ?_)
      have h0 := hQ M1 g1 h1
      simp +decide only [qX3_checkNumber, am_w1_i, am_w1_r, am_w1_x, am_w1_l, am_w1_w, va_rf_s, am_push_n, am_push_s, am_cs_0, am_cs_i, am_cs_l, am_cs_r, m_uI_K, m_uI_N, m_uI_R, m_uI_L, m_uI_I, m_uL_K, m_uL_N, m_uL_R, m_uL_I, m_uL_L, m_uR_K, m_uR_N, m_uR_I, m_uR_L, m_uR_R, true_and, and_true, true_implies, false_implies, not_true_eq_false, not_false_eq_true, if_true, if_false, false_and, and_false]
      exact h0
theorem c_x_takeNumberF (d n : Nat) (e : Nat × Nat) (lo hi : Int32) (T : Nat → Nat) (M : am_M) (Q : Option Value → am_M → Prop) (hL : Lay M) (hR : StR M T n (.inl e)) (hQ : ∀ M', gF sRd nT M M' → StR M' T n (.inl e) → Q (some (.int lo)) M') : am_E am_P0 (d + 3) 44 [.ref 165, .int lo, .int hi] M Q := by
  rw [eX3_takeNumber]
  simp +decide only [qX3_takeNumber, lx hL, am_w1_i, am_w1_r, am_w1_x, am_w1_l, am_w1_w, va_rf_s, am_push_n, am_push_s, am_cs_0, am_cs_i, am_cs_l, am_cs_r, m_uI_K, m_uI_N, m_uI_R, m_uI_L, m_uI_I, m_uL_K, m_uL_N, m_uL_R, m_uL_I, m_uL_L, m_uR_K, m_uR_N, m_uR_I, m_uR_L, m_uR_R, true_and, and_true, true_implies, false_implies, not_true_eq_false, not_false_eq_true, if_true, if_false, false_and, and_false]
  refine c_x_isNumberF d n e lo hi T M _ hL hR (fun M1 g1 h1 => ?_)
  have h0 := hQ M1 g1 h1
  simp +decide only [qX3_takeNumber, am_w1_i, am_w1_r, am_w1_x, am_w1_l, am_w1_w, va_rf_s, am_push_n, am_push_s, am_cs_0, am_cs_i, am_cs_l, am_cs_r, m_uI_K, m_uI_N, m_uI_R, m_uI_L, m_uI_I, m_uL_K, m_uL_N, m_uL_R, m_uL_I, m_uL_L, m_uR_K, m_uR_N, m_uR_I, m_uR_L, m_uR_R, true_and, and_true, true_implies, false_implies, not_true_eq_false, not_false_eq_true, if_true, if_false, false_and, and_false]
  exact h0
theorem c_x_takeNumber (d n lo hi : Nat) (T : Nat → Nat) (r : Rt) (M : am_M) (Q : Option Value → am_M → Prop) (hL : Lay M) (hlo : lo < 10000) (hhi : hi < 10000) (hR : StR M T n r) (hQ : ∀ M', gF sRd nT M M' → StR M' T n (numR T n lo hi r).1 → Q (some (.int (nI (numR T n lo hi r).2))) M') : am_E am_P0 (d + 3) 44 [.ref 165, .int (nI lo), .int (nI hi)] M Q := by
  cases r with
  | inl e => exact c_x_takeNumberF d n e _ _ T M Q hL hR hQ
  | inr t =>
    rw [eX3_takeNumber]
    simp +decide only [qX3_takeNumber, lx hL, am_w1_i, am_w1_r, am_w1_x, am_w1_l, am_w1_w, va_rf_s, am_push_n, am_push_s, am_cs_0, am_cs_i, am_cs_l, am_cs_r, m_uI_K, m_uI_N, m_uI_R, m_uI_L, m_uI_I, m_uL_K, m_uL_N, m_uL_R, m_uL_I, m_uL_L, m_uR_K, m_uR_N, m_uR_I, m_uR_L, m_uR_R, true_and, and_true, true_implies, false_implies, not_true_eq_false, not_false_eq_true, if_true, if_false, false_and, and_false]
    have en : isNR lo hi (.inr t) = if ¬ t.1 = 2 then (.inl (1, tS t), false) else if t.2.1 < lo ∨ hi < t.2.1 then (.inl (4, tS t), false) else (.inr t, true) := rfl
    have em : numR T n lo hi (.inr t) = if ¬ t.1 = 2 then (.inl (1, tS t), lo) else if t.2.1 < lo ∨ hi < t.2.1 then (.inl (4, tS t), lo) else (advR T n t, t.2.1) := rfl
    refine c_x_isNumber d n lo hi T (.inr t) M _ hL hlo hhi hR (fun M1 g1 h1 => ?_)
    by_cases c2 : t.1 = 2
    · rw [if_neg (by omega)] at en em
      by_cases c : t.2.1 < lo ∨ hi < t.2.1
      · rw [if_pos c] at en em
        rw [en] at h1 ⊢
        rw [em] at hQ
        have h0 := hQ M1 g1 h1
        simp +decide only [qX3_takeNumber, b01, am_w1_i, am_w1_r, am_w1_x, am_w1_l, am_w1_w, va_rf_s, am_push_n, am_push_s, am_cs_0, am_cs_i, am_cs_l, am_cs_r, m_uI_K, m_uI_N, m_uI_R, m_uI_L, m_uI_I, m_uL_K, m_uL_N, m_uL_R, m_uL_I, m_uL_L, m_uR_K, m_uR_N, m_uR_I, m_uR_L, m_uR_R, true_and, and_true, true_implies, false_implies, not_true_eq_false, not_false_eq_true, if_true, if_false, false_and, and_false]
        exact h0
      · rw [if_neg c] at en em
        rw [en] at h1 ⊢
        rw [em] at hQ
        have h1' : RdX M1 T n t := h1
        have L1 := gF_LayN g1 hL
        have h5 := h1'.2.2.2.2.2.2.2.1
        rw [if_neg (by omega)] at h5
        simp +decide only [qX3_takeNumber, lx L1, h5, b01, am_w1_i, am_w1_r, am_w1_x, am_w1_l, am_w1_w, va_rf_s, am_push_n, am_push_s, am_cs_0, am_cs_i, am_cs_l, am_cs_r, m_uI_K, m_uI_N, m_uI_R, m_uI_L, m_uI_I, m_uL_K, m_uL_N, m_uL_R, m_uL_I, m_uL_L, m_uR_K, m_uR_N, m_uR_I, m_uR_L, m_uR_R, true_and, and_true, true_implies, false_implies, not_true_eq_false, not_false_eq_true, if_true, if_false, false_and, and_false]
        refine c_x_stepR (d + 1) n T (.inr t) M1 _ L1 h1 (fun M2 g2 h2 => ?_)
        have h0 := hQ M2 (gF_trans g1 g2) h2
        simp +decide only [qX3_takeNumber, am_w1_i, am_w1_r, am_w1_x, am_w1_l, am_w1_w, va_rf_s, am_push_n, am_push_s, am_cs_0, am_cs_i, am_cs_l, am_cs_r, m_uI_K, m_uI_N, m_uI_R, m_uI_L, m_uI_I, m_uL_K, m_uL_N, m_uL_R, m_uL_I, m_uL_L, m_uR_K, m_uR_N, m_uR_I, m_uR_L, m_uR_R, true_and, and_true, true_implies, false_implies, not_true_eq_false, not_false_eq_true, if_true, if_false, false_and, and_false]
        exact h0
    · rw [if_pos c2] at en em
      rw [en] at h1 ⊢
      rw [em] at hQ
      have h0 := hQ M1 g1 h1
      simp +decide only [qX3_takeNumber, b01, am_w1_i, am_w1_r, am_w1_x, am_w1_l, am_w1_w, va_rf_s, am_push_n, am_push_s, am_cs_0, am_cs_i, am_cs_l, am_cs_r, m_uI_K, m_uI_N, m_uI_R, m_uI_L, m_uI_I, m_uL_K, m_uL_N, m_uL_R, m_uL_I, m_uL_L, m_uR_K, m_uR_N, m_uR_I, m_uR_L, m_uR_R, true_and, and_true, true_implies, false_implies, not_true_eq_false, not_false_eq_true, if_true, if_false, false_and, and_false]
      exact h0
theorem own_no {l : List Nat} : owI l = -1 ↔ ¬ l ∈ ownW := by
  rw [owI_no]
  constructor
  · intro h q
    obtain ⟨k, hk⟩ := List.mem_iff_getElem?.mp q
    have hl : k < 27 := (List.getElem?_eq_some_iff.mp hk).1
    have := ownW_d hl
    rw [hk] at this
    exact h k hl (Option.some.inj this)
  · intro h k hk e
    exact h (by rw [e]; exact List.mem_of_getElem? (ownW_d hk))
theorem c_x_isName (d n : Nat) (T : Nat → Nat) (r : Rt) (M : am_M) (Q : Option Value → am_M → Prop) (hL : Lay M) (hR : StR M T n r) (hQ : ∀ M', gF sRd nT M M' → StR M' T n (nameR r).1 → Q (some (.int (b01 (nameR r).2))) M') : am_E am_P0 (d + 2) 45 [.ref 165] M Q := by
  rw [eX3_checkName]
  have bad : ∀ r' : Rt, (nameR r' = (refR 1 r', false)) → StR M T n r' → (∀ M', gF sRd nT M M' → StR M' T n (nameR r').1 → Q (some (.int (b01 (nameR r').2))) M') → am_E am_P0 (d + 1) 39 [.ref 165, .int 1] M (fun r M2 => am_P am_P0 (d + 2) (am_look tX3_checkName) 22 [.ref 165] (.int 0 :: am_push r []) M2 Q) := fun r' hr' hR' hQ' => by
    rw [show (1 : Int32) = nI 1 from rfl]
    refine c_x_refuse d n 1 T r' M _ hL (by omega) hR' (fun M1 g1 h1 => ?_)
    rw [hr'] at hQ'
    have h0 := hQ' M1 g1 h1
    simp +decide only [qX3_checkName, am_w1_i, am_w1_r, am_w1_x, am_w1_l, am_w1_w, va_rf_s, am_push_n, am_push_s, am_cs_0, am_cs_i, am_cs_l, am_cs_r, m_uI_K, m_uI_N, m_uI_R, m_uI_L, m_uI_I, m_uL_K, m_uL_N, m_uL_R, m_uL_I, m_uL_L, m_uR_K, m_uR_N, m_uR_I, m_uR_L, m_uR_R, true_and, and_true, true_implies, false_implies, not_true_eq_false, not_false_eq_true, if_true, if_false, false_and, and_false]
    exact h0
  cases r with
  | inl e =>
    have h4 : mI M 165 4 = 0 := hR.2.2.2.2.2.1
    simp +decide only [qX3_checkName, lx hL, h4, am_w1_i, am_w1_r, am_w1_x, am_w1_l, am_w1_w, va_rf_s, am_push_n, am_push_s, am_cs_0, am_cs_i, am_cs_l, am_cs_r, m_uI_K, m_uI_N, m_uI_R, m_uI_L, m_uI_I, m_uL_K, m_uL_N, m_uL_R, m_uL_I, m_uL_L, m_uR_K, m_uR_N, m_uR_I, m_uR_L, m_uR_R, true_and, and_true, true_implies, false_implies, not_true_eq_false, not_false_eq_true, if_true, if_false, false_and, and_false]
    exact bad (.inl e) rfl hR hQ
  | inr t =>
    obtain ⟨hT, hO, h8, h3, h4, h7, h6, h5, hG, -⟩ := id hR
    have hle := hG.2.2.1
    have en : nameR (.inr t) = if isNm t = true then (.inr t, true) else (.inl (1, tS t), false) := rfl
    simp +decide only [qX3_checkName, lx hL, h4, h6, am_w1_i, am_w1_r, am_w1_x, am_w1_l, am_w1_w, va_rf_s, am_push_n, am_push_s, am_cs_0, am_cs_i, am_cs_l, am_cs_r, m_uI_K, m_uI_N, m_uI_R, m_uI_L, m_uI_I, m_uL_K, m_uL_N, m_uL_R, m_uL_I, m_uL_L, m_uR_K, m_uR_N, m_uR_I, m_uR_L, m_uR_R, true_and, and_true, true_implies, false_implies, not_true_eq_false, not_false_eq_true, if_true, if_false, false_and, and_false]
    by_cases c1 : t.1 = 1
    · rw [br_r (by rw [c1]; rfl), if_pos c1]
      by_cases c : t.2.2.1 ∈ ownW
      · have hn : isNm t = false := by unfold isNm; rw [decide_eq_true c]; simp
        rw [hn, if_neg (by decide)] at en
        rw [br_n (fun q => own_no.mp q c)]
        exact bad (.inr t) en hR hQ
      · have hn : isNm t = true := by unfold isNm; rw [decide_eq_false c, c1]; rfl
        rw [hn, if_pos rfl] at en
        rw [en] at hQ
        rw [br_p (own_no.mpr c)]
        exact hQ M (gF_refl _ _ _) hR
    · have hn : isNm t = false := by unfold isNm; rw [Bool.and_eq_false_iff]; exact Or.inl (by simpa using c1)
      rw [hn, if_neg (by decide)] at en
      have n1 : ¬ nI t.1 = 1 := fun q => c1 ((ni_eq (b := 1) (by omega) (by omega)).mp q)
      rw [br_q n1]
      exact bad (.inr t) en hR hQ
