/-! the model's reader: what is taken -/
theorem wdN_inj : ∀ (l m : List Nat), isWd l → isWd m → l.length = m.length → ∀ a b, wdN l a = wdN m b → l = m ∧ a = b := by
  intro l
  induction l with
  | nil =>
    intro m _ _ hl a b h
    cases m with
    | nil => exact ⟨rfl, h⟩
    | cons c r => cases hl
  | cons c r ih =>
    intro m hl hm hlen a b h
    cases m with
    | nil => cases hlen
    | cons c' r' =>
      have h1 := ih r' (fun x hx => hl x (List.mem_cons_of_mem _ hx)) (fun x hx => hm x (List.mem_cons_of_mem _ hx)) (by simpa using hlen) (a * 256 + c) (b * 256 + c') h
      have hc := hl c (List.mem_cons_self ..)
      have hc' := hm c' (List.mem_cons_self ..)
      have : a = b ∧ c = c' := by have := h1.2; omega
      exact ⟨by rw [h1.1, this.2], this.1⟩
theorem wdN_bd : ∀ (l : List Nat), isWd l → ∀ a, a * 256 ^ l.length ≤ wdN l a ∧ wdN l a < (a + 1) * 256 ^ l.length := by
  intro l
  induction l with
  | nil => intro _ a; show a * 1 ≤ a ∧ a < (a + 1) * 1; omega
  | cons c r ih =>
    intro h a
    have hc := h c (List.mem_cons_self ..)
    have h1 := ih (fun x hx => h x (List.mem_cons_of_mem _ hx)) (a * 256 + c)
    show a * 256 ^ (r.length + 1) ≤ wdN r (a * 256 + c) ∧ wdN r (a * 256 + c) < (a + 1) * 256 ^ (r.length + 1)
    rw [Nat.pow_succ]
    have e1 : a * (256 ^ r.length * 256) = a * 256 * 256 ^ r.length := by rw [Nat.mul_comm (256 ^ r.length), Nat.mul_assoc]
    have e2 : (a + 1) * (256 ^ r.length * 256) = (a * 256 + 256) * 256 ^ r.length := by
      rw [Nat.mul_comm (256 ^ r.length), ← Nat.mul_assoc, Nat.add_mul a 1 256, Nat.one_mul]
    have h2 : a * 256 * 256 ^ r.length ≤ (a * 256 + c) * 256 ^ r.length := Nat.mul_le_mul_right _ (by omega)
    have h3 : (a * 256 + c + 1) * 256 ^ r.length ≤ (a * 256 + 256) * 256 ^ r.length := Nat.mul_le_mul_right _ (by omega)
    omega
set_option maxRecDepth 10000 in
theorem wdN_ge {l : List Nat} (hl : isWd l) (h1 : 1 ≤ l.length) : 256 ^ (l.length - 1) ≤ wdN l 0 := by
  cases l with
  | nil => simp at h1
  | cons c r =>
    have hc := hl c (List.mem_cons_self ..)
    have h2 := (wdN_bd r (fun x hx => hl x (List.mem_cons_of_mem _ hx)) (0 * 256 + c)).1
    show 256 ^ (r.length + 1 - 1) ≤ wdN r (0 * 256 + c)
    rw [Nat.add_sub_cancel]
    have h3 : 1 * 256 ^ r.length ≤ (0 * 256 + c) * 256 ^ r.length := Nat.mul_le_mul_right _ (by omega)
    omega
set_option maxRecDepth 10000 in
theorem wdN_len {l m : List Nat} (hl : isWd l) (hm : isWd m) (h : wdN l 0 = wdN m 0) : l.length = m.length := by
  have key : ∀ {l m : List Nat}, isWd l → isWd m → wdN l 0 = wdN m 0 → ¬ l.length < m.length := fun {l m} hl hm h q => by
    have h1 := (wdN_bd l hl 0).2
    have h2 := wdN_ge hm (by omega)
    have h3 : (256 : Nat) ^ l.length ≤ 256 ^ (m.length - 1) := Nat.pow_le_pow_right (by omega) (by omega)
    omega
  have a := key hl hm h
  have b := key hm hl h.symm
  omega
set_option maxRecDepth 10000 in
theorem wdL_eq {l m : List Nat} (hl : isWd l) (hm : isWd m) (h6 : l.length ≤ 6) (h6' : m.length ≤ 6) : wdL l = wdL m ↔ l = m := by
  have bd : ∀ {l : List Nat}, isWd l → l.length ≤ 6 → wdN l 0 < 281474976710656 := fun {l} hl h6 => by
    have h1 := (wdN_bd l hl 0).2
    have h2 : (256 : Nat) ^ l.length ≤ 256 ^ 6 := Nat.pow_le_pow_right (by omega) h6
    have h3 : (256 : Nat) ^ 6 = 281474976710656 := by decide
    omega
  constructor
  · intro h
    unfold wdL at h
    rw [← Int64.toInt_inj, Int64.toInt_ofNat', Int64.toInt_ofNat'] at h
    have b1 := bd hl h6
    have b2 := bd hm h6'
    have e : (Int64.size : Nat) = 18446744073709551616 := rfl
    rw [e] at h
    simp only [Int.bmod] at h
    have h' : wdN l 0 = wdN m 0 := by omega
    exact (wdN_inj l m hl hm (wdN_len hl hm h') 0 0 h').1
  · intro h; rw [h]
set_option maxRecDepth 10000 in
theorem own_6 : ∀ k, k < 27 → (ownW.getD k []).length ≤ 6 := by decide
theorem own_wd {k : Nat} (h : k < 27) : isWd (ownW.getD k []) := ownW_wd _ (List.mem_of_getElem? (ownW_d h))
section
variable {T : Nat → Nat} {n : Nat}
theorem RdM_3 {M : am_M} {t : Tok} (h : RdM M T n t) (k : Nat) (hk : k ≤ 3) : mI M 277 3 = nI k ↔ t.1 = k := by
  obtain ⟨-, -, -, a4, -, -, -, -, a9⟩ := h
  have := a9.2.2.1
  rw [a4, ni_eq (by omega) (by omega)]
theorem m_isWord (d k : Nat) (t : Tok) (M : am_M) (Q : Option Value → am_M → Prop) (hL : Lay M) (hR : RdM M T n t) (hk : k < 27) : am_E am_P0 d 176 [.ref 277, .long (wdL (ownW.getD k []))] M Q ↔ Q (some (.int (b01 (isW t (ownW.getD k []))))) M := by
  have h3 := RdM_3 hR 1 (by omega)
  rw [show nI 1 = (1 : Int32) from rfl] at h3
  rw [eX11_isWord]
  simp +decide only [qX11_isWord, lm hL, lgc_0, am_w1_i, am_w1_r, am_w1_x, am_w1_l, am_w1_w, va_rf_s, am_push_n, am_push_s, am_cs_0, am_cs_i, am_cs_l, am_cs_r, m_uI_K, m_uI_N, m_uI_R, m_uI_L, m_uI_I, m_uL_K, m_uL_N, m_uL_R, m_uL_I, m_uL_L, m_uR_K, m_uR_N, m_uR_I, m_uR_L, m_uR_R, true_and, and_true, true_implies, false_implies, not_true_eq_false, not_false_eq_true, if_true, if_false, false_and, and_false]
  by_cases c : t.1 = 1
  · have hw := hR.2.2.2.2.2.2.2.2.2.2.2.2.2.1 c
    have h7 := hR.2.2.2.2.2.2.2.1 c
    rw [br_r (h3.mpr c), h7]
    have he := wdL_eq hw.1 (own_wd hk) hw.2.1 (own_6 k hk)
    by_cases c2 : t.2.2.1 = ownW.getD k []
    · have : isW t (ownW.getD k []) = true := by unfold isW; rw [c, c2]; simp
      rw [br_r (he.mpr c2), this]; exact Iff.rfl
    · have : isW t (ownW.getD k []) = false := by unfold isW; rw [Bool.and_eq_false_iff]; exact Or.inr (by simpa using c2)
      rw [br_q (fun q => c2 (he.mp q)), this]; exact Iff.rfl
  · have : isW t (ownW.getD k []) = false := by unfold isW; rw [Bool.and_eq_false_iff]; exact Or.inl (by simpa using c)
    rw [br_q (fun q => c (h3.mp q)), this]; exact Iff.rfl
theorem m_isSign (d c0 : Nat) (t : Tok) (M : am_M) (Q : Option Value → am_M → Prop) (hL : Lay M) (hR : RdM M T n t) (hc : c0 < 256) : am_E am_P0 d 175 [.ref 277, .int (nI c0)] M Q ↔ Q (some (.int (b01 (isS t c0)))) M := by
  have h3 := RdM_3 hR 3 (by omega)
  rw [show nI 3 = (3 : Int32) from rfl] at h3
  rw [c_m_isSign d _ M Q hL]
  by_cases c : t.1 = 3
  · have h6 := hR.2.2.2.2.2.2.1 (Or.inr c)
    have hv := hR.2.2.2.2.2.2.2.2.2.2.2.2.2.2.2.1 c
    by_cases c2 : t.2.1 = c0
    · have : isS t c0 = true := by unfold isS; rw [c, c2]; simp
      rw [bI_t ⟨h3.mpr c, by rw [h6, c2]⟩, this]; exact Iff.rfl
    · have : isS t c0 = false := by unfold isS; rw [Bool.and_eq_false_iff]; exact Or.inr (by simpa using c2)
      rw [bI_f (fun q => c2 (by have := q.2; rw [h6, ni_eq (by omega) (by omega)] at this; exact this)), this]; exact Iff.rfl
  · have : isS t c0 = false := by unfold isS; rw [Bool.and_eq_false_iff]; exact Or.inl (by simpa using c)
    rw [bI_f (fun q => c (h3.mp q.1)), this]; exact Iff.rfl
theorem FtM_pos {M : am_M} {k p : Nat} (h : FtM M T n k p) : (0 : Int32) < mI M 277 8 ∧ ¬ mI M 277 8 = 0 ∧ ¬ mI M 277 8 ≤ 0 := by
  obtain ⟨-, h8, h15, -⟩ := h
  rw [h8]
  refine ⟨by rw [show (0 : Int32) = nI 0 from rfl, ni_lt (by omega) (by omega)]; omega, fun q => ?_, fun q => ?_⟩
  · rw [show (0 : Int32) = nI 0 from rfl, ni_eq (by omega) (by omega)] at q; omega
  · rw [show (0 : Int32) = nI 0 from rfl, ni_le (by omega) (by omega)] at q; omega
/-- blamed here -/
theorem FtM_0 {M : am_M} {t : Tok} {k : Nat} (hR : RdM M T n t) (hk : 1 ≤ k ∧ k ≤ 5) : FtM (uI (uI M 277 8 (nI k)) 277 9 (nI (tS t))) T n k (tS t) ∧ gF sRm nT M (uI (uI M 277 8 (nI k)) 277 9 (nI (tS t))) := by
  have g : gF sRm nT M (uI (uI M 277 8 (nI k)) 277 9 (nI (tS t))) := gF_trans (gF_i _ ⟨rfl, by omega, by omega⟩) (gF_i _ ⟨rfl, by omega, by omega⟩)
  exact ⟨⟨TpM_g hR.1 g (fun a j q w => by unfold sRm at w; omega), by simp [m_uI_I], hk, by simp [m_uI_I]⟩, g⟩
theorem m_blame (d k : Nat) (t : Tok) (M : am_M) (Q : Option Value → am_M → Prop) (hL : Lay M) (hR : RdM M T n t) : am_E am_P0 d 171 [.ref 277, .int (nI k), .int (nI (tS t))] M Q ↔ Q none (uI (uI M 277 8 (nI k)) 277 9 (nI (tS t))) := by
  rw [c_m_blame d _ _ M Q hL, hR.2.1, if_neg (by decide)]
theorem m_adv (d : Nat) (t : Tok) (M : am_M) (Q : Option Value → am_M → Prop) (hL : Lay M) (hR : RdM M T n t) (hQ : ∀ M', gF sRm nT M M' → StM M' T n (advR T n t) → Q none M') : am_E am_P0 (d + 1) 174 [.ref 277] M Q := by
  refine c_m_ahead d n T (tE t) M Q hL hR.1 hR.2.1 hR.2.2.1 hR.2.2.2.2.2.1 hR.2.2.2.2.2.2.2.2.1 (fun h4 M' g h => hQ M' g ?_) (fun h4 M' g h => hQ M' g ?_)
  · unfold advR; rw [if_pos h4]; exact h
  · unfold advR; rw [if_neg h4]; exact h
theorem m_must (d c0 : Nat) (r : Rt) (M : am_M) (Q : Option Value → am_M → Prop) (hL : Lay M) (hc : c0 < 256) (hR : StM M T n r) (hQ : ∀ M', gF sRm nT M M' → StM M' T n (signR T n c0 r) → Q none M') : am_E am_P0 (d + 2) 177 [.ref 277, .int (nI c0)] M Q := by
  rw [eX11_must]
  cases r with
  | inl e =>
    obtain ⟨p1, p2, p3⟩ := FtM_pos hR
    have h0 := hQ M (gF_refl _ _ _) hR
    have hbl := fun x p Q => c_m_blame (d + 1) x p M Q hL
    simp +decide only [qX11_must, lm hL, c_m_isSign (d + 1) _ M _ hL, hbl, p1, am_w1_i, am_w1_r, am_w1_x, am_w1_l, am_w1_w, va_rf_s, am_push_n, am_push_s, am_cs_0, am_cs_i, am_cs_l, am_cs_r, m_uI_K, m_uI_N, m_uI_R, m_uI_L, m_uI_I, m_uL_K, m_uL_N, m_uL_R, m_uL_I, m_uL_L, m_uR_K, m_uR_N, m_uR_I, m_uR_L, m_uR_R, true_and, and_true, true_implies, false_implies, not_true_eq_false, not_false_eq_true, if_true, if_false, false_and, and_false]
    rw [br_p p2]
    by_cases c : ¬ bI (mI M 277 3 = 3 ∧ mI M 277 6 = nI c0) = 0
    · exact ⟨fun _ => h0, fun w => absurd c w⟩
    · exact ⟨fun w => absurd w c, fun _ => h0⟩
  | inr t =>
    have hR' : RdM M T n t := hR
    have es : signR T n c0 (.inr t) = if isS t c0 = true then advR T n t else .inl (1, tS t) := rfl
    rw [es] at hQ
    by_cases c : isS t c0 = true
    · rw [if_pos c] at hQ
      simp +decide only [qX11_must, lm hL, m_isSign (d + 1) c0 t M _ hL hR' hc, c, b01, hR'.2.1, am_w1_i, am_w1_r, am_w1_x, am_w1_l, am_w1_w, va_rf_s, am_push_n, am_push_s, am_cs_0, am_cs_i, am_cs_l, am_cs_r, m_uI_K, m_uI_N, m_uI_R, m_uI_L, m_uI_I, m_uL_K, m_uL_N, m_uL_R, m_uL_I, m_uL_L, m_uR_K, m_uR_N, m_uR_I, m_uR_L, m_uR_R, true_and, and_true, true_implies, false_implies, not_true_eq_false, not_false_eq_true, if_true, if_false, false_and, and_false]
      refine m_adv d t M _ hL hR' (fun M1 g1 h1 => ?_)
      have h0 := hQ M1 g1 h1
      simp +decide only [qX11_must, am_w1_i, am_w1_r, am_w1_x, am_w1_l, am_w1_w, va_rf_s, am_push_n, am_push_s, am_cs_0, am_cs_i, am_cs_l, am_cs_r, m_uI_K, m_uI_N, m_uI_R, m_uI_L, m_uI_I, m_uL_K, m_uL_N, m_uL_R, m_uL_I, m_uL_L, m_uR_K, m_uR_N, m_uR_I, m_uR_L, m_uR_R, true_and, and_true, true_implies, false_implies, not_true_eq_false, not_false_eq_true, if_true, if_false, false_and, and_false]
      exact h0
    · rw [if_neg c] at hQ
      have c' : isS t c0 = false := by simpa using c
      have hf := FtM_0 (k := 1) hR' (by omega)
      have h0 := hQ _ hf.2 hf.1
      have L1 : Lay (uI (uI M 277 8 (nI 1)) 277 9 (nI (tS t))) := hL
      have p1 : ¬ mI (uI (uI M 277 8 (nI 1)) 277 9 (nI (tS t))) 277 8 = 0 := (FtM_pos hf.1).2.1
      have hbl := fun Q => m_blame (T := T) (n := n) (d + 1) 1 t M Q hL hR'
      rw [show nI 1 = (1 : Int32) from rfl] at hbl p1 h0
      simp +decide only [qX11_must, lm hL, m_isSign (d + 1) c0 t M _ hL hR' hc, c', b01, hR'.2.2.2.2.1, hbl, am_w1_i, am_w1_r, am_w1_x, am_w1_l, am_w1_w, va_rf_s, am_push_n, am_push_s, am_cs_0, am_cs_i, am_cs_l, am_cs_r, m_uI_K, m_uI_N, m_uI_R, m_uI_L, m_uI_I, m_uL_K, m_uL_N, m_uL_R, m_uL_I, m_uL_L, m_uR_K, m_uR_N, m_uR_I, m_uR_L, m_uR_R, true_and, and_true, true_implies, false_implies, not_true_eq_false, not_false_eq_true, if_true, if_false, false_and, and_false]
      exact h0
theorem m_mustW (d k : Nat) (r : Rt) (M : am_M) (Q : Option Value → am_M → Prop) (hL : Lay M) (hk : k < 27) (hR : StM M T n r) (hQ : ∀ M', gF sRm nT M M' → StM M' T n (wordR T n k r) → Q none M') : am_E am_P0 (d + 2) 194 [.ref 277, .long (wdL (ownW.getD k []))] M Q := by
  rw [eX11_must_]
  cases r with
  | inl e =>
    obtain ⟨p1, p2, p3⟩ := FtM_pos hR
    have h0 := hQ M (gF_refl _ _ _) hR
    simp +decide only [qX11_must_, lm hL, am_w1_i, am_w1_r, am_w1_x, am_w1_l, am_w1_w, va_rf_s, am_push_n, am_push_s, am_cs_0, am_cs_i, am_cs_l, am_cs_r, m_uI_K, m_uI_N, m_uI_R, m_uI_L, m_uI_I, m_uL_K, m_uL_N, m_uL_R, m_uL_I, m_uL_L, m_uR_K, m_uR_N, m_uR_I, m_uR_L, m_uR_R, true_and, and_true, true_implies, false_implies, not_true_eq_false, not_false_eq_true, if_true, if_false, false_and, and_false]
    rw [br_n p3]
    exact h0
  | inr t =>
    have hR' : RdM M T n t := hR
    have es : wordR T n k (.inr t) = if isW t (ownW.getD k []) = true then advR T n t else .inl (1, tS t) := rfl
    rw [es] at hQ
    by_cases c : isW t (ownW.getD k []) = true
    · rw [if_pos c] at hQ
      simp +decide only [qX11_must_, lm hL, m_isWord (d + 1) k t M _ hL hR' hk, c, b01, hR'.2.1, am_w1_i, am_w1_r, am_w1_x, am_w1_l, am_w1_w, va_rf_s, am_push_n, am_push_s, am_cs_0, am_cs_i, am_cs_l, am_cs_r, m_uI_K, m_uI_N, m_uI_R, m_uI_L, m_uI_I, m_uL_K, m_uL_N, m_uL_R, m_uL_I, m_uL_L, m_uR_K, m_uR_N, m_uR_I, m_uR_L, m_uR_R, true_and, and_true, true_implies, false_implies, not_true_eq_false, not_false_eq_true, if_true, if_false, false_and, and_false]
      refine m_adv d t M _ hL hR' (fun M1 g1 h1 => ?_)
      have h0 := hQ M1 g1 h1
      simp +decide only [qX11_must_, am_w1_i, am_w1_r, am_w1_x, am_w1_l, am_w1_w, va_rf_s, am_push_n, am_push_s, am_cs_0, am_cs_i, am_cs_l, am_cs_r, m_uI_K, m_uI_N, m_uI_R, m_uI_L, m_uI_I, m_uL_K, m_uL_N, m_uL_R, m_uL_I, m_uL_L, m_uR_K, m_uR_N, m_uR_I, m_uR_L, m_uR_R, true_and, and_true, true_implies, false_implies, not_true_eq_false, not_false_eq_true, if_true, if_false, false_and, and_false]
      exact h0
    · rw [if_neg c] at hQ
      have c' : isW t (ownW.getD k []) = false := by simpa using c
      have hf := FtM_0 (k := 1) hR' (by omega)
      have h0 := hQ _ hf.2 hf.1
      have hbl := fun Q => m_blame (T := T) (n := n) (d + 1) 1 t M Q hL hR'
      rw [show nI 1 = (1 : Int32) from rfl] at hbl h0
      simp +decide only [qX11_must_, lm hL, m_isWord (d + 1) k t M _ hL hR' hk, c', b01, hR'.2.1, hR'.2.2.2.2.1, hbl, am_w1_i, am_w1_r, am_w1_x, am_w1_l, am_w1_w, va_rf_s, am_push_n, am_push_s, am_cs_0, am_cs_i, am_cs_l, am_cs_r, m_uI_K, m_uI_N, m_uI_R, m_uI_L, m_uI_I, m_uL_K, m_uL_N, m_uL_R, m_uL_I, m_uL_L, m_uR_K, m_uR_N, m_uR_I, m_uR_L, m_uR_R, true_and, and_true, true_implies, false_implies, not_true_eq_false, not_false_eq_true, if_true, if_false, false_and, and_false]
      exact h0
theorem m_numF (d : Nat) (e : Nat × Nat) (lo hi : Int32) (M : am_M) (Q : Option Value → am_M → Prop) (hL : Lay M) (hR : StM M T n (.inl e)) : am_E am_P0 d 182 [.ref 277, .int lo, .int hi] M Q ↔ Q (some (.int 0)) M := by
  obtain ⟨p1, p2, p3⟩ := FtM_pos hR
  rw [eX11_number]
  simp +decide only [qX11_number, lm hL, am_w1_i, am_w1_r, am_w1_x, am_w1_l, am_w1_w, va_rf_s, am_push_n, am_push_s, am_cs_0, am_cs_i, am_cs_l, am_cs_r, m_uI_K, m_uI_N, m_uI_R, m_uI_L, m_uI_I, m_uL_K, m_uL_N, m_uL_R, m_uL_I, m_uL_L, m_uR_K, m_uR_N, m_uR_I, m_uR_L, m_uR_R, true_and, and_true, true_implies, false_implies, not_true_eq_false, not_false_eq_true, if_true, if_false, false_and, and_false]
  rw [br_n p3]
theorem m_num (d lo hi : Nat) (r : Rt) (M : am_M) (Q : Option Value → am_M → Prop) (hL : Lay M) (hlo : lo < 10000) (hhi : hi < 10000) (hR : StM M T n r)
    (hQ : ∀ M' x, gF sRm nT M M' → StM M' T n (numR T n lo hi r).1 → (∀ t', (numR T n lo hi r).1 = .inr t' → x = nI (numR T n lo hi r).2) → Q (some (.int x)) M') : am_E am_P0 (d + 2) 182 [.ref 277, .int (nI lo), .int (nI hi)] M Q := by
  cases r with
  | inl e =>
    rw [m_numF (d + 2) e _ _ M Q hL hR]
    exact hQ M 0 (gF_refl _ _ _) hR (fun t' ht' => by cases ht')
  | inr t =>
    have hR' : RdM M T n t := hR
    have h3 := RdM_3 hR' 2 (by omega)
    rw [show nI 2 = (2 : Int32) from rfl] at h3
    have em : numR T n lo hi (.inr t) = if ¬ t.1 = 2 then (.inl (1, tS t), lo) else if t.2.1 < lo ∨ hi < t.2.1 then (.inl (4, tS t), lo) else (advR T n t, t.2.1) := rfl
    rw [em] at hQ
    rw [eX11_number]
    by_cases c2 : t.1 = 2
    · have h6 := hR'.2.2.2.2.2.2.1 (Or.inl c2)
      have hv := hR'.2.2.2.2.2.2.2.2.2.2.2.2.2.2.1 c2
      have his := fun Q => c_m_is (d + 1) (nI t.2.1) (nI lo) (nI hi) M Q
      rw [if_neg (by omega)] at hQ
      by_cases c : t.2.1 < lo ∨ hi < t.2.1
      · rw [if_pos c] at hQ
        have hf := FtM_0 (k := 4) hR' (by omega)
        have p2 := (FtM_pos hf.1).2.1
        have h0 := hQ _ (nI t.2.1) hf.2 hf.1 (fun t' ht' => by cases ht')
        have hbl := fun Q => m_blame (T := T) (n := n) (d + 1) 4 t M Q hL hR'
        rw [show nI 4 = (4 : Int32) from rfl] at hbl h0 p2
        have hb : bI (nI lo ≤ nI t.2.1 ∧ nI t.2.1 ≤ nI hi) = 0 := bI_f (by rw [ni_le (by omega) (by omega), ni_le (by omega) (by omega)]; omega)
        simp +decide only [qX11_number, lm hL, h3.mpr c2, hR'.2.1, h6, his, hb, hR'.2.2.2.2.1, hbl, am_w1_i, am_w1_r, am_w1_x, am_w1_l, am_w1_w, va_rf_s, am_push_n, am_push_s, am_cs_0, am_cs_i, am_cs_l, am_cs_r, m_uI_K, m_uI_N, m_uI_R, m_uI_L, m_uI_I, m_uL_K, m_uL_N, m_uL_R, m_uL_I, m_uL_L, m_uR_K, m_uR_N, m_uR_I, m_uR_L, m_uR_R, true_and, and_true, true_implies, false_implies, not_true_eq_false, not_false_eq_true, if_true, if_false, false_and, and_false]
        exact h0
      · rw [if_neg c] at hQ
        have hb : bI (nI lo ≤ nI t.2.1 ∧ nI t.2.1 ≤ nI hi) = 1 := bI_t (by rw [ni_le (by omega) (by omega), ni_le (by omega) (by omega)]; omega)
        simp +decide only [qX11_number, lm hL, h3.mpr c2, hR'.2.1, h6, his, hb, am_w1_i, am_w1_r, am_w1_x, am_w1_l, am_w1_w, va_rf_s, am_push_n, am_push_s, am_cs_0, am_cs_i, am_cs_l, am_cs_r, m_uI_K, m_uI_N, m_uI_R, m_uI_L, m_uI_I, m_uL_K, m_uL_N, m_uL_R, m_uL_I, m_uL_L, m_uR_K, m_uR_N, m_uR_I, m_uR_L, m_uR_R, true_and, and_true, true_implies, false_implies, not_true_eq_false, not_false_eq_true, if_true, if_false, false_and, and_false]
        refine m_adv d t M _ hL hR' (fun M1 g1 h1 => ?_)
        have h0 := hQ M1 (nI t.2.1) g1 h1 (fun t' _ => rfl)
        simp +decide only [qX11_number, am_w1_i, am_w1_r, am_w1_x, am_w1_l, am_w1_w, va_rf_s, am_push_n, am_push_s, am_cs_0, am_cs_i, am_cs_l, am_cs_r, m_uI_K, m_uI_N, m_uI_R, m_uI_L, m_uI_I, m_uL_K, m_uL_N, m_uL_R, m_uL_I, m_uL_L, m_uR_K, m_uR_N, m_uR_I, m_uR_L, m_uR_R, true_and, and_true, true_implies, false_implies, not_true_eq_false, not_false_eq_true, if_true, if_false, false_and, and_false]
        exact h0
    · rw [if_pos c2] at hQ
      have hf := FtM_0 (k := 1) hR' (by omega)
      have p2 := (FtM_pos hf.1).2.1
      have h0 := hQ _ (mI M 277 6) hf.2 hf.1 (fun t' ht' => by cases ht')
      have hbl := fun Q => m_blame (T := T) (n := n) (d + 1) 1 t M Q hL hR'
      have L1 : Lay (uI (uI M 277 8 1) 277 9 (nI (tS t))) := hL
      rw [show nI 1 = (1 : Int32) from rfl] at hbl h0 p2
      simp +decide only [qX11_number, lm hL, hR'.2.1, hR'.2.2.2.2.1, hbl, am_w1_i, am_w1_r, am_w1_x, am_w1_l, am_w1_w, va_rf_s, am_push_n, am_push_s, am_cs_0, am_cs_i, am_cs_l, am_cs_r, m_uI_K, m_uI_N, m_uI_R, m_uI_L, m_uI_I, m_uL_K, m_uL_N, m_uL_R, m_uL_I, m_uL_L, m_uR_K, m_uR_N, m_uR_I, m_uR_L, m_uR_R, true_and, and_true, true_implies, false_implies, not_true_eq_false, not_false_eq_true, if_true, if_false, false_and, and_false]
      rw [br_n (fun q => c2 (h3.mp q))]
      exact h0
theorem m_counts (d : Nat) (b : Bool) (t : Tok) (M : am_M) (Q : Option Value → am_M → Prop) (hL : Lay M) (hR : RdM M T n t)
    (hQ : ∀ M' x, gF sRm nT M M' → StM M' T n (if b = true then .inl (5, tS t) else advR T n t) → (∀ e, (if b = true then .inl (5, tS t) else advR T n t) = (.inl e : Rt) → x = 0) → (∀ t', (if b = true then .inl (5, tS t) else advR T n t) = (.inr t' : Rt) → x = 1) → Q (some (.int x)) M') : am_E am_P0 (d + 2) 193 [.ref 277, .int (b01 b)] M Q := by
  rw [eX11_counts]
  cases b with
  | true =>
    rw [if_pos rfl] at hQ
    have hf := FtM_0 (k := 5) hR (by omega)
    have h0 := hQ _ 0 hf.2 hf.1 (fun _ _ => rfl) (fun t' ht' => by cases ht')
    have hbl := fun Q => m_blame (T := T) (n := n) (d + 1) 5 t M Q hL hR
    rw [show nI 5 = (5 : Int32) from rfl] at hbl h0
    simp +decide only [qX11_counts, lm hL, hR.2.1, b01, hR.2.2.2.2.1, hbl, am_w1_i, am_w1_r, am_w1_x, am_w1_l, am_w1_w, va_rf_s, am_push_n, am_push_s, am_cs_0, am_cs_i, am_cs_l, am_cs_r, m_uI_K, m_uI_N, m_uI_R, m_uI_L, m_uI_I, m_uL_K, m_uL_N, m_uL_R, m_uL_I, m_uL_L, m_uR_K, m_uR_N, m_uR_I, m_uR_L, m_uR_R, true_and, and_true, true_implies, false_implies, not_true_eq_false, not_false_eq_true, if_true, if_false, false_and, and_false]
    exact h0
  | false =>
    rw [if_neg (by decide)] at hQ
    simp +decide only [qX11_counts, lm hL, hR.2.1, b01, am_w1_i, am_w1_r, am_w1_x, am_w1_l, am_w1_w, va_rf_s, am_push_n, am_push_s, am_cs_0, am_cs_i, am_cs_l, am_cs_r, m_uI_K, m_uI_N, m_uI_R, m_uI_L, m_uI_I, m_uL_K, m_uL_N, m_uL_R, m_uL_I, m_uL_L, m_uR_K, m_uR_N, m_uR_I, m_uR_L, m_uR_R, true_and, and_true, true_implies, false_implies, not_true_eq_false, not_false_eq_true, if_true, if_false, false_and, and_false]
    refine m_adv d t M _ hL hR (fun M1 g1 h1 => ?_)
    have L1 := gF_LayN g1 hL
    cases hr : advR T n t with
    | inl e =>
      rw [hr] at h1 hQ
      have p2 := (FtM_pos h1).2.1
      have h0 := hQ M1 0 g1 h1 (fun _ _ => rfl) (fun t' ht' => by cases ht')
      simp +decide only [qX11_counts, lm L1, am_w1_i, am_w1_r, am_w1_x, am_w1_l, am_w1_w, va_rf_s, am_push_n, am_push_s, am_cs_0, am_cs_i, am_cs_l, am_cs_r, m_uI_K, m_uI_N, m_uI_R, m_uI_L, m_uI_I, m_uL_K, m_uL_N, m_uL_R, m_uL_I, m_uL_L, m_uR_K, m_uR_N, m_uR_I, m_uR_L, m_uR_R, true_and, and_true, true_implies, false_implies, not_true_eq_false, not_false_eq_true, if_true, if_false, false_and, and_false]
      rw [br_p p2]
      exact h0
    | inr t' =>
      rw [hr] at h1 hQ
      have h1' : RdM M1 T n t' := h1
      have h0 := hQ M1 1 g1 h1 (fun e he => by cases he) (fun _ _ => rfl)
      simp +decide only [qX11_counts, lm L1, h1'.2.1, am_w1_i, am_w1_r, am_w1_x, am_w1_l, am_w1_w, va_rf_s, am_push_n, am_push_s, am_cs_0, am_cs_i, am_cs_l, am_cs_r, m_uI_K, m_uI_N, m_uI_R, m_uI_L, m_uI_I, m_uL_K, m_uL_N, m_uL_R, m_uL_I, m_uL_L, m_uR_K, m_uR_N, m_uR_I, m_uR_L, m_uR_R, true_and, and_true, true_implies, false_implies, not_true_eq_false, not_false_eq_true, if_true, if_false, false_and, and_false]
      exact h0
end
