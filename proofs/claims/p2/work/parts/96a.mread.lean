/-! the model's reader: one step ahead -/
def sRm (a j : Nat) : Prop := a = 277 ∧ 3 ≤ j ∧ j ≤ 9
def TpM (M : am_M) (T : Nat → Nat) (n : Nat) : Prop := mI M 277 2 = nI n ∧ n ≤ 1800 ∧ ∀ j, j < 1800 → T j < 256 ∧ mI M 278 j = nI (T j)
def FtM (M : am_M) (T : Nat → Nat) (n k p : Nat) : Prop := TpM M T n ∧ mI M 277 8 = nI k ∧ (1 ≤ k ∧ k ≤ 5) ∧ mI M 277 9 = nI p
/-- a word as a long, eight bits a letter -/
def wdN : List Nat → Nat → Nat
  | [], a => a
  | c :: r, a => wdN r (a * 256 + c)
def wdL (l : List Nat) : Int64 := Int64.ofNat (wdN l 0)
def RdM (M : am_M) (T : Nat → Nat) (n : Nat) (t : Tok) : Prop := TpM M T n ∧ mI M 277 8 = 0 ∧ mI M 277 9 = -1 ∧ mI M 277 3 = nI t.1 ∧ mI M 277 4 = nI (tS t) ∧ mI M 277 5 = nI (tE t) ∧ (t.1 = 2 ∨ t.1 = 3 → mI M 277 6 = nI t.2.1) ∧ (t.1 = 1 → mL M 277 7 = wdL t.2.2.1) ∧ tkG T n t
def StM (M : am_M) (T : Nat → Nat) (n : Nat) : Rt → Prop
  | .inl e => FtM M T n e.1 e.2
  | .inr t => RdM M T n t
theorem TpM_g {M M' : am_M} {T : Nat → Nat} {n : Nat} {S T' : Nat → Nat → Prop} (h : TpM M T n) (hg : gF S T' M M') (hS : ∀ a j, (a = 277 ∧ j = 2) ∨ a = 278 → ¬ S a j) : TpM M' T n := by
  obtain ⟨h1, h2, h3⟩ := h
  exact ⟨by rw [hg.1 _ _ (hS _ _ (Or.inl ⟨rfl, rfl⟩))]; exact h1, h2, fun j hj => ⟨(h3 j hj).1, by rw [hg.1 _ _ (hS _ _ (Or.inr rfl))]; exact (h3 j hj).2⟩⟩
theorem RdM_g {M M' : am_M} {T : Nat → Nat} {n : Nat} {t : Tok} {S T' : Nat → Nat → Prop} (h : RdM M T n t) (hg : gF S T' M M') (hS : ∀ a j, (a = 277 ∧ 2 ≤ j ∧ j ≤ 9) ∨ a = 278 → ¬ S a j) : RdM M' T n t := by
  obtain ⟨a1, a2, a3, a4, a5, a6, a7, a8, a9⟩ := h
  have k : ∀ j, 2 ≤ j → j ≤ 9 → mI M' 277 j = mI M 277 j := fun j q1 q2 => hg.1 _ _ (hS _ _ (Or.inl ⟨rfl, q1, q2⟩))
  exact ⟨TpM_g a1 hg (fun a j q => hS a j (by omega)), by rw [k _ (by omega) (by omega)]; exact a2, by rw [k _ (by omega) (by omega)]; exact a3, by rw [k _ (by omega) (by omega)]; exact a4, by rw [k _ (by omega) (by omega)]; exact a5, by rw [k _ (by omega) (by omega)]; exact a6, fun q => by rw [k _ (by omega) (by omega)]; exact a7 q, fun q => by rw [hg.2.1 _ _ (hS _ _ (Or.inl ⟨rfl, by omega, by omega⟩))]; exact a8 q, a9⟩
theorem FtM_g {M M' : am_M} {T : Nat → Nat} {n k p : Nat} {S T' : Nat → Nat → Prop} (h : FtM M T n k p) (hg : gF S T' M M') (hS : ∀ a j, (a = 277 ∧ 2 ≤ j ∧ j ≤ 9) ∨ a = 278 → ¬ S a j) : FtM M' T n k p := by
  obtain ⟨a1, a2, a3, a4⟩ := h
  have k : ∀ j, 2 ≤ j → j ≤ 9 → mI M' 277 j = mI M 277 j := fun j q1 q2 => hg.1 _ _ (hS _ _ (Or.inl ⟨rfl, q1, q2⟩))
  exact ⟨TpM_g a1 hg (fun a j q => hS a j (by omega)), by rw [k _ (by omega) (by omega)]; exact a2, a3, by rw [k _ (by omega) (by omega)]; exact a4⟩
theorem StM_g {M M' : am_M} {T : Nat → Nat} {n : Nat} {r : Rt} {S T' : Nat → Nat → Prop} (h : StM M T n r) (hg : gF S T' M M') (hS : ∀ a j, (a = 277 ∧ 2 ≤ j ∧ j ≤ 9) ∨ a = 278 → ¬ S a j) : StM M' T n r := by
  cases r with
  | inl e => exact FtM_g h hg hS
  | inr t => exact RdM_g h hg hS
theorem m_let (d c : Nat) (M : am_M) (Q : Option Value → am_M → Prop) (hc : c < 256) : (am_E am_P0 d 172 [.int (nI c)] M Q ↔ Q (some (.int (b01 (isL c)))) M) ∧ (am_E am_P0 d 173 [.int (nI c)] M Q ↔ Q (some (.int (b01 (isD c)))) M) := by
  have ht := ni_ti (n := c) (by omega)
  constructor
  · rw [c_m_isLetter, ht]
    by_cases h : isL c = true
    · rw [h, bI_t (by rw [isL_i] at h; omega)]; exact Iff.rfl
    · have h' : isL c = false := by simpa using h
      rw [h', bI_f (by rw [isL_i] at h; omega)]; exact Iff.rfl
  · rw [c_m_isDigit, ht]
    by_cases h : isD c = true
    · rw [h, bI_t (by rw [isD_i] at h; omega)]; exact Iff.rfl
    · have h' : isD c = false := by simpa using h
      rw [h', bI_f (by rw [isD_i] at h; omega)]; exact Iff.rfl
def wdV (T : Nat → Nat) (s : Nat) : Nat → Nat
  | 0 => 0
  | i + 1 => wdV T s i * 256 + T (s + i)
theorem wdN_app (l : List Nat) (c : Nat) : ∀ a, wdN (l ++ [c]) a = wdN l a * 256 + c := by
  induction l with
  | nil => intro a; rfl
  | cons b r ih => intro a; exact ih _
theorem wdV_L (T : Nat → Nat) (s : Nat) : ∀ i, wdV T s i = wdN (letV T s i) 0 := by
  intro i
  induction i with
  | zero => rfl
  | succ i ih =>
    have e : letV T s (i + 1) = letV T s i ++ [T (s + i)] := by unfold letV; rw [List.range_succ, List.map_append]; rfl
    rw [e, wdN_app, ← ih]
    rfl
theorem wdV_lt {T : Nat → Nat} {s : Nat} : ∀ i, (∀ j, j < i → T (s + j) < 256) → wdV T s i < 256 ^ i := by
  intro i
  induction i with
  | zero => intro _; exact Nat.one_pos
  | succ i ih =>
    intro h
    have h1 := ih (fun j hj => h j (by omega))
    have h2 := h i (by omega)
    show wdV T s i * 256 + T (s + i) < 256 ^ (i + 1)
    rw [Nat.pow_succ]
    omega
theorem wd_or {w c : Nat} (hw : w < 256 ^ 5) (hc : c < 256) : (Int64.ofNat w <<< ((8 : Int32).toInt64 &&& 63)) ||| (nI c).toInt64 = Int64.ofNat (w * 256 + c) := by
  have hs : ((8 : Int32).toInt64 &&& 63).toBitVec.smod 64 = BitVec.ofNat 64 8 := by decide
  have h5 : (256 : Nat) ^ 5 = 1099511627776 := by decide
  have e1 : (nI c).toInt64 = Int64.ofNat c := by
    rw [← Int64.toInt_inj, Int32.toInt_toInt64, ni_ti (by omega), Int64.toInt_ofNat']
    have e : (Int64.size : Nat) = 18446744073709551616 := rfl
    rw [e]
    simp only [Int.bmod]
    omega
  rw [e1, ← Int64.toBitVec_inj, Int64.toBitVec_or, Int64.toBitVec_shiftLeft, hs]
  have b : ∀ n : Nat, (Int64.ofNat n).toBitVec = BitVec.ofNat 64 n := fun n => rfl
  apply BitVec.eq_of_toNat_eq
  rw [BitVec.toNat_or, b, b, b, BitVec.shiftLeft_eq', BitVec.toNat_shiftLeft, BitVec.toNat_ofNat, BitVec.toNat_ofNat, BitVec.toNat_ofNat, BitVec.toNat_ofNat, Nat.mod_eq_of_lt (a := 8) (by omega), Nat.mod_eq_of_lt (a := w) (by omega), Nat.mod_eq_of_lt (a := c) (by omega), Nat.mod_eq_of_lt (a := w * 256 + c) (by omega), Nat.shiftLeft_eq]
  have e8 : (2 : Nat) ^ 8 = 256 := by decide
  rw [e8, Nat.mod_eq_of_lt (a := w * 256) (by omega)]
  have := Nat.shiftLeft_add_eq_or_of_lt (a := w) (b := c) (i := 8) (by rw [e8]; exact hc)
  rw [Nat.shiftLeft_eq, e8] at this
  exact this.symm
theorem l_m_blank (d n : Nat) (T : Nat → Nat) (M : am_M) (Q : Option Value → am_M → Prop) (hL : Lay M) (hT : TpM M T n) : ∀ (m a : Nat), a + m = n → am_P am_P0 d (am_look tX11_ahead) 41 [.ref 277, .int (nI (run1 (fun i => isBl (T i)) m a)), am_x, am_x, am_x, am_x] [] M Q → am_P am_P0 d (am_look tX11_ahead) 5 [.ref 277, .int (nI a), am_x, am_x, am_x, am_x] [] M Q := by
  obtain ⟨t2, t3, t4⟩ := hT
  intro m
  induction m with
  | zero =>
    intro a ha hQ
    have e : a = n := by omega
    subst e
    have hle : nI a ≤ nI a := (ni_le (by omega) (by omega)).mpr (Nat.le_refl _)
    have er : run1 (fun i => isBl (T i)) 0 a = a := rfl
    rw [er] at hQ
    rw [hX11_ahead_5]
    simp +decide only [qX11_ahead_0, qX11_ahead_1, qX11_ahead_2, qX11_ahead_3, qX11_ahead_4, lm hL, t2, am_w1_i, am_w1_r, am_w1_x, am_w1_l, am_w1_w, va_rf_s, am_push_n, am_push_s, am_cs_0, am_cs_i, am_cs_l, am_cs_r, m_uI_K, m_uI_N, m_uI_R, m_uI_L, m_uI_I, m_uL_K, m_uL_N, m_uL_R, m_uL_I, m_uL_L, m_uR_K, m_uR_N, m_uR_I, m_uR_L, m_uR_R, true_and, and_true, true_implies, false_implies, not_true_eq_false, not_false_eq_true, if_true, if_false, false_and, and_false] at hQ ⊢
    rw [br_p hle]
    exact hQ
  | succ m ih =>
    intro a ha hQ
    obtain ⟨t5, t6⟩ := t4 a (by omega)
    have hlt : ¬ nI n ≤ nI a := by rw [ni_le (by omega) (by omega)]; omega
    have e10 : nI (T a) = 10 ↔ T a = 10 := by rw [show (10 : Int32) = nI 10 from rfl, ni_eq (by omega) (by omega)]
    have e32 : nI (T a) = 32 ↔ T a = 32 := by rw [show (32 : Int32) = nI 32 from rfl, ni_eq (by omega) (by omega)]
    have er : run1 (fun i => isBl (T i)) (m + 1) a = if isBl (T a) = true then run1 (fun i => isBl (T i)) m (a + 1) else a := rfl
    rw [er] at hQ
    by_cases c : isBl (T a) = true
    · rw [if_pos c] at hQ
      have h0 := ih (a + 1) (by omega) hQ
      rw [hX11_ahead_5]
      simp +decide (disch := omega) only [qX11_ahead_0, qX11_ahead_1, qX11_ahead_2, qX11_ahead_3, qX11_ahead_4, lm hL, t2, t6, e10, e32, ni_in_t, ni_tn, ni_add1, am_w1_i, am_w1_r, am_w1_x, am_w1_l, am_w1_w, va_rf_s, am_push_n, am_push_s, am_cs_0, am_cs_i, am_cs_l, am_cs_r, m_uI_K, m_uI_N, m_uI_R, m_uI_L, m_uI_I, m_uL_K, m_uL_N, m_uL_R, m_uL_I, m_uL_L, m_uR_K, m_uR_N, m_uR_I, m_uR_L, m_uR_R, true_and, and_true, true_implies, false_implies, not_true_eq_false, not_false_eq_true, if_true, if_false, false_and, and_false]
      rw [br_n hlt]
      rcases isBl_i.mp c with q | q
      · rw [br_n (by omega), br_r q]; exact h0
      · rw [br_p q]; exact h0
    · rw [if_neg c] at hQ
      rw [isBl_i] at c
      rw [hX11_ahead_5]
      simp +decide (disch := omega) only [qX11_ahead_0, qX11_ahead_1, qX11_ahead_2, qX11_ahead_3, qX11_ahead_4, lm hL, t2, t6, e10, e32, ni_in_t, ni_tn, ni_add1, am_w1_i, am_w1_r, am_w1_x, am_w1_l, am_w1_w, va_rf_s, am_push_n, am_push_s, am_cs_0, am_cs_i, am_cs_l, am_cs_r, m_uI_K, m_uI_N, m_uI_R, m_uI_L, m_uI_I, m_uL_K, m_uL_N, m_uL_R, m_uL_I, m_uL_L, m_uR_K, m_uR_N, m_uR_I, m_uR_L, m_uR_R, true_and, and_true, true_implies, false_implies, not_true_eq_false, not_false_eq_true, if_true, if_false, false_and, and_false] at hQ ⊢
      rw [br_n hlt, br_n (by omega), br_q (by omega)]
      exact hQ
/-- what is known while a word or number is read: i signs of it -/
def LtM (M : am_M) (T : Nat → Nat) (k s i : Nat) (pre : Bool) : Prop := (mI M 277 8 = if pre = true ∨ mst k < i then 1 else 0) ∧ (mI M 277 9 = if pre = true then nI s else if mst k < i then nI (s + mst k) else -1) ∧ (pre = false → i ≤ mst k → (k = 1 → mL M 277 7 = Int64.ofNat (wdV T s i)) ∧ (k = 2 → mI M 277 6 = nI (numV T s i)))
def sLm (a j : Nat) : Prop := a = 277 ∧ 6 ≤ j ∧ j ≤ 9
theorem l_m_letters (d n s k : Nat) (T : Nat → Nat) (pre : Bool) (M0 : am_M) (Q : Option Value → am_M → Prop) (hL : Lay M0) (hT : TpM M0 T n) (hk : k = 1 ∨ k = 2) (hsn : s ≤ n)
    (hE : ∀ M' i, gF sLm nT M0 M' → LtM M' T k s i pre → s + i = run1 (fun i => if k = 1 then isL (T i) else isD (T i)) (n - s) s → Q none (uI M' 277 5 (nI (s + i)))) :
    ∀ (m i : Nat), s + i + m = n → (∀ j, j < i → kdN (T (s + j)) = k) → ∀ (M : am_M), gF sLm nT M0 M → LtM M T k s i pre → am_P am_P0 (d + 1) (am_look tX11_ahead) 200 [.ref 277, .int (nI (s + i)), .int (b01 (decide (k = 1))), .int (b01 (decide (k = 2))), .int (nI (mst k)), .int (nI i)] [] M Q := by
  have hms : mst k ≤ 6 := by unfold mst; split <;> omega
  intro m
  induction m with
  | zero =>
    intro i hi hall M hM hlt
    obtain ⟨t2, t3, t4⟩ := TpM_g hT hM (fun a j q w => by unfold sLm at w; omega)
    have hle : nI n ≤ nI (s + i) := (ni_le (by omega) (by omega)).mpr (by omega)
    have er := run1_skip (p := fun i => if k = 1 then isL (T i) else isD (T i)) (s := s) i 0 (fun j hj => (kdN_p hk).mp (hall j hj))
    have h0 := hE M i hM hlt (by rw [show n - s = i + 0 by omega, er]; rfl)
    rw [hX11_ahead_200]
    simp +decide only [qX11_ahead_0, qX11_ahead_1, qX11_ahead_2, qX11_ahead_3, qX11_ahead_4, lm (gF_LayN hM hL), t2, am_w1_i, am_w1_r, am_w1_x, am_w1_l, am_w1_w, va_rf_s, am_push_n, am_push_s, am_cs_0, am_cs_i, am_cs_l, am_cs_r, m_uI_K, m_uI_N, m_uI_R, m_uI_L, m_uI_I, m_uL_K, m_uL_N, m_uL_R, m_uL_I, m_uL_L, m_uR_K, m_uR_N, m_uR_I, m_uR_L, m_uR_R, true_and, and_true, true_implies, false_implies, not_true_eq_false, not_false_eq_true, if_true, if_false, false_and, and_false]
    rw [br_p hle]
    exact h0
  | succ m ih =>
    intro i hi hall M hM hlt
    obtain ⟨t2, t3, t4⟩ := TpM_g hT hM (fun a j q w => by unfold sLm at w; omega)
    obtain ⟨t5, t6⟩ := t4 (s + i) (by omega)
    have hLM := gF_LayN hM hL
    have hlt' : ¬ nI n ≤ nI (s + i) := by rw [ni_le (by omega) (by omega)]; omega
    have er := run1_skip (p := fun i => if k = 1 then isL (T i) else isD (T i)) (s := s) i (m + 1) (fun j hj => (kdN_p hk).mp (hall j hj))
    have er2 : run1 (fun i => if k = 1 then isL (T i) else isD (T i)) (m + 1) (s + i) = if (if k = 1 then isL (T (s + i)) else isD (T (s + i))) = true then run1 (fun i => if k = 1 then isL (T i) else isD (T i)) m (s + i + 1) else s + i := rfl
    have ens : n - s = i + (m + 1) := by omega
    have ml := fun Q => (m_let d (T (s + i)) M Q t5).1
    have md := fun Q => (m_let d (T (s + i)) M Q t5).2
    by_cases c : kdN (T (s + i)) = k
    · have hall' : ∀ j, j < i + 1 → kdN (T (s + j)) = k := fun j hj => by
        by_cases e : j = i
        · subst e; exact c
        · exact hall j (by omega)
      -- the fault of too many
      have step : ∀ (M1 : am_M), gF sLm nT M M1 → (mI M1 277 8 = if pre = true ∨ mst k < i + 1 then 1 else 0) → (mI M1 277 9 = if pre = true then nI s else if mst k < i + 1 then nI (s + mst k) else -1) → mL M1 277 7 = mL M 277 7 → mI M1 277 6 = mI M 277 6 → am_P am_P0 (d + 1) (am_look tX11_ahead) 252 [.ref 277, .int (nI (s + i)), .int (b01 (decide (k = 1))), .int (b01 (decide (k = 2))), .int (nI (mst k)), .int (nI i)] [] M1 Q := by
        intro M1 g1 q8 q9 q7 q6
        have L1 := gF_LayN g1 hLM
        obtain ⟨u2, u3, u4⟩ := TpM_g (TpM_g hT hM (fun a j q w => by unfold sLm at w; omega)) g1 (fun a j q w => by unfold sLm at w; omega)
        obtain ⟨u5, u6⟩ := u4 (s + i) (by omega)
        by_cases cm : i < mst k
        · have hcm : ¬ nI (mst k) ≤ nI i := by rw [ni_le (by omega) (by omega)]; omega
          rcases hk with rfl | rfl
          · have h7 : pre = false → mL M1 277 7 = Int64.ofNat (wdV T s i) := fun hp => by rw [q7]; exact (hlt.2.2 hp (by omega)).1 rfl
            have hw5 : wdV T s i < 256 ^ 5 := by
              have h1 := wdV_lt (T := T) (s := s) i (fun j hj => (u4 (s + j) (by omega)).1)
              have h2 : (256 : Nat) ^ i ≤ 256 ^ 5 := Nat.pow_le_pow_right (by omega) (by have : mst 1 = 6 := rfl; omega)
              omega
            have h0 := ih (i + 1) (by omega) hall' (uL M1 277 7 ((mL M1 277 7 <<< ((8 : Int32).toInt64 &&& 63)) ||| (nI (T (s + i))).toInt64)) (gF_trans hM (gF_trans g1 (gF_l _ ⟨rfl, by omega, by omega⟩))) ⟨q8, q9, fun hp hi' => ⟨fun _ => by rw [m_uL_L, if_pos ⟨rfl, rfl⟩, h7 hp, wd_or hw5 u5]; rfl, fun q => by omega⟩⟩
            simp +decide (disch := omega) only [qX11_ahead_0, qX11_ahead_1, qX11_ahead_2, qX11_ahead_3, qX11_ahead_4, lm L1, u6, b01, ni_in_t, ni_tn, ni_add1, am_w1_i, am_w1_r, am_w1_x, am_w1_l, am_w1_w, va_rf_s, am_push_n, am_push_s, am_cs_0, am_cs_i, am_cs_l, am_cs_r, m_uI_K, m_uI_N, m_uI_R, m_uI_L, m_uI_I, m_uL_K, m_uL_N, m_uL_R, m_uL_I, m_uL_L, m_uR_K, m_uR_N, m_uR_I, m_uR_L, m_uR_R, true_and, and_true, true_implies, false_implies, not_true_eq_false, not_false_eq_true, if_true, if_false, false_and, and_false] at h0 ⊢
            rw [br_n hcm, br_n hcm]
            exact h0
          · have h6 : pre = false → mI M1 277 6 = nI (numV T s i) := fun hp => by rw [q6]; exact (hlt.2.2 hp (by omega)).2 rfl
            have hD1 := isD_i.mp (kdN_2.mp c)
            have e1 : ∀ x, x = nI (numV T s i) → 10 * x + nI (T (s + i)) - 48 = nI (numV T s (i + 1)) := fun x hx => by
              rw [hx, show (10 : Int32) = nI 10 from rfl, ni_mul, ni_add, show (48 : Int32) = nI 48 from rfl, ni_sub (by omega)]
              congr 1
              show 10 * numV T s i + T (s + i) - 48 = numV T s i * 10 + (T (s + i) - 48)
              omega
            have h0 := ih (i + 1) (by omega) hall' (uI M1 277 6 (10 * mI M1 277 6 + nI (T (s + i)) - 48)) (gF_trans hM (gF_trans g1 (gF_i _ ⟨rfl, by omega, by omega⟩))) ⟨by rw [m_uI_I, if_neg (by omega)]; exact q8, by rw [m_uI_I, if_neg (by omega)]; exact q9, fun hp hi' => ⟨fun q => by omega, fun _ => by rw [m_uI_I, if_pos ⟨rfl, rfl⟩]; exact e1 _ (h6 hp)⟩⟩
            simp +decide (disch := omega) only [qX11_ahead_0, qX11_ahead_1, qX11_ahead_2, qX11_ahead_3, qX11_ahead_4, lm L1, u6, b01, ni_in_t, ni_tn, ni_add1, am_w1_i, am_w1_r, am_w1_x, am_w1_l, am_w1_w, va_rf_s, am_push_n, am_push_s, am_cs_0, am_cs_i, am_cs_l, am_cs_r, m_uI_K, m_uI_N, m_uI_R, m_uI_L, m_uI_I, m_uL_K, m_uL_N, m_uL_R, m_uL_I, m_uL_L, m_uR_K, m_uR_N, m_uR_I, m_uR_L, m_uR_R, true_and, and_true, true_implies, false_implies, not_true_eq_false, not_false_eq_true, if_true, if_false, false_and, and_false] at h0 ⊢
            rw [br_n hcm, br_n hcm]
            exact h0
        · have hcm : nI (mst k) ≤ nI i := (ni_le (by omega) (by omega)).mpr (by omega)
          have h0 := ih (i + 1) (by omega) hall' M1 (gF_trans hM g1) ⟨q8, q9, fun hp hi' => by omega⟩
          simp +decide (disch := omega) only [qX11_ahead_0, qX11_ahead_1, qX11_ahead_2, qX11_ahead_3, qX11_ahead_4, lm L1, ni_add1, am_w1_i, am_w1_r, am_w1_x, am_w1_l, am_w1_w, va_rf_s, am_push_n, am_push_s, am_cs_0, am_cs_i, am_cs_l, am_cs_r, m_uI_K, m_uI_N, m_uI_R, m_uI_L, m_uI_I, m_uL_K, m_uL_N, m_uL_R, m_uL_I, m_uL_L, m_uR_K, m_uR_N, m_uR_I, m_uR_L, m_uR_R, true_and, and_true, true_implies, false_implies, not_true_eq_false, not_false_eq_true, if_true, if_false, false_and, and_false] at h0 ⊢
          rw [br_p hcm, br_p hcm]
          exact h0
      have s252 : am_P am_P0 (d + 1) (am_look tX11_ahead) 239 [.ref 277, .int (nI (s + i)), .int (b01 (decide (k = 1))), .int (b01 (decide (k = 2))), .int (nI (mst k)), .int (nI i)] [] M Q := by
        obtain ⟨l8, l9, -⟩ := hlt
        by_cases ce : i = mst k
        · have hbl := fun Q => c_m_blame d 1 (nI (s + i)) M Q hLM
          have hce : (nI i = nI (mst k)) = True := eq_true (by rw [ce])
          by_cases hp : pre = true
          · rw [if_pos (Or.inl hp)] at l8
            have h0 := step M (gF_refl _ _ _) (by rw [if_pos (Or.inl hp)]; exact l8) (by rw [l9, if_pos hp, if_pos hp]) rfl rfl
            have hpos : (0 : Int32) < 1 := by decide
            simp +decide (disch := omega) only [qX11_ahead_0, qX11_ahead_1, qX11_ahead_2, qX11_ahead_3, qX11_ahead_4, lm hLM, hbl, l8, hpos, hce, am_w1_i, am_w1_r, am_w1_x, am_w1_l, am_w1_w, va_rf_s, am_push_n, am_push_s, am_cs_0, am_cs_i, am_cs_l, am_cs_r, m_uI_K, m_uI_N, m_uI_R, m_uI_L, m_uI_I, m_uL_K, m_uL_N, m_uL_R, m_uL_I, m_uL_L, m_uR_K, m_uR_N, m_uR_I, m_uR_L, m_uR_R, true_and, and_true, true_implies, false_implies, not_true_eq_false, not_false_eq_true, if_true, if_false, false_and, and_false] at h0 ⊢
            exact h0
          · have hp' : pre = false := by simpa using hp
            rw [if_neg (fun q => q.elim hp (fun w => by omega))] at l8
            have h0 := step (uI (uI M 277 8 1) 277 9 (nI (s + i))) (gF_trans (gF_i _ ⟨rfl, by omega, by omega⟩) (gF_i _ ⟨rfl, by omega, by omega⟩)) (by rw [if_pos (Or.inr (by omega))]; simp [m_uI_I]) (by rw [if_neg hp, if_pos (by omega), ← ce]; simp [m_uI_I]) rfl (by simp [m_uI_I])
            have hpos : ¬ (0 : Int32) < 0 := by decide
            have L1 : Lay (uI (uI M 277 8 1) 277 9 (nI (s + i))) := hLM
            simp +decide (disch := omega) only [qX11_ahead_0, qX11_ahead_1, qX11_ahead_2, qX11_ahead_3, qX11_ahead_4, lm hLM, lm L1, hbl, l8, hpos, hce, am_w1_i, am_w1_r, am_w1_x, am_w1_l, am_w1_w, va_rf_s, am_push_n, am_push_s, am_cs_0, am_cs_i, am_cs_l, am_cs_r, m_uI_K, m_uI_N, m_uI_R, m_uI_L, m_uI_I, m_uL_K, m_uL_N, m_uL_R, m_uL_I, m_uL_L, m_uR_K, m_uR_N, m_uR_I, m_uR_L, m_uR_R, true_and, and_true, true_implies, false_implies, not_true_eq_false, not_false_eq_true, if_true, if_false, false_and, and_false] at h0 ⊢
            exact h0
        · have hne : ¬ nI i = nI (mst k) := fun q => ce ((ni_eq (by omega) (by omega)).mp q)
          have h0 := step M (gF_refl _ _ _) (by
            rw [l8]
            by_cases h1 : pre = true ∨ mst k < i
            · rw [if_pos h1, if_pos (h1.imp id (fun w => by omega))]
            · rw [if_neg h1, if_neg (fun q => h1 (q.imp id (fun w => by omega)))]) (by
            rw [l9]
            by_cases hp : pre = true
            · rw [if_pos hp, if_pos hp]
            · rw [if_neg hp, if_neg hp]
              by_cases h1 : mst k < i
              · rw [if_pos h1, if_pos (by omega)]
              · rw [if_neg h1, if_neg (by omega)]) rfl rfl
          simp +decide (disch := omega) only [qX11_ahead_0, qX11_ahead_1, qX11_ahead_2, qX11_ahead_3, qX11_ahead_4, lm hLM, am_w1_i, am_w1_r, am_w1_x, am_w1_l, am_w1_w, va_rf_s, am_push_n, am_push_s, am_cs_0, am_cs_i, am_cs_l, am_cs_r, m_uI_K, m_uI_N, m_uI_R, m_uI_L, m_uI_I, m_uL_K, m_uL_N, m_uL_R, m_uL_I, m_uL_L, m_uR_K, m_uR_N, m_uR_I, m_uR_L, m_uR_R, true_and, and_true, true_implies, false_implies, not_true_eq_false, not_false_eq_true, if_true, if_false, false_and, and_false] at h0 ⊢
          rw [br_p hne]
          exact h0
      rw [hX11_ahead_200]
      rcases hk with rfl | rfl
      · have c1 : isL (T (s + i)) = true := kdN_1.mp c
        simp +decide (disch := omega) only [qX11_ahead_0, qX11_ahead_1, qX11_ahead_2, qX11_ahead_3, qX11_ahead_4, lm hLM, t2, t6, ml, c1, b01, ni_in_t, ni_tn, am_w1_i, am_w1_r, am_w1_x, am_w1_l, am_w1_w, va_rf_s, am_push_n, am_push_s, am_cs_0, am_cs_i, am_cs_l, am_cs_r, m_uI_K, m_uI_N, m_uI_R, m_uI_L, m_uI_I, m_uL_K, m_uL_N, m_uL_R, m_uL_I, m_uL_L, m_uR_K, m_uR_N, m_uR_I, m_uR_L, m_uR_R, true_and, and_true, true_implies, false_implies, not_true_eq_false, not_false_eq_true, if_true, if_false, false_and, and_false] at s252 ⊢
        rw [br_n hlt']
        exact s252
      · have c1 : isD (T (s + i)) = true := kdN_2.mp c
        simp +decide (disch := omega) only [qX11_ahead_0, qX11_ahead_1, qX11_ahead_2, qX11_ahead_3, qX11_ahead_4, lm hLM, t2, t6, md, c1, b01, ni_in_t, ni_tn, am_w1_i, am_w1_r, am_w1_x, am_w1_l, am_w1_w, va_rf_s, am_push_n, am_push_s, am_cs_0, am_cs_i, am_cs_l, am_cs_r, m_uI_K, m_uI_N, m_uI_R, m_uI_L, m_uI_I, m_uL_K, m_uL_N, m_uL_R, m_uL_I, m_uL_L, m_uR_K, m_uR_N, m_uR_I, m_uR_L, m_uR_R, true_and, and_true, true_implies, false_implies, not_true_eq_false, not_false_eq_true, if_true, if_false, false_and, and_false] at s252 ⊢
        rw [br_n hlt']
        exact s252
    · have cp : ¬ (if k = 1 then isL (T (s + i)) else isD (T (s + i))) = true := fun q => c ((kdN_p hk).mpr q)
      have h0 := hE M i hM hlt (by rw [ens, er, er2, if_neg cp])
      rw [hX11_ahead_200]
      rcases hk with rfl | rfl
      · have c1 : isL (T (s + i)) = false := by rw [if_pos rfl] at cp; simpa using cp
        simp +decide (disch := omega) only [qX11_ahead_0, qX11_ahead_1, qX11_ahead_2, qX11_ahead_3, qX11_ahead_4, lm hLM, t2, t6, ml, c1, b01, ni_in_t, ni_tn, am_w1_i, am_w1_r, am_w1_x, am_w1_l, am_w1_w, va_rf_s, am_push_n, am_push_s, am_cs_0, am_cs_i, am_cs_l, am_cs_r, m_uI_K, m_uI_N, m_uI_R, m_uI_L, m_uI_I, m_uL_K, m_uL_N, m_uL_R, m_uL_I, m_uL_L, m_uR_K, m_uR_N, m_uR_I, m_uR_L, m_uR_R, true_and, and_true, true_implies, false_implies, not_true_eq_false, not_false_eq_true, if_true, if_false, false_and, and_false]
        rw [br_n hlt']
        exact h0
      · have c1 : isD (T (s + i)) = false := by rw [if_neg (by omega)] at cp; simpa using cp
        simp +decide (disch := omega) only [qX11_ahead_0, qX11_ahead_1, qX11_ahead_2, qX11_ahead_3, qX11_ahead_4, lm hLM, t2, t6, md, c1, b01, ni_in_t, ni_tn, am_w1_i, am_w1_r, am_w1_x, am_w1_l, am_w1_w, va_rf_s, am_push_n, am_push_s, am_cs_0, am_cs_i, am_cs_l, am_cs_r, m_uI_K, m_uI_N, m_uI_R, m_uI_L, m_uI_I, m_uL_K, m_uL_N, m_uL_R, m_uL_I, m_uL_L, m_uR_K, m_uR_N, m_uR_I, m_uR_L, m_uR_R, true_and, and_true, true_implies, false_implies, not_true_eq_false, not_false_eq_true, if_true, if_false, false_and, and_false]
        rw [br_n hlt']
        exact h0
